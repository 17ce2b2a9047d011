/-! ===== a plank becomes another; seeds ===== -/
theorem nI_div {a b : Nat} (ha : a < 2 ^ 31) (hb : b < 2 ^ 31) : nI a / nI b = nI (a / b) := by
  have h : a / b ≤ a := Nat.div_le_self a b
  apply Int32.toInt_inj.1
  rw [Int32.toInt_div, nI_toInt ha, nI_toInt hb, nI_toInt (by omega), ← Int.ofNat_tdiv]
  generalize a / b = c at h ⊢
  exact Int.bmod_eq_of_le (by omega) (by omega)
theorem nI_mod {a b : Nat} (ha : a < 2 ^ 31) (hb : b < 2 ^ 31) : nI a - nI a / nI b * nI b = nI (a % b) := by
  rw [nI_div ha hb, nI_mul]
  have h := Nat.div_add_mod a b
  have h2 : nI a = nI (a / b * b) + nI (a % b) := by rw [nI_add, Nat.mul_comm, h]
  rw [h2, Int32.add_comm, Int32.add_sub_cancel]
def sed (s : Nat) : Nat := (1103 * s + 12345) % 1000003
theorem sed_lt (s : Nat) : sed s < 1000003 := Nat.mod_lt _ (by decide)
theorem seed_x {s : Nat} (h : s ≤ 1000002) : fSx_nextSeed (nI s) = some (nI (sed s)) := by
  rw [fSx_nextSeed, show nI s * (1103 : Int32) = nI (s * 1103) from nI_mul s 1103, show nI (s * 1103) + (12345 : Int32) = nI (s * 1103 + 12345) from nI_add _ 12345, show nI (s * 1103 + 12345) - nI (s * 1103 + 12345) / (1000003 : Int32) * (1000003 : Int32) = nI ((s * 1103 + 12345) % 1000003) from nI_mod (by omega) (by decide)]
  unfold sed
  rw [Nat.mul_comm]
theorem i64_toInt {a : Nat} (h : a < 2 ^ 63) : (Int64.ofNat a).toInt = a := Int64.toInt_ofNat_of_lt h
theorem i64_div {a b : Nat} (ha : a < 2 ^ 63) (hb : b < 2 ^ 63) : Int64.ofNat a / Int64.ofNat b = Int64.ofNat (a / b) := by
  have h : a / b ≤ a := Nat.div_le_self a b
  apply Int64.toInt_inj.1
  rw [Int64.toInt_div, i64_toInt ha, i64_toInt hb, i64_toInt (by omega), ← Int.ofNat_tdiv]
  generalize a / b = c at h ⊢
  exact Int.bmod_eq_of_le (by omega) (by omega)
theorem i64_mod {a b : Nat} (ha : a < 2 ^ 63) (hb : b < 2 ^ 63) : Int64.ofNat a - Int64.ofNat a / Int64.ofNat b * Int64.ofNat b = Int64.ofNat (a % b) := by
  rw [i64_div ha hb, ← Int64.ofNat_mul]
  have h := Nat.div_add_mod a b
  have h2 : Int64.ofNat a = Int64.ofNat (a / b * b) + Int64.ofNat (a % b) := by rw [← Int64.ofNat_add, Nat.mul_comm, h]
  rw [h2, Int64.add_comm, Int64.add_sub_cancel]
theorem seed_64 {s : Nat} (h : s ≤ 1000002) : ((((1103 : Int64) * (nI s).toInt64 + (12345 : Int64)) - ((1103 : Int64) * (nI s).toInt64 + (12345 : Int64)) / (1000003 : Int64) * (1000003 : Int64))).toInt32 = nI (sed s) := by
  have e : (nI s).toInt64 = Int64.ofNat s := by
    apply Int64.toInt_inj.1
    rw [Int32.toInt_toInt64, nI_toInt (by omega), i64_toInt (by omega)]
  rw [e, show (1103 : Int64) * Int64.ofNat s = Int64.ofNat (1103 * s) from (Int64.ofNat_mul 1103 s).symm, show Int64.ofNat (1103 * s) + (12345 : Int64) = Int64.ofNat (1103 * s + 12345) from (Int64.ofNat_add _ 12345).symm, show Int64.ofNat (1103 * s + 12345) - Int64.ofNat (1103 * s + 12345) / (1000003 : Int64) * (1000003 : Int64) = Int64.ofNat ((1103 * s + 12345) % 1000003) from i64_mod (by omega) (by decide)]
  have hs := sed_lt s
  show (Int64.ofNat (sed s)).toInt32 = _
  apply Int32.toInt_inj.1
  rw [Int64.toInt_toInt32, i64_toInt (by omega), nI_toInt (by omega)]
  exact Int.bmod_eq_of_le (by omega) (by omega)
theorem draws_m {μ : sw_m} {s b : Nat} (hs : μ.1 84 52 = nI s) (h : s ≤ 1000002) (h1 : 0 < b) (h2 : b < 2 ^ 31) : fMo_draws μ (nI b) = some (nI (sed s % b), mI μ 84 52 (nI (sed s))) := by
  have hl := sed_lt s
  rw [fMo_draws, hs, seed_64 h]
  simp only [nm]
  rw [nz, if_neg (show ¬ nI b = 0 from fun q => by have := (nI_eq (b := 0) h2 (by decide)).1 q; omega), mI_at, if_pos ⟨rfl, rfl⟩, nI_mod (by omega) h2]
theorem cpF {g g' : sw_g} {a b n : Nat} (h : gW g a (va_cpy (g.1 b) (g.1 a) 0 0 n) = g') : (∀ p, p ≠ a → g'.1 p = g.1 p) ∧ (∀ j, j < n → g'.1 a j = g.1 b j) ∧ g'.2 = g.2 := by
  subst h
  refine ⟨fun p hp => funext fun j => by rw [gW_at, if_neg hp], fun j hj => ?_, rfl⟩
  rw [gW_at, if_pos rfl, cpy_at, if_pos (by omega)]
  rw [Nat.sub_zero, Nat.zero_add]
theorem putF {g g' : sw_g} {a i : Nat} {v : Int32} (h : gI g a i v = g') : (∀ p, p ≠ a → g'.1 p = g.1 p) ∧ (∀ j, j ≠ i → g'.1 a j = g.1 a j) ∧ g'.1 a i = v ∧ g'.2 = g.2 := by
  subst h
  refine ⟨fun p hp => funext fun j => by rw [gI_at, if_neg (fun q => hp q.1)], fun j hj => by rw [gI_at, if_neg (fun q => hj q.2)], by rw [gI_at, if_pos ⟨rfl, rfl⟩], rfl⟩
theorem gR_at {g : sw_g} {p k : Nat} {v : Option Nat} {q j : Nat} : (gR g p k v).2.2 q j = if q = p ∧ j = k then v else g.2.2 q j := rfl
section
variable {N : Nat} {ln : Nat → Nat} {M : Nat} {q0 q1 : Nat}
theorem become_130 (hq : q0 ≠ q1) : ∀ (d j fu : Nat) (g : sw_g), j + d = 6 → d < fu → ∃ g', fPl_become_130 N ln q0 q1 fu g (nI j) = some g' ∧ (∀ i, j ≤ i → i < 6 → g'.2.2 (q0 + 8) i = g.2.2 (q1 + 8) i) ∧ (∀ i, i < j → g'.2.2 (q0 + 8) i = g.2.2 (q0 + 8) i) ∧ (∀ p, p ≠ q0 + 8 → g'.2.2 p = g.2.2 p) ∧ g'.1 q0 11 = g.1 q1 11 ∧ (∀ p, p ≠ q0 → g'.1 p = g.1 p) ∧ (∀ i, i ≠ 11 → g'.1 q0 i = g.1 q0 i) := by
  intro d
  induction d with
  | zero =>
    intro j fu g hj hfu
    obtain ⟨fu, rfl⟩ : ∃ z, fu = z + 1 := ⟨fu - 1, by omega⟩
    obtain rfl : j = 6 := by omega
    obtain ⟨a1, a2, a3, a4⟩ := putF (g := g) (a := q0) (i := 11) (v := g.1 q1 11) rfl
    rw [fPl_become_130, if_pos (by decide)]
    exact ⟨_, rfl, fun i a b => by omega, fun i hi => by rw [a4], fun p hp => by rw [a4], a3, a1, a2⟩
  | succ d ih =>
    intro j fu g hj hfu
    obtain ⟨fu, rfl⟩ : ∃ z, fu = z + 1 := ⟨fu - 1, by omega⟩
    obtain ⟨g', r1, r2, r3, r4, r5, r6, r7⟩ := ih (j + 1) fu (gR g (q0 + 8) j (g.2.2 (q1 + 8) j)) (by omega) (by omega)
    refine ⟨g', ?_, fun i a b => ?_, fun i hi => ?_, fun p hp => ?_, r5, r6, r7⟩
    · rw [fPl_become_130, if_neg (show ¬ (6 : Int32) ≤ nI j from nI_ge (b := 6) (by omega) (by decide)), rd_nI (by omega) (by decide)]
      rw [← r1]
      cases ht : g.2.2 (q1 + 8) j with
      | none => simp only; rw [wr_nI (by omega) (by decide)]; simp only [nm, nI_1]
      | some p => simp only; rw [wr_nI (by omega) (by decide)]; simp only [nm, nI_1]
    · by_cases hi : i = j
      · subst hi; rw [r3 i (by omega), gR_at, if_pos ⟨rfl, rfl⟩]
      · rw [r2 i (by omega) b, gR_at, if_neg (by omega)]
    · rw [r3 i (by omega), gR_at, if_neg (by omega)]
    · rw [r4 p hp]; funext i; rw [gR_at, if_neg (fun q => hp q.1)]
/-- what a plank shares with another -/
def PE (q0 q1 : Nat) (g g' : sw_g) : Prop := (g'.1 q0 0 = g.1 q1 0 ∧ g'.1 q0 5 = g.1 q1 5 ∧ g'.1 q0 9 = g.1 q1 9 ∧ g'.1 q0 11 = g.1 q1 11) ∧ (∀ j, j < 7 → g'.1 (q0 + 1) j = g.1 (q1 + 1) j ∧ g'.1 (q0 + 2) j = g.1 (q1 + 2) j ∧ g'.1 (q0 + 3) j = g.1 (q1 + 3) j) ∧ (∀ j, j < 4 → g'.1 (q0 + 4) j = g.1 (q1 + 4) j) ∧ (∀ j, j < 6 → g'.1 (q0 + 5) j = g.1 (q1 + 5) j ∧ g'.1 (q0 + 6) j = g.1 (q1 + 6) j ∧ g'.1 (q0 + 7) j = g.1 (q1 + 7) j) ∧ (∀ j, j < 6 → g'.2.2 (q0 + 8) j = g.2.2 (q1 + 8) j)
def PF (q0 : Nat) (g g' : sw_g) : Prop := (∀ p, (p < q0 ∨ q0 + 7 < p) → g'.1 p = g.1 p) ∧ (∀ p, p ≠ q0 + 8 → g'.2.2 p = g.2.2 p)
theorem become_eq (hN : 3000 ≤ N) (hq : q0 + 8 < q1 ∨ q1 + 8 < q0) (g : sw_g) : ∃ g', fPl_become N ln g q0 q1 = some g' ∧ PE q0 q1 g g' ∧ PF q0 g g' := by
  rw [fPl_become]
  simp only [nm]
  generalize h1 : gI g q0 0 (g.1 q1 0) = g1
  rw [cp_nI (x := 0) (y := 0) (z := 7) (a := 0) (b := 0) (c := 7) rfl rfl rfl (by decide) (by decide) (by decide) (by decide)]
  generalize h2 : gW g1 (q0 + 1) (va_cpy (g1.1 (q1 + 1)) (g1.1 (q0 + 1)) 0 0 7) = g2
  rw [cp_nI (x := 0) (y := 0) (z := 7) (a := 0) (b := 0) (c := 7) rfl rfl rfl (by decide) (by decide) (by decide) (by decide)]
  generalize h3 : gW g2 (q0 + 2) (va_cpy (g2.1 (q1 + 2)) (g2.1 (q0 + 2)) 0 0 7) = g3
  rw [cp_nI (x := 0) (y := 0) (z := 7) (a := 0) (b := 0) (c := 7) rfl rfl rfl (by decide) (by decide) (by decide) (by decide)]
  generalize h4 : gW g3 (q0 + 3) (va_cpy (g3.1 (q1 + 3)) (g3.1 (q0 + 3)) 0 0 7) = g4
  rw [cp_nI (x := 0) (y := 0) (z := 4) (a := 0) (b := 0) (c := 4) rfl rfl rfl (by decide) (by decide) (by decide) (by decide)]
  generalize h5 : gW g4 (q0 + 4) (va_cpy (g4.1 (q1 + 4)) (g4.1 (q0 + 4)) 0 0 4) = g5
  generalize h6 : gI g5 q0 5 (g5.1 q1 5) = g6
  rw [cp_nI (x := 0) (y := 0) (z := 6) (a := 0) (b := 0) (c := 6) rfl rfl rfl (by decide) (by decide) (by decide) (by decide)]
  generalize h7 : gW g6 (q0 + 5) (va_cpy (g6.1 (q1 + 5)) (g6.1 (q0 + 5)) 0 0 6) = g7
  rw [cp_nI (x := 0) (y := 0) (z := 6) (a := 0) (b := 0) (c := 6) rfl rfl rfl (by decide) (by decide) (by decide) (by decide)]
  generalize h8 : gW g7 (q0 + 6) (va_cpy (g7.1 (q1 + 6)) (g7.1 (q0 + 6)) 0 0 6) = g8
  rw [cp_nI (x := 0) (y := 0) (z := 6) (a := 0) (b := 0) (c := 6) rfl rfl rfl (by decide) (by decide) (by decide) (by decide)]
  generalize h9 : gW g8 (q0 + 7) (va_cpy (g8.1 (q1 + 7)) (g8.1 (q0 + 7)) 0 0 6) = g9
  generalize h10 : gI g9 q0 9 (g9.1 q1 9) = g10
  obtain ⟨a1, b1, c1, d1⟩ := putF h1
  obtain ⟨a2, b2, d2⟩ := cpF h2
  obtain ⟨a3, b3, d3⟩ := cpF h3
  obtain ⟨a4, b4, d4⟩ := cpF h4
  obtain ⟨a5, b5, d5⟩ := cpF h5
  obtain ⟨a6, b6, c6, d6⟩ := putF h6
  obtain ⟨a7, b7, d7⟩ := cpF h7
  obtain ⟨a8, b8, d8⟩ := cpF h8
  obtain ⟨a9, b9, d9⟩ := cpF h9
  obtain ⟨a10, b10, c10, d10⟩ := putF h10
  obtain ⟨g', r1, r2, _, r4, r5, r6, r7⟩ := become_130 (N := N) (ln := ln) (q0 := q0) (q1 := q1) (by omega) 6 0 N g10 rfl (by omega)
  have hd : g10.2 = g.2 := by rw [d10, d9, d8, d7, d6, d5, d4, d3, d2, d1]
  have u : ∀ p, q1 ≤ p → p ≤ q1 + 7 → g1.1 p = g.1 p ∧ g2.1 p = g.1 p ∧ g3.1 p = g.1 p ∧ g4.1 p = g.1 p ∧ g5.1 p = g.1 p ∧ g6.1 p = g.1 p ∧ g7.1 p = g.1 p ∧ g8.1 p = g.1 p ∧ g9.1 p = g.1 p ∧ g10.1 p = g.1 p := by
    intro p x y
    have e1 := a1 p (by omega)
    have e2 := (a2 p (by omega)).trans e1
    have e3 := (a3 p (by omega)).trans e2
    have e4 := (a4 p (by omega)).trans e3
    have e5 := (a5 p (by omega)).trans e4
    have e6 := (a6 p (by omega)).trans e5
    have e7 := (a7 p (by omega)).trans e6
    have e8 := (a8 p (by omega)).trans e7
    have e9 := (a9 p (by omega)).trans e8
    exact ⟨e1, e2, e3, e4, e5, e6, e7, e8, e9, (a10 p (by omega)).trans e9⟩
  refine ⟨g', r1, ⟨⟨?_, ?_, ?_, ?_⟩, fun j hj => ⟨?_, ?_, ?_⟩, fun j hj => ?_, fun j hj => ⟨?_, ?_, ?_⟩, fun j hj => ?_⟩, fun p hp => ?_, fun p hp => by rw [r4 p hp, hd]⟩
  · rw [r7 0 (by omega), b10 0 (by omega), a9 q0 (by omega), a8 q0 (by omega), a7 q0 (by omega), b6 0 (by omega), a5 q0 (by omega), a4 q0 (by omega), a3 q0 (by omega), a2 q0 (by omega), c1]
  · rw [r7 5 (by omega), b10 5 (by omega), a9 q0 (by omega), a8 q0 (by omega), a7 q0 (by omega), c6, (u q1 (by omega) (by omega)).2.2.2.2.1]
  · rw [r7 9 (by omega), c10, (u q1 (by omega) (by omega)).2.2.2.2.2.2.2.2.1]
  · rw [r5, (u q1 (by omega) (by omega)).2.2.2.2.2.2.2.2.2]
  · rw [r6 _ (by omega), a10 _ (by omega), a9 _ (by omega), a8 _ (by omega), a7 _ (by omega), a6 _ (by omega), a5 _ (by omega), a4 _ (by omega), a3 _ (by omega), b2 j hj, (u (q1 + 1) (by omega) (by omega)).1]
  · rw [r6 _ (by omega), a10 _ (by omega), a9 _ (by omega), a8 _ (by omega), a7 _ (by omega), a6 _ (by omega), a5 _ (by omega), a4 _ (by omega), b3 j hj, (u (q1 + 2) (by omega) (by omega)).2.1]
  · rw [r6 _ (by omega), a10 _ (by omega), a9 _ (by omega), a8 _ (by omega), a7 _ (by omega), a6 _ (by omega), a5 _ (by omega), b4 j hj, (u (q1 + 3) (by omega) (by omega)).2.2.1]
  · rw [r6 _ (by omega), a10 _ (by omega), a9 _ (by omega), a8 _ (by omega), a7 _ (by omega), a6 _ (by omega), b5 j hj, (u (q1 + 4) (by omega) (by omega)).2.2.2.1]
  · rw [r6 _ (by omega), a10 _ (by omega), a9 _ (by omega), a8 _ (by omega), b7 j hj, (u (q1 + 5) (by omega) (by omega)).2.2.2.2.2.1]
  · rw [r6 _ (by omega), a10 _ (by omega), a9 _ (by omega), b8 j hj, (u (q1 + 6) (by omega) (by omega)).2.2.2.2.2.2.1]
  · rw [r6 _ (by omega), a10 _ (by omega), b9 j hj, (u (q1 + 7) (by omega) (by omega)).2.2.2.2.2.2.2.1]
  · rw [r2 j (Nat.zero_le _) hj, hd]
  · rw [r6 p (by omega), a10 p (by omega), a9 p (by omega), a8 p (by omega), a7 p (by omega), a6 p (by omega), a5 p (by omega), a4 p (by omega), a3 p (by omega), a2 p (by omega), a1 p (by omega)]
/-- the plank that it became holds what the other did -/
theorem PQ.become {g g' : sw_g} {k : Nat → Int32} {Lw : Nat → List Cl} {L : Nat} (P : PQ ln M g q1 k Lw L) (hL : L ≤ 6) (e : PE q0 q1 g g') (f : PF q0 g g') (h28 : q0 ≠ 20) (hp : q0 + 7 < 110 ∨ ∃ i, i < 2 ∧ g.2.2 28 i = some q0) : PQ ln M g' q0 k Lw L := by
  obtain ⟨⟨e1, e2, e3, e4⟩, e5, e6, e7, e8⟩ := e
  obtain ⟨a1, a2, ⟨a31, a32, a33, a34⟩, a4, a5, a6, a7, a8⟩ := P
  refine ⟨e1.trans a1, fun c hc => ?_, ⟨(e6 0 (by decide)).trans a31, (e6 1 (by decide)).trans a32, (e6 2 (by decide)).trans a33, (e6 3 (by decide)).trans a34⟩, e2.trans a4, fun i hi => ?_, e3.trans a6, e4.trans a7, fun x hx => ?_⟩
  · obtain ⟨x1, x2, x3⟩ := e5 c hc
    obtain ⟨y1, y2, y3⟩ := a2 c hc
    exact ⟨x1.trans y1, x2.trans y2, x3.trans y3⟩
  · obtain ⟨x1, x2, x3⟩ := e7 i hi
    obtain ⟨y1, y2, y3⟩ := a5 i hi
    exact ⟨x1.trans y1, x2.trans y2, x3.trans y3⟩
  · obtain ⟨p, b1, b2, b3⟩ := a8 x hx
    refine ⟨p, (e8 x (by omega)).trans b1, b2.same (f.2 28 (by omega)), b3.frame (fun y y1 y2 => f.1 y ?_)⟩
    rcases hp with hp | ⟨i, hi, hi'⟩
    · have := b2.1; omega
    · have := b2.2.2 i q0 hi hi'; omega
end
