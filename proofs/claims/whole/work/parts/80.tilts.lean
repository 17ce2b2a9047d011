/-! ===== off, byTurns: the tilts of sets ===== -/
def wtT (k : Nat → Int32) (law : Option (List Cl)) (n : Nat) : Nat → Int32 := fun c => if c < n then pullK k law c else 0
/-- a claim can come off these so that it is level then -/
def okO (T : Nat → Int32) (sl : Int32) (b c : Nat) : Bool := decide (b / 2 ^ c % 2 = 1) && !(decide (sl < jabs (T (b - 2 ^ c))))
theorem sub_bit : ∀ c, c < 7 → ∀ b, b < 128 → b / 2 ^ c % 2 = 1 → (2 ^ c ≤ b ∧ b ^^^ 2 ^ c = b - 2 ^ c ∧ pcn (b - 2 ^ c) + 1 = pcn b ∧ b - 2 ^ c < b ∧ (b &&& (127 - 2 ^ c)) = b - 2 ^ c) := by decide +kernel
theorem no_bit {n c b : Nat} (h : b < 2 ^ n) (hc : n ≤ c) : ¬ b / 2 ^ c % 2 = 1 := by
  rw [Nat.div_eq_of_lt (Nat.lt_of_lt_of_le h (pow_le7 hc))]; decide
section
variable {N : Nat} {ln : Nat → Nat} {M : Nat} {k : Nat → Int32} {Lw : Nat → List Cl} {n w L : Nat}
theorem sumTilts_2 (hN : 3000 ≤ N) (K : KI k Lw n w L) : ∀ (d c fu : Nat) (g : sw_g), c + d = 7 → d < fu → PQ ln M g 1 k Lw L → SumsTo g (wtT k (lawAt Lw (k 46)) n) c → ∃ g', fSx_sumTilts_2 N ln fu g (nI c) = some g' ∧ SumsTo g' (wtT k (lawAt Lw (k 46)) n) 7 ∧ GU g g' := by
  have hn7 := K.n7
  intro d
  induction d with
  | zero =>
    intro c fu g hc hfu P h
    obtain ⟨fu, rfl⟩ : ∃ z, fu = z + 1 := ⟨fu - 1, by omega⟩
    obtain rfl : c = 7 := by omega
    rw [fSx_sumTilts_2, if_pos (by decide)]
    exact ⟨g, rfl, h, GU.refl⟩
  | succ d ih =>
    intro c fu g hc hfu P h
    obtain ⟨fu, rfl⟩ : ∃ z, fu = z + 1 := ⟨fu - 1, by omega⟩
    have hc7 : c < 7 := by omega
    rw [fSx_sumTilts_2, if_neg (show ¬ (7 : Int32) ≤ nI c from nI_ge (b := 7) hc7 (by decide)), isOn_c P K hc7, Option.bind_some]
    by_cases ho : c < n ∧ k (7 + c) ≠ -1
    · simp only [ho, if_true, n10, if_false, and_self, ne_eq, not_false_eq_true]
      obtain ⟨g1, e1, f1⟩ := weightAt_eq hN P K hc7 (k (7 + c))
      have P1 := P.ga f1 (by decide) (by decide)
      have S1 : SumsTo g1 (wtT k (lawAt Lw (k 46)) n) c := fun s hs => by rw [f1.1 81 (by decide)]; exact h s hs
      have hw : wtT k (lawAt Lw (k 46)) n c = cntK k (lawAt Lw (k 46)) c (k (7 + c)) * (k (7 + c) - 3) := by unfold wtT pullK; rw [if_pos ho.1, if_neg ho.2]
      obtain ⟨g2, e2, e3, e4⟩ := sumWith_eq (ln := ln) hN hc7 S1
      rw [hw] at e2
      obtain ⟨g', q1, q2, q3⟩ := ih (c + 1) fu g2 (by omega) (by omega) (P1.g81 e4 (by decide)) e3
      refine ⟨g', ?_, q2, (f1.up.trans e4.GU).trans q3⟩
      rw [rd_nI hc7 (by decide), show g.1 4 c = _ from (P.2.1 c hc7).2.2, e1, Option.bind_some]
      simp only []
      rw [fSx_sumTilts_39, e2, Option.bind_some]
      simp only [nm, nI_1]; exact q1
    · rw [if_neg ho]
      simp only [if_true]
      have hw : wtT k (lawAt Lw (k 46)) n c = 0 := by
        unfold wtT pullK
        by_cases hcn : c < n
        · have : k (7 + c) = -1 := Classical.byContradiction (fun q => ho ⟨hcn, q⟩)
          rw [if_pos hcn, if_pos this]
        · rw [if_neg hcn]
      obtain ⟨g2, e2, e3, e4⟩ := sumWith_eq (ln := ln) hN hc7 h
      rw [hw] at e2
      obtain ⟨g', q1, q2, q3⟩ := ih (c + 1) fu g2 (by omega) (by omega) (P.g81 e4 (by decide)) e3
      refine ⟨g', ?_, q2, e4.GU.trans q3⟩
      rw [fSx_sumTilts_39, e2, Option.bind_some]
      simp only [nm, nI_1]; exact q1
theorem sumTilts_eq (hN : 3000 ≤ N) {g : sw_g} (K : KI k Lw n w L) (P : PQ ln M g 1 k Lw L) (h81 : g.1 81 0 = 0) : ∃ g', fSx_sumTilts N ln g = some g' ∧ (∀ s, s < 128 → g'.1 81 s = sW (wtT k (lawAt Lw (k 46)) n) s 7) ∧ GU g g' := by
  have h0 : SumsTo g (wtT k (lawAt Lw (k 46)) n) 0 := by
    intro s hs
    have : s = 0 := by simpa using hs
    rw [this, h81]; rfl
  obtain ⟨g', q1, q2, q3⟩ := sumTilts_2 hN K 7 0 N g rfl (by omega) P h0
  exact ⟨g', q1, q2, q3⟩
theorem PQ.gu {g g' : sw_g} (P : PQ ln M g 1 k Lw L) (h : GU g g') : PQ ln M g' 1 k Lw L := P.ga h.1 (by decide) (by decide)
end
/-- only tilts of sets and the cells of the one who goes along may change -/
def MI (μ μ' : sw_m) : Prop := ∀ p j, p ≠ 96 → p ≠ 103 → (p = 84 → j < 22 ∨ 25 < j) → μ'.1 p j = μ.1 p j
theorem MI.k {μ μ' : sw_m} (h : MI μ μ') : μ'.1 86 = μ.1 86 := funext fun j => h 86 j (by decide) (by decide) (by omega)
theorem MI.MS {μ μ' : sw_m} (h : MI μ μ') : MS μ μ' := fun p j a b c => h p j (by omega) (by omega) (by omega)
section
variable {N : Nat} {Lw : Nat → List Cl} {n w L : Nat}
theorem lt_46 {k29 : sw_m → Int32 → Int32 → Option sw_m} {on c : Nat} (hon : on < 128) (hc : c < 7) {v : Int32} : ∀ (d s fu : Nat) (μ : sw_m), s + d = on + 1 → d < fu → ∃ μ', fMo_laysTilts_46 N k29 fu μ (nI on) (nI c) v (nI s) = k29 μ' (nI on) (nI (c + 1)) ∧ (∀ j, s ≤ j → j ≤ on → μ'.1 103 j = μ.1 103 j + (if j / 2 ^ c % 2 = 1 then v else 0)) ∧ (∀ j, j < s → μ'.1 103 j = μ.1 103 j) ∧ (∀ p j, p ≠ 103 → μ'.1 p j = μ.1 p j) := by
  intro d
  induction d with
  | zero =>
    intro s fu μ h hfu
    obtain ⟨fu, rfl⟩ : ∃ z, fu = z + 1 := ⟨fu - 1, by omega⟩
    rw [fMo_laysTilts_46, if_pos (nI_lt (by omega) (by omega))]
    simp only [nm, nI_1]
    exact ⟨μ, rfl, fun j a b => by omega, fun _ _ => rfl, fun _ _ _ => rfl⟩
  | succ d ih =>
    intro s fu μ h hfu
    obtain ⟨fu, rfl⟩ : ∃ z, fu = z + 1 := ⟨fu - 1, by omega⟩
    rw [fMo_laysTilts_46, if_neg (nI_nlt (by omega) (by omega)), rd_nI (by omega) (by decide), isIn_eq c hc s (by omega), Option.bind_some]
    generalize hv : (if s / 2 ^ c % 2 = 1 then v else 0) = v'
    obtain ⟨μ', q1, q2, q3, q4⟩ := ih (s + 1) fu (mI μ 103 s (μ.1 103 s + v')) (by omega) (by omega)
    refine ⟨μ', ?_, fun j a b => ?_, fun j hj => ?_, fun p j hp => ?_⟩
    · rw [← q1]
      by_cases hb : s / 2 ^ c % 2 = 1
      · rw [if_pos hb] at hv
        rw [if_pos hb, if_neg n10, wr_nI (by omega) (by decide), hv]
        simp only [nm, nI_1]
      · rw [if_neg hb] at hv
        rw [if_neg hb, if_pos rfl, wr_nI (by omega) (by decide), hv]
        simp only [nm, nI_1]
    · by_cases hj : j = s
      · subst hj; rw [q3 j (by omega), mI_at, if_pos ⟨rfl, rfl⟩, hv]
      · rw [q2 j (by omega) b, mI_at, if_neg (by omega)]
    · rw [q3 j (by omega), mI_at, if_neg (by omega)]
    · rw [q4 p j hp, mI_at, if_neg (by omega)]
theorem lt_29 (hN : 3000 ≤ N) {on : Nat} (hon : on < 128) : ∀ (d c fu : Nat) (μ : sw_m), c + d = n → d < fu → KI (μ.1 86) Lw n w L → (∀ j, j ≤ on → μ.1 103 j = sW (wtT (μ.1 86) (lawAt Lw (μ.1 86 46)) n) j c) → ∃ μ', fMo_laysTilts_29 N fu μ (nI on) (nI c) = some μ' ∧ (∀ j, j ≤ on → μ'.1 103 j = sW (wtT (μ.1 86) (lawAt Lw (μ.1 86 46)) n) j n) ∧ MI μ μ' := by
  intro d
  induction d with
  | zero =>
    intro c fu μ h hfu K hs
    obtain ⟨fu, rfl⟩ : ∃ z, fu = z + 1 := ⟨fu - 1, by omega⟩
    obtain rfl : c = n := by omega
    have := K.n7
    rw [fMo_laysTilts_29, many_eq K, Option.bind_some]
    simp only []
    rw [if_pos (nI_le (Nat.le_refl _) (by omega))]
    exact ⟨μ, rfl, hs, fun _ _ _ _ _ => rfl⟩
  | succ d ih =>
    intro c fu μ h hfu K hs
    obtain ⟨fu, rfl⟩ : ∃ z, fu = z + 1 := ⟨fu - 1, by omega⟩
    have hn7 := K.n7
    obtain ⟨μ1, e1, f1⟩ := mpull_eq hN K (c := c) (by omega)
    rw [fMo_laysTilts_29, many_eq K, Option.bind_some]
    simp only []
    rw [if_neg (nI_ge (by omega) (by omega)), e1, Option.bind_some]
    simp only []
    obtain ⟨μ2, q1, q2, q3, q4⟩ := lt_46 (N := N) (k29 := fMo_laysTilts_29 N fu) hon (show c < 7 by omega) (v := pullK (μ.1 86) (lawAt Lw (μ.1 86 46)) c) (on + 1) 0 N μ1 (by omega) (by omega)
    have k2 : μ2.1 86 = μ.1 86 := by rw [← f1.k]; exact funext fun j => q4 86 j (by decide)
    obtain ⟨μ3, r1, r2, r3⟩ := ih (c + 1) fu μ2 (by omega) (by omega) (by rw [k2]; exact K) (fun j hj => by
      rw [k2, q2 j (by omega) hj, f1.2 103 j (by decide) (by omega), hs j hj]
      show _ = sW _ j c + _
      unfold wtT; rw [if_pos (show c < n by omega)])
    rw [k2] at r2
    exact ⟨μ3, q1.trans r1, r2, fun p j a b c => by rw [r3 p j a b c, q4 p j b, f1.2 p j a c]⟩
theorem lt_7 {on : Int32} : ∀ (d s fu : Nat) (μ : sw_m), s + d = 128 → d < fu → ∃ μ', fMo_laysTilts_7 N fu μ on (nI s) = fMo_laysTilts_29 N N μ' on 0 ∧ (∀ j, s ≤ j → j < 128 → μ'.1 103 j = 0) ∧ (∀ j, j < s → μ'.1 103 j = μ.1 103 j) ∧ (∀ p j, p ≠ 103 → μ'.1 p j = μ.1 p j) := by
  intro d
  induction d with
  | zero =>
    intro s fu μ h hfu
    obtain ⟨fu, rfl⟩ : ∃ z, fu = z + 1 := ⟨fu - 1, by omega⟩
    obtain rfl : s = 128 := by omega
    rw [fMo_laysTilts_7, if_pos (by decide)]
    exact ⟨μ, rfl, fun j a b => by omega, fun _ _ => rfl, fun _ _ _ => rfl⟩
  | succ d ih =>
    intro s fu μ h hfu
    obtain ⟨fu, rfl⟩ : ∃ z, fu = z + 1 := ⟨fu - 1, by omega⟩
    rw [fMo_laysTilts_7, if_neg (show ¬ (128 : Int32) ≤ nI s from nI_ge (b := 128) (by omega) (by decide)), wr_nI (by omega) (by decide)]
    simp only [nm, nI_1]
    obtain ⟨μ', q1, q2, q3, q4⟩ := ih (s + 1) fu (mI μ 103 s 0) (by omega) (by omega)
    refine ⟨μ', q1, fun j a b => ?_, fun j hj => ?_, fun p j hp => ?_⟩
    · by_cases hj : j = s
      · subst hj; rw [q3 j (by omega), mI_at, if_pos ⟨rfl, rfl⟩]
      · exact q2 j (by omega) b
    · rw [q3 j (by omega), mI_at, if_neg (by omega)]
    · rw [q4 p j hp, mI_at, if_neg (by omega)]
theorem tilts_eq (hN : 3000 ≤ N) {μ : sw_m} (K : KI (μ.1 86) Lw n w L) : ∃ μ', fMo_laysTilts N μ = some μ' ∧ (∀ j, j ≤ onB (μ.1 86) n 7 → μ'.1 103 j = sW (wtT (μ.1 86) (lawAt Lw (μ.1 86 46)) n) j 7) ∧ MI μ μ' := by
  have hn7 := K.n7
  have hlt := onB_lt (k := μ.1 86) (n := n) 7
  obtain ⟨μ1, q1, q2, q3, q4⟩ := lt_7 (N := N) (on := nI (onB (μ.1 86) n 7)) 128 0 N μ rfl (by omega)
  have k1 : μ1.1 86 = μ.1 86 := funext fun j => q4 86 j (by decide)
  obtain ⟨μ2, r1, r2, r3⟩ := lt_29 (N := N) (Lw := Lw) (n := n) (w := w) (L := L) hN (on := onB (μ.1 86) n 7) hlt n 0 N μ1 (by omega) (by omega) (by rw [k1]; exact K) (fun j hj => q2 j (by omega) (by omega))
  rw [k1] at r2
  refine ⟨μ2, ?_, fun j hj => ?_, fun p j a b c => by rw [r3 p j a b c, q4 p j b]⟩
  · rw [fMo_laysTilts, monNow_eq hN K, Option.bind_some]
    exact q1.trans r1
  · rw [r2 j hj]
    have hjn : j < 2 ^ n := by
      have := onB_lt (k := μ.1 86) (n := n) n
      rw [onB_7 hn7] at this; omega
    have := sW_low (wt := wtT (μ.1 86) (lawAt Lw (μ.1 86 46)) n) hjn (7 - n)
    rw [show n + (7 - n) = 7 by omega] at this
    exact this.symm
end
section
variable {N : Nat} {ln : Nat → Nat} {M : Nat} {k : Nat → Int32} {Lw : Nat → List Cl} {n w L : Nat}
theorem canTake_eq {g : sw_g} (P : PQ ln M g 1 k Lw L) {b c : Nat} (hb : b < 128) (hc : c < 7) : fSx_canTake ln g (nI b) (nI c) = some (if okO (g.1 81) (k 42) b c then 1 else 0, g) := by
  rw [fSx_canTake, nm, sh_1 c (by omega)]
  unfold okO
  by_cases h : b / 2 ^ c % 2 = 1
  · obtain ⟨s1, s2, s3, s4, s5⟩ := sub_bit c hc b hb h
    rw [if_neg (fun q => (and_bit c hc b hb).1 q h), pk_sub s1, rd_nI (by omega) (by decide), xlevel_eq P, Option.bind_some]
    by_cases hl : k 42 < jabs (g.1 81 (b - 2 ^ c))
    · simp [h, hl]
    · simp [h, hl]
  · rw [if_pos ((and_bit c hc b hb).2 h)]; simp [h]
theorem canOff_eq {μ : sw_m} {b c : Nat} (hb : b < 128) (hc : c < 7) : fMo_canOff μ (nI b) (nI c) = some (if okO (μ.1 103) (μ.1 86 42) b c then 1 else 0, μ) := by
  rw [fMo_canOff, isIn_eq c hc b hb, Option.bind_some]
  unfold okO
  by_cases h : b / 2 ^ c % 2 = 1
  · obtain ⟨s1, s2, s3, s4, s5⟩ := sub_bit c hc b hb h
    rw [if_pos h, if_neg n10, sh_1 c (by omega), nI_xor, s2, rd_nI (by omega) (by decide), mlevel_eq, Option.bind_some]
    by_cases hl : μ.1 86 42 < jabs (μ.1 103 (b - 2 ^ c))
    · simp [h, hl]
    · simp [h, hl]
  · rw [if_neg h, if_pos rfl]; simp [h]
end
