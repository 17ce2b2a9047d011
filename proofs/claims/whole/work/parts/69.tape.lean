/-! ===== feed, row ===== -/
def bytN (a : Int32) (s : Nat) : Nat := a.toBitVec.toNat / 2 ^ s % 256
theorem bytN_lt {a : Int32} {s : Nat} : bytN a s < 256 := Nat.mod_lt _ (by decide)
theorem nI_bv (a : Int32) : nI a.toBitVec.toNat = a := Int32.toBitVec_inj.1 (by show BitVec.ofNat 32 a.toBitVec.toNat = _; simp)
theorem byt_x {a : Int32} {sh : Int32} {s : Nat} (hs : ((sh.toUInt32 &&& Int32.toUInt32 31).toBitVec % 32).toNat = s) : ((a.toUInt32 >>> (sh.toUInt32 &&& Int32.toUInt32 31)).toInt32) &&& (255 : Int32) = nI (bytN a s) := by
  have h := pk_ushrN (n := a.toBitVec.toNat) a.toBitVec.isLt sh s hs
  rw [nI_bv] at h
  rw [h, pk_andN (Nat.lt_of_le_of_lt (Nat.div_le_self _ _) a.toBitVec.isLt) 8 (by decide)]
  rfl
theorem sx_byte (x : Int32) : x.toInt8.toInt32 = sx (x.toInt % 256).toNat := by
  apply Int32.toInt_inj.1
  rw [Int8.toInt_toInt32, Int32.toInt_toInt8]
  have h1 : 0 ≤ x.toInt % 256 := Int.emod_nonneg _ (by decide)
  have h2 : x.toInt % 256 < 256 := Int.emod_lt_of_pos _ (by decide)
  unfold sx
  rw [Int.bmod_def]
  by_cases h : x.toInt % 256 < 128
  · rw [if_pos (by omega), if_pos (by omega), nI_toInt (by omega)]
    show x.toInt % 256 = _
    omega
  · rw [if_neg (by omega), if_neg (by omega), ← zI_nat, show (256 : Int32) = zI 256 from rfl, zI_sub, zI_toInt (by omega) (by omega)]
    show x.toInt % 256 - 256 = _
    omega
theorem byt_m {a sh : Int32} {s : Nat} (hs : (sh.toBitVec.smod 32).toNat = s) (h4 : s = 0 ∨ s = 8 ∨ s = 16 ∨ s = 24) : vp_nar .byte ((a >>> sh).toInt8.toInt32) = sx (bytN a s) := by
  rw [pk_vb, sx_byte, pk_shr a sh s hs]
  congr 1
  unfold bytN
  have e : a.toInt = if 2 * a.toBitVec.toNat < 2 ^ 32 then (a.toBitVec.toNat : Int) else (a.toBitVec.toNat : Int) - 2 ^ 32 := BitVec.toInt_eq_toNat_cond _
  have hl := a.toBitVec.isLt
  rw [Int.shiftRight_eq_div_pow]
  generalize a.toBitVec.toNat = x at *
  generalize a.toInt = z at *
  rcases h4 with rfl | rfl | rfl | rfl
  · simp only [Nat.pow_zero, Nat.div_one]
    split at e <;> omega
  · simp only [show (2 : Nat) ^ 8 = 256 from rfl]
    split at e <;> omega
  · simp only [show (2 : Nat) ^ 16 = 65536 from rfl]
    split at e <;> omega
  · simp only [show (2 : Nat) ^ 24 = 16777216 from rfl]
    split at e <;> omega
section
variable {N : Nat} {ln : Nat → Nat} {M : Nat} {g : sw_g} {μ : sw_m}
theorem append_step {x fu s : Nat} {a sh : Int32} (hx : x < 400) (h0 : g.1 33 0 = nI x) (hp : ¬ sh < 0) (hs : ((sh.toUInt32 &&& Int32.toUInt32 31).toBitVec % 32).toNat = s) : fRe_append_3 N ln (fu + 1) g a sh = fRe_append_3 N ln fu (gI (gI g 34 x (nI (bytN a s))) 33 0 (nI (x + 1))) a (sh + (-8)) := by
  rw [fRe_append_3, if_neg hp, h0, if_neg (show ¬ (400 : Int32) ≤ nI x from nI_ge (b := 400) hx (by decide)), wr_nI hx (by decide), byt_x hs]
  simp only [nm]
  rw [show (gI g 34 x (nI (bytN a s))).1 33 0 = nI x by rw [gI_at, if_neg (by omega), h0], nI_1]
theorem append_eq (hN : 3000 ≤ N) {x : Nat} (a : Int32) (hx : x + 4 ≤ 400) (h0 : g.1 33 0 = nI x) : ∃ g', fRe_append N ln g a = some g' ∧ g'.1 33 0 = nI (x + 4) ∧ (∀ r, r < 4 → g'.1 34 (x + r) = nI (bytN a (24 - 8 * r))) ∧ (∀ p j, (p = 33 → j ≠ 0) → (p = 34 → j < x ∨ x + 4 ≤ j) → g'.1 p j = g.1 p j) ∧ g'.2 = g.2 := by
  obtain ⟨m, rfl⟩ : ∃ m, N = m + 5 := ⟨N - 5, by omega⟩
  rw [fRe_append, append_step (s := 24) (by omega) h0 (by decide) (by decide), append_step (s := 16) (x := x + 1) (by omega) (by simp [gI_at]) (by decide) (by decide), append_step (s := 8) (x := x + 2) (by omega) (by simp [gI_at]) (by decide) (by decide), append_step (s := 0) (x := x + 3) (by omega) (by simp [gI_at]) (by decide) (by decide), fRe_append_3, if_pos (by decide)]
  refine ⟨_, rfl, by simp [gI_at], fun r hr => ?_, fun p j h1 h2 => ?_, rfl⟩
  · rcases (show r = 0 ∨ r = 1 ∨ r = 2 ∨ r = 3 by omega) with rfl | rfl | rfl | rfl <;> simp [gI_at]
  · rw [gI_at, if_neg (by omega), gI_at, if_neg (by omega), gI_at, if_neg (by omega), gI_at, if_neg (by omega), gI_at, if_neg (by omega), gI_at, if_neg (by omega), gI_at, if_neg (by omega), gI_at, if_neg (by omega)]
theorem mfeed_55 {t : Nat} (ht : t + 20 ≤ 400) {F : Nat → Int32} : ∀ (d k fu : Nat) (μ : sw_m), k + d = 20 → d < fu → μ.1 84 13 = nI t → (∀ i, i < 5 → μ.1 92 i = F i) → ∃ μ', fMo_feed_55 N fu μ (nI k) = some (nI (t + 20), μ') ∧ μ'.1 84 13 = nI (t + 20) ∧ (∀ j, k ≤ j → j < 20 → μ'.1 91 (t + j) = sx (bytN (F (j / 4)) (24 - 8 * (j % 4)))) ∧ (∀ p j, (p = 84 → j ≠ 13) → (p = 91 → j < t + k ∨ t + 20 ≤ j) → μ'.1 p j = μ.1 p j) := by
  intro d
  induction d with
  | zero =>
    intro k fu μ hk hfu h13 hF
    obtain ⟨fu, rfl⟩ : ∃ z, fu = z + 1 := ⟨fu - 1, by omega⟩
    obtain rfl : k = 20 := by omega
    rw [fMo_feed_55, if_pos (by decide)]
    simp only [nm]
    rw [h13, show nI t + (20 : Int32) = nI (t + 20) from nI_add t 20]
    exact ⟨mI μ 84 13 (nI (t + 20)), by simp [mI_at], by simp [mI_at], fun j a b => by omega, fun p j a b => by rw [mI_at, if_neg (by omega)]⟩
  | succ d ih =>
    intro k fu μ hk hfu h13 hF
    obtain ⟨fu, rfl⟩ : ∃ z, fu = z + 1 := ⟨fu - 1, by omega⟩
    rw [fMo_feed_55, if_neg (show ¬ (20 : Int32) ≤ nI k from nI_ge (b := 20) (by omega) (by decide)), show nI k / (4 : Int32) = nI (k / 4) from pk_div (by omega) (by decide) (by decide), rd_nI (by omega) (by decide), hF (k / 4) (by omega), h13, nI_add]
    rw [show nI k - nI (k / 4) * (4 : Int32) = nI (k % 4) by rw [← show nI k / (4 : Int32) = nI (k / 4) from pk_div (by omega) (by decide) (by decide)]; exact pk_rem (by omega) (by decide) (by decide), show (8 : Int32) * nI (k % 4) = nI (8 * (k % 4)) from nI_mul 8 _, show (24 : Int32) - nI (8 * (k % 4)) = nI (24 - 8 * (k % 4)) from pk_sub (a := 24) (by omega), wr_nI (by omega) (by decide)]
    have hb : vp_nar .byte ((F (k / 4) >>> (nI (24 - 8 * (k % 4)) &&& 31)).toInt8.toInt32) = sx (bytN (F (k / 4)) (24 - 8 * (k % 4))) := by
      rcases (show k % 4 = 0 ∨ k % 4 = 1 ∨ k % 4 = 2 ∨ k % 4 = 3 by omega) with h | h | h | h <;> rw [h] <;> exact byt_m (by decide) (by decide)
    rw [hb]
    simp only [nm, nI_1]
    obtain ⟨μ', e1, e2, e3, e4⟩ := ih (k + 1) fu (mI μ 91 (t + k) (sx (bytN (F (k / 4)) (24 - 8 * (k % 4))))) (by omega) (by omega) (by rw [mI_at, if_neg (by omega), h13]) (fun i hi => by rw [mI_at, if_neg (by omega), hF i hi])
    refine ⟨μ', e1, e2, fun j a b => ?_, fun p j a b => ?_⟩
    · by_cases hjk : j = k
      · subst hjk; rw [e4 91 (t + j) (by omega) (by omega), mI_at, if_pos ⟨rfl, rfl⟩]
      · exact e3 j (by omega) b
    · rw [e4 p j a (by omega), mI_at, if_neg (by omega)]
theorem feed_CR (hN : 3000 ≤ N) (h : RR ln M g μ) (a b c d e : Int32) : CR ln M (fSx_feed N ln g a b c d e) (fMo_feed N μ a b c d e) := by
  have h0 := h
  obtain ⟨Lw, n, w, L, K, P, h1, ⟨t, B, t1, t2, t3, t4, t5, t6⟩, h3, h4, h5⟩ := h
  rw [fSx_feed, fMo_feed, t3, t4, show nI t + (20 : Int32) = nI (t + 20) from nI_add t 20]
  by_cases ht : t + 20 ≤ 400
  · rw [if_pos (show nI (t + 20) ≤ (400 : Int32) from nI_le (b := 400) ht (by decide)), if_pos (show nI (t + 20) ≤ (400 : Int32) from nI_le (b := 400) ht (by decide))]
    obtain ⟨g1, a1, a2, a3, a4, a5⟩ := append_eq (ln := ln) (g := g) hN (x := t) a (by omega) t3
    obtain ⟨g2, b1, b2, b3, b4, b5⟩ := append_eq (ln := ln) (g := g1) hN (x := t + 4) b (by omega) a2
    obtain ⟨g3, c1, c2, c3, c4, c5⟩ := append_eq (ln := ln) (g := g2) hN (x := t + 4 + 4) c (by omega) b2
    obtain ⟨g4, d1, d2, d3, d4, d5⟩ := append_eq (ln := ln) (g := g3) hN (x := t + 4 + 4 + 4) d (by omega) c2
    obtain ⟨g5, e1, e2, e3, e4, e5⟩ := append_eq (ln := ln) (g := g4) hN (x := t + 4 + 4 + 4 + 4) e (by omega) d2
    rw [a1, Option.bind_some, b1, Option.bind_some, c1, Option.bind_some, d1, Option.bind_some, e1, Option.bind_some, e2]
    rw [wr_K 0 0 5 (by decide) (by decide), wr_K 1 1 5 (by decide) (by decide), wr_K 2 2 5 (by decide) (by decide), wr_K 3 3 5 (by decide) (by decide), wr_K 4 4 5 (by decide) (by decide)]
    generalize hμ : mI (mI (mI (mI (mI μ 92 0 a) 92 1 b) 92 2 c) 92 3 d) 92 4 e = μ1
    have em : ∀ p j, p ≠ 92 → μ1.1 p j = μ.1 p j := by
      intro p j hp; subst hμ; rw [mI_at, if_neg (by omega), mI_at, if_neg (by omega), mI_at, if_neg (by omega), mI_at, if_neg (by omega), mI_at, if_neg (by omega)]
    obtain ⟨μ2, q1, q2, q3, q4⟩ := mfeed_55 (N := N) ht (F := fun i => if i = 0 then a else if i = 1 then b else if i = 2 then c else if i = 3 then d else e) 20 0 N μ1 rfl (by omega) (by rw [em 84 13 (by decide), t4]) (fun i hi => by
      subst hμ
      rcases (show i = 0 ∨ i = 1 ∨ i = 2 ∨ i = 3 ∨ i = 4 by omega) with rfl | rfl | rfl | rfl | rfl <;> simp [mI_at])
    refine ⟨nI (t + 20), g5, μ2, by congr 1, q1, ?_⟩
    have eg : ∀ p j, (p = 33 → j ≠ 0) → (p = 34 → j < t ∨ t + 20 ≤ j) → g5.1 p j = g.1 p j := by
      intro p j x y; rw [e4 p j x (by omega), d4 p j x (by omega), c4 p j x (by omega), b4 p j x (by omega), a4 p j x (by omega)]
    have er : ∀ p, p ≠ 33 → p ≠ 34 → g5.1 p = g.1 p := fun p x y => funext fun j => eg p j (fun z => absurd z x) (fun z => absurd z y)
    have e22 : g5.2.2 = g.2.2 := by rw [e5, d5, c5, b5, a5]
    have em2 : ∀ p j, p ≠ 92 → p ≠ 91 → (p = 84 → j ≠ 13) → μ2.1 p j = μ.1 p j := by
      intro p j x y z; rw [q4 p j z (by omega), em p j x]
    have mr : ∀ p, p ≠ 92 → p ≠ 91 → p ≠ 84 → μ2.1 p = μ.1 p := fun p x y z => funext fun j => em2 p j x y (fun q => absurd q z)
    have hB : ∀ j, j < 20 → g5.1 34 (t + j) = nI (bytN ((fun i => if i = 0 then a else if i = 1 then b else if i = 2 then c else if i = 3 then d else e) (j / 4)) (24 - 8 * (j % 4))) := by
      intro j hj
      rcases (show j / 4 = 0 ∨ j / 4 = 1 ∨ j / 4 = 2 ∨ j / 4 = 3 ∨ j / 4 = 4 by omega) with q | q | q | q | q
      · rw [e4 34 _ (by omega) (by omega), d4 34 _ (by omega) (by omega), c4 34 _ (by omega) (by omega), b4 34 _ (by omega) (by omega)]
        have := a3 (j % 4) (by omega)
        rw [show t + j % 4 = t + j by omega] at this
        simp [this, q]
      · rw [e4 34 _ (by omega) (by omega), d4 34 _ (by omega) (by omega), c4 34 _ (by omega) (by omega)]
        have := b3 (j % 4) (by omega)
        rw [show t + 4 + j % 4 = t + j by omega] at this
        simp [this, q]
      · rw [e4 34 _ (by omega) (by omega), d4 34 _ (by omega) (by omega)]
        have := c3 (j % 4) (by omega)
        rw [show t + 4 + 4 + j % 4 = t + j by omega] at this
        simp [this, q]
      · rw [e4 34 _ (by omega) (by omega)]
        have := d3 (j % 4) (by omega)
        rw [show t + 4 + 4 + 4 + j % 4 = t + j by omega] at this
        simp [this, q]
      · have := e3 (j % 4) (by omega)
        rw [show t + 4 + 4 + 4 + 4 + j % 4 = t + j by omega] at this
        simp [this, q]
    refine ⟨Lw, n, w, L, by rw [mr 86 (by decide) (by decide) (by decide)]; exact K, ?_, h1.frame (er 29 (by decide) (by decide)) (er 30 (by decide) (by decide)) (em2 84 33 (by decide) (by decide) (by decide)) (mr 98 (by decide) (by decide) (by decide)), ?_, ?_, ?_, ?_⟩
    · rw [mr 86 (by decide) (by decide) (by decide)]
      exact P.frame (fun p x y => er p (by omega) (by omega)) (fun p x _ => er p (by omega) (by omega)) (by rw [e22]) (by rw [e22])
    · refine ⟨t + 20, fun j => if t ≤ j ∧ j < t + 20 then bytN ((fun i => if i = 0 then a else if i = 1 then b else if i = 2 then c else if i = 3 then d else e) ((j - t) / 4)) (24 - 8 * ((j - t) % 4)) else B j, fun j => ?_, ht, e2, q2, fun j hj => ?_, by rw [mr 90 (by decide) (by decide) (by decide)]; exact t6⟩
      · simp only []; split
        · exact bytN_lt
        · exact t1 j
      · simp only []
        by_cases hjt : j < t
        · rw [if_neg (by omega), eg 34 j (by omega) (by omega), q4 91 j (by omega) (by omega), em 91 j (by decide)]
          exact t5 j hjt
        · rw [if_pos (by omega)]
          have x1 := hB (j - t) (by omega)
          have x2 := q3 (j - t) (by omega) (by omega)
          rw [show t + (j - t) = j by omega] at x1 x2
          exact ⟨x1, x2⟩
    · unfold RM
      rw [eg 33 2 (by decide) (by omega), er 0 (by decide) (by decide), er 83 (by decide) (by decide), em2 84 14 (by decide) (by decide) (by decide), em2 84 43 (by decide) (by decide) (by decide), em2 84 6 (by decide) (by decide) (by decide), em2 84 0 (by decide) (by decide) (by decide), mr 85 (by decide) (by decide) (by decide)]
      exact h3
    · exact h4.frame (by rw [er 19 (by decide) (by decide)]) (er 20 (by decide) (by decide)) (er 22 (by decide) (by decide)) (em2 84 51 (by decide) (by decide) (by decide)) (mr 109 (by decide) (by decide) (by decide))
    · exact h5.frame (fun p hp => er p (by omega) (by omega)) (fun p _ => by rw [e22]) (mr 87 (by decide) (by decide) (by decide)) (mr 88 (by decide) (by decide) (by decide))
  · rw [if_neg (show ¬ nI (t + 20) ≤ (400 : Int32) from nI_ge (a := 400) (by omega) (by omega)), if_neg (show ¬ nI (t + 20) ≤ (400 : Int32) from nI_ge (a := 400) (by omega) (by omega))]
    exact ⟨_, g, μ, rfl, rfl, h0⟩
theorem sx_inj : ∀ b, b < 256 → ∀ x, x < 31 → sx b = nI x → b = x := by decide +kernel
theorem canBB {b1 b2 : Nat} (h1 : b1 < 256) (h2 : b2 < 256) : ((1 ≤ b1 ∧ b1 ≤ 30) ∧ fSx_canBeClaim (nI b1) (nI b2) = some 1 ∧ fMo_canBe0 (sx b1) (sx b2) = some 1 ∧ sx b1 = nI b1 ∧ sx b2 = nI b2) ∨ (fSx_canBeClaim (nI b1) (nI b2) = some 0 ∧ fMo_canBe0 (sx b1) (sx b2) = some 0) := by
  rcases canB (nI b1) (nI b2) with ⟨x, y, e1, x1, x2, e2, y1, f1, f2⟩ | ⟨f1, f2⟩
  · have q1 : b1 = x := (nI_eq (by omega) (by omega)).1 e1
    have q2 : b2 = y := (nI_eq (by omega) (by omega)).1 e2
    have s1 : sx b1 = nI b1 := sx_low (by omega)
    have s2 : sx b2 = nI b2 := sx_low (by omega)
    exact .inl ⟨by omega, f1, by rw [s1, s2]; exact f2, s1, s2⟩
  · rcases canB (sx b1) (sx b2) with ⟨x, y, e1, x1, x2, e2, y1, f3, f4⟩ | ⟨f3, f4⟩
    · have q1 := sx_inj b1 h1 x (by omega) e1
      have q2 := sx_inj b2 h2 y (by omega) e2
      subst q1 q2
      rw [e1, e2] at f3
      rw [f3] at f1; cases f1
    · exact .inr ⟨f1, f4⟩
theorem row_loop {Lw : Nat → List Cl} {w L t : Nat} {B : Nat → Nat} (ht : t ≤ 400) (hB : ∀ j, B j < 256) : ∀ (m i n fu fm : Nat) (c : Int32) (g : sw_g) (μ : sw_m), t - i ≤ m → i ≤ t → i % 2 = 0 → m + 1 < fu → m + 1 < fm → KI (μ.1 86) Lw n w L → PQ ln M g 1 (μ.1 86) Lw L → g.1 33 0 = nI t → (∀ j, j < t → g.1 34 j = nI (B j) ∧ μ.1 91 j = sx (B j)) → g.1 0 15 + nI (t % 2) = μ.1 84 6 →
    ∃ v g' μ' n', fSx_row_26 N ln fu g c (nI i) = some (v, gI (gI (gI g' 33 0 0) 29 0 0) 0 14 0) ∧ fMo_row_32 N fm μ (nI t) c (nI i) = some (v, mI (mI μ' 84 33 0) 84 0 0) ∧ KI (μ'.1 86) Lw n' w L ∧ PQ ln M g' 1 (μ'.1 86) Lw L ∧ (∀ p j, (p < 1 ∨ 4 < p) → (p = 0 → j ≠ 15) → g'.1 p j = g.1 p j) ∧ g'.2.2 = g.2.2 ∧ (∀ p j, p ≠ 86 → (p = 84 → j ≠ 6) → μ'.1 p j = μ.1 p j) ∧ g'.1 0 15 = μ'.1 84 6 := by
  intro m
  induction m with
  | zero =>
    intro i n fu fm c g μ h1 h2 h3 hfu hfm K P h33 hb hd
    obtain ⟨fu, rfl⟩ : ∃ z, fu = z + 1 := ⟨fu - 1, by omega⟩
    obtain ⟨fm, rfl⟩ : ∃ z, fm = z + 1 := ⟨fm - 1, by omega⟩
    obtain rfl : i = t := by omega
    rw [fSx_row_26, h33, if_pos (nI_le (Nat.le_refl _) (by omega)), fMo_row_32, show nI i + (2 : Int32) = nI (i + 2) from nI_add i 2, if_pos (nI_lt (by omega) (by omega))]
    refine ⟨c, g, μ, n, rfl, rfl, K, P, fun _ _ _ _ => rfl, rfl, fun _ _ _ _ => rfl, ?_⟩
    rw [← hd, h3, nI_0, Int32.add_zero]
  | succ m ih =>
    intro i n fu fm c g μ h1 h2 h3 hfu hfm K P h33 hb hd
    obtain ⟨fu, rfl⟩ : ∃ z, fu = z + 1 := ⟨fu - 1, by omega⟩
    obtain ⟨fm, rfl⟩ : ∃ z, fm = z + 1 := ⟨fm - 1, by omega⟩
    have hn7 := K.n7
    by_cases hit : i = t
    · subst hit
      rw [fSx_row_26, h33, if_pos (nI_le (Nat.le_refl _) (by omega)), fMo_row_32, show nI i + (2 : Int32) = nI (i + 2) from nI_add i 2, if_pos (nI_lt (by omega) (by omega))]
      refine ⟨c, g, μ, n, rfl, rfl, K, P, fun _ _ _ _ => rfl, rfl, fun _ _ _ _ => rfl, ?_⟩
      rw [← hd, h3, nI_0, Int32.add_zero]
    · rw [fSx_row_26, h33, if_neg (nI_ge (by omega) (by omega)), if_neg (show ¬ (400 : Int32) ≤ nI i from nI_ge (b := 400) (by omega) (by decide)), nI_1]
      by_cases hi1 : i + 1 = t
      · -- an odd byte is left
        rw [if_pos (nI_le (by omega) (by omega)), fSx_row_71, if_pos rfl, fMo_row_32, show nI i + (2 : Int32) = nI (i + 2) from nI_add i 2, if_pos (nI_lt (by omega) (by omega))]
        simp only [nm]
        obtain ⟨fu, rfl⟩ : ∃ z, fu = z + 1 := ⟨fu - 1, by omega⟩
        rw [fSx_row_26, show (gI g 0 15 (g.1 0 15 + 1)).1 33 0 = nI t by rw [gI_at, if_neg (by decide), h33], if_pos (nI_le (by omega) (by omega))]
        refine ⟨c, gI g 0 15 (g.1 0 15 + 1), μ, n, rfl, rfl, K, P.ga (GA.put (lo := 0) (hi := 0) (by decide) (by decide)) (by decide) (by decide), fun p j x y => by rw [gI_at, if_neg (by omega)], rfl, fun _ _ _ _ => rfl, ?_⟩
        rw [← hd, show t % 2 = 1 by omega]
        simp [gI_at]; rfl
      · rw [if_neg (nI_ge (by omega) (by omega)), if_neg (show ¬ (400 : Int32) ≤ nI (i + 1) from nI_ge (b := 400) (by omega) (by decide)), fSx_row_71, if_neg n10, fMo_row_32, show nI i + (2 : Int32) = nI (i + 2) from nI_add i 2, if_neg (nI_nlt (by omega) (by omega)), many_eq K, Option.bind_some]
        simp only []
        rw [show g.1 1 0 = nI n by rw [show g.1 1 0 = _ from P.1, K.hn]]
        -- both count it as dust
        have dust : ∀ r, r = fMo_row_73 N (fMo_row_32 N fm) μ (nI t) c (nI i) 0 → ∃ v g' μ' n', nm (gI g 0 15 (g.1 0 15 + 1)) (fun g8 => nm (nI (i + 2)) fun x9 => fSx_row_26 N ln fu g8 c x9) = some (v, gI (gI (gI g' 33 0 0) 29 0 0) 0 14 0) ∧ r = some (v, mI (mI μ' 84 33 0) 84 0 0) ∧ KI (μ'.1 86) Lw n' w L ∧ PQ ln M g' 1 (μ'.1 86) Lw L ∧ (∀ p j, (p < 1 ∨ 4 < p) → (p = 0 → j ≠ 15) → g'.1 p j = g.1 p j) ∧ g'.2.2 = g.2.2 ∧ (∀ p j, p ≠ 86 → (p = 84 → j ≠ 6) → μ'.1 p j = μ.1 p j) ∧ g'.1 0 15 = μ'.1 84 6 := by
          intro r hr
          subst hr
          rw [fMo_row_73, if_pos rfl, fMo_row_98, if_pos rfl, fMo_row_109]
          simp only [nm, if_true, Int32.add_zero]
          rw [show nI i + (2 : Int32) = nI (i + 2) from nI_add i 2]
          have ek : (mI μ 84 6 (μ.1 84 6 + 1)).1 86 = μ.1 86 := by funext j; rw [mI_at, if_neg (by omega)]
          obtain ⟨v, g', μ', n', q1, q2, q3, q4, q5, q6, q7, q8⟩ := ih (i + 2) n fu fm c (gI g 0 15 (g.1 0 15 + 1)) (mI μ 84 6 (μ.1 84 6 + 1)) (by omega) (by omega) (by omega) (by omega) (by omega) (by rw [ek]; exact K) (by rw [ek]; exact P.ga (GA.put (lo := 0) (hi := 0) (by decide) (by decide)) (by decide) (by decide)) (by rw [gI_at, if_neg (by decide), h33]) (fun j hj => by rw [gI_at, if_neg (by omega), mI_at, if_neg (by omega)]; exact hb j hj) (by simp only [gI_at, mI_at, and_self, if_true]; rw [← hd, Int32.add_assoc, Int32.add_comm 1, Int32.add_assoc])
          exact ⟨v, g', μ', n', q1, q2, q3, q4, fun p j x y => by rw [q5 p j x y, gI_at, if_neg (by omega)], q6, fun p j x y => by rw [q7 p j x y, mI_at, if_neg (by omega)], q8⟩
        by_cases hn : n = 7
        · subst hn
          rw [if_pos (by decide), if_pos (by decide)]
          exact dust _ rfl
        · rw [if_neg (show ¬ (7 : Int32) ≤ nI n from nI_ge (b := 7) (by omega) (by decide)), if_neg (show ¬ (7 : Int32) ≤ nI n from nI_ge (b := 7) (by omega) (by decide))]
          simp only [nI_1, rd_nI (show i < 400 by omega) (show 400 < 2 ^ 31 by decide), rd_nI (show i + 1 < 400 by omega) (show 400 < 2 ^ 31 by decide), (hb i (by omega)).1, (hb i (by omega)).2, (hb (i + 1) (by omega)).1, (hb (i + 1) (by omega)).2]
          rcases canBB (hB i) (hB (i + 1)) with ⟨⟨x1, x2⟩, f1, f2, s1, s2⟩ | ⟨f1, f2⟩
          · rw [f1, f2, Option.bind_some, Option.bind_some, if_neg n10, if_neg n10, fMo_row_73, if_neg n10, rd_nI (by omega) (by decide), nI_1, rd_nI (by omega) (by decide), (hb i (by omega)).2, (hb (i + 1) (by omega)).2, s1, s2]
            obtain ⟨g1, μ1, a1, a2, a3, a4, a5, a6⟩ := adds_sim K P (by omega) x1 x2 (nI (B (i + 1)))
            rw [a1, a2, Option.bind_some, Option.bind_some, fMo_row_98, if_neg n10, fMo_row_109]
            simp only [n10, if_false, nm, Int32.add_zero]
            rw [show nI i + (2 : Int32) = nI (i + 2) from nI_add i 2]
            have e6 : mI μ1 84 6 (μ1.1 84 6) = μ1 := by
              refine Prod.ext (funext fun p => funext fun j => ?_) rfl
              show (mI μ1 84 6 (μ1.1 84 6)).1 p j = _
              rw [mI_at]; split
              · rename_i q; rw [q.1, q.2]
              · rfl
            rw [e6]
            obtain ⟨v, g', μ', n', q1, q2, q3, q4, q5, q6, q7, q8⟩ := ih (i + 2) (n + 1) fu fm (c + 1) g1 μ1 (by omega) (by omega) (by omega) (by omega) (by omega) a3 a4 (by rw [a5.1 33 (by decide), h33]) (fun j hj => by rw [a5.1 34 (by decide), a6 91 j (by decide)]; exact hb j hj) (by rw [a5.1 0 (by decide), a6 84 6 (by decide)]; exact hd)
            exact ⟨v, g', μ', n', q1, q2, q3, q4, fun p j x y => by rw [q5 p j x y, a5.1 p x], by rw [q6, a5.2], fun p j x y => by rw [q7 p j x y, a6 p j x], q8⟩
          · rw [f1, f2, Option.bind_some, Option.bind_some, if_pos rfl, if_pos rfl]
            exact dust _ rfl
theorem row_CR (hN : 3000 ≤ N) (h : RR ln M g μ) : CR ln M (fSx_row N ln g) (fMo_row N μ) := by
  have h0 := h
  obtain ⟨Lw, n, w, L, K, P, h1, ⟨t, B, t1, t2, t3, t4, t5, t6⟩, h3, h4, h5⟩ := h
  rw [fSx_row, fMo_row, t3, t4]
  simp only [nm]
  by_cases ht : t = 0
  · subst ht
    rw [if_pos (show nI 0 = 0 from rfl), if_pos (show nI 0 = 0 from rfl)]
    have e : mI μ 84 13 0 = μ := by
      refine Prod.ext (funext fun p => funext fun j => ?_) rfl
      show (mI μ 84 13 0).1 p j = _
      rw [mI_at]; split
      · rename_i q; rw [q.1, q.2, t4]; rfl
      · rfl
    rw [e]
    exact (refuse_CR h0 (by decide)).wrap
  · rw [if_neg (nI_ne0 (by omega) (by omega)), if_neg (nI_ne0 (by omega) (by omega)), show nI t - nI t / (2 : Int32) * (2 : Int32) = nI (t % 2) from pk_rem (by omega) (by decide) (by decide)]
    generalize hμ : mI (mI μ 84 13 0) 84 6 (nI (t % 2)) = μ1
    have em : ∀ p j, (p = 84 → j ≠ 13 ∧ j ≠ 6) → μ1.1 p j = μ.1 p j := by
      intro p j x; subst hμ; rw [mI_at, if_neg (by omega), mI_at, if_neg (by omega)]
    have ek : μ1.1 86 = μ.1 86 := funext fun j => em 86 j (by omega)
    obtain ⟨v, g', μ', n', q1, q2, q3, q4, q5, q6, q7, q8⟩ := row_loop (N := N) (Lw := Lw) (w := w) (L := L) (B := B) t2 t1 t 0 n N N 0 (gI g 0 15 0) μ1 (by omega) (by omega) rfl (by omega) (by omega) (by rw [ek]; exact K) (by rw [ek]; exact P.ga (GA.put (lo := 0) (hi := 0) (by decide) (by decide)) (by decide) (by decide)) (by rw [gI_at, if_neg (by decide), t3]) (fun j hj => by rw [gI_at, if_neg (by omega), em 91 j (by omega)]; exact t5 j hj) (by subst hμ; simp [gI_at, mI_at])
    refine ⟨v, _, _, q1, q2, RR.told ?_⟩
    have eg : ∀ p j, (p < 1 ∨ 4 < p) → p ≠ 29 → (p = 33 → j ≠ 0) → (p = 0 → j ≠ 15) → (gI (gI g' 33 0 0) 29 0 0).1 p j = g.1 p j := by
      intro p j a b c d; rw [gI_at, if_neg (by omega), gI_at, if_neg (by omega), q5 p j a d, gI_at, if_neg (by omega)]
    have er : ∀ p, 4 < p → p ≠ 29 → p ≠ 33 → (gI (gI g' 33 0 0) 29 0 0).1 p = g.1 p := fun p a b c => funext fun j => eg p j (.inr a) b (fun x => absurd x c) (by omega)
    have em2 : ∀ p j, p ≠ 86 → (p = 84 → j ≠ 13 ∧ j ≠ 6 ∧ j ≠ 33) → (mI μ' 84 33 0).1 p j = μ.1 p j := by
      intro p j a b; rw [mI_at, if_neg (by omega), q7 p j a (by omega), em p j (by omega)]
    have mr : ∀ p, p ≠ 86 → p ≠ 84 → (mI μ' 84 33 0).1 p = μ.1 p := fun p a b => funext fun j => em2 p j a (fun x => absurd x b)
    have ek2 : (mI μ' 84 33 0).1 86 = μ'.1 86 := by funext j; rw [mI_at, if_neg (by omega)]
    refine ⟨Lw, n', w, L, by rw [ek2]; exact q3, ?_, ?_, ?_, ?_, ?_, ?_⟩
    · rw [ek2]
      exact (q4.ga (GA.put (lo := 33) (hi := 33) (p := 33) (j := 0) (v := 0) (by decide) (by decide)) (by decide) (by decide)).ga (GA.put (lo := 29) (hi := 29) (by decide) (by decide)) (by decide) (by decide)
    · refine h1.clear n' (by simp [gI_at]) ?_ (by simp [mI_at])
      rw [gI_at, if_neg (by decide), gI_at, if_neg (by decide), q5 29 1 (by decide) (by decide), gI_at, if_neg (by decide)]
    · refine ⟨0, B, t1, by decide, by simp [gI_at]; rfl, ?_, fun j hj => absurd hj (by omega), by rw [mr 90 (by decide) (by decide)]; exact t6⟩
      rw [mI_at, if_neg (by decide), q7 84 13 (by decide) (by decide)]; subst hμ; simp [mI_at]; rfl
    · unfold RM
      rw [eg 33 2 (by decide) (by decide) (by decide) (by decide), eg 0 16 (by decide) (by decide) (by decide) (by decide), eg 0 14 (by decide) (by decide) (by decide) (by decide), er 83 (by decide) (by decide) (by decide), em2 84 14 (by decide) (by decide), em2 84 43 (by decide) (by decide), em2 84 0 (by decide) (by decide), mr 85 (by decide) (by decide)]
      refine ⟨h3.1, h3.2.1, ?_, h3.2.2.2⟩
      rw [gI_at, if_neg (by decide), gI_at, if_neg (by decide), mI_at, if_neg (by decide), q8]
    · exact h4.frame (by rw [er 19 (by decide) (by decide) (by decide)]) (er 20 (by decide) (by decide) (by decide)) (er 22 (by decide) (by decide) (by decide)) (em2 84 51 (by decide) (by decide)) (mr 109 (by decide) (by decide))
    · exact h5.frame (fun p hp => er p (by omega) (by omega) (by omega)) (fun p _ => by show g'.2.2 p = _; rw [q6]; rfl) (mr 87 (by decide) (by decide)) (mr 88 (by decide) (by decide))
end
