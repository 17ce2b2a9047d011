/-! ===== what can be undone: a ring beside a row ===== -/
theorem cp_nI {β : Type} {n0 n1 a b c : Nat} {f : Nat → Nat → Nat → sw_g} {k : sw_g → Option β} {x y z : Int32} (hx : x = nI a) (hy : y = nI b) (hz : z = nI c) (h1 : a + c ≤ n0) (h2 : b + c ≤ n1) (h3 : n0 < 2 ^ 31) (h4 : n1 < 2 ^ 31) : cp n0 n1 x y z f k = k (f a b c) := by
  subst hx hy hz
  unfold cp
  rw [nI_clamp (by omega), nI_clamp (by omega), nI_clamp (by omega), if_neg]
  simp only [not_or, Nat.not_lt]
  exact ⟨nI_pos (by omega), nI_pos (by omega), nI_pos (by omega), h1, h2⟩
theorem gW_at {g : sw_g} {q : Nat} {f : Nat → Int32} {p j : Nat} : (gW g q f).1 p j = if p = q then f j else g.1 p j := by
  simp only [gW]; split <;> rfl
theorem cpy_at {f g : Nat → Int32} {sp dp n j : Nat} : va_cpy f g sp dp n j = if dp ≤ j ∧ j < dp + n then f (sp + (j - dp)) else g j := rfl
section
variable {N : Nat} {ln : Nat → Nat} {M : Nat} {g : sw_g} {μ : sw_m} {k : Nat → Int32} {Lw : Nat → List Cl} {n w L : Nat}
theorem keep_x (P : PQ ln M g 1 k Lw L) {h nx : Nat} (h1 : g.1 29 0 = nI h) (h2 : h ≤ 16) (h3 : g.1 29 1 = nI nx) (h4 : nx < 16) (what : Int32) : ∃ g', fHi_keep ln g 29 1 what = some g' ∧ g'.1 29 0 = nI (min (h + 1) 16) ∧ g'.1 29 1 = nI ((nx + 1) % 16) ∧ (∀ j, j < 15 → g'.1 30 (16 * nx + j) = k j) ∧ g'.1 30 (16 * nx + 15) = what ∧ (∀ j, j < 16 * nx ∨ 16 * nx + 16 ≤ j → g'.1 30 j = g.1 30 j) ∧ (∀ p, p ≠ 29 → p ≠ 30 → g'.1 p = g.1 p) ∧ g'.2 = g.2 := by
  rw [fHi_keep, h3]
  simp only [nm]
  rw [show nI nx * (16 : Int32) = nI (nx * 16) from nI_mul nx 16, cp_nI (x := 0) (z := 7) (a := 0) (b := nx * 16) (c := 7) rfl rfl rfl (by decide) (by omega) (by decide) (by decide), show nI (nx * 16) + (7 : Int32) = nI (nx * 16 + 7) from nI_add _ 7, cp_nI (x := 0) (z := 7) (a := 0) (b := nx * 16 + 7) (c := 7) rfl rfl rfl (by decide) (by omega) (by decide) (by decide), rd_K 0 0 4 (by decide) (by decide), show nI (nx * 16) + (14 : Int32) = nI (nx * 16 + 14) from nI_add _ 14, wr_nI (by omega) (by decide), show nI (nx * 16) + (15 : Int32) = nI (nx * 16 + 15) from nI_add _ 15, wr_nI (by omega) (by decide)]
  have e1 : (gI (gI (gW (gW g (29 + 1) (va_cpy (g.1 (1 + 1)) (g.1 (29 + 1)) 0 (nx * 16) 7)) (29 + 1) (va_cpy ((gW g (29 + 1) (va_cpy (g.1 (1 + 1)) (g.1 (29 + 1)) 0 (nx * 16) 7)).1 (1 + 3)) ((gW g (29 + 1) (va_cpy (g.1 (1 + 1)) (g.1 (29 + 1)) 0 (nx * 16) 7)).1 (29 + 1)) 0 (nx * 16 + 7) 7)) (29 + 1) (nx * 16 + 14) ((gW (gW g (29 + 1) (va_cpy (g.1 (1 + 1)) (g.1 (29 + 1)) 0 (nx * 16) 7)) (29 + 1) (va_cpy ((gW g (29 + 1) (va_cpy (g.1 (1 + 1)) (g.1 (29 + 1)) 0 (nx * 16) 7)).1 (1 + 3)) ((gW g (29 + 1) (va_cpy (g.1 (1 + 1)) (g.1 (29 + 1)) 0 (nx * 16) 7)).1 (29 + 1)) 0 (nx * 16 + 7) 7)).1 (1 + 4) 0)) (29 + 1) (nx * 16 + 15) what).1 29 1 = nI nx := by
    rw [gI_at, if_neg (by omega), gI_at, if_neg (by omega), gW_at, if_neg (by omega), gW_at, if_neg (by omega), h3]
  rw [e1, nI_1, show nI (nx + 1) - nI (nx + 1) / (16 : Int32) * (16 : Int32) = nI ((nx + 1) % 16) from pk_rem (by omega) (by decide) (by decide)]
  generalize hg : gI (gI (gW (gW g (29 + 1) (va_cpy (g.1 (1 + 1)) (g.1 (29 + 1)) 0 (nx * 16) 7)) (29 + 1) (va_cpy ((gW g (29 + 1) (va_cpy (g.1 (1 + 1)) (g.1 (29 + 1)) 0 (nx * 16) 7)).1 (1 + 3)) ((gW g (29 + 1) (va_cpy (g.1 (1 + 1)) (g.1 (29 + 1)) 0 (nx * 16) 7)).1 (29 + 1)) 0 (nx * 16 + 7) 7)) (29 + 1) (nx * 16 + 14) ((gW (gW g (29 + 1) (va_cpy (g.1 (1 + 1)) (g.1 (29 + 1)) 0 (nx * 16) 7)) (29 + 1) (va_cpy ((gW g (29 + 1) (va_cpy (g.1 (1 + 1)) (g.1 (29 + 1)) 0 (nx * 16) 7)).1 (1 + 3)) ((gW g (29 + 1) (va_cpy (g.1 (1 + 1)) (g.1 (29 + 1)) 0 (nx * 16) 7)).1 (29 + 1)) 0 (nx * 16 + 7) 7)).1 (1 + 4) 0)) (29 + 1) (nx * 16 + 15) what = g6
  have e6 : ∀ p, p ≠ 30 → g6.1 p = g.1 p := by
    intro p hp; subst hg; funext j
    rw [gI_at, if_neg (by omega), gI_at, if_neg (by omega), gW_at, if_neg (by omega), gW_at, if_neg (by omega)]
  have e30 : ∀ j, g6.1 30 j = if j = nx * 16 + 15 then what else if j = nx * 16 + 14 then g.1 5 0 else if nx * 16 + 7 ≤ j ∧ j < nx * 16 + 7 + 7 then g.1 4 (j - (nx * 16 + 7)) else if nx * 16 ≤ j ∧ j < nx * 16 + 7 then g.1 2 (j - nx * 16) else g.1 30 j := by
    intro j; subst hg
    simp only [gI_at, gW_at, cpy_at]
    simp
  have e0 : (gI g6 29 1 (nI ((nx + 1) % 16))).1 29 0 = nI h := by rw [gI_at, if_neg (by omega), e6 29 (by decide), h1]
  rw [e0, nI_1, show jmin (nI (h + 1)) 16 = nI (min (h + 1) 16) by
    unfold jmin
    by_cases hh : h = 16
    · subst hh; decide
    · rw [if_neg (show ¬ (16 : Int32) < nI (h + 1) from nI_nlt (a := 16) (by omega) (by decide)), Nat.min_eq_left (by omega)]]
  refine ⟨_, rfl, by simp [gI_at], by simp [gI_at], fun j hj => ?_, ?_, fun j hj => ?_, fun p a b => ?_, ?_⟩
  · rw [gI_at, if_neg (by omega), gI_at, if_neg (by omega), e30]
    by_cases h14 : j = 14
    · subst h14; rw [if_neg (by omega), if_pos (by omega)]; exact P.2.2.1.1
    · by_cases h7 : 7 ≤ j
      · rw [if_neg (by omega), if_neg (by omega), if_pos (by omega), show 16 * nx + j - (nx * 16 + 7) = j - 7 by omega]
        have := (P.2.1 (j - 7) (by omega)).2.2
        rw [show 7 + (j - 7) = j by omega] at this
        exact this
      · rw [if_neg (by omega), if_neg (by omega), if_neg (by omega), if_pos (by omega), show 16 * nx + j - nx * 16 = j by omega]
        exact (P.2.1 j (by omega)).1
  · rw [gI_at, if_neg (by omega), gI_at, if_neg (by omega), e30, if_pos (by omega)]
  · rw [gI_at, if_neg (by omega), gI_at, if_neg (by omega), e30, if_neg (by omega), if_neg (by omega), if_neg (by omega), if_neg (by omega)]
  · funext j; rw [gI_at, if_neg (by omega), gI_at, if_neg (by omega), e6 p b]
  · subst hg; rfl
theorem keeps_54 {h : Nat} (hh : h < 16) (what : Int32) : ∀ (d j fu : Nat) (μ : sw_m), j + d = 15 → d < fu → μ.1 84 33 = nI h → ∃ μ', fMo_keeps_54 N fu μ what 16 (nI j) = some μ' ∧ μ'.1 84 33 = nI (h + 1) ∧ (∀ i, j ≤ i → i < 15 → μ'.1 98 (16 * h + i) = μ.1 86 i) ∧ μ'.1 98 (16 * h + 15) = what ∧ (∀ p i, (p = 84 → i ≠ 33) → (p = 98 → i < 16 * h + j ∨ 16 * h + 16 ≤ i) → μ'.1 p i = μ.1 p i) := by
  intro d
  induction d with
  | zero =>
    intro j fu μ hj hfu h33
    obtain ⟨fu, rfl⟩ : ∃ z, fu = z + 1 := ⟨fu - 1, by omega⟩
    obtain rfl : j = 15 := by omega
    rw [fMo_keeps_54, if_pos (by decide), h33, show (16 : Int32) * nI h = nI (16 * h) from nI_mul 16 h, show nI (16 * h) + (15 : Int32) = nI (16 * h + 15) from nI_add _ 15, wr_nI (by omega) (by decide)]
    simp only [nm]
    rw [show (mI μ 98 (16 * h + 15) what).1 84 33 = nI h by rw [mI_at, if_neg (by omega), h33], nI_1]
    refine ⟨_, rfl, by simp [mI_at], fun i a b => by omega, by simp [mI_at], fun p i a b => by rw [mI_at, if_neg (by omega), mI_at, if_neg (by omega)]⟩
  | succ d ih =>
    intro j fu μ hj hfu h33
    obtain ⟨fu, rfl⟩ : ∃ z, fu = z + 1 := ⟨fu - 1, by omega⟩
    rw [fMo_keeps_54, if_neg (show ¬ (15 : Int32) ≤ nI j from nI_ge (b := 15) (by omega) (by decide)), rd_nI (by omega) (by decide), h33, show (16 : Int32) * nI h = nI (16 * h) from nI_mul 16 h, nI_add, wr_nI (by omega) (by decide)]
    simp only [nm, nI_1]
    obtain ⟨μ', e1, e2, e3, e4, e5⟩ := ih (j + 1) fu (mI μ 98 (16 * h + j) (μ.1 86 j)) (by omega) (by omega) (by rw [mI_at, if_neg (by omega), h33])
    refine ⟨μ', e1, e2, fun i a b => ?_, e4, fun p i a b => ?_⟩
    · by_cases hij : i = j
      · subst hij; rw [e5 98 _ (by omega) (by omega), mI_at, if_pos ⟨rfl, rfl⟩]
      · rw [e3 i (by omega) b, mI_at, if_neg (by omega)]
    · rw [e5 p i a (by omega), mI_at, if_neg (by omega)]
theorem keeps_14 (what : Int32) : ∀ (d j fu : Nat) (μ : sw_m), j + d = 240 → d < fu → 16 < N → μ.1 84 33 = nI 16 → ∃ μ', fMo_keeps_14 N fu μ what 16 (nI j) = some μ' ∧ μ'.1 84 33 = nI 16 ∧ (∀ i, j ≤ i → i < 240 → μ'.1 98 i = μ.1 98 (i + 16)) ∧ (∀ i, i < 15 → μ'.1 98 (240 + i) = μ.1 86 i) ∧ μ'.1 98 255 = what ∧ (∀ p i, (p = 84 → i ≠ 33) → (p = 98 → i < j) → μ'.1 p i = μ.1 p i) := by
  intro d
  induction d with
  | zero =>
    intro j fu μ hj hfu hN h33
    obtain ⟨fu, rfl⟩ : ∃ z, fu = z + 1 := ⟨fu - 1, by omega⟩
    obtain rfl : j = 240 := by omega
    rw [fMo_keeps_14, if_pos (by decide)]
    simp only [nm]
    rw [h33, show nI 16 - (1 : Int32) = nI 15 from nI_pred 15]
    obtain ⟨μ', e1, e2, e3, e4, e5⟩ := keeps_54 (N := N) (h := 15) (by decide) what 15 0 N (mI μ 84 33 (nI 15)) rfl (by omega) (by simp [mI_at])
    refine ⟨μ', e1, e2, fun i a b => by omega, fun i hi => ?_, e4, fun p i a b => ?_⟩
    · have := e3 i (by omega) hi
      rw [show 16 * 15 + i = 240 + i by omega] at this
      rw [this, mI_at, if_neg (by omega)]
    · rw [e5 p i a (by omega), mI_at, if_neg (by omega)]
  | succ d ih =>
    intro j fu μ hj hfu hN h33
    obtain ⟨fu, rfl⟩ : ∃ z, fu = z + 1 := ⟨fu - 1, by omega⟩
    rw [fMo_keeps_14, show (15 : Int32) * 16 = nI 240 by decide, if_neg (nI_ge (by omega) (by decide)), show nI j + (16 : Int32) = nI (j + 16) from nI_add j 16, rd_nI (by omega) (by decide), wr_nI (by omega) (by decide)]
    simp only [nm, nI_1]
    obtain ⟨μ', e1, e2, e3, e4, e5, e6⟩ := ih (j + 1) fu (mI μ 98 j (μ.1 98 (j + 16))) (by omega) (by omega) hN (by rw [mI_at, if_neg (by omega), h33])
    refine ⟨μ', e1, e2, fun i a b => ?_, fun i hi => ?_, e5, fun p i a b => ?_⟩
    · by_cases hij : i = j
      · subst hij; rw [e6 98 _ (by omega) (by omega), mI_at, if_pos ⟨rfl, rfl⟩]
      · rw [e3 i (by omega) b, mI_at, if_neg (by omega)]
    · rw [e4 i hi, mI_at, if_neg (by omega)]
    · rw [e6 p i a (by omega), mI_at, if_neg (by omega)]
/-- both keep how it was -/
theorem keep_sim (hN : 3000 ≤ N) (K : KI (μ.1 86) Lw n w L) (P : PQ ln M g 1 (μ.1 86) Lw L) (H : RH g μ n) (what : Int32) : ∃ g' μ', fHi_keep ln g 29 1 what = some g' ∧ fMo_keeps N μ what = some μ' ∧ RH g' μ' n ∧ (∀ p, p ≠ 29 → p ≠ 30 → g'.1 p = g.1 p) ∧ g'.2 = g.2 ∧ (∀ p i, p ≠ 98 → (p = 84 → i ≠ 33) → μ'.1 p i = μ.1 p i) := by
  obtain ⟨h, nx, h1, h2, h3, h4, h5, h6⟩ := H
  obtain ⟨g', a1, a2, a3, a4, a5, a6, a7, a8⟩ := keep_x P h1 h3 h4 h5 what
  rw [fMo_keeps, h2]
  by_cases hh : h = 16
  · subst hh
    rw [if_pos (show nI 16 = 16 from rfl)]
    obtain ⟨μ', e1, e2, e3, e4, e5, e6⟩ := keeps_14 (N := N) what 240 0 N μ rfl (by omega) (by omega) h2
    refine ⟨g', μ', a1, e1, ⟨16, (nx + 1) % 16, a2, e2, by decide, a3, by omega, fun i hi => ?_⟩, a7, a8, fun p i x y => e6 p i y (fun q => absurd q x)⟩
    by_cases h15 : i = 15
    · subst h15
      refine ⟨fun j hj => ?_, ?_⟩
      · rw [show (nx + 1) % 16 + 16 - 16 + 15 = (nx + 1) % 16 + 15 by omega, show ((nx + 1) % 16 + 15) % 16 = nx by omega]
        by_cases hj15 : j = 15
        · subst hj15; rw [a5, e5]
        · rw [a4 j (by omega), show 16 * 15 + j = 240 + j by omega, e4 j (by omega)]
      · have : CO n (fun j => μ'.1 98 (16 * 15 + j)) ↔ CO n (μ.1 86) := by
          have q : ∀ j, j < 15 → μ'.1 98 (16 * 15 + j) = μ.1 86 j := fun j hj => by rw [show 16 * 15 + j = 240 + j by omega, e4 j hj]
          have hn := K.n7
          unfold CO
          constructor
          · intro ⟨x, y⟩
            refine ⟨fun c hc => ?_, ?_⟩
            · have := x c hc
              simp only [q c (by omega), q (7 + c) (by omega)] at this
              exact this
            · simp only [q 14 (by omega)] at y; exact y
          · intro ⟨x, y⟩
            refine ⟨fun c hc => ?_, ?_⟩
            · simp only [q c (by omega), q (7 + c) (by omega)]; exact x c hc
            · simp only [q 14 (by omega)]; exact y
        exact this.2 K.co
    · obtain ⟨b1, b2⟩ := h6 (i + 1) (by omega)
      have q : ∀ j, j < 16 → μ'.1 98 (16 * i + j) = μ.1 98 (16 * (i + 1) + j) := fun j hj => by
        rw [e3 _ (by omega) (by omega), show 16 * i + j + 16 = 16 * (i + 1) + j by omega]
      refine ⟨fun j hj => ?_, ?_⟩
      · rw [q j hj, ← b1 j hj, show ((nx + 1) % 16 + 16 - 16 + i) % 16 = (nx + 16 - 16 + (i + 1)) % 16 by omega]
        exact a6 _ (by omega)
      · have hn := K.n7
        refine ⟨fun c hc => ?_, ?_⟩
        · simp only [q c (by omega), q (7 + c) (by omega)]; exact b2.1 c hc
        · simp only [q 14 (by omega)]; exact b2.2
  · have hl : h < 16 := by omega
    rw [if_neg (show ¬ nI h = 16 from fun q => hh ((eqL 16 16 rfl (by omega) (by decide)).1 q))]
    obtain ⟨μ', e1, e2, e3, e4, e5⟩ := keeps_54 (N := N) hl what 15 0 N μ rfl (by omega) h2
    refine ⟨g', μ', a1, e1, ⟨h + 1, (nx + 1) % 16, by rw [a2]; congr 1; omega, e2, by omega, a3, by omega, fun i hi => ?_⟩, a7, a8, fun p i x y => e5 p i y (fun q => absurd q x)⟩
    have hn := K.n7
    by_cases hih : i = h
    · subst hih
      have q : ∀ j, j < 15 → μ'.1 98 (16 * i + j) = μ.1 86 j := fun j hj => e3 j (by omega) hj
      refine ⟨fun j hj => ?_, ⟨fun c hc => ?_, ?_⟩⟩
      · rw [show ((nx + 1) % 16 + 16 - (i + 1) + i) % 16 = nx by omega]
        by_cases hj15 : j = 15
        · subst hj15; rw [a5, e4]
        · rw [a4 j (by omega), q j (by omega)]
      · simp only [q c (by omega), q (7 + c) (by omega)]; exact K.co.1 c hc
      · simp only [q 14 (by omega)]; exact K.co.2
    · obtain ⟨b1, b2⟩ := h6 i (by omega)
      have q : ∀ j, j < 16 → μ'.1 98 (16 * i + j) = μ.1 98 (16 * i + j) := fun j hj => e5 98 _ (by omega) (by omega)
      refine ⟨fun j hj => ?_, ⟨fun c hc => ?_, ?_⟩⟩
      · rw [q j hj, ← b1 j hj, show ((nx + 1) % 16 + 16 - (h + 1) + i) % 16 = (nx + 16 - h + i) % 16 by omega]
        exact a6 _ (by omega)
      · simp only [q c (by omega), q (7 + c) (by omega)]; exact b2.1 c hc
      · simp only [q 14 (by omega)]; exact b2.2
end
