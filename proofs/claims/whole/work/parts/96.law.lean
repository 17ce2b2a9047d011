/-! ===== law ===== -/
theorem AtLo.law {T V : Nat → Int32} {n : Nat} (h0 : T n = 0) : ∀ {cs : List Cl} {i : Nat}, AtLo false T V n cs i → AtL T V n cs i ∧ ∀ c ∈ cs, okC c := by
  intro cs
  induction cs with
  | nil => intro i h; exact ⟨h, fun c hc => by simp at hc⟩
  | cons c cs ih =>
    intro i h
    obtain ⟨j, ⟨k, h1, h2⟩, h3, h4, h5⟩ := h
    obtain ⟨q1, q2⟩ := ih h5
    have hd : HdL T V c.v c.a i k := by
      unfold Hdo at h1
      rw [if_neg (by decide)] at h1
      exact h1.1
    obtain ⟨a1, a2⟩ := hd
    have hstop : stopS (T k) := by
      cases ht : c.t with
      | none =>
        rw [ht] at h2
        obtain ⟨rfl, _⟩ := h2
        exact (stop_end h0 h3).1
      | some t =>
        rw [ht] at h2
        rw [h2.1]; unfold stopS isMul isAdd; decide
    refine ⟨⟨j, ⟨a1, ?_, ?_⟩, h3, h4, q1⟩, fun x hx => ?_⟩
    · rcases a2 with ⟨b1, _⟩ | ⟨b1, _⟩ <;> omega
    · rcases a2 with ⟨b1, e, b2, b3, b4⟩ | ⟨b1, b2, b3⟩
      · rw [b2]; exact ⟨b1, b3, k, b4, h2, hstop⟩
      · rw [b2]; subst b3; exact ⟨b1, h2⟩
    · rcases List.mem_cons.1 hx with rfl | hx
      · rcases a2 with ⟨b1, e, b2, _, _⟩ | ⟨b1, b2, _⟩
        · exact ⟨by omega, fun _ => ⟨e, b2⟩, fun z => by omega⟩
        · exact ⟨by omega, fun z => by omega, fun _ => b2⟩
      · exact q2 x hx
theorem LA.part {k k' : Nat → Int32} {f : Nat} {cs : List Cl} (h : LA k f cs) (h47 : k' (47 + f) = k (47 + f)) (hT : ∀ x, 400 * f ≤ x → x < 400 * f + 400 → k' (54 + x) = k (54 + x) ∧ k' (2854 + x) = k (2854 + x)) : LA k' f cs := by
  obtain ⟨z, z1, z2, z3, z4⟩ := h
  refine ⟨z, by rw [h47, z1], z2, z3, ?_⟩
  have q := z4.shift (a := 0) (T' := fun j => if j < 400 * f + z then k' (54 + j) else 0) (V' := fun j => k' (2854 + j)) (fun x u v => ?_) ?_
  · exact q
  · simp only [Nat.add_zero]
    refine ⟨?_, (hT x u (by omega)).2⟩
    rw [if_pos v, if_pos v, (hT x u (by omega)).1]
  · simp
section
variable {N : Nat} {ln ln' : Nat → Nat} {M M' : Nat} {g g' : sw_g} {μ μ' : sw_m}
theorem RR.read (h : RR ln M g μ) (a : ∀ p j, p ≠ 33 → (p < 35 ∨ 41 < p) → g'.1 p j = g.1 p j) (ar : g'.2.2 = g.2.2) (b : ∀ p j, p ≠ 93 → p ≠ 94 → p ≠ 95 → (p = 84 → j < 8 ∨ (10 < j ∧ j < 13) ∨ (14 < j ∧ j < 18) ∨ 21 < j) → μ'.1 p j = μ.1 p j) (c1 : g'.1 33 0 = 0) (c2 : μ'.1 84 13 = 0) (c3 : g'.1 33 2 = μ'.1 84 14) : RR ln M g' μ' := by
  obtain ⟨Lw, n, w, L, K, P, h1, h2, h3, h4, h5⟩ := h
  have gs : ∀ p, p ≠ 33 → (p < 35 ∨ 41 < p) → g'.1 p = g.1 p := fun p x y => funext fun j => a p j x y
  have ms : ∀ p, p ≠ 84 → p ≠ 93 → p ≠ 94 → p ≠ 95 → μ'.1 p = μ.1 p := fun p x y z u => funext fun j => b p j y z u (fun e => absurd e x)
  have k1 : μ'.1 86 = μ.1 86 := ms 86 (by decide) (by decide) (by decide) (by decide)
  refine ⟨Lw, n, w, L, by rw [k1]; exact K, ?_, h1.frame (gs 29 (by decide) (by decide)) (gs 30 (by decide) (by decide)) (b 84 33 (by decide) (by decide) (by decide) (by omega)) (ms 98 (by decide) (by decide) (by decide) (by decide)), ?_, ?_, h4.frame (by rw [gs 19 (by decide) (by decide)]) (gs 20 (by decide) (by decide)) (gs 22 (by decide) (by decide)) (b 84 51 (by decide) (by decide) (by decide) (by omega)) (ms 109 (by decide) (by decide) (by decide) (by decide)), h5.frame (fun p hp => gs p (by omega) (by omega)) (fun p _ => by rw [ar]) (ms 87 (by decide) (by decide) (by decide) (by decide)) (ms 88 (by decide) (by decide) (by decide) (by decide))⟩
  · rw [k1]; exact P.frame (fun p x y => gs p (by omega) (by omega)) (fun p x _ => gs p (by omega) (by omega)) (by rw [ar]) (by rw [ar])
  · obtain ⟨t, B, t1, t2, t3, t4, t5, t6⟩ := h2
    refine ⟨0, B, t1, by decide, c1, c2, fun j hj => by omega, fun j hj => ?_⟩
    rw [ms 90 (by decide) (by decide) (by decide) (by decide)]; exact t6 j hj
  · obtain ⟨a1, a2, a3, a4, a5, a6, a7, a8, a9⟩ := h3
    refine ⟨c3, ?_, ?_, ?_, ?_, ?_, ?_, ?_, ?_⟩
    · rw [gs 0 (by decide) (by decide), b 84 43 (by decide) (by decide) (by decide) (by omega)]; exact a2
    · rw [gs 0 (by decide) (by decide), b 84 6 (by decide) (by decide) (by decide) (by omega)]; exact a3
    · rw [gs 0 (by decide) (by decide), b 84 0 (by decide) (by decide) (by decide) (by omega)]; exact a4
    all_goals rw [gs 83 (by decide) (by decide), ms 85 (by decide) (by decide) (by decide) (by decide)]
    · exact a5
    · exact a6
    · exact a7
    · exact a8
    · exact a9
theorem copy_eq {q qn : Nat} (hq : q + 6 < qn) {cs : List Cl} {u : Nat} {C : Nat → Int32} (hl : cs.length ≤ 12) (hok : ∀ c ∈ cs, okC c) (h0 : g.1 q 0 = nI cs.length) (h6 : g.1 q 6 = nI u) (hu : u ≤ 500) (hC : g.1 (q + 6) = C) (hR : ∀ z c, cs[z]? = some c → RowC g q C u 8 z c) (l1 : u ≤ ln (q + 6)) (l2 : ln (q + 6) < 2147483648) (l3 : ln (qn + 6) = u) : ∃ g', fTe_copy_t_12t N ln q qn g = some (some qn, g') ∧ TxC ln g' qn cs ∧ (∀ p, (p < qn ∨ qn + 6 < p) → g'.1 p = g.1 p) ∧ g'.2 = g.2 := by
  rw [fTe_copy_t_12t]
  simp only [nm]
  generalize h1 : gI g qn 0 (g.1 q 0) = g1
  rw [cp_nI (x := 0) (y := 0) (z := 12) (a := 0) (b := 0) (c := 12) rfl rfl rfl (by decide) (by decide) (by decide) (by decide)]
  generalize h2 : gW g1 (qn + 1) (va_cpy (g1.1 (q + 1)) (g1.1 (qn + 1)) 0 0 12) = g2
  rw [cp_nI (x := 0) (y := 0) (z := 12) (a := 0) (b := 0) (c := 12) rfl rfl rfl (by decide) (by decide) (by decide) (by decide)]
  generalize h3 : gW g2 (qn + 2) (va_cpy (g2.1 (q + 2)) (g2.1 (qn + 2)) 0 0 12) = g3
  rw [cp_nI (x := 0) (y := 0) (z := 12) (a := 0) (b := 0) (c := 12) rfl rfl rfl (by decide) (by decide) (by decide) (by decide)]
  generalize h4 : gW g3 (qn + 3) (va_cpy (g3.1 (q + 3)) (g3.1 (qn + 3)) 0 0 12) = g4
  rw [cp_nI (x := 0) (y := 0) (z := 12) (a := 0) (b := 0) (c := 12) rfl rfl rfl (by decide) (by decide) (by decide) (by decide)]
  generalize h5 : gW g4 (qn + 4) (va_cpy (g4.1 (q + 4)) (g4.1 (qn + 4)) 0 0 12) = g5
  rw [cp_nI (x := 0) (y := 0) (z := 12) (a := 0) (b := 0) (c := 12) rfl rfl rfl (by decide) (by decide) (by decide) (by decide)]
  generalize h6' : gW g5 (qn + 5) (va_cpy (g5.1 (q + 5)) (g5.1 (qn + 5)) 0 0 12) = g6
  generalize h7 : gI g6 qn 6 (g6.1 q 6) = g7
  obtain ⟨a1, b1, c1, d1⟩ := putF h1
  obtain ⟨a2, b2, d2⟩ := cpF h2
  obtain ⟨a3, b3, d3⟩ := cpF h3
  obtain ⟨a4, b4, d4⟩ := cpF h4
  obtain ⟨a5, b5, d5⟩ := cpF h5
  obtain ⟨a6, b6, d6⟩ := cpF h6'
  obtain ⟨a7, b7, c7, d7⟩ := putF h7
  have u1 : ∀ p, p < qn → g1.1 p = g.1 p := fun p hp => a1 p (by omega)
  have u2 : ∀ p, p < qn → g2.1 p = g.1 p := fun p hp => (a2 p (by omega)).trans (u1 p hp)
  have u3 : ∀ p, p < qn → g3.1 p = g.1 p := fun p hp => (a3 p (by omega)).trans (u2 p hp)
  have u4 : ∀ p, p < qn → g4.1 p = g.1 p := fun p hp => (a4 p (by omega)).trans (u3 p hp)
  have u5 : ∀ p, p < qn → g5.1 p = g.1 p := fun p hp => (a5 p (by omega)).trans (u4 p hp)
  have u6 : ∀ p, p < qn → g6.1 p = g.1 p := fun p hp => (a6 p (by omega)).trans (u5 p hp)
  have u7 : ∀ p, p < qn → g7.1 p = g.1 p := fun p hp => (a7 p (by omega)).trans (u6 p hp)
  rw [u7 q (by omega), h6, cp_nI (x := 0) (y := 0) (z := nI u) (a := 0) (b := 0) (c := u) rfl rfl rfl (by omega) (by omega) (by omega) (by omega)]
  generalize h8 : gW g7 (qn + 6) (va_cpy (g7.1 (q + 6)) (g7.1 (qn + 6)) 0 0 u) = g8
  obtain ⟨a8, b8, d8⟩ := cpF h8
  have r : ∀ x z, 1 ≤ x → x ≤ 5 → z < 12 → g8.1 (qn + x) z = g.1 (q + x) z := by
    intro x z x1 x5 hz
    rw [a8 _ (by omega), a7 _ (by omega)]
    rcases (show x = 1 ∨ x = 2 ∨ x = 3 ∨ x = 4 ∨ x = 5 by omega) with rfl | rfl | rfl | rfl | rfl
    · rw [a6 _ (by omega), a5 _ (by omega), a4 _ (by omega), a3 _ (by omega), b2 z hz, u1 _ (by omega)]
    · rw [a6 _ (by omega), a5 _ (by omega), a4 _ (by omega), b3 z hz, u2 _ (by omega)]
    · rw [a6 _ (by omega), a5 _ (by omega), b4 z hz, u3 _ (by omega)]
    · rw [a6 _ (by omega), b5 z hz, u4 _ (by omega)]
    · rw [b6 z hz, u5 _ (by omega)]
  refine ⟨g8, rfl, ⟨?_, hl, u, C, ?_, by omega, by omega, by omega, fun x hx => ?_, fun z c hz => ⟨hok c (List.mem_of_getElem? hz), ?_⟩⟩, fun p hp => ?_, by rw [d8, d7, d6, d5, d4, d3, d2, d1]⟩
  · rw [a8 qn (by omega), b7 0 (by decide), a6 qn (by omega), a5 qn (by omega), a4 qn (by omega), a3 qn (by omega), a2 qn (by omega), c1, h0]
  · rw [a8 qn (by omega), c7, u6 q (by omega), h6]
  · rw [b8 x hx, u7 (q + 6) (by omega), hC]
  · have := get_lt hz
    exact (hR z c hz).mono (fun x x1 x5 => r x z x1 x5 (by omega)) (Nat.le_refl _) (fun _ _ => rfl)
  · rw [a8 p (by omega), a7 p (by omega), a6 p (by omega), a5 p (by omega), a4 p (by omega), a3 p (by omega), a2 p (by omega), a1 p (by omega)]
theorem lays_15 {f m : Nat} {T V : Nat → Int32} (hf : f ≤ 6) (hm : m ≤ 400) : ∀ (d j fu : Nat) (μ : sw_m), j + d = m → d < fu → μ.1 84 18 = nI m → (∀ x, x < m → μ.1 93 x = T x ∧ μ.1 94 x = V x) → ∃ μ', fMo_lays_15 N fu μ (nI f) (nI j) = some μ' ∧ (∀ x, j ≤ x → x < m → μ'.1 86 (54 + 400 * f + x) = T x ∧ μ'.1 86 (2854 + 400 * f + x) = V x) ∧ (∀ y, (y < 54 + 400 * f + j ∨ (54 + 400 * f + m ≤ y ∧ y < 2854 + 400 * f + j) ∨ 2854 + 400 * f + m ≤ y) → μ'.1 86 y = μ.1 86 y) ∧ (∀ p y, p ≠ 86 → μ'.1 p y = μ.1 p y) := by
  intro d
  induction d with
  | zero =>
    intro j fu μ hj hfu h18 hT
    obtain ⟨fu, rfl⟩ : ∃ z, fu = z + 1 := ⟨fu - 1, by omega⟩
    rw [fMo_lays_15, h18, if_pos (nI_le (by omega) (by omega))]
    exact ⟨μ, rfl, fun x a b => by omega, fun _ _ => rfl, fun _ _ _ => rfl⟩
  | succ d ih =>
    intro j fu μ hj hfu h18 hT
    obtain ⟨fu, rfl⟩ : ∃ z, fu = z + 1 := ⟨fu - 1, by omega⟩
    have e1 : (54 : Int32) + (400 : Int32) * nI f + nI j = nI (54 + 400 * f + j) := by rw [show (400 : Int32) * nI f = nI (400 * f) from nI_mul 400 f, show (54 : Int32) + nI (400 * f) = nI (54 + 400 * f) from nI_add 54 _, nI_add]
    have e2 : (2854 : Int32) + (400 : Int32) * nI f + nI j = nI (2854 + 400 * f + j) := by rw [show (400 : Int32) * nI f = nI (400 * f) from nI_mul 400 f, show (2854 : Int32) + nI (400 * f) = nI (2854 + 400 * f) from nI_add 2854 _, nI_add]
    obtain ⟨t1, t2⟩ := hT j (by omega)
    rw [fMo_lays_15, h18, if_neg (nI_ge (by omega) (by omega)), rd_nI (by omega) (by decide), e1, wr_nI (by omega) (by decide), rd_nI (by omega) (by decide), e2, wr_nI (by omega) (by decide), t1]
    rw [show (mI μ 86 (54 + 400 * f + j) (T j)).1 94 j = V j by rw [mI_at, if_neg (by omega), t2]]
    simp only [nm, nI_1]
    generalize hμ2 : mI (mI μ 86 (54 + 400 * f + j) (T j)) 86 (2854 + 400 * f + j) (V j) = μ2
    have f2 : ∀ p y, p ≠ 86 → μ2.1 p y = μ.1 p y := by intro p y hp; subst hμ2; rw [mI_at, if_neg (fun q => hp q.1), mI_at, if_neg (fun q => hp q.1)]
    have f3 : ∀ y, μ2.1 86 y = if y = 2854 + 400 * f + j then V j else if y = 54 + 400 * f + j then T j else μ.1 86 y := by
      intro y; subst hμ2; rw [mI_at]
      by_cases h1 : y = 2854 + 400 * f + j
      · rw [if_pos ⟨rfl, h1⟩, if_pos h1]
      · rw [if_neg (fun q => h1 q.2), if_neg h1, mI_at]
        by_cases h2 : y = 54 + 400 * f + j
        · rw [if_pos ⟨rfl, h2⟩, if_pos h2]
        · rw [if_neg (fun q => h2 q.2), if_neg h2]
    obtain ⟨μ', q1, q2, q3, q4⟩ := ih (j + 1) fu μ2 (by omega) (by omega) (by rw [f2 84 18 (by decide)]; exact h18) (fun x hx => by rw [f2 93 x (by decide), f2 94 x (by decide)]; exact hT x hx)
    refine ⟨μ', q1, fun x a b => ?_, fun y hy => ?_, fun p y hp => by rw [q4 p y hp, f2 p y hp]⟩
    · by_cases hx : x = j
      · subst hx
        rw [q3 _ (by omega), q3 _ (by omega), f3, if_neg (by omega), if_pos rfl, f3, if_pos rfl]
        exact ⟨rfl, rfl⟩
      · exact q2 x (by omega) b
    · rw [q3 y (by omega), f3, if_neg (by omega), if_neg (by omega)]
end
