/-! ===== the reference: what is told of a claim, tilt ===== -/
/-- only the cells of the one who goes along may change -/
def MT (μ μ' : sw_m) : Prop := μ'.2 = μ.2 ∧ ∀ p j, p ≠ 96 → (p = 84 → j < 22 ∨ 25 < j) → μ'.1 p j = μ.1 p j
theorem MT.refl {μ : sw_m} : MT μ μ := ⟨rfl, fun _ _ _ _ => rfl⟩
theorem MT.trans {μ μ1 μ2 : sw_m} (h1 : MT μ μ1) (h2 : MT μ1 μ2) : MT μ μ2 := ⟨h2.1.trans h1.1, fun p j a b => (h2.2 p j a b).trans (h1.2 p j a b)⟩
theorem MT.row {μ μ' : sw_m} (h : MT μ μ') {p : Nat} (h1 : p ≠ 96) (h2 : p ≠ 84) : μ'.1 p = μ.1 p := funext fun j => h.2 p j h1 (fun e => absurd e h2)
theorem MT.k {μ μ' : sw_m} (h : MT μ μ') : μ'.1 86 = μ.1 86 := h.row (by decide) (by decide)
theorem AtL.ok {T V : Nat → Int32} {n : Nat} : ∀ {cs : List Cl} {i : Nat}, AtL T V n cs i → ∀ c ∈ cs, okC c := by
  intro cs
  induction cs with
  | nil => intro i _ c hc; simp at hc
  | cons a cs ih =>
    intro i h c hc
    obtain ⟨j, h1, h2, h3, h4⟩ := h
    rcases List.mem_cons.1 hc with rfl | hc
    · obtain ⟨a1, a2, a3⟩ := h1
      refine ⟨a2, ?_, ?_⟩
      · intro hv
        cases ha : c.a with
        | none => rw [ha] at a3; have := a3.1; omega
        | some e => exact ⟨e, rfl⟩
      · intro hv
        cases ha : c.a with
        | none => rfl
        | some e => rw [ha] at a3; have := a3.1; omega
    · exact ih h4 c hc
section
variable {N : Nat} {μ : sw_m} {Lw : Nat → List Cl} {n w L : Nat}
theorem setsAsked_eq {c : Nat} (hc : c < 7) (p : Int32) : ∃ μ', fMo_setsAsked μ (nI c) p = some μ' ∧ (μ'.2 = μ.2 ∧ ∀ x j, x ≠ 96 → μ'.1 x j = μ.1 x j) ∧ ∀ x, x < 8 → μ'.1 96 (lwc x - 8) = Wk (μ.1 86) c p x := by
  unfold fMo_setsAsked
  simp only [fMo_armOf, Option.bind_some]
  rw [wr_K 0 0 8 (by decide) (by decide), show (15 : Int32) + nI c = nI (15 + c) from nI_add 15 c, rd_nI (by omega) (by decide), wr_K 1 1 8 (by decide) (by decide), wr_K 2 2 8 (by decide) (by decide), wr_K 3 3 8 (by decide) (by decide), rd_K 41 41 5654 (by decide) (by decide), wr_K 4 4 8 (by decide) (by decide), rd_K 42 42 5654 (by decide) (by decide), wr_K 5 5 8 (by decide) (by decide), show (0 : Int32) + nI c = nI (0 + c) from nI_add 0 c, rd_nI (by omega) (by decide), wr_K 6 6 8 (by decide) (by decide), rd_K 14 14 5654 (by decide) (by decide), wr_K 7 7 8 (by decide) (by decide)]
  refine ⟨_, rfl, ⟨rfl, fun y j hy => ?_⟩, fun x hx => ?_⟩
  · simp only [mI_at, hy, false_and, if_false]
  · rcases (show x = 0 ∨ x = 1 ∨ x = 2 ∨ x = 3 ∨ x = 4 ∨ x = 5 ∨ x = 6 ∨ x = 7 by omega) with rfl | rfl | rfl | rfl | rfl | rfl | rfl | rfl <;> simp [mI_at, Wk, lwc]
theorem tells_eq (hN : 3000 ≤ N) (K : KI (μ.1 86) Lw n w L) {v : Nat} (hv : v ≤ 2) {c : Nat} (hc : c < 7) (p high w' : Int32) : ∃ μ', fMo_tells N μ (nI (v + 1)) (nI c) p high w' = some (tlW (Wk (μ.1 86) c p) (lawAt Lw (μ.1 86 46)) v high w', μ') ∧ MT μ μ' := by
  unfold fMo_tells
  rw [rd_K 46 46 5654 (by decide) (by decide)]
  by_cases hf : μ.1 86 46 = -1
  · rw [if_pos hf, hf]
    exact ⟨μ, rfl, MT.refl⟩
  · rw [if_neg hf]
    obtain ⟨f, hfL, hf⟩ := K.fo.resolve_left hf
    have hL6 := K.L6
    obtain ⟨μ3, e3, ⟨f3, f3'⟩, w3⟩ := setsAsked_eq (μ := μ) hc p
    rw [e3, Option.bind_some]
    simp only [nm]
    obtain ⟨z, z1, z2, z3, z4⟩ := K.la f hfL
    have r4 : ∀ j, (mI μ3 84 25 0).1 86 j = μ.1 86 j := fun j => by rw [mI_at, if_neg (by omega), f3' 86 j (by decide)]
    rw [rd_K 46 46 5654 (by decide) (by decide), r4 46, hf, show (400 : Int32) * nI f = nI (400 * f) from nI_mul 400 f]
    have r7 : ∀ j, (mI (mI μ3 84 25 0) 84 22 (nI (400 * f))).1 86 j = μ.1 86 j := fun j => by rw [mI_at, if_neg (by omega), r4 j]
    rw [rd_K 46 46 5654 (by decide) (by decide), r7 46, hf, show (47 : Int32) + nI f = nI (47 + f) from nI_add 47 f, rd_nI (by omega) (by decide), r7 (47 + f), z1, show (mI (mI μ3 84 25 0) 84 22 (nI (400 * f))).1 84 22 = nI (400 * f) by simp [mI_at], nI_add]
    generalize hμ : mI (mI (mI μ3 84 25 0) 84 22 (nI (400 * f))) 84 23 (nI (400 * f + z)) = μ10
    have e10 : ∀ x j, (x = 84 → j ≠ 22 ∧ j ≠ 23 ∧ j ≠ 25) → μ10.1 x j = μ3.1 x j := by
      intro x j h; subst hμ; rw [mI_at, mI_at, mI_at, if_neg (by omega), if_neg (by omega), if_neg (by omega)]
    have hs := st_self μ10
    have e22 : μ10.1 84 22 = nI (400 * f) := by subst hμ; simp [mI_at]
    have C : Cm N μ10 (fun j => if j < 400 * f + z then μ.1 86 (54 + j) else 0) (fun j => μ.1 86 (2854 + j)) (Wk (μ.1 86) c p) false (400 * f + z) := by
      refine ⟨by subst hμ; simp [mI_at], by omega, fun j hj => ?_, fun j hj => ?_, fun j hj => ?_, ?_, fun _ x hx => ?_, fun h => absurd h (by decide)⟩
      · simp only [hj, if_true]; rw [e10 86 _ (by omega), f3' 86 _ (by decide)]
      · simp [show ¬ j < 400 * f + z by omega]
      · rw [e10 86 _ (by omega), f3' 86 _ (by decide)]
      · subst hμ; simp [mI_at]
      · rw [e10 96 _ (by omega)]; exact w3 x hx
    obtain ⟨b', h'⟩ := tells_loop C hN hv (high := high) (Lw f) (400 * f) N w'.toInt64 (μ10.1 84 24) z4 (by omega)
    rw [← e22, hs] at h'
    refine ⟨_, by rw [h', lawAt, if_neg (nI_nm1 (by omega)), nI_clamp (by omega)]; rfl, ?_⟩
    refine ⟨by show μ10.2 = _; subst hμ; exact f3, fun x j h1 h2 => ?_⟩
    simp only [st]
    rw [mI_at, mI_at, if_neg (by omega), if_neg (by omega), e10 x j (by omega), f3' x j h1]
theorem mcount_eq (hN : 3000 ≤ N) (K : KI (μ.1 86) Lw n w L) {c : Nat} (hc : c < 7) (p : Int32) : ∃ μ', fMo_countsAt N μ (nI c) p = some (cntK (μ.1 86) (lawAt Lw (μ.1 86 46)) c p, μ') ∧ MT μ μ' := by
  obtain ⟨μ', e', f'⟩ := tells_eq hN K (v := 0) (by decide) hc p 99 (μ.1 86 c)
  refine ⟨μ', ?_, f'⟩
  rw [fMo_countsAt, show (0 : Int32) + nI c = nI (0 + c) from nI_add 0 c, Nat.zero_add, rd_nI (by omega) (by decide), show fMo_tells N μ (1 : Int32) (nI c) p 99 (μ.1 86 c) = _ from e']
  rfl
theorem mshed_eq (hN : 3000 ≤ N) (K : KI (μ.1 86) Lw n w L) {c : Nat} (hc : c < 7) (p : Int32) : ∃ μ', fMo_shedsAt N μ (nI c) p = some (shdK (μ.1 86) (lawAt Lw (μ.1 86 46)) c p, μ') ∧ MT μ μ' := by
  obtain ⟨μ', e', f'⟩ := tells_eq hN K (v := 1) (by decide) hc p 9 0
  refine ⟨μ', ?_, f'⟩
  rw [fMo_shedsAt, show fMo_tells N μ (2 : Int32) (nI c) p 9 0 = _ from e']
  rfl
theorem mbar_eq (hN : 3000 ≤ N) (K : KI (μ.1 86) Lw n w L) {c : Nat} (hc : c < 7) (p : Int32) : ∃ μ', fMo_isBarred N μ (nI c) p = some (if barK (μ.1 86) (lawAt Lw (μ.1 86 46)) c p then 1 else 0, μ') ∧ MT μ μ' := by
  obtain ⟨μ', e', f'⟩ := tells_eq hN K (v := 2) (by decide) hc p 1 0
  refine ⟨μ', ?_, f'⟩
  rw [fMo_isBarred, show fMo_tells N μ (3 : Int32) (nI c) p 1 0 = _ from e', Option.bind_some]
  by_cases hf : μ.1 86 46 = -1
  · rw [hf]; rfl
  · obtain ⟨f, hfL, hf⟩ := K.fo.resolve_left hf
    have hL6 := K.L6
    have hl : lawAt Lw (μ.1 86 46) = some (Lw f) := by rw [hf, lawAt, if_neg (nI_nm1 (by omega)), nI_clamp (by omega)]
    obtain ⟨z, z1, z2, z3, z4⟩ := K.la f hfL
    rw [hl]
    show (if tlW (Wk (μ.1 86) c p) (some (Lw f)) 2 1 0 = 1 then _ else _) = _
    rw [tlW, tell_bar (told := 0) (Lw f) z4.ok]
    by_cases hb : barB (Wk (μ.1 86) c p) (Lw f) = true
    · simp [barK, hb]
    · simp [barK, hb]
theorem misOn_eq {c : Nat} (hc : c < 7) : fMo_isOn μ (nI c) = some (if μ.1 86 (7 + c) = -1 then 0 else 1, μ) := by
  rw [fMo_isOn, show (7 : Int32) + nI c = nI (7 + c) from nI_add 7 c, rd_nI (by omega) (by decide)]
  split <;> rfl
theorem mpull_eq (hN : 3000 ≤ N) (K : KI (μ.1 86) Lw n w L) {c : Nat} (hc : c < 7) : ∃ μ', fMo_pullOf N μ (nI c) = some (pullK (μ.1 86) (lawAt Lw (μ.1 86 46)) c, μ') ∧ MT μ μ' := by
  rw [fMo_pullOf, misOn_eq hc, Option.bind_some]
  by_cases h : μ.1 86 (7 + c) = -1
  · exact ⟨μ, by simp [h, pullK], MT.refl⟩
  · simp only [h, if_false, show ¬ ((1 : Int32) = 0) by decide]
    obtain ⟨μ', e', f'⟩ := mcount_eq hN K hc (μ.1 86 (7 + c))
    refine ⟨μ', ?_, f'⟩
    rw [show (7 : Int32) + nI c = nI (7 + c) from nI_add 7 c, rd_nI (by omega) (by decide), e', Option.bind_some]
    simp only []
    rw [rd_nI (by omega) (by decide), f'.k]
    simp [fMo_armOf, pullK, h]
theorem many_eq (K : KI (μ.1 86) Lw n w L) : fMo_many μ = some (nI n, μ) := by
  rw [fMo_many, rd_K 43 43 5654 (by decide) (by decide), K.hn]
theorem mtilt_4 (hN : 3000 ≤ N) : ∀ (d c fu : Nat) (μ : sw_m), c + d = n → d < fu → KI (μ.1 86) Lw n w L → ∃ μ', fMo_tiltNow_4 N fu μ (tS (μ.1 86) (lawAt Lw (μ.1 86 46)) n c) (nI c) = some (tS (μ.1 86) (lawAt Lw (μ.1 86 46)) n n, μ') ∧ MT μ μ' := by
  intro d
  induction d with
  | zero =>
    intro c fu μ hc hfu K
    obtain ⟨fu, rfl⟩ : ∃ z, fu = z + 1 := ⟨fu - 1, by omega⟩
    obtain rfl : c = n := by omega
    have := K.n7
    rw [fMo_tiltNow_4, many_eq K, Option.bind_some]
    simp only []
    rw [if_pos (nI_le (Nat.le_refl _) (by omega))]
    exact ⟨μ, rfl, MT.refl⟩
  | succ d ih =>
    intro c fu μ hc hfu K
    obtain ⟨fu, rfl⟩ : ∃ z, fu = z + 1 := ⟨fu - 1, by omega⟩
    have := K.n7
    obtain ⟨μ1, e1, f1⟩ := mpull_eq hN K (c := c) (by omega)
    rw [fMo_tiltNow_4, many_eq K, Option.bind_some]
    simp only []
    rw [if_neg (nI_ge (by omega) (by omega)), e1, Option.bind_some]
    simp only [nm, nI_1]
    have K1 : KI (μ1.1 86) Lw n w L := by rw [f1.k]; exact K
    obtain ⟨μ', e', f'⟩ := ih (c + 1) fu μ1 (by omega) (by omega) K1
    rw [f1.k] at e'
    refine ⟨μ', ?_, f1.trans f'⟩
    rw [← e']
    show _ = fMo_tiltNow_4 N fu μ1 (tS (μ.1 86) (lawAt Lw (μ.1 86 46)) n c + _) (nI (c + 1))
    rw [if_pos (by omega)]
theorem mtilt_eq (hN : 3000 ≤ N) (K : KI (μ.1 86) Lw n w L) : ∃ μ', fMo_tiltNow N μ = some (tiltK (μ.1 86) (lawAt Lw (μ.1 86 46)) n, μ') ∧ MT μ μ' := by
  obtain ⟨μ', e', f'⟩ := mtilt_4 hN n 0 N μ (by omega) (by have := K.n7; omega) K
  exact ⟨μ', by rw [tiltK_n K.n7]; exact e', f'⟩
theorem misClaim_yes (K : KI (μ.1 86) Lw n w L) {c : Nat} (hc : c < n) : fMo_isClaim μ (nI c) = some (1, μ) := by
  have := K.n7
  rw [fMo_isClaim, many_eq K, Option.bind_some]
  simp only [fMo_lies]
  obtain ⟨m, rfl⟩ : ∃ m, n = m + 1 := ⟨n - 1, by omega⟩
  rw [if_neg (nI_pos (by omega)), nI_pred, if_neg (nI_nlt (by omega) (by omega))]
  simp [tz]
theorem misClaim_no (K : KI (μ.1 86) Lw n w L) {a : Int32} (ha : ∀ c, c < n → a ≠ nI c) : fMo_isClaim μ a = some (0, μ) := by
  have := K.n7
  rw [fMo_isClaim, many_eq K, Option.bind_some]
  simp only [fMo_lies]
  by_cases h0 : a < 0
  · rw [if_pos h0]; simp [tz]
  · rw [if_neg h0]
    obtain ⟨j, hj, rfl⟩ := nI_of h0
    have hjn : ¬ j < n := fun h => ha j h rfl
    cases n with
    | zero => rw [if_pos (show nI 0 - 1 < nI j from by rw [show nI 0 - 1 = (-1 : Int32) from rfl, Int32.lt_iff_toInt_lt, nI_toInt (by omega)]; show (-1 : Int) < _; omega)]; simp [tz]
    | succ m => rw [nI_pred, if_pos (nI_lt (by omega) (by omega))]; simp [tz]
theorem mlevel_eq (a : Int32) : fMo_isLevel μ a = some (if μ.1 86 42 < jabs a then 0 else 1, μ) := by
  rw [fMo_isLevel, either_eq, Option.bind_some, rd_K 42 42 5654 (by decide) (by decide)]
  split <;> rfl
end
