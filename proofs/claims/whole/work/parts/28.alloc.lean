/-! ===== a shape that grows: what was there stays ===== -/
def sw_dyn (ξ : sw_x) : Prop := ∀ q, 110 ≤ q → q < ξ.1 → ξ.2.1 q = 3 ∨ ξ.2.1 q = 7 ∨ ξ.2.1 q = 10 ∨ ξ.2.1 q = 11 ∨ ξ.2.1 q = 12
def sw_sp (t : Nat) : Nat := [0, 1, 3, 8, 2, 1, 27, 6, 83, 25].getD t 0
theorem sp_static : ∀ q, q < 110 → q + sw_sp (sw_lt q) < 110 := by decide +kernel
theorem sp_grid : ∀ q, q < 110 → sw_lt q = 14 → q + sw_ll q < 110 := by decide +kernel
theorem lt_known : ∀ q, q < 110 → sw_lt q ≠ 0 := by decide +kernel
theorem cl_sp {ξ : sw_x} {R : Nat → Nat → Option Nat} (hf : sw_wf ξ R) (hd : sw_dyn ξ) {q : Nat} (hq : q < ξ.1) : q + sw_sp (ξ.2.1 q) < ξ.1 := by
  have hN := hf.1
  by_cases h : q < 110
  · rw [(hf.2.1 q h).1]
    have h1 := sp_static q h
    omega
  · rcases hd q (by omega) hq with e | e | e | e | e
    · have h1 := (is_Pl_texts hf ⟨hq, e⟩).1
      rw [e]
      show q + 8 < _
      exact h1
    · have h1 := (is_Te_code hf ⟨hq, e⟩).1
      rw [e]
      show q + 6 < _
      exact h1
    · rw [e]; exact hq
    · rw [e]; exact hq
    · rw [e]; exact hq
theorem cl_grid {ξ : sw_x} {R : Nat → Nat → Option Nat} (hf : sw_wf ξ R) (hd : sw_dyn ξ) {q : Nat} (hq : q < ξ.1) (ht : ξ.2.1 q = 14) : q + ξ.2.2.1 q < ξ.1 := by
  have hN := hf.1
  by_cases h : q < 110
  · have h1 := sp_grid q h ((hf.2.1 q h).1.symm.trans ht)
    rw [(hf.2.1 q h).2]
    omega
  · rcases hd q (by omega) hq with e | e | e | e | e <;> rw [e] at ht <;> cases ht
/-- the larger shape agrees with the smaller one -/
def sw_le (ξ ξ' : sw_x) : Prop := ξ.1 ≤ ξ'.1 ∧ ∀ q, q < ξ.1 → ξ'.2.1 q = ξ.2.1 q ∧ ξ'.2.2.1 q = ξ.2.2.1 q ∧ ξ'.2.2.2.1 q = ξ.2.2.2.1 q ∧ ξ'.2.2.2.2 q = ξ.2.2.2.2 q
theorem sw_le.refl (ξ : sw_x) : sw_le ξ ξ := ⟨Nat.le_refl _, fun _ _ => ⟨rfl, rfl, rfl, rfl⟩⟩
theorem sw_le.trans {ξ ξ' ξ'' : sw_x} (h : sw_le ξ ξ') (h' : sw_le ξ' ξ'') : sw_le ξ ξ'' := ⟨Nat.le_trans h.1 h'.1, fun q hq => by
  obtain ⟨a1, a2, a3, a4⟩ := h.2 q hq
  obtain ⟨b1, b2, b3, b4⟩ := h'.2 q (Nat.lt_of_lt_of_le hq h.1)
  exact ⟨b1.trans a1, b2.trans a2, b3.trans a3, b4.trans a4⟩⟩
theorem sw_le.ik {ξ ξ' : sw_x} (h : sw_le ξ ξ') {q t : Nat} (hi : sw_ik ξ q t) : sw_ik ξ' q t := ⟨Nat.lt_of_lt_of_le hi.1 h.1, (h.2 q hi.1).1.trans hi.2⟩
theorem sw_le.is {ξ ξ' : sw_x} (h : sw_le ξ ξ') {q t n : Nat} (hi : sw_is ξ q t n) : sw_is ξ' q t n := ⟨Nat.lt_of_lt_of_le hi.1 h.1, (h.2 q hi.1).1.trans hi.2.1, (h.2 q hi.1).2.1.trans hi.2.2⟩
set_option maxHeartbeats 2000000 in
theorem E_ext {Γ : sw_C} {ξ ξ' : sw_x} {g g' : sw_g} {μ : sw_m} (hf : sw_wf ξ g.2.2) (hd : sw_dyn ξ) (hle : sw_le ξ ξ') {q : Nat} (hq : q < ξ.1) (h1 : g'.1 q = g.1 q) (h2 : g'.2.1 q = g.2.1 q) (h3 : g'.2.2 q = g.2.2 q) : sw_E Γ ξ' g' μ q = sw_E Γ ξ g μ q := by
  obtain ⟨a1, a2, a3, a4⟩ := hle.2 q hq
  have hsp := cl_sp hf hd hq
  have ad : ∀ k, q + k < ξ.1 → ξ'.2.2.2.1 (q + k) = ξ.2.2.2.1 (q + k) := fun k hk => (hle.2 (q + k) hk).2.2.1
  unfold sw_E sw_cell
  rw [h1, h2, h3, a1]
  split <;> rename_i e <;> (try rw [e] at hsp)
  · rw [show f_Hi ξ' (g.1 q) q = f_Hi ξ (g.1 q) q by unfold f_Hi; rw [ad 1 (by change q + 1 < _ at hsp; omega)]]
  · rw [show f_Ju ξ' (g.1 q) q = f_Ju ξ (g.1 q) q by unfold f_Ju; change q + 3 < _ at hsp; rw [ad 1 (by omega), ad 3 (by omega)]]
  · rw [show f_Pl ξ' (g.1 q) q = f_Pl ξ (g.1 q) q by unfold f_Pl; change q + 8 < _ at hsp; rw [ad 1 (by omega), ad 2 (by omega), ad 3 (by omega), ad 4 (by omega), ad 5 (by omega), ad 6 (by omega), ad 7 (by omega), ad 8 (by omega)]]
  · rw [show f_Re ξ' (g.1 q) q = f_Re ξ (g.1 q) q by unfold f_Re; change q + 2 < _ at hsp; rw [ad 1 (by omega), ad 2 (by omega)]]
  · rw [show f_Rk ξ' (g.1 q) q = f_Rk ξ (g.1 q) q by unfold f_Rk; change q + 1 < _ at hsp; rw [ad 1 (by omega)]]
  · rw [show f_Ro ξ' (g.1 q) q = f_Ro ξ (g.1 q) q by unfold f_Ro; change q + 27 < _ at hsp; rw [ad 1 (by omega), ad 2 (by omega), ad 3 (by omega), ad 11 (by omega), ad 19 (by omega), ad 27 (by omega)]]
  · rw [show f_Te ξ' (g.1 q) q = f_Te ξ (g.1 q) q by unfold f_Te; change q + 6 < _ at hsp; rw [ad 1 (by omega), ad 2 (by omega), ad 3 (by omega), ad 4 (by omega), ad 5 (by omega), ad 6 (by omega)]]
  · rw [show f_Sx ξ' (g.1 q) q = f_Sx ξ (g.1 q) q by unfold f_Sx; change q + 83 < _ at hsp; rw [ad 1 (by omega), ad 10 (by omega), ad 19 (by omega), ad 28 (by omega), ad 29 (by omega), ad 31 (by omega), ad 33 (by omega), ad 42 (by omega), ad 46 (by omega), ad 48 (by omega), ad 49 (by omega), ad 81 (by omega), ad 82 (by omega), ad 83 (by omega)]]
  · rw [show f_Mo ξ' (μ.1 q) q = f_Mo ξ (μ.1 q) q by unfold f_Mo; change q + 25 < _ at hsp; rw [ad 1 (by omega), ad 2 (by omega), ad 3 (by omega), ad 4 (by omega), ad 5 (by omega), ad 6 (by omega), ad 7 (by omega), ad 8 (by omega), ad 9 (by omega), ad 10 (by omega), ad 11 (by omega), ad 12 (by omega), ad 13 (by omega), ad 14 (by omega), ad 15 (by omega), ad 16 (by omega), ad 17 (by omega), ad 18 (by omega), ad 19 (by omega), ad 20 (by omega), ad 21 (by omega), ad 22 (by omega), ad 23 (by omega), ad 24 (by omega), ad 25 (by omega)]]
  · rw [a2]
  · rw [a2]
  · rw [a2]
    have hm : (fun k => Option.map ξ'.2.2.2.1 (g.2.2 q k)) = fun k => Option.map ξ.2.2.2.1 (g.2.2 q k) := by
      funext k
      cases hk : g.2.2 q k with
      | none => rfl
      | some t => exact congrArg some (hle.2 t (hf.2.2.2.2.1 q k t ⟨hq, e⟩ hk).1).2.2.1
    rw [hm]
  · rw [a2]
    have hm : (fun k => Option.map ξ'.2.2.2.1 (g.2.2 q k)) = fun k => Option.map ξ.2.2.2.1 (g.2.2 q k) := by
      funext k
      cases hk : g.2.2 q k with
      | none => rfl
      | some t => exact congrArg some (hle.2 t (hf.2.2.2.2.2 q k t ⟨hq, e⟩ hk).1).2.2.1
    rw [hm]
  · have hg := cl_grid hf hd hq e
    rw [a2]
    have hm : (fun k => if k < ξ.2.2.1 q then some (ξ'.2.2.2.1 (q + 1 + k)) else none) = fun k => if k < ξ.2.2.1 q then some (ξ.2.2.2.1 (q + 1 + k)) else none := by
      funext k
      by_cases hk : k < ξ.2.2.1 q
      · rw [if_pos hk, if_pos hk, show q + 1 + k = q + (1 + k) by omega, ad (1 + k) (by omega)]
      · rw [if_neg hk, if_neg hk]
    rw [hm]
  · rw [a2]
  · rw [a2]
  · rw [a2]
  · rw [a2]
  · exact a4
theorem wl_app {Γ : sw_C} {ξ ξ' : sw_x} {g g' : sw_g} {μ : sw_m} {new : va_W} (hN : ξ'.1 = ξ.1 + new.length) (hold : ∀ q, q < ξ.1 → ξ'.2.2.2.1 q = ξ.2.2.2.1 q ∧ sw_E Γ ξ' g' μ q = sw_E Γ ξ g μ q) (hnew : ∀ k, k < new.length → new[k]? = some (ξ'.2.2.2.1 (ξ.1 + k), sw_E Γ ξ' g' μ (ξ.1 + k))) : sw_wl Γ ξ g μ ++ new = sw_wl Γ ξ' g' μ := by
  apply List.ext_getElem?
  intro i
  by_cases h : i < ξ.1
  · rw [List.getElem?_append_left (by rw [wl_len]; exact h), wl_get h, wl_get (by omega), (hold i h).1, (hold i h).2]
  · rw [List.getElem?_append_right (by rw [wl_len]; omega), wl_len]
    by_cases h2 : i < ξ'.1
    · rw [wl_get h2, hnew (i - ξ.1) (by omega), show ξ.1 + (i - ξ.1) = i by omega]
    · rw [List.getElem?_eq_none (by omega), List.getElem?_eq_none (by rw [wl_len]; omega)]
