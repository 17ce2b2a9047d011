/-! ===== three ways in which the shape grows: a text, a plank, a row of long numbers ===== -/
/-- all rows from N on are blank -/
def gZ (g : sw_g) (N : Nat) : sw_g := (fun q => if q < N then g.1 q else fun _ => 0, fun q => if q < N then g.2.1 q else fun _ => 0, fun q => if q < N then g.2.2 q else fun _ => none)
def xT (ξ : sw_x) (h : Nat) (u : Nat → Nat) (n : Nat) : sw_x := (ξ.1 + 7, fun q => if q < ξ.1 then ξ.2.1 q else if q = ξ.1 then 7 else 10, fun q => if q < ξ.1 then ξ.2.2.1 q else if q = ξ.1 + 6 then n else 12, fun q => if q < ξ.1 then ξ.2.2.2.1 q else if q = ξ.1 then h else u (q - ξ.1), ξ.2.2.2.2)
def xPt (k : Nat) : Nat := [3, 10, 10, 10, 10, 10, 10, 10, 12].getD k 10
def xPl (k : Nat) : Nat := [0, 7, 7, 7, 4, 6, 6, 6, 6].getD k 0
def xP (ξ : sw_x) (h : Nat) (u : Nat → Nat) : sw_x := (ξ.1 + 9, fun q => if q < ξ.1 then ξ.2.1 q else xPt (q - ξ.1), fun q => if q < ξ.1 then ξ.2.2.1 q else xPl (q - ξ.1), fun q => if q < ξ.1 then ξ.2.2.2.1 q else if q = ξ.1 then h else u (q - ξ.1), ξ.2.2.2.2)
def gP (g : sw_g) (N : Nat) : sw_g := gI (gI (gZ g N) N 11 (-1)) (N + 4) 1 1
def xF (ξ : sw_x) (h : Nat) (n : Nat) : sw_x := (ξ.1 + 1, fun q => if q < ξ.1 then ξ.2.1 q else 11, fun q => if q < ξ.1 then ξ.2.2.1 q else n, fun q => if q < ξ.1 then ξ.2.2.2.1 q else h, ξ.2.2.2.2)
theorem le_xT {ξ : sw_x} {h : Nat} {u : Nat → Nat} {n : Nat} : sw_le ξ (xT ξ h u n) := ⟨by show ξ.1 ≤ ξ.1 + 7; omega, fun q hq => ⟨if_pos hq, if_pos hq, if_pos hq, rfl⟩⟩
theorem le_xP {ξ : sw_x} {h : Nat} {u : Nat → Nat} : sw_le ξ (xP ξ h u) := ⟨by show ξ.1 ≤ ξ.1 + 9; omega, fun q hq => ⟨if_pos hq, if_pos hq, if_pos hq, rfl⟩⟩
theorem le_xF {ξ : sw_x} {h n : Nat} : sw_le ξ (xF ξ h n) := ⟨by show ξ.1 ≤ ξ.1 + 1; omega, fun q hq => ⟨if_pos hq, if_pos hq, if_pos hq, rfl⟩⟩
theorem gZ_old {g : sw_g} {N q : Nat} (h : q < N) : (gZ g N).1 q = g.1 q ∧ (gZ g N).2.1 q = g.2.1 q ∧ (gZ g N).2.2 q = g.2.2 q := ⟨if_pos h, if_pos h, if_pos h⟩
theorem gP_old {g : sw_g} {N q : Nat} (h : q < N) : (gP g N).1 q = g.1 q ∧ (gP g N).2.1 q = g.2.1 q ∧ (gP g N).2.2 q = g.2.2 q := by
  refine ⟨?_, if_pos h, if_pos h⟩
  show sw_u (sw_u (gZ g N).1 N 11 (-1)) (N + 4) 1 1 q = _
  rw [sw_u_ne (by omega), sw_u_ne (by omega)]
  exact if_pos h
/-- the layout of a larger shape: what is new must be told -/
theorem wf_grow {ξ ξ' : sw_x} {R R' : Nat → Nat → Option Nat} (hf : sw_wf ξ R) (hle : sw_le ξ ξ') (hR : ∀ q, q < ξ.1 → R' q = R q) (hR2 : ∀ q k, ξ.1 ≤ q → R' q k = none)
    (h3 : ∀ q, ξ.1 ≤ q → sw_ik ξ' q 3 → sw_is ξ' (q + 1) 10 7 ∧ sw_is ξ' (q + 2) 10 7 ∧ sw_is ξ' (q + 3) 10 7 ∧ sw_is ξ' (q + 4) 10 4 ∧ sw_is ξ' (q + 5) 10 6 ∧ sw_is ξ' (q + 6) 10 6 ∧ sw_is ξ' (q + 7) 10 6 ∧ sw_is ξ' (q + 8) 12 6)
    (h7 : ∀ q, ξ.1 ≤ q → sw_ik ξ' q 7 → sw_is ξ' (q + 1) 10 12 ∧ sw_is ξ' (q + 2) 10 12 ∧ sw_is ξ' (q + 3) 10 12 ∧ sw_is ξ' (q + 4) 10 12 ∧ sw_is ξ' (q + 5) 10 12 ∧ sw_is ξ' (q + 6) 10 (ξ'.2.2.1 (q + 6))) : sw_wf ξ' R' := by
  have back : ∀ q t, q < ξ.1 → sw_ik ξ' q t → sw_ik ξ q t := fun q t hq h => ⟨hq, (hle.2 q hq).1.symm.trans h.2⟩
  refine ⟨Nat.le_trans hf.1 hle.1, fun q hq => ?_, fun q h => ?_, fun q h => ?_, fun q k t h hk => ?_, fun q k t h hk => ?_⟩
  · have h1 := hle.2 q (Nat.lt_of_lt_of_le hq hf.1)
    exact ⟨h1.1.trans (hf.2.1 q hq).1, h1.2.1.trans (hf.2.1 q hq).2⟩
  · by_cases hq : q < ξ.1
    · obtain ⟨a1, a2, a3, a4, a5, a6, a7, a8⟩ := hf.2.2.1 q (back q 3 hq h)
      exact ⟨hle.is a1, hle.is a2, hle.is a3, hle.is a4, hle.is a5, hle.is a6, hle.is a7, hle.is a8⟩
    · exact h3 q (Nat.le_of_not_lt hq) h
  · by_cases hq : q < ξ.1
    · obtain ⟨a1, a2, a3, a4, a5, a6⟩ := hf.2.2.2.1 q (back q 7 hq h)
      have a7 := hle.is a6
      exact ⟨hle.is a1, hle.is a2, hle.is a3, hle.is a4, hle.is a5, a7.1, a7.2.1, rfl⟩
    · exact h7 q (Nat.le_of_not_lt hq) h
  · by_cases hq : q < ξ.1
    · rw [hR q hq] at hk
      exact hle.ik (hf.2.2.2.2.1 q k t (back q 12 hq h) hk)
    · rw [hR2 q k (Nat.le_of_not_lt hq)] at hk
      cases hk
  · by_cases hq : q < ξ.1
    · rw [hR q hq] at hk
      exact hle.ik (hf.2.2.2.2.2 q k t (back q 13 hq h) hk)
    · rw [hR2 q k (Nat.le_of_not_lt hq)] at hk
      cases hk
theorem dyn_grow {ξ ξ' : sw_x} (hd : sw_dyn ξ) (hle : sw_le ξ ξ') (h : ∀ q, ξ.1 ≤ q → q < ξ'.1 → ξ'.2.1 q = 3 ∨ ξ'.2.1 q = 7 ∨ ξ'.2.1 q = 10 ∨ ξ'.2.1 q = 11 ∨ ξ'.2.1 q = 12) : sw_dyn ξ' := fun q h1 h2 => by
  by_cases hq : q < ξ.1
  · rw [(hle.2 q hq).1]; exact hd q h1 hq
  · exact h q (Nat.le_of_not_lt hq) h2
theorem xT_tag {ξ : sw_x} {h : Nat} {u : Nat → Nat} {n k : Nat} (hk : k < 7) : sw_is (xT ξ h u n) (ξ.1 + k) (if k = 0 then 7 else 10) (if k = 6 then n else 12) ∧ (xT ξ h u n).2.2.2.1 (ξ.1 + k) = if k = 0 then h else u k := by
  refine ⟨⟨by show ξ.1 + k < ξ.1 + 7; omega, ?_, ?_⟩, ?_⟩
  · show (if ξ.1 + k < ξ.1 then _ else if ξ.1 + k = ξ.1 then 7 else 10) = _
    rw [if_neg (by omega)]
    by_cases e : k = 0 <;> simp [e]
  · show (if ξ.1 + k < ξ.1 then _ else if ξ.1 + k = ξ.1 + 6 then n else 12) = _
    rw [if_neg (by omega)]
    by_cases e : k = 6 <;> simp [e]
  · show (if ξ.1 + k < ξ.1 then _ else if ξ.1 + k = ξ.1 then h else u (ξ.1 + k - ξ.1)) = _
    rw [if_neg (by omega), Nat.add_sub_cancel_left]
    by_cases e : k = 0 <;> simp [e]
theorem wf_xT {ξ : sw_x} {g : sw_g} {h : Nat} {u : Nat → Nat} {n : Nat} (hf : sw_wf ξ g.2.2) : sw_wf (xT ξ h u n) (gZ g ξ.1).2.2 := by
  refine wf_grow hf le_xT (fun q hq => if_pos hq) (fun q k hq => by show (if q < ξ.1 then g.2.2 q else fun _ => none) k = none; rw [if_neg (by omega)]) (fun q hq h3 => ?_) (fun q hq h7 => ?_)
  · exfalso
    obtain ⟨k, rfl⟩ := Nat.exists_eq_add_of_le hq
    have h1 : k < 7 := by have := h3.1; change ξ.1 + k < ξ.1 + 7 at this; omega
    have h2 := (xT_tag (ξ := ξ) (h := h) (u := u) (n := n) h1).1.2.1.symm.trans h3.2
    by_cases e : k = 0 <;> simp [e] at h2
  · obtain ⟨k, rfl⟩ := Nat.exists_eq_add_of_le hq
    have h1 : k < 7 := by have := h7.1; change ξ.1 + k < ξ.1 + 7 at this; omega
    have h2 := (xT_tag (ξ := ξ) (h := h) (u := u) (n := n) h1).1.2.1.symm.trans h7.2
    have e : k = 0 := by by_cases e : k = 0 <;> simp [e] at h2 ⊢
    subst e
    have t := fun (j : Nat) (hj : j < 7) => (xT_tag (ξ := ξ) (h := h) (u := u) (n := n) hj).1
    exact ⟨t 1 (by omega), t 2 (by omega), t 3 (by omega), t 4 (by omega), t 5 (by omega), (t 6 (by omega)).1, (t 6 (by omega)).2.1, rfl⟩
theorem dyn_xT {ξ : sw_x} {h : Nat} {u : Nat → Nat} {n : Nat} (hd : sw_dyn ξ) : sw_dyn (xT ξ h u n) := dyn_grow hd le_xT (fun q h1 h2 => by
  obtain ⟨k, rfl⟩ := Nat.exists_eq_add_of_le h1
  have h3 : k < 7 := by change ξ.1 + k < ξ.1 + 7 at h2; omega
  have h4 := (xT_tag (ξ := ξ) (h := h) (u := u) (n := n) h3).1.2.1
  by_cases e : k = 0
  · exact Or.inr (Or.inl (by rw [h4, if_pos e]))
  · exact Or.inr (Or.inr (Or.inl (by rw [h4, if_neg e]))))
theorem gZ_new {g : sw_g} {N k : Nat} : (gZ g N).1 (N + k) = (fun _ => 0) ∧ (gZ g N).2.1 (N + k) = (fun _ => 0) ∧ (gZ g N).2.2 (N + k) = fun _ => none := ⟨if_neg (by omega), if_neg (by omega), if_neg (by omega)⟩
set_option maxHeartbeats 1000000 in
theorem wl_xT {Γ : sw_C} {ξ : sw_x} {g : sw_g} {μ : sw_m} {h : Nat} {u : Nat → Nat} {n : Nat} (hf : sw_wf ξ g.2.2) (hd : sw_dyn ξ) : sw_wl Γ ξ g μ ++ cf_Te Γ h u n = sw_wl Γ (xT ξ h u n) (gZ g ξ.1) μ := by
  refine wl_app rfl (fun q hq => ⟨(le_xT.2 q hq).2.2.1, E_ext hf hd le_xT hq (gZ_old hq).1 (gZ_old hq).2.1 (gZ_old hq).2.2⟩) (fun k hk => ?_)
  have t := fun (j : Nat) (hj : j < 7) => xT_tag (ξ := ξ) (h := h) (u := u) (n := n) hj
  have hk : k < 7 := hk
  rcases (show k = 0 ∨ k = 1 ∨ k = 2 ∨ k = 3 ∨ k = 4 ∨ k = 5 ∨ k = 6 by omega) with rfl | rfl | rfl | rfl | rfl | rfl | rfl
  · rw [(t 0 hk).2, e_Te (q := ξ.1 + 0) ⟨(t 0 hk).1.1, (t 0 hk).1.2.1⟩]
    unfold f_Te
    rw [gZ_new.1, show ξ.1 + 0 + 1 = ξ.1 + 1 from rfl, show ξ.1 + 0 + 2 = ξ.1 + 2 from rfl, show ξ.1 + 0 + 3 = ξ.1 + 3 from rfl, show ξ.1 + 0 + 4 = ξ.1 + 4 from rfl, show ξ.1 + 0 + 5 = ξ.1 + 5 from rfl, show ξ.1 + 0 + 6 = ξ.1 + 6 from rfl, (t 1 (by omega)).2, (t 2 (by omega)).2, (t 3 (by omega)).2, (t 4 (by omega)).2, (t 5 (by omega)).2, (t 6 (by omega)).2]
    rfl
  · rw [(t 1 hk).2, e_10 (t 1 hk).1, gZ_new.1]; rfl
  · rw [(t 2 hk).2, e_10 (t 2 hk).1, gZ_new.1]; rfl
  · rw [(t 3 hk).2, e_10 (t 3 hk).1, gZ_new.1]; rfl
  · rw [(t 4 hk).2, e_10 (t 4 hk).1, gZ_new.1]; rfl
  · rw [(t 5 hk).2, e_10 (t 5 hk).1, gZ_new.1]; rfl
  · rw [(t 6 hk).2, e_10 (t 6 hk).1, gZ_new.1]; rfl
theorem xP_tag {ξ : sw_x} {h : Nat} {u : Nat → Nat} {k : Nat} (hk : k < 9) : sw_is (xP ξ h u) (ξ.1 + k) (xPt k) (xPl k) ∧ (xP ξ h u).2.2.2.1 (ξ.1 + k) = if k = 0 then h else u k := by
  refine ⟨⟨by show ξ.1 + k < ξ.1 + 9; omega, ?_, ?_⟩, ?_⟩
  · show (if ξ.1 + k < ξ.1 then _ else xPt (ξ.1 + k - ξ.1)) = _
    rw [if_neg (by omega), Nat.add_sub_cancel_left]
  · show (if ξ.1 + k < ξ.1 then _ else xPl (ξ.1 + k - ξ.1)) = _
    rw [if_neg (by omega), Nat.add_sub_cancel_left]
  · show (if ξ.1 + k < ξ.1 then _ else if ξ.1 + k = ξ.1 then h else u (ξ.1 + k - ξ.1)) = _
    rw [if_neg (by omega), Nat.add_sub_cancel_left]
    by_cases e : k = 0 <;> simp [e]
theorem xPt_3 : ∀ k, k < 9 → xPt k = 3 → k = 0 := by decide
theorem xPt_7 : ∀ k, k < 9 → xPt k ≠ 7 := by decide
theorem xPt_d : ∀ k, k < 9 → xPt k = 3 ∨ xPt k = 7 ∨ xPt k = 10 ∨ xPt k = 11 ∨ xPt k = 12 := by decide
theorem wf_xP {ξ : sw_x} {g : sw_g} {h : Nat} {u : Nat → Nat} (hf : sw_wf ξ g.2.2) : sw_wf (xP ξ h u) (gP g ξ.1).2.2 := by
  refine wf_grow hf le_xP (fun q hq => if_pos hq) (fun q k hq => by show (if q < ξ.1 then g.2.2 q else fun _ => none) k = none; rw [if_neg (by omega)]) (fun q hq h3 => ?_) (fun q hq h7 => ?_)
  · obtain ⟨k, rfl⟩ := Nat.exists_eq_add_of_le hq
    have h1 : k < 9 := by have := h3.1; change ξ.1 + k < ξ.1 + 9 at this; omega
    have e := xPt_3 k h1 ((xP_tag (ξ := ξ) (h := h) (u := u) h1).1.2.1.symm.trans h3.2)
    subst e
    have t := fun (j : Nat) (hj : j < 9) => (xP_tag (ξ := ξ) (h := h) (u := u) hj).1
    exact ⟨t 1 (by omega), t 2 (by omega), t 3 (by omega), t 4 (by omega), t 5 (by omega), t 6 (by omega), t 7 (by omega), t 8 (by omega)⟩
  · exfalso
    obtain ⟨k, rfl⟩ := Nat.exists_eq_add_of_le hq
    have h1 : k < 9 := by have := h7.1; change ξ.1 + k < ξ.1 + 9 at this; omega
    exact xPt_7 k h1 ((xP_tag (ξ := ξ) (h := h) (u := u) h1).1.2.1.symm.trans h7.2)
theorem dyn_xP {ξ : sw_x} {h : Nat} {u : Nat → Nat} (hd : sw_dyn ξ) : sw_dyn (xP ξ h u) := dyn_grow hd le_xP (fun q h1 h2 => by
  obtain ⟨k, rfl⟩ := Nat.exists_eq_add_of_le h1
  have h3 : k < 9 := by change ξ.1 + k < ξ.1 + 9 at h2; omega
  rw [(xP_tag (ξ := ξ) (h := h) (u := u) h3).1.2.1]
  exact xPt_d k h3)
theorem gP_new {g : sw_g} {N k : Nat} : (gP g N).1 (N + k) = (fun j => if k = 0 ∧ j = 11 then -1 else if k = 4 ∧ j = 1 then 1 else 0) ∧ (gP g N).2.2 (N + k) = fun _ => none := by
  refine ⟨?_, if_neg (by omega)⟩
  funext j
  show sw_u (sw_u (gZ g N).1 N 11 (-1)) (N + 4) 1 1 (N + k) j = _
  unfold sw_u
  have e : (gZ g N).1 (N + k) j = 0 := by rw [gZ_new.1]
  rw [e]
  by_cases h4 : k = 4
  · subst h4
    by_cases hj : j = 1 <;> simp [hj]
  · by_cases h0 : k = 0
    · subst h0
      by_cases hj : j = 11 <;> simp [hj]
    · rw [if_neg (by omega), if_neg (by omega), if_neg (by omega), if_neg (by omega)]
set_option maxHeartbeats 1000000 in
theorem wl_xP {Γ : sw_C} {ξ : sw_x} {g : sw_g} {μ : sw_m} {h : Nat} {u : Nat → Nat} (hf : sw_wf ξ g.2.2) (hd : sw_dyn ξ) : sw_wl Γ ξ g μ ++ cf_Pl Γ h u = sw_wl Γ (xP ξ h u) (gP g ξ.1) μ := by
  refine wl_app rfl (fun q hq => ⟨(le_xP.2 q hq).2.2.1, E_ext hf hd le_xP hq (gP_old hq).1 (gP_old hq).2.1 (gP_old hq).2.2⟩) (fun k hk => ?_)
  have t := fun (j : Nat) (hj : j < 9) => xP_tag (ξ := ξ) (h := h) (u := u) hj
  have hk : k < 9 := hk
  rcases (show k = 0 ∨ k = 1 ∨ k = 2 ∨ k = 3 ∨ k = 4 ∨ k = 5 ∨ k = 6 ∨ k = 7 ∨ k = 8 by omega) with rfl | rfl | rfl | rfl | rfl | rfl | rfl | rfl | rfl
  · rw [(t 0 hk).2, e_Pl (q := ξ.1 + 0) ⟨(t 0 hk).1.1, (t 0 hk).1.2.1⟩]
    unfold f_Pl
    rw [gP_new.1, show ξ.1 + 0 + 1 = ξ.1 + 1 from rfl, show ξ.1 + 0 + 2 = ξ.1 + 2 from rfl, show ξ.1 + 0 + 3 = ξ.1 + 3 from rfl, show ξ.1 + 0 + 4 = ξ.1 + 4 from rfl, show ξ.1 + 0 + 5 = ξ.1 + 5 from rfl, show ξ.1 + 0 + 6 = ξ.1 + 6 from rfl, show ξ.1 + 0 + 7 = ξ.1 + 7 from rfl, show ξ.1 + 0 + 8 = ξ.1 + 8 from rfl, (t 1 (by omega)).2, (t 2 (by omega)).2, (t 3 (by omega)).2, (t 4 (by omega)).2, (t 5 (by omega)).2, (t 6 (by omega)).2, (t 7 (by omega)).2, (t 8 (by omega)).2]
    rfl
  · rw [(t 1 hk).2, e_10 (t 1 hk).1, gP_new.1]; simp [cf_Pl, xPl]
  · rw [(t 2 hk).2, e_10 (t 2 hk).1, gP_new.1]; simp [cf_Pl, xPl]
  · rw [(t 3 hk).2, e_10 (t 3 hk).1, gP_new.1]; simp [cf_Pl, xPl]
  · rw [(t 4 hk).2, e_10 (t 4 hk).1, gP_new.1]
    have e : upd (fun _ => (0 : Int32)) 1 1 = fun j => if j = 1 then 1 else 0 := rfl
    simp [cf_Pl, xPl, e]
  · rw [(t 5 hk).2, e_10 (t 5 hk).1, gP_new.1]; simp [cf_Pl, xPl]
  · rw [(t 6 hk).2, e_10 (t 6 hk).1, gP_new.1]; simp [cf_Pl, xPl]
  · rw [(t 7 hk).2, e_10 (t 7 hk).1, gP_new.1]; simp [cf_Pl, xPl]
  · rw [(t 8 hk).2, e_12 (t 8 hk).1, gP_new.2]; simp [cf_Pl, xPl]
theorem xF_tag {ξ : sw_x} {h n : Nat} : sw_is (xF ξ h n) ξ.1 11 n ∧ (xF ξ h n).2.2.2.1 ξ.1 = h := ⟨⟨Nat.lt_succ_self _, if_neg (Nat.lt_irrefl _), if_neg (Nat.lt_irrefl _)⟩, if_neg (Nat.lt_irrefl _)⟩
theorem wf_xF {ξ : sw_x} {g : sw_g} {h n : Nat} (hf : sw_wf ξ g.2.2) : sw_wf (xF ξ h n) (gZ g ξ.1).2.2 := by
  refine wf_grow hf le_xF (fun q hq => if_pos hq) (fun q k hq => by show (if q < ξ.1 then g.2.2 q else fun _ => none) k = none; rw [if_neg (by omega)]) (fun q hq h3 => ?_) (fun q hq h7 => ?_)
  · have e : q = ξ.1 := by have := h3.1; change q < ξ.1 + 1 at this; omega
    subst e
    exact absurd (xF_tag.1.2.1.symm.trans h3.2) (by decide)
  · have e : q = ξ.1 := by have := h7.1; change q < ξ.1 + 1 at this; omega
    subst e
    exact absurd (xF_tag.1.2.1.symm.trans h7.2) (by decide)
theorem dyn_xF {ξ : sw_x} {h n : Nat} (hd : sw_dyn ξ) : sw_dyn (xF ξ h n) := dyn_grow hd le_xF (fun q h1 h2 => by
  have e : q = ξ.1 := by change q < ξ.1 + 1 at h2; omega
  subst e
  exact Or.inr (Or.inr (Or.inr (Or.inl xF_tag.1.2.1))))
theorem wl_xF {Γ : sw_C} {ξ : sw_x} {g : sw_g} {μ : sw_m} {h n : Nat} (hf : sw_wf ξ g.2.2) (hd : sw_dyn ξ) : sw_wl Γ ξ g μ ++ [(h, .inl (Γ.2.1 3, n, .inr (.inl (fun _ => 0))))] = sw_wl Γ (xF ξ h n) (gZ g ξ.1) μ := by
  refine wl_app rfl (fun q hq => ⟨(le_xF.2 q hq).2.2.1, E_ext hf hd le_xF hq (gZ_old hq).1 (gZ_old hq).2.1 (gZ_old hq).2.2⟩) (fun k hk => ?_)
  have e : k = 0 := by simp at hk; omega
  subst e
  rw [Nat.add_zero, xF_tag.2, e_11 xF_tag.1, show (gZ g ξ.1).2.1 ξ.1 = fun _ => 0 from (gZ_new (g := g) (N := ξ.1) (k := 0)).2.1]
  rfl
/-! from the world to a list that grows, and back -/
abbrev sk_T : State → Prop := fun U => va_AO R_Te U
theorem sk_Tg : sk_good sk_T := ⟨fun u U h hz => va_AO.moved (by rw [h]; exact Vm.Alike.refl _) hz, fun s U hW hz => va_AO.moved hW.alike hz⟩
theorem sk_of {Γ : sw_C} {A : Nat → Prop} {ξ : sw_x} {g : sw_g} {μ : sw_m} {s : State} {H : Heap} {locs : List Loc} (hw : sw_S Γ A ξ g μ s H locs) : sk_S Γ A sk_T (sw_wl Γ ξ g μ) [] s H locs := ⟨by rw [List.append_nil]; exact hw.1, hw.2.1, by rw [List.append_nil]; exact hw.2.2.1, hw.2.2.2.1, hw.2.2.2.2.1, hw.2.2.2.2.2.2.2.2.2.2.2⟩
theorem sw_of {Γ : sw_C} {A : Nat → Prop} {ξ ξ' : sw_x} {g g' : sw_g} {μ : sw_m} {s : State} {H : Heap} {locs : List Loc} {new : va_W} (hw : sk_S Γ A sk_T (sw_wl Γ ξ g μ) new s H locs) (hO : sw_O Γ A s s.heap) (he : sw_wl Γ ξ g μ ++ new = sw_wl Γ ξ' g' μ) : sw_S Γ A ξ' g' μ s H locs := by
  obtain ⟨h1, h2, h3, h4, h5, -⟩ := hw
  rw [he] at h1 h3
  exact ⟨h1, h2, h3, h4, h5, hO⟩
section SKX
variable {p : Program} {l : Launch} {e : Env} {R : Room} {s : State} {m : MethodId} {args : Array Value} {below : List Frame} {meth : Method} {c : Code} {H : Heap} {locs : List Loc} {cells slots : Nat} {Q Q' : State → Prop}
variable {cc : ByteArray} {pc nL index : Nat} {ls : Array Slot} {rest : List Value} {Γ : sw_C} {A : Nat → Prop} {Θ : State → Prop} {ws x x' : va_W} {w0 : Cond} {own : String} {n a : Nat}
theorem W.mono {f : JFrame} (h : ∀ t, Q t → Q' t) (k : W p l e R s m args below meth c H locs cells slots Q f) : W p l e R s m args below meth c H locs cells slots Q' f := fun T hT X => by
  obtain ⟨t, a, b⟩ := k T hT X
  exact ⟨t, a, h t b⟩
theorem MQ.mono {Qa Qb : Array Value → State → Outcome → State → Prop} {mc ms : Nat} {free : Addr → Prop} (h : ∀ o t, Qa args s o t → Qb args s o t) : ∀ t, MQ below Qa args s mc ms free t → MQ below Qb args s mc ms free t := fun t ⟨o, a1, a2, a3, a4⟩ => ⟨o, a1, a2, h o t a3, a4⟩
theorem sk_getW {C : String} {T : u_T} {N ci q : Nat} {fs : List Value} (S : CallFix p m c cc nL s args (w0 :: sw_tb) own) (hw : sk_S Γ A Θ ws x s H locs) (hin : ∀ w ∈ u_ws C T N, w ∈ sw_tb) (he : ws[q]? = some (a, .inr (ci, fs))) (hc : swCl[ci]? = some (C, T, N)) (k : Nat) (hN : k < N) (hl : Cond.fieldLink own index C (T k).2.1 (T k).2.2.1 ∈ sw_tb) (hcl : (T k).1 = C) {v : Value} (hv : fs[k]? = some v) (hdg : decode cc pc = .ok (.getfield index, 3))
    (kk : W p l e R s m args below meth c H locs cells slots Q (F0 m (pc + 3) ls (v :: rest))) : W p l e R s m args below meth c H locs cells slots Q (F0 m pc ls (.ref a :: rest)) :=
  va_get (T := T) (N := N) S.1 S.2.1 S.2.2.2.2 (fun w h => List.mem_cons_of_mem _ (hin w h)) S.2.2.2.1 hw.2.1 hw.1 q (by rw [List.getElem?_append_left (List.getElem?_eq_some_iff.mp he).1]; exact he) hc k hN (sw_word S hl) (fun z h => by rw [hcl] at h; exact h) hv hdg kk
end SKX
