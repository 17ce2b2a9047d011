/-! ===== orders: the text laid behind the laws ===== -/
theorem st_id {μ : sw_m} {i b : Int32} (h1 : μ.1 84 22 = i) (h2 : μ.1 84 24 = b) : st μ i b = μ := by
  refine Prod.ext (funext fun p => funext fun j => ?_) rfl
  unfold st
  rw [mI_at]
  by_cases q : p = 84 ∧ j = 24
  · rw [if_pos q, q.1, q.2, h2]
  · rw [if_neg q, mI_at]
    by_cases q' : p = 84 ∧ j = 22
    · rw [if_pos q', q'.1, q'.2, h1]
    · rw [if_neg q']
section
variable {T V T' V' : Nat → Int32} {a : Nat}
theorem HdS.le {v : Nat} {x y : Option Ex} {i k : Nat} (h : HdS T V v x y i k) : i < k := by
  rcases h with ⟨_, e1, e2, z, _, _, _, _, h1, _, h2⟩ | ⟨_, e1, _, _, _, h1⟩ | ⟨_, _, _, h⟩
  · have := h1.lt; have := h2.lt; omega
  · have := h1.lt; omega
  · omega
theorem HdS.shift {v : Nat} {x y : Option Ex} {i k : Nat} (h : HdS T V v x y i k) (hs : ∀ z, i ≤ z → z < k → T' (z + a) = T z ∧ V' (z + a) = V z) : HdS T' V' v x y (i + a) (k + a) := by
  rcases h with ⟨h0, e1, e2, z, q1, q2, q3, q4, h1, h2, h3⟩ | ⟨h0, e1, q1, q2, q3, h1⟩ | ⟨h0, q1, q2, h⟩
  · have l1 := h1.lt
    have l2 := h3.lt
    have r1 := h1.shift (a := a) (T' := T') (V' := V') (fun y u w => hs y (by omega) (by omega))
    have r2 := h3.shift (a := a) (T' := T') (V' := V') (fun y u w => hs y (by omega) (by omega))
    rw [show i + 1 + a = i + a + 1 by omega] at r1
    rw [show z + 1 + a = z + a + 1 by omega] at r2
    exact .inl ⟨h0, e1, e2, z + a, q1, q2, q3, q4, r1, by rw [(hs z (by omega) (by omega)).1, h2], r2⟩
  · have l1 := h1.lt
    have r1 := h1.shift (a := a) (T' := T') (V' := V') (fun y u w => hs y (by omega) (by omega))
    rw [show i + 1 + a = i + a + 1 by omega] at r1
    exact .inr (.inl ⟨h0, e1, q1, q2, q3, r1⟩)
  · exact .inr (.inr ⟨h0, q1, q2, by omega⟩)
theorem HdT.le {n k j : Nat} (h : HdT T V n k j) : k ≤ j := by
  rcases h with ⟨_, _, _, _, h⟩ | ⟨_, _, h⟩ <;> omega
theorem HdT.shift {n k j : Nat} (h : HdT T V n k j) (hs : ∀ z, k ≤ z → z < j → T' (z + a) = T z ∧ V' (z + a) = V z) (hj : T' (j + a) = T j) : HdT T' V' n (k + a) (j + a) := by
  rcases h with ⟨h1, h2, h3, h4, h5⟩ | ⟨h1, h2, h3⟩
  · refine .inl ⟨by rw [(hs k (Nat.le_refl _) (by omega)).1, h1], ?_, h3, h4, by omega⟩
    have := (hs (k + 1) (by omega) (by omega)).2
    rw [show k + a + 1 = k + 1 + a by omega, this, h2]
  · subst h3
    exact .inr ⟨by rw [hj]; exact h1, h2, rfl⟩
theorem AtLo.shift {n : Nat} : ∀ {cs : List Cl} {i : Nat}, AtLo true T V n cs i → (∀ x, i ≤ x → x < n → T' (x + a) = T x ∧ V' (x + a) = V x) → T' (n + a) = T n → AtLo true T' V' (n + a) cs (i + a) := by
  intro cs
  induction cs with
  | nil => intro i h _ _; simp only [AtLo] at h ⊢; omega
  | cons c cs ih =>
    intro i h hs hn
    obtain ⟨j, ⟨k, h1, h2⟩, h3, h4, h5⟩ := h
    unfold Hdo at h1
    rw [if_pos rfl] at h1
    obtain ⟨a1, k', a2, a3⟩ := h1
    have l1 := a2.le
    have l2 := a3.le
    have l3 := h2.le
    have hj : T' (j + a) = T j := by
      by_cases hjn : j < n
      · exact (hs j (by omega) hjn).1
      · rw [show j = n by omega]; exact hn
    have hk : T' (k + a) = T k := by
      by_cases hkj : k < j
      · exact (hs k (by omega) (by omega)).1
      · rw [show k = j by omega]; exact hj
    have q := ih h5 (fun x u v => hs x (by omega) v) hn
    rw [show j + 1 + a = j + a + 1 by omega] at q
    refine ⟨j + a, ⟨k + a, ?_, h2.shift (fun x u v => hs x (by omega) (by omega)) hj⟩, by rw [hj]; rcases h3 with q | q; exact .inl q; exact .inr (by omega), by omega, q⟩
    unfold Hdo
    rw [if_pos rfl]
    exact ⟨by rw [(hs i (Nat.le_refl _) (by omega)).1, a1], k' + a, a2.shift (fun z u v => hs z u (by omega)), a3.shift (fun z u v => hs z (by omega) (by omega)) hk⟩
end
