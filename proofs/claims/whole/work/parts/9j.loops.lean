/-! ===== orders: the loops ===== -/
theorem AtO.ok {T V : Nat → Int32} {c : Cl} {i j : Nat} (h : AtO true T V c i j) : okO3 c ∧ 1 ≤ c.n ∧ c.n ≤ 20 ∧ i < j := by
  obtain ⟨k, hd, ht⟩ := h
  unfold Hdo at hd
  rw [if_pos rfl] at hd
  obtain ⟨_, x, hS, hT⟩ := hd
  have l1 := hS.le
  have l2 := hT.le
  have l3 := ht.le
  refine ⟨?_, ?_, ?_, by omega⟩
  · rcases hS with ⟨h0, e1, e2, _, q1, q2, _⟩ | ⟨h0, e1, q1, q2, _⟩ | ⟨h0, q1, q2, _⟩
    · exact .inl ⟨h0, e1, e2, q1, q2⟩
    · exact .inr (.inl ⟨h0, e1, q1, q2⟩)
    · exact .inr (.inr ⟨h0, q1, q2⟩)
  · rcases hT with ⟨_, _, q, _⟩ | ⟨_, q, _⟩ <;> omega
  · rcases hT with ⟨_, _, _, q, _⟩ | ⟨_, q, _⟩ <;> omega
