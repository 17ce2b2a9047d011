/-! ===== orders: the act ===== -/
theorem small_tot (v : Int64) : ∃ a', fMo_small v = some a' := by
  rw [fMo_small]
  split
  · exact ⟨_, rfl⟩
  · split
    · exact ⟨_, rfl⟩
    · exact ⟨_, rfl⟩
/-- what an act may change: the class -/
def GH (g g' : sw_g) : Prop := (∀ p, p ≠ 2 → p ≠ 4 → p ≠ 5 → p ≠ 29 → p ≠ 30 → (p < 43 ∨ 45 < p) → p ≠ 48 → g'.1 p = g.1 p) ∧ g'.2.2 = g.2.2
/-- and the reference -/
def MH (μ μ' : sw_m) : Prop := (∀ j, 15 ≤ j → μ'.1 86 j = μ.1 86 j) ∧ (∀ p j, p ≠ 86 → p ≠ 98 → p ≠ 96 → p ≠ 97 → (p = 84 → j ≠ 33 ∧ (j < 22 ∨ 25 < j) ∧ j ≠ 28) → μ'.1 p j = μ.1 p j)
section
variable {N : Nat} {ln : Nat → Nat} {M : Nat} {g : sw_g} {μ : sw_m} {Lw : Nat → List Cl} {n w L : Nat}
/-- both failed, or both acted -/
def AC (ln : Nat → Nat) (M : Nat) (Lw : Nat → List Cl) (n w L : Nat) (g : sw_g) (μ : sw_m) (x : Option (Int32 × sw_g)) (y : Option (Int32 × sw_m)) : Prop :=
  (∃ a g' μ', ¬ 0 ≤ a ∧ x = some (0, g') ∧ y = some (a, μ') ∧ GA 43 45 g g' ∧ MH μ μ') ∨ (∃ a g' μ', 0 ≤ a ∧ x = some (1, g') ∧ y = some (a, μ') ∧ Co ln M g' μ' Lw n w L ∧ GH g g' ∧ MH μ μ' ∧ g'.1 48 1 = g.1 48 1 + 1 ∧ (g.1 48 2 = μ.1 84 28 → g'.1 48 2 = μ'.1 84 28))
end
section
variable {N : Nat} {ln : Nat → Nat} {M : Nat} {g g1 : sw_g} {μ μ1 : sw_m} {Lw : Nat → List Cl} {n w L : Nat}
theorem MP.MH (h : MP μ μ1) : MH μ μ1 := ⟨h.1, fun p j a b c d e => h.2 p j a b c d (fun q => ⟨(e q).1, (e q).2.1⟩)⟩
theorem MT.MH (h : MT μ μ1) : MH μ μ1 := ⟨fun j _ => by rw [h.k], fun p j a b c d e => h.2 p j c (fun q => (e q).2.1)⟩
/-- after an act that isn't a put -/
theorem r185_o {v s : Int32} (hv : ¬ v = 0) (hs : 0 ≤ s) : fSx_runsOnce_185 N ln 35 g1 v s = some (1, gI g1 48 1 (g1.1 48 1 + 1)) := by
  rw [fSx_runsOnce_185, if_pos hs, rd_K 1 1 19 (by decide) (by decide), wr_K 1 1 19 (by decide) (by decide), if_neg hv]
theorem r185_n {v s : Int32} (hs : ¬ 0 ≤ s) : fSx_runsOnce_185 N ln 35 g1 v s = some (0, g1) := by
  rw [fSx_runsOnce_185, if_neg hs]
theorem Co.done (h : Co ln M g1 μ1 Lw n w L) {v : Int32} : Co ln M (gI g1 48 1 v) μ1 Lw n w L := by
  obtain ⟨a, b, c⟩ := h
  exact ⟨a, b.ga (GA.put (lo := 48) (hi := 48) (Nat.le_refl _) (Nat.le_refl _)) (by decide) (by decide), c.frame (funext fun j => by rw [gI_at, if_neg (by omega)]) (funext fun j => by rw [gI_at, if_neg (by omega)]) rfl rfl⟩
theorem GP.done (h : GP g g1) {v : Int32} : GH g (gI g1 48 1 v) := ⟨fun p a b c d e f x => by funext j; rw [gI_at, if_neg (fun q => x q.1), h.1 p a b c d e f], h.2⟩
/-- take, pad, pass: from what both did -/
theorem act_o {v : Int32} (hv : ¬ v = 0) {x : Option (Int32 × sw_g)} {y : Option (Int32 × sw_m)} (h : Rf g μ x y ∨ (∃ s a g' μ', 0 ≤ s ∧ 0 ≤ a ∧ x = some (s, g') ∧ y = some (a, μ') ∧ Co ln M g' μ' Lw n w L ∧ GP g g' ∧ MP μ μ')) : AC ln M Lw n w L g μ (x.bind fun ⟨v13, g12⟩ => fSx_runsOnce_185 N ln 35 g12 v v13) (y.bind fun ⟨a, b⟩ => some (a, b)) := by
  rcases h with ⟨a, g', μ', ha, hx, hy, f1, f2⟩ | ⟨s, a, g', μ', hs, ha, hx, hy, c1, c2, c3⟩
  · rw [hx, hy, Option.bind_some, Option.bind_some]
    simp only []
    rw [r185_n (neg_cases ha)]
    exact .inl ⟨a, g', μ', neg_cases ha, rfl, rfl, f1, f2.MH⟩
  · rw [hx, hy, Option.bind_some, Option.bind_some]
    simp only []
    rw [r185_o hv hs]
    have e48 : g'.1 48 = g.1 48 := c2.1 48 (by decide) (by decide) (by decide) (by decide) (by decide) (by decide)
    refine .inr ⟨a, _, μ', ha, rfl, rfl, c1.done, c2.done, c3.MH, ?_, fun q => ?_⟩
    · rw [gI_at, if_pos ⟨rfl, rfl⟩, e48]
    · rw [gI_at, if_neg (by omega), e48, q, c3.2 84 28 (by decide) (by decide) (by decide) (by decide) (by omega)]
end
