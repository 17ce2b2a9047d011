/-! ===== orders: the class works a clause out ===== -/
def TX (ln : Nat → Nat) (g : sw_g) (cs : List Cl) (C : Nat → Int32) (u : Nat) : Prop := g.1 35 0 = nI cs.length ∧ cs.length ≤ 12 ∧ g.1 35 6 = nI u ∧ u ≤ 500 ∧ u ≤ ln 41 ∧ ln 41 < 2147483648 ∧ g.1 41 = C ∧ ∀ z c, cs[z]? = some c → RowC g 35 C u 19 z c
section
variable {N : Nat} {ln : Nat → Nat} {M : Nat} {g g' : sw_g} {cs : List Cl} {C W : Nat → Int32} {u z : Nat} {k : Nat → Int32} {Lw : Nat → List Cl} {n w L : Nat}
theorem TX.frame (h : TX ln g cs C u) (hg : ∀ p, 35 ≤ p → p ≤ 41 → g'.1 p = g.1 p) : TX ln g' cs C u := by
  obtain ⟨h1, h2, h3, h4, h5, h6, h7, h8⟩ := h
  refine ⟨by rw [hg 35 (by decide) (by decide)]; exact h1, h2, by rw [hg 35 (by decide) (by decide)]; exact h3, h4, h5, h6, by rw [hg 41 (by decide) (by decide)]; exact h7, fun z c hz => (h8 z c hz).mono (fun x x1 x5 => by rw [hg (35 + x) (by omega) (by omega)]) (Nat.le_refl _) (fun _ _ => rfl)⟩
theorem TX.cx (h : TX ln g cs C u) (hW : ∀ x, x < 19 → g.1 48 x = W x) : Cx ln g 35 48 19 C W u := by
  obtain ⟨h1, h2, h3, h4, h5, h6, h7, h8⟩ := h
  exact Cx.of h3 (by omega) h5 h6 (fun x _ => by rw [show g.1 (35 + 6) = C from h7]) hW (by decide)
theorem val_o (hN : 3000 ≤ N) (h : TX ln g cs C u) (hW : ∀ x, x < 19 → g.1 48 x = W x) {p : Nat} {ex : Ex} (ha : At1c g p z C u 19 ex) : ∃ g', fRk_works N ln g 46 35 48 19 (g.1 p z) = some (bI (ev W ex).isSome, g') ∧ (∀ v, ev W ex = some v → g'.1 46 0 = v.toInt32) ∧ GA 46 47 g g' := by
  obtain ⟨i, l, a1, a2, a3, a4, a5⟩ := ha
  obtain ⟨S', hS⟩ := worksE (q0 := 46) (h.cx hW) hN a2 a3 a4 a5
  rw [a1, hS]
  cases hx : ev W ex with
  | none => exact ⟨gS g 46 S', rfl, fun v hv => (by cases hv), gS_GA⟩
  | some v =>
    refine ⟨gI (gS g 46 S') 46 0 v.toInt32, rfl, fun v' hv => ?_, gS_GA.trans (GA.put (by decide) (by decide))⟩
    cases hv
    rw [gI_at, if_pos ⟨rfl, rfl⟩]
theorem tst_o (hN : 3000 ≤ N) (h : TX ln g cs C u) (hW : ∀ x, x < 19 → g.1 48 x = W x) {p : Nat} {t : Tx} (ha : AtTc g p z C u 19 t) : g.1 p z ≠ -1 ∧ ∃ g', fRk_works N ln g 46 35 48 19 (g.1 p z) = some (bI (evT W t).isSome, g') ∧ (∀ r, evT W t = some r → g'.1 46 0 = bI r) ∧ GA 46 47 g g' := by
  obtain ⟨i, l, a1, a2, a3, a4, a5⟩ := ha
  have hu := h.2.2.2.1
  have hlt := a2.lt
  obtain ⟨S', hS⟩ := worksR (q0 := 46) (h.cx hW) hN (runT (h.cx hW) t i l a2 (by omega)) a3 a4 a5
  refine ⟨by rw [a1]; exact nI_nm1 (by omega), ?_⟩
  rw [a1, hS]
  cases hx : evT W t with
  | none => exact ⟨gS g 46 S', rfl, fun v hv => (by cases hv), gS_GA⟩
  | some r =>
    refine ⟨gI (gS g 46 S') 46 0 (bL r).toInt32, rfl, fun v' hv => ?_, gS_GA.trans (GA.put (by decide) (by decide))⟩
    cases hv
    rw [gI_at, if_pos ⟨rfl, rfl⟩]
    cases r <;> rfl
/-- only scratch has changed -/
def GQ (g g' : sw_g) : Prop := (∀ p, (p < 43 ∨ 48 < p) → g'.1 p = g.1 p) ∧ g'.2.2 = g.2.2 ∧ g'.1 48 1 = g.1 48 1 ∧ g'.1 48 2 = g.1 48 2
theorem GQ.ga {g1 : sw_g} (a : GQ g g') (b : GA 46 47 g' g1) : GQ g g1 := ⟨fun p h => (b.1 p (by omega)).trans (a.1 p h), b.2.trans a.2.1, by rw [b.1 48 (by decide)]; exact a.2.2.1, by rw [b.1 48 (by decide)]; exact a.2.2.2⟩
/-- an order's sums, by its verb -/
def okO3 (c : Cl) : Prop := ((c.v = 0 ∨ c.v = 2) ∧ ∃ e1 e2, c.a = some e1 ∧ c.b = some e2) ∨ (c.v = 1 ∧ ∃ e1, c.a = some e1 ∧ c.b = none) ∨ (c.v = 3 ∧ c.a = none ∧ c.b = none)
theorem runs_44 (hN : 3000 ≤ N) (h : TX ln g cs C u) (hW : ∀ x, x < 19 → g.1 48 x = W x) {c : Cl} (hz : cs[z]? = some c) (ho : okO3 c) : ((∃ x, (c.a = some x ∨ c.b = some x) ∧ ev W x = none) ∧ ∃ g', fSx_runsOnce_44 N ln 35 g (nI z) = some (0, g') ∧ GA 46 47 g g') ∨ (∃ x1 x2 g', (∀ x, c.a = some x → ∃ v, ev W x = some v ∧ x1 = v.toInt32) ∧ (∀ x, c.b = some x → ∃ v, ev W x = some v ∧ x2 = v.toInt32) ∧ fSx_runsOnce_44 N ln 35 g (nI z) = fSx_runsOnce_124 N ln 35 g' (nI c.v) x1 ∧ (c.v = 0 ∨ c.v = 2 → g'.1 46 0 = x2) ∧ GA 46 47 g g') := by
  have hz' := get_lt hz
  have hl := h.2.1
  obtain ⟨r1, r2, r3, r4, r5⟩ := h.2.2.2.2.2.2.2 z c hz
  have v3 : c.v ≤ 3 := by rcases ho with ⟨q | q, _⟩ | ⟨q, _⟩ | ⟨q, _⟩ <;> omega
  have ne : ∀ b : Nat, b ≤ 3 → c.v ≠ b → ¬ nI c.v = nI b := fun b hb hn q => hn ((nI_eq (by omega) (by omega)).1 q)
  rw [fSx_runsOnce_44, rd_nI (by omega) (by decide), show g.1 (35 + 1) z = nI c.v from r1]
  rcases ho with ⟨hv, e1, e2, q1, q2⟩ | ⟨hv, e1, q1, q2⟩ | ⟨hv, q1, q2⟩
  · rw [q1] at r3
    rw [q2] at r4
    have hv3 : ¬ nI c.v = 3 := ne 3 (by decide) (by omega)
    obtain ⟨g1, a1, a2, a3⟩ := val_o hN h hW (p := 35 + 2) r3
    rw [if_neg hv3, rd_nI (by omega) (by decide), a1, Option.bind_some]
    simp only []
    have h1 := h.frame (g' := g1) (fun p x y => a3.1 p (by omega))
    have hW1 : ∀ x, x < 19 → g1.1 48 x = W x := fun x hx => by rw [a3.1 48 (by decide)]; exact hW x hx
    have r4' : At1c g1 (35 + 3) z C u 19 e2 := by
      obtain ⟨i, l, b1, b2⟩ := r4
      exact ⟨i, l, by rw [a3.1 (35 + 3) (by decide)]; exact b1, b2⟩
    obtain ⟨g2, b1, b2, b3⟩ := val_o hN h1 hW1 (p := 35 + 3) r4'
    cases hx : ev W e1 with
    | none =>
      rw [Option.isSome_none, if_pos (show bI false = 0 from rfl)]
      exact .inl ⟨⟨e1, .inl q1, hx⟩, g1, rfl, a3⟩
    | some v1 =>
      rw [Option.isSome_some, if_neg (show ¬ bI true = 0 by decide), fSx_runsOnce_81, nm]
      have e81 : (if nI c.v = 0 then fSx_runsOnce_101 N ln 35 g1 (nI z) (nI c.v) (g1.1 46 0) else if nI c.v = 2 then fSx_runsOnce_101 N ln 35 g1 (nI z) (nI c.v) (g1.1 46 0) else fSx_runsOnce_124 N ln 35 g1 (nI c.v) (g1.1 46 0)) = fSx_runsOnce_101 N ln 35 g1 (nI z) (nI c.v) (g1.1 46 0) := by
        rcases hv with q | q
        · rw [if_pos (by rw [q]; rfl)]
        · rw [if_neg (show ¬ nI c.v = 0 from ne 0 (by decide) (by omega)), if_pos (by rw [q]; rfl)]
      rw [e81, fSx_runsOnce_101, rd_nI (by omega) (by decide), b1, Option.bind_some]
      simp only []
      cases hy : ev W e2 with
      | none =>
        rw [Option.isSome_none, if_pos (show bI false = 0 from rfl)]
        exact .inl ⟨⟨e2, .inr q2, hy⟩, g2, rfl, a3.trans b3⟩
      | some v2 =>
        rw [Option.isSome_some, if_neg (show ¬ bI true = 0 by decide)]
        refine .inr ⟨g1.1 46 0, v2.toInt32, g2, fun x hx' => ⟨v1, ?_, a2 v1 hx⟩, fun x hx' => ⟨v2, ?_, rfl⟩, rfl, fun _ => b2 v2 hy, a3.trans b3⟩
        · rw [q1] at hx'; cases hx'; exact hx
        · rw [q2] at hx'; cases hx'; exact hy
  · rw [q1] at r3
    have hv3 : ¬ nI c.v = 3 := ne 3 (by decide) (by omega)
    obtain ⟨g1, a1, a2, a3⟩ := val_o hN h hW (p := 35 + 2) r3
    rw [if_neg hv3, rd_nI (by omega) (by decide), a1, Option.bind_some]
    simp only []
    cases hx : ev W e1 with
    | none =>
      rw [Option.isSome_none, if_pos (show bI false = 0 from rfl)]
      exact .inl ⟨⟨e1, .inl q1, hx⟩, g1, rfl, a3⟩
    | some v1 =>
      rw [Option.isSome_some, if_neg (show ¬ bI true = 0 by decide), fSx_runsOnce_81, nm, if_neg (show ¬ nI c.v = 0 from ne 0 (by decide) (by omega)), if_neg (show ¬ nI c.v = 2 from ne 2 (by decide) (by omega))]
      refine .inr ⟨g1.1 46 0, 0, g1, fun x hx' => ⟨v1, ?_, a2 v1 hx⟩, fun x hx' => ?_, rfl, fun q => by omega, a3⟩
      · rw [q1] at hx'; cases hx'; exact hx
      · rw [q2] at hx'; cases hx'
  · rw [if_pos (show nI c.v = 3 by rw [hv]; rfl), fSx_runsOnce_81, nm, if_neg (show ¬ nI c.v = 0 from ne 0 (by decide) (by omega)), if_neg (show ¬ nI c.v = 2 from ne 2 (by decide) (by omega))]
    refine .inr ⟨g.1 46 0, 0, g, fun x hx' => ?_, fun x hx' => ?_, rfl, fun q => by omega, GA.refl⟩
    · rw [q1] at hx'; cases hx'
    · rw [q2] at hx'; cases hx'
end
