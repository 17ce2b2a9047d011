/-! ===== orders: one time of a clause, both ===== -/
def OS (ln : Nat → Nat) (M : Nat) (cs : List Cl) (C : Nat → Int32) (u : Nat) (T V : Nat → Int32) (e : Nat) (Lw : Nat → List Cl) (n w L : Nat) (g : sw_g) (μ : sw_m) : Prop := Co ln M g μ Lw n w L ∧ TX ln g cs C u ∧ g.1 48 1 = μ.1 84 27 ∧ g.1 48 2 = μ.1 84 28 ∧ e ≤ 2800 ∧ (∀ k, k < e → μ.1 86 (54 + k) = T k) ∧ (∀ k, e ≤ k → T k = 0) ∧ (∀ k, k < 2800 → μ.1 86 (2854 + k) = V k)
def GXo (g g' : sw_g) : Prop := (∀ p, p ≠ 2 → p ≠ 4 → p ≠ 5 → p ≠ 29 → p ≠ 30 → (p < 43 ∨ 48 < p) → g'.1 p = g.1 p) ∧ g'.2.2 = g.2.2
def MZ (μ μ' : sw_m) : Prop := (∀ j, 15 ≤ j → μ'.1 86 j = μ.1 86 j) ∧ (∀ p j, p ≠ 86 → p ≠ 98 → p ≠ 96 → p ≠ 97 → (p = 84 → j ≠ 33 ∧ (j < 22 ∨ 29 < j) ∧ (j < 45 ∨ 48 < j)) → μ'.1 p j = μ.1 p j)
theorem GXo.trans {g g1 g2 : sw_g} (a : GXo g g1) (b : GXo g1 g2) : GXo g g2 := ⟨fun p x1 x2 x3 x4 x5 x6 => (b.1 p x1 x2 x3 x4 x5 x6).trans (a.1 p x1 x2 x3 x4 x5 x6), b.2.trans a.2⟩
theorem MZ.trans {μ μ1 μ2 : sw_m} (a : MZ μ μ1) (b : MZ μ1 μ2) : MZ μ μ2 := ⟨fun j h => (b.1 j h).trans (a.1 j h), fun p j x1 x2 x3 x4 x5 => (b.2 p j x1 x2 x3 x4 x5).trans (a.2 p j x1 x2 x3 x4 x5)⟩
theorem GXo.refl {g : sw_g} : GXo g g := ⟨fun _ _ _ _ _ _ _ => rfl, rfl⟩
theorem MZ.refl {μ : sw_m} : MZ μ μ := ⟨fun _ _ => rfl, fun _ _ _ _ _ _ _ => rfl⟩
theorem GQ.GXo {g g' : sw_g} (a : GQ g g') : GXo g g' := ⟨fun p _ _ _ _ _ h => a.1 p h, a.2.1⟩
theorem MH.MZ {μ μ' : sw_m} (a : MH μ μ') : MZ μ μ' := ⟨a.1, fun p j x1 x2 x3 x4 x5 => a.2 p j x1 x2 x3 x4 (fun q => by have := x5 q; omega)⟩
theorem GG.MZ {μ μ' : sw_m} (a : GG μ μ') : MZ μ μ' := ⟨fun j _ => a 86 j (by decide) (by omega), fun p j x1 x2 x3 x4 x5 => a p j x3 (fun q => by have := x5 q; omega)⟩
theorem MT.MZ {μ μ' : sw_m} (a : MT μ μ') : MZ μ μ' := a.MH.MZ
section
variable {N : Nat} {ln : Nat → Nat} {M : Nat} {g : sw_g} {μ : sw_m} {Lw : Nat → List Cl} {n w L : Nat} {cs : List Cl} {C : Nat → Int32} {u : Nat} {T V : Nat → Int32} {e : Nat}
theorem goes_1 (hN : 3000 ≤ N) (S : OS ln M cs C u T V e Lw n w L g μ) {i j : Nat} (h44 : μ.1 84 44 = nI i) {c : Cl} (hA : AtO true T V c i j) (hj : j ≤ 2800) (hs : stopS (T j) ∧ T j ≠ 6 ∧ T j ≠ 5) : ∃ μ', fMo_goesAlong N μ (nI e) 1 = some μ' ∧ μ'.1 84 46 = nI (ocd c.v) ∧ GG μ μ' ∧ μ'.1 84 48 = (if holdsO (Wo (μ.1 86) (lawAt Lw (μ.1 86 46)) n (μ.1 84 27) (μ.1 84 28)) c.t then 1 else 0) ∧ okV (Wo (μ.1 86) (lawAt Lw (μ.1 86 46)) n (μ.1 84 27) (μ.1 84 28)) c.a c.b μ' := by
  obtain ⟨c1, c2, c3, c4, c5, c6, c7, c8⟩ := S
  obtain ⟨μ1, e1, f1⟩ := mtilt_eq hN c1.1
  have k1 := f1.k
  obtain ⟨μ2, a1, a2, a3, a4, a5, a6⟩ := ga_13 (N := N) (μ := μ1) (Lw := Lw) (n := n) (w := w) (L := L) hN (by rw [k1]; exact c1.1) (i := i) (j := j) (by rw [f1.2 84 44 (by decide) (by omega)]; exact h44) c5 (fun k hk => by rw [k1]; exact c6 k hk) c7 (fun k hk => by rw [k1]; exact c8 k hk) hA hj hs (live := 1) (s0 := tiltK (μ.1 86) (lawAt Lw (μ.1 86 46)) n) (.inr rfl)
  have hW : WR (mI μ1 84 29 (tiltK (μ.1 86) (lawAt Lw (μ.1 86 46)) n)) Lw n = Wo (μ.1 86) (lawAt Lw (μ.1 86 46)) n (μ.1 84 27) (μ.1 84 28) := by
    funext x
    have m29 : (mI μ1 84 29 (tiltK (μ.1 86) (lawAt Lw (μ.1 86 46)) n)).1 84 29 = tiltK (μ.1 86) (lawAt Lw (μ.1 86 46)) n := by rw [mI_at, if_pos ⟨rfl, rfl⟩]
    have m86 : (mI μ1 84 29 (tiltK (μ.1 86) (lawAt Lw (μ.1 86 46)) n)).1 86 = μ.1 86 := by rw [← k1]; exact funext fun y => by rw [mI_at, if_neg (by omega)]
    have m27 : (mI μ1 84 29 (tiltK (μ.1 86) (lawAt Lw (μ.1 86 46)) n)).1 84 27 = μ.1 84 27 := by rw [mI_at, if_neg (by omega), f1.2 84 27 (by decide) (by omega)]
    have m28 : (mI μ1 84 29 (tiltK (μ.1 86) (lawAt Lw (μ.1 86 46)) n)).1 84 28 = μ.1 84 28 := by rw [mI_at, if_neg (by omega), f1.2 84 28 (by decide) (by omega)]
    unfold WR
    rw [m29, m86, m27, m28]
    by_cases hx : x = 3
    · subst hx; rfl
    · rw [if_neg hx]
  rw [hW] at a6
  obtain ⟨b1, b2⟩ := a6 rfl
  refine ⟨μ2, ?_, a2, fun p y x1 x2 => ?_, b1, b2⟩
  · rw [fMo_goesAlong, if_neg n10, e1, Option.bind_some]
    exact a1
  · rw [a5 p y x1 x2, f1.2 p y x1 (fun q => (x2 q).1)]
end
