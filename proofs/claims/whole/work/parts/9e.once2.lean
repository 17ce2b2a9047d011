/-! ===== orders: one time of a clause, up to the act ===== -/
section
variable {N : Nat} {ln : Nat → Nat} {M : Nat} {g : sw_g} {cs : List Cl} {C : Nat → Int32} {u z : Nat} {k : Nat → Int32} {Lw : Nat → List Cl} {n w L : Nat}
theorem runs_head (hN : 3000 ≤ N) (K : KI k Lw n w L) (P : PQ ln M g 1 k Lw L) (h : TX ln g cs C u) {c : Cl} (hz : cs[z]? = some c) : ∃ g', GQ g g' ∧ ((holdsO (Wo k (lawAt Lw (k 46)) n (g.1 48 1) (g.1 48 2)) c.t = false ∧ fSx_runsOnce N ln g 35 (nI z) = some (1, g')) ∨ (holdsO (Wo k (lawAt Lw (k 46)) n (g.1 48 1) (g.1 48 2)) c.t = true ∧ fSx_runsOnce N ln g 35 (nI z) = fSx_runsOnce_44 N ln 35 g' (nI z) ∧ ∀ x, x < 19 → g'.1 48 x = Wo k (lawAt Lw (k 46)) n (g.1 48 1) (g.1 48 2) x)) := by
  have hz' := get_lt hz
  have hl := h.2.1
  obtain ⟨g1, w1, w2, w3, w4⟩ := words_x (N := N) hN K P
  have h1 := h.frame (g' := g1) (fun p x y => w3 p (by omega) (by omega))
  have q1 : GQ g g1 := ⟨fun p hp => w3 p (by omega) (by omega), w4, w2 1 (by decide), w2 2 (by decide)⟩
  obtain ⟨r1, r2, r3, r4, r5⟩ := h1.2.2.2.2.2.2.2 z c hz
  generalize Wo k (lawAt Lw (k 46)) n (g.1 48 1) (g.1 48 2) = W at w2 ⊢
  rw [fSx_runsOnce, w1, Option.bind_some, rd_nI (by omega) (by decide)]
  cases ht : c.t with
  | none =>
    rw [ht] at r5
    rw [show g1.1 (35 + 5) z = -1 from r5, if_pos rfl]
    exact ⟨g1, q1, .inr ⟨rfl, rfl, w2⟩⟩
  | some t =>
    rw [ht] at r5
    obtain ⟨n1, g2, a1, a2, a3⟩ := tst_o hN h1 w2 (p := 35 + 5) r5
    rw [if_neg n1, a1, Option.bind_some]
    simp only []
    have q2 : GQ g g2 := q1.ga a3
    cases hx : evT W t with
    | none =>
      rw [Option.isSome_none, if_pos (show bI false = 0 from rfl)]
      exact ⟨g2, q2, .inl ⟨by simp [holdsO, hx], rfl⟩⟩
    | some r =>
      rw [Option.isSome_some, if_neg (show ¬ bI true = 0 by decide), a2 r hx]
      cases r with
      | false =>
        rw [if_pos (show bI false = 0 from rfl)]
        exact ⟨g2, q2, .inl ⟨by simp [holdsO, hx], rfl⟩⟩
      | true =>
        rw [if_neg (show ¬ bI true = 0 by decide)]
        exact ⟨g2, q2, .inr ⟨by simp [holdsO, hx], rfl, fun x hx => by rw [a3.1 48 (by decide)]; exact w2 x hx⟩⟩
end
