/-! ===== orders: one time of a clause, side by side ===== -/
section
variable {N : Nat} {ln : Nat → Nat} {M : Nat} {g g1 : sw_g} {μ μ1 : sw_m} {Lw : Nat → List Cl} {n w L : Nat} {cs : List Cl} {C : Nat → Int32} {u : Nat} {T V : Nat → Int32} {e z : Nat}
theorem OS.q (S : OS ln M cs C u T V e Lw n w L g μ) (a : GQ g g1) (b : GG μ μ1) : OS ln M cs C u T V e Lw n w L g1 μ1 := by
  obtain ⟨⟨c1, c1', c1''⟩, c2, c3, c4, c5, c6, c7, c8⟩ := S
  have k1 : μ1.1 86 = μ.1 86 := funext fun y => b 86 y (by decide) (by omega)
  refine ⟨⟨by rw [k1]; exact c1, ?_, c1''.frame (a.1 29 (by decide)) (a.1 30 (by decide)) (b 84 33 (by decide) (by omega)) (funext fun y => b 98 y (by decide) (by omega))⟩, c2.frame (fun p x y => a.1 p (by omega)), by rw [a.2.2.1, b 84 27 (by decide) (by omega)]; exact c3, by rw [a.2.2.2, b 84 28 (by decide) (by omega)]; exact c4, c5, fun k hk => by rw [k1]; exact c6 k hk, c7, fun k hk => by rw [k1]; exact c8 k hk⟩
  rw [k1]
  exact c1'.frame (fun p x y => a.1 p (by omega)) (fun p x _ => a.1 p (by omega)) (by rw [a.2.1]) (by rw [a.2.1])
theorem once_sim (hN : 3000 ≤ N) (S : OS ln M cs C u T V e Lw n w L g μ) {i j : Nat} (h44 : μ.1 84 44 = nI i) {c : Cl} (hz : cs[z]? = some c) (ho : okO3 c) (hA : AtO true T V c i j) (hj : j ≤ 2800) (hs : stopS (T j) ∧ T j ≠ 6 ∧ T j ≠ 5) {fu u2 u4 : Nat} (hu : u4 < u2) (hu2 : u2 ≤ 20) {u3 : Int32} :
    (∃ g' μ', fSx_runsOnce N ln g 35 (nI z) = some (0, g') ∧ fMo_runs_19 N (fu + 1) μ (nI e) (nI u2) u3 (nI u4) = some (0, μ') ∧ GXo g g' ∧ MZ μ μ') ∨ (∃ g' μ', fSx_runsOnce N ln g 35 (nI z) = some (1, g') ∧ fMo_runs_19 N (fu + 1) μ (nI e) (nI u2) u3 (nI u4) = fMo_runs_19 N fu μ' (nI e) (nI u2) u3 (nI (u4 + 1)) ∧ OS ln M cs C u T V e Lw n w L g' μ' ∧ GXo g g' ∧ MZ μ μ') := by
  obtain ⟨μ1, a1, a2, a3, a4, a5⟩ := goes_1 hN S h44 hA hj hs
  have S0 := S
  obtain ⟨c1, c2, c3, c4, c5, c6, c7, c8⟩ := S
  obtain ⟨g1, q, hd⟩ := runs_head (N := N) hN c1.1 c1.2.1 c2 hz
  rw [c3, c4] at hd
  have S1 := S0.q q a3
  generalize Wo (μ.1 86) (lawAt Lw (μ.1 86 46)) n (μ.1 84 27) (μ.1 84 28) = W at a4 a5 hd
  have e0 : ∀ r : Option (Int32 × sw_m), r = r → fMo_runs_19 N (fu + 1) μ (nI e) (nI u2) u3 (nI u4) = (if (μ1.1 84 48) = 0 then fMo_runs_19 N fu μ1 (nI e) (nI u2) u3 (nI (u4 + 1)) else (if (μ1.1 84 47) = 0 then some ((0 : Int32), μ1) else (fMo_obeys N μ1).bind fun ⟨v10, μ9⟩ => (if 0 ≤ v10 then nm (mI μ9 84 27 ((μ9.1 84 27) + (1 : Int32))) fun μ11 => nm (nI u4 + (1 : Int32)) fun x12 => fMo_runs_19 N fu μ11 (nI e) (nI u2) u3 x12 else some ((0 : Int32), μ9)))) := by
    intro _ _
    rw [fMo_runs_19, if_neg (nI_ge (by omega) (by omega)), a1, Option.bind_some]
    rw [show nm (nI u4 + (1 : Int32)) (fun x13 => fMo_runs_19 N fu μ1 (nI e) (nI u2) u3 x13) = fMo_runs_19 N fu μ1 (nI e) (nI u2) u3 (nI (u4 + 1)) by rw [nm, nI_1]]
  rw [e0 none rfl, a4]
  rcases hd with ⟨d1, d2⟩ | ⟨d1, d2, d3⟩
  · rw [d1, if_pos (show (if false = true then (1 : Int32) else 0) = 0 from rfl), d2]
    exact .inr ⟨g1, μ1, rfl, rfl, S1, q.GXo, a3.MZ⟩
  · rw [d1, if_pos rfl, if_neg n10, d2]
    rcases runs_44 (N := N) hN S1.2.1 d3 hz ho with ⟨⟨x, x1, x2⟩, g2, y1, y2⟩ | ⟨x1, x2, g2, p1, p2, p3, p4, p5⟩
    · have h47 : μ1.1 84 47 = 0 := by
        rcases a5 with ⟨_, b2, b3⟩ | ⟨b1, _⟩
        · exfalso
          rcases x1 with x1 | x1
          · rw [b2 x x1] at x2; cases x2
          · rw [b3 x x1] at x2; cases x2
        · exact b1
      rw [h47, if_pos rfl, y1]
      exact .inl ⟨g2, μ1, rfl, rfl, (q.ga y2).GXo, a3.MZ⟩
    · have hok : μ1.1 84 47 = 1 ∧ (∀ x, c.a = some x → ev W x = some (μ1.2 108 0)) ∧ (∀ x, c.b = some x → ev W x = some (μ1.2 108 1)) := by
        rcases a5 with b | ⟨_, ⟨x, b1, b2⟩ | ⟨x, b1, b2⟩⟩
        · exact b
        · obtain ⟨v, v1, _⟩ := p1 x b1; rw [v1] at b2; cases b2
        · obtain ⟨v, v1, _⟩ := p2 x b1; rw [v1] at b2; cases b2
      obtain ⟨h47, k1, k2⟩ := hok
      have S2 := S0.q (q.ga p5) a3
      have hv : c.v ≤ 3 := by rcases ho with ⟨z | z, _⟩ | ⟨z, _⟩ | ⟨z, _⟩ <;> omega
      have hac := act_all (N := N) hN S2.1 hv (x1 := x1) a2 (fun h3 => by
        obtain ⟨x, hx⟩ : ∃ x, c.a = some x := by
          rcases ho with ⟨_, e1, _, z, _⟩ | ⟨_, e1, z, _⟩ | ⟨z, _⟩
          · exact ⟨e1, z⟩
          · exact ⟨e1, z⟩
          · exact absurd z h3
        obtain ⟨v, v1, v2⟩ := p1 x hx
        have v3 := k1 x hx
        rw [v1] at v3
        cases v3
        exact ⟨ev_rng v1, v2⟩) (fun h3 => by
        obtain ⟨x, hx⟩ : ∃ x, c.b = some x := by
          rcases ho with ⟨_, _, e2, _, z⟩ | ⟨z, _⟩ | ⟨z, _⟩
          · exact ⟨e2, z⟩
          · omega
          · omega
        obtain ⟨v, v1, v2⟩ := p2 x hx
        have v3 := k2 x hx
        rw [v1] at v3
        cases v3
        exact ⟨ev_rng v1, (p4 h3).trans v2⟩)
      rw [h47, if_neg n10, p3]
      rcases hac with ⟨a, g3, μ3, z1, z2, z3, z4, z5⟩ | ⟨a, g3, μ3, z1, z2, z3, z4, z5, z6, z7, z8⟩
      · rw [z2, z3, Option.bind_some]
        simp only []
        rw [if_neg z1]
        exact .inl ⟨g3, μ3, rfl, rfl, (q.ga p5).GXo.trans ⟨fun p _ _ _ _ _ h => z4.1 p (by omega), z4.2⟩, a3.MZ.trans z5.MZ⟩
      · rw [z2, z3, Option.bind_some]
        simp only []
        rw [if_pos z1, nm, nm, nI_1]
        obtain ⟨w1, w2, w3, w4, w5, w6, w7, w8⟩ := S2
        have k3 : (mI μ3 84 27 (μ3.1 84 27 + 1)).1 86 = μ3.1 86 := funext fun y => by rw [mI_at, if_neg (by omega)]
        refine .inr ⟨g3, _, rfl, rfl, ⟨⟨by rw [k3]; exact z4.1, by rw [k3]; exact z4.2.1, z4.2.2.frame rfl rfl (by rw [mI_at, if_neg (by omega)]) (funext fun y => by rw [mI_at, if_neg (by omega)])⟩, w2.frame (fun p x y => z5.1 p (by omega) (by omega) (by omega) (by omega) (by omega) (by omega) (by omega)), ?_, ?_, w5, fun k hk => ?_, w7, fun k hk => ?_⟩, (q.ga p5).GXo.trans ⟨fun p a b c d f h => z5.1 p a b c d f (by omega) (by omega), z5.2⟩, (a3.MZ.trans z6.MZ).trans ⟨fun y _ => by rw [k3], fun p y _ _ _ _ h => by rw [mI_at, if_neg (fun x => by have := h x.1; omega)]⟩⟩
        · rw [z7, mI_at, if_pos ⟨rfl, rfl⟩, z6.2 84 27 (by decide) (by decide) (by decide) (by decide) (by omega), w3]
        · rw [z8 w4, mI_at, if_neg (by omega)]
        · rw [k3, z6.1 _ (by omega)]; exact w6 k hk
        · rw [k3, z6.1 _ (by omega)]; exact w8 k hk
end
