/-! ===== orders: the loops ===== -/
theorem AtO.ok {T V : Nat → Int32} {c : Cl} {i j : Nat} (h : AtO true T V c i j) : okO3 c ∧ 1 ≤ c.n ∧ c.n ≤ 20 ∧ i < j := by
  obtain ⟨k, hd, ht⟩ := h
  unfold Hdo at hd
  rw [if_pos rfl] at hd
  obtain ⟨_, x, hS, hT⟩ := hd
  have l1 := hS.le
  have l2 := hT.le
  have l3 := ht.le
  refine ⟨?_, ?_, ?_, by omega⟩
  · rcases hS with ⟨h0, e1, e2, _, q1, q2, _⟩ | ⟨h0, e1, q1, q2, _⟩ | ⟨h0, q1, q2, _⟩
    · exact .inl ⟨h0, e1, e2, q1, q2⟩
    · exact .inr (.inl ⟨h0, e1, q1, q2⟩)
    · exact .inr (.inr ⟨h0, q1, q2⟩)
  · rcases hT with ⟨_, _, q, _⟩ | ⟨_, q, _⟩ <;> omega
  · rcases hT with ⟨_, _, _, q, _⟩ | ⟨_, q, _⟩ <;> omega
def oStop (N : Nat) (ln : Nat → Nat) (g : sw_g) (u2 : Int32) : Option (Int32 × sw_g) := nm (gI g 0 16 u2) fun g21 => (fPl_become N ln g21 1 10).bind fun g23 => (fHi_become ln g23 29 31).bind fun g25 => (fSx_refuse N ln g25 (-3 : Int32)).bind fun ⟨v28, g27⟩ => some (v28, g27)
section
variable {N : Nat} {ln : Nat → Nat} {M : Nat} {Lw : Nat → List Cl} {n w L : Nat} {cs : List Cl} {C : Nat → Int32} {u : Nat} {T V : Nat → Int32} {e z : Nat}
theorem ctimes_sim (hN : 3000 ≤ N) {i j : Nat} {c : Cl} (hz : cs[z]? = some c) (hA : AtO true T V c i j) (hj : j ≤ 2800) (hs : stopS (T j) ∧ T j ≠ 6 ∧ T j ≠ 5) {k69 : sw_g → Int32 → Option (Int32 × sw_g)} {u3 : Int32} : ∀ (d t fu fm : Nat) (g : sw_g) (μ : sw_m), t + d = c.n → d < fu → d < fm → OS ln M cs C u T V e Lw n w L g μ → μ.1 84 44 = nI i →
    (∃ g' μ', fSx_orders_85 N ln k69 fu g (nI z) (nI t) = oStop N ln g' (nI z) ∧ fMo_runs_19 N fm μ (nI e) (nI c.n) u3 (nI t) = some (0, μ') ∧ GXo g g' ∧ MZ μ μ') ∨ (∃ g' μ', fSx_orders_85 N ln k69 fu g (nI z) (nI t) = k69 g' (nI (z + 1)) ∧ fMo_runs_19 N fm μ (nI e) (nI c.n) u3 (nI t) = some (1, mI μ' 84 44 u3) ∧ OS ln M cs C u T V e Lw n w L g' μ' ∧ GXo g g' ∧ MZ μ μ') := by
  obtain ⟨ho, n1, n20, hij⟩ := hA.ok
  intro d
  induction d with
  | zero =>
    intro t fu fm g μ ht hfu hfm S h44
    obtain ⟨fu, rfl⟩ : ∃ x, fu = x + 1 := ⟨fu - 1, by omega⟩
    obtain ⟨fm, rfl⟩ : ∃ x, fm = x + 1 := ⟨fm - 1, by omega⟩
    have hzl := get_lt hz
    have hl := S.2.1.2.1
    have r2 := (S.2.1.2.2.2.2.2.2.2 z c hz).2.1
    obtain rfl : t = c.n := by omega
    refine .inr ⟨g, μ, ?_, ?_, S, GXo.refl, MZ.refl⟩
    · rw [fSx_orders_85, rd_nI (by omega) (by decide), show g.1 39 z = nI c.n from r2, if_pos (nI_le (Nat.le_refl _) (by omega)), nm, nI_1]
    · rw [fMo_runs_19, if_pos (nI_le (Nat.le_refl _) (by omega)), nm]
  | succ d ih =>
    intro t fu fm g μ ht hfu hfm S h44
    obtain ⟨fu, rfl⟩ : ∃ x, fu = x + 1 := ⟨fu - 1, by omega⟩
    obtain ⟨fm, rfl⟩ : ∃ x, fm = x + 1 := ⟨fm - 1, by omega⟩
    have hzl := get_lt hz
    have hl := S.2.1.2.1
    have r2 := (S.2.1.2.2.2.2.2.2.2 z c hz).2.1
    rcases once_sim hN S h44 hz ho hA hj hs (fu := fm) (u2 := c.n) (u4 := t) (by omega) n20 (u3 := u3) with ⟨g', μ', a1, a2, a3, a4⟩ | ⟨g', μ', a1, a2, a3, a4, a5⟩
    · refine .inl ⟨g', μ', ?_, a2, a3, a4⟩
      rw [fSx_orders_85, rd_nI (by omega) (by decide), show g.1 39 z = nI c.n from r2, if_neg (nI_ge (by omega) (by omega)), a1, Option.bind_some]
      simp only []
      rw [if_pos trivial]
      rfl
    · have e85 : fSx_orders_85 N ln k69 (fu + 1) g (nI z) (nI t) = fSx_orders_85 N ln k69 fu g' (nI z) (nI (t + 1)) := by
        rw [fSx_orders_85, rd_nI (by omega) (by decide), show g.1 39 z = nI c.n from r2, if_neg (nI_ge (by omega) (by omega)), a1, Option.bind_some]
        simp only []
        rw [if_neg n10, nm, nI_1]
      rcases ih (t + 1) fu fm g' μ' (by omega) (by omega) (by omega) a3 (by rw [a5.2 84 44 (by decide) (by decide) (by decide) (by decide) (by omega)]; exact h44) with ⟨g2, μ2, b1, b2, b3, b4⟩ | ⟨g2, μ2, b1, b2, b3, b4, b5⟩
      · exact .inl ⟨g2, μ2, by rw [e85, b1], by rw [a2, b2], a4.trans b3, a5.trans b4⟩
      · exact .inr ⟨g2, μ2, by rw [e85, b1], by rw [a2, b2], b3, a4.trans b4, a5.trans b5⟩
theorem OS.put44 {g : sw_g} {μ : sw_m} (S : OS ln M cs C u T V e Lw n w L g μ) (v : Int32) : OS ln M cs C u T V e Lw n w L g (mI μ 84 44 v) := by
  obtain ⟨⟨c1, c1', c1''⟩, c2, c3, c4, c5, c6, c7, c8⟩ := S
  have k1 : (mI μ 84 44 v).1 86 = μ.1 86 := funext fun y => by rw [mI_at, if_neg (by omega)]
  exact ⟨⟨by rw [k1]; exact c1, by rw [k1]; exact c1', c1''.frame rfl rfl (by rw [mI_at, if_neg (by omega)]) (funext fun y => by rw [mI_at, if_neg (by omega)])⟩, c2, by rw [mI_at, if_neg (by omega)]; exact c3, by rw [mI_at, if_neg (by omega)]; exact c4, c5, fun k hk => by rw [k1]; exact c6 k hk, c7, fun k hk => by rw [k1]; exact c8 k hk⟩
def MY (μ μ' : sw_m) : Prop := (∀ j, 15 ≤ j → μ'.1 86 j = μ.1 86 j) ∧ (∀ p j, p ≠ 86 → p ≠ 98 → p ≠ 96 → p ≠ 97 → (p = 84 → j ≠ 33 ∧ (j < 22 ∨ 29 < j) ∧ (j < 44 ∨ 48 < j)) → μ'.1 p j = μ.1 p j)
theorem MY.refl {μ : sw_m} : MY μ μ := ⟨fun _ _ => rfl, fun _ _ _ _ _ _ _ => rfl⟩
theorem MY.trans {μ μ1 μ2 : sw_m} (a : MY μ μ1) (b : MY μ1 μ2) : MY μ μ2 := ⟨fun j h => (b.1 j h).trans (a.1 j h), fun p j x1 x2 x3 x4 x5 => (b.2 p j x1 x2 x3 x4 x5).trans (a.2 p j x1 x2 x3 x4 x5)⟩
theorem MZ.MY {μ μ' : sw_m} (a : MZ μ μ') : MY μ μ' := ⟨a.1, fun p j x1 x2 x3 x4 x5 => a.2 p j x1 x2 x3 x4 (fun q => by have := x5 q; omega)⟩
theorem MY.put44 {μ : sw_m} {v : Int32} : MY μ (mI μ 84 44 v) := ⟨fun j _ => by rw [mI_at, if_neg (by omega)], fun p j _ _ _ _ h => by rw [mI_at, if_neg (fun q => by have := h q.1; omega)]⟩
theorem clauses_sim (hN : 3000 ≤ N) {u1 : Int32} : ∀ (rest : List Cl) (z i fu fm : Nat) (g : sw_g) (μ : sw_m), (∀ x, cs[z + x]? = rest[x]?) → z + rest.length = cs.length → AtLo true T V e rest i → rest.length < fu → rest.length < fm → OS ln M cs C u T V e Lw n w L g μ → μ.1 84 44 = nI i →
    (∃ z' g' μ', fSx_orders_69 N ln fu g (nI z) = oStop N ln g' (nI z') ∧ fMo_orders_95 N fm μ u1 (nI e) (nI z) = ((fMo_takesBack N μ' (1 : Int32)).bind fun μ22 => fMo_orders_122 N N μ22 u1 (nI z') (0 : Int32)) ∧ GXo g g' ∧ MY μ μ') ∨ (∃ g' μ', fSx_orders_69 N ln fu g (nI z) = fSx_orders_150 N ln g' ∧ fMo_orders_95 N fm μ u1 (nI e) (nI z) = ((fMo_good μ' (μ'.1 84 27)).bind fun ⟨v17, μ16⟩ => some (v17, μ16)) ∧ OS ln M cs C u T V e Lw n w L g' μ' ∧ GXo g g' ∧ MY μ μ') := by
  intro rest
  induction rest with
  | nil =>
    intro z i fu fm g μ hr hzl hA hfu hfm S h44
    obtain ⟨fu, rfl⟩ : ∃ x, fu = x + 1 := ⟨fu - 1, by omega⟩
    obtain ⟨fm, rfl⟩ : ∃ x, fm = x + 1 := ⟨fm - 1, by omega⟩
    have hi : i = e + 1 := hA
    have hl := S.2.1.2.1
    have he := S.2.2.2.2.1
    have hzl : z = cs.length := hzl
    refine .inr ⟨g, μ, ?_, ?_, S, GXo.refl, MY.refl⟩
    · rw [fSx_orders_69, S.2.1.1, if_pos (nI_le (by omega) (by omega))]
    · rw [fMo_orders_95, h44, hi, if_pos (nI_le (by omega) (by omega))]
  | cons c rest ih =>
    intro z i fu fm g μ hr hzl hA hfu hfm S h44
    obtain ⟨fu, rfl⟩ : ∃ x, fu = x + 1 := ⟨fu - 1, by omega⟩
    obtain ⟨fm, rfl⟩ : ∃ x, fm = x + 1 := ⟨fm - 1, by omega⟩
    have hzl : z + (rest.length + 1) = cs.length := hzl
    have hfu : rest.length + 1 < fu + 1 := hfu
    have hfm : rest.length + 1 < fm + 1 := hfm
    have hz : cs[z]? = some c := hr 0
    obtain ⟨j, hC, hj, hje, hR⟩ := hA
    obtain ⟨ho, n1, n20, hij⟩ := hC.ok
    have hs := stop_end (S.2.2.2.2.2.2.1 e (Nat.le_refl _)) hj
    have S0 := S
    obtain ⟨c1, c2, c3, c4, c5, c6, c7, c8⟩ := S
    have hl := c2.2.1
    obtain ⟨μ1, a1, a2, a3, a4, a5, _⟩ := ga_13 (N := N) (μ := μ) hN c1.1 h44 c5 c6 c7 c8 hC (by omega) ⟨hs.1, hs.2.1, hs.2.2.1⟩ (live := 0) (s0 := 0) (.inl rfl)
    have S1 := S0.q (g1 := g) ⟨fun _ _ => rfl, rfl, rfl, rfl⟩ a5
    have h441 : μ1.1 84 44 = nI i := by rw [a5 84 44 (by decide) (by omega)]; exact h44
    have ex : fSx_orders_69 N ln (fu + 1) g (nI z) = fSx_orders_85 N ln (fSx_orders_69 N ln fu) N g (nI z) (nI 0) := by
      rw [fSx_orders_69, c2.1, if_neg (nI_ge (by omega) (by omega)), if_neg (show ¬ (12 : Int32) ≤ nI z from nI_ge (b := 12) (by omega) (by decide))]
      rfl
    have em : ∀ r, fMo_runs_19 N N μ1 (nI e) (nI c.n) (nI (j + 1)) (nI 0) = some r → fMo_runs N μ (nI e) = some r := by
      intro r hr
      rw [fMo_runs, fMo_goesAlong, if_pos rfl, a1, Option.bind_some, nm, nm, a3, a4]
      exact hr
    have hne : ¬ nI e ≤ nI i := nI_ge (by omega) (by omega)
    rcases ctimes_sim hN hz hC (by omega) ⟨hs.1, hs.2.1, hs.2.2.1⟩ (k69 := fSx_orders_69 N ln fu) (u3 := nI (j + 1)) c.n 0 N N g μ1 (by omega) (by omega) (by omega) S1 h441 with ⟨g', μ', b1, b2, b3, b4⟩ | ⟨g', μ', b1, b2, b3, b4, b5⟩
    · refine .inl ⟨z, g', μ', by rw [ex, b1], ?_, b3, (a5.MZ.trans b4).MY⟩
      rw [fMo_orders_95, h44, if_neg hne, em _ b2, Option.bind_some]
      simp only []
      rw [if_pos trivial]
    · have e95 : fMo_orders_95 N (fm + 1) μ u1 (nI e) (nI z) = fMo_orders_95 N fm (mI μ' 84 44 (nI (j + 1))) u1 (nI e) (nI (z + 1)) := by
        rw [fMo_orders_95, h44, if_neg hne, em _ b2, Option.bind_some]
        simp only []
        rw [if_neg n10, nm, nI_1]
      have y1 : MY μ (mI μ' 84 44 (nI (j + 1))) := (a5.MZ.trans b5).MY.trans MY.put44
      rcases ih (z + 1) (j + 1) fu fm g' (mI μ' 84 44 (nI (j + 1))) (fun x => by have := hr (x + 1); rw [show z + (x + 1) = z + 1 + x by omega] at this; exact this) (by omega) hR (by omega) (by omega) (b3.put44 _) (by rw [mI_at, if_pos ⟨rfl, rfl⟩]) with ⟨z', g2, μ2, d1, d2, d3, d4⟩ | ⟨g2, μ2, d1, d2, d3, d4, d5⟩
      · exact .inl ⟨z', g2, μ2, by rw [ex, b1, d1], by rw [e95, d2], b4.trans d3, y1.trans d4⟩
      · exact .inr ⟨g2, μ2, by rw [ex, b1, d1], by rw [e95, d2], d3, b4.trans d4, y1.trans d5⟩
end
