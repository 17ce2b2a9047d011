/-! ===== calls that read: of, asks, tilt, sawdust, fault, stopped, status, count, drawn, compare ===== -/
section
variable {N : Nat} {ln : Nat → Nat} {M : Nat} {g : sw_g} {μ : sw_m}
theorem GA.up {lo hi : Nat} {g g' : sw_g} (h : GA lo hi g g') (a : 43 ≤ lo := by decide) (b : hi < 81 := by decide) : GU g g' := ⟨h.mono a (by omega), by rw [h.1 81 (.inr b)]⟩
theorem i7 (c : Nat) : (7 : Int32) + nI c = nI (7 + c) := nI_add 7 c
theorem i15 (c : Nat) : (15 : Int32) + nI c = nI (15 + c) := nI_add 15 c
theorem i00 (c : Nat) : (0 : Int32) + nI c = nI c := by rw [show (0 : Int32) + nI c = nI (0 + c) from nI_add 0 c, Nat.zero_add]
theorem n10 : ¬ ((1 : Int32) = 0) := by decide
theorem of_CR (hN : 3000 ≤ N) (h : RR ln M g μ) (a b : Int32) : CR ln M (fSx_of N ln g a b) (fMo_of N μ a b) := by
  have h0 := h
  obtain ⟨Lw, n, w, L, K, P, hr⟩ := h
  have hn7 := K.n7
  by_cases hc : ∃ c, c < n ∧ a = nI c
  · obtain ⟨c, hc, rfl⟩ := hc
    have c7 : c < 7 := by omega
    obtain ⟨p1, p2, p3⟩ := P.2.1 c c7
    rw [fSx_of, fMo_of, hasClaim_yes P K hc, misClaim_yes K hc, Option.bind_some, Option.bind_some]
    simp only [n10, if_false]
    rw [rd_nI c7 (by decide), show g.1 4 c = _ from p3]
    by_cases b0 : b = 0
    · rw [if_pos b0, if_pos b0, rd_nI c7 (by decide), i00, rd_nI (by omega) (by decide)]
      exact h0.ask ⟨g, by rw [show g.1 2 c = _ from p1], GU.refl⟩ ⟨μ, rfl, MS.refl⟩
    · rw [if_neg b0, if_neg b0]
      by_cases b1 : b = 1
      · rw [if_pos b1, if_pos b1, rd_nI c7 (by decide), i15, rd_nI (by omega) (by decide)]
        exact h0.ask ⟨g, by rw [show g.1 3 c = _ from p2], GU.refl⟩ ⟨μ, rfl, MS.refl⟩
      · rw [if_neg b1, if_neg b1]
        by_cases b2 : b = 2
        · rw [if_pos b2, if_pos b2, i7, rd_nI (by omega) (by decide)]
          exact h0.ask ⟨g, rfl, GU.refl⟩ ⟨μ, rfl, MS.refl⟩
        · rw [if_neg b2, if_neg b2]
          by_cases b3 : b = 3
          · rw [if_pos b3, if_pos b3, isOn_c P K c7, misOn_eq c7, Option.bind_some, Option.bind_some]
            by_cases ho : μ.1 86 (7 + c) = -1
            · simp only [ho, hc, ne_eq, not_true_eq_false, and_false, if_false, if_true]
              exact h0.ask ⟨g, rfl, GU.refl⟩ ⟨μ, rfl, MS.refl⟩
            · simp only [ho, hc, ne_eq, not_false_eq_true, and_self, if_false, if_true, n10]
              obtain ⟨g', e1, f1⟩ := countAt_eq hN P K (by decide) c7 (μ.1 86 (7 + c))
              obtain ⟨μ', e2, f2⟩ := mcount_eq hN K c7 (μ.1 86 (7 + c))
              rw [i7, rd_nI (by omega) (by decide), e1, e2]
              exact h0.ask ⟨g', rfl, f1.up⟩ ⟨μ', rfl, f2.MS⟩
          · rw [if_neg b3, if_neg b3]
            by_cases b4 : b = 4
            · rw [if_pos b4, if_pos b4, isOn_c P K c7, misOn_eq c7, Option.bind_some, Option.bind_some]
              by_cases ho : μ.1 86 (7 + c) = -1
              · simp only [ho, hc, ne_eq, not_true_eq_false, and_false, if_false, if_true]
                exact h0.ask ⟨g, rfl, GU.refl⟩ ⟨μ, rfl, MS.refl⟩
              · simp only [ho, hc, ne_eq, not_false_eq_true, and_self, if_false, if_true, n10]
                obtain ⟨g', e1, f1⟩ := shedAt_eq hN P K (by decide) c7 (μ.1 86 (7 + c))
                obtain ⟨μ', e2, f2⟩ := mshed_eq hN K c7 (μ.1 86 (7 + c))
                rw [i7, rd_nI (by omega) (by decide), e1, e2]
                exact h0.ask ⟨g', rfl, f1.up⟩ ⟨μ', rfl, f2.MS⟩
            · rw [if_neg b4, if_neg b4]
              exact h0.ask ⟨g, rfl, GU.refl⟩ ⟨μ, rfl, MS.refl⟩
  · have hc' : ∀ c, c < n → a ≠ nI c := fun c x y => hc ⟨c, x, y⟩
    rw [fSx_of, fMo_of, hasClaim_no P K hc', misClaim_no K hc', Option.bind_some, Option.bind_some]
    exact h0.ask ⟨g, rfl, GU.refl⟩ ⟨μ, rfl, MS.refl⟩
/-- a place, or none -/
theorem place_cases (a : Int32) : (∃ p, p < 7 ∧ a = nI p ∧ fSx_isPlace a = some 1 ∧ fMo_isPlace a = some 1) ∨ ((∀ p, p < 7 → a ≠ nI p) ∧ fSx_isPlace a = some 0 ∧ fMo_isPlace a = some 0) := by
  rcases pk_ix a (n := 7) (by decide) with h | h | ⟨p, hp, rfl⟩
  · refine .inr ⟨fun p hp e => ?_, ?_, ?_⟩
    · subst e; exact nI_pos (by omega) h
    · rw [fSx_isPlace, if_pos h]
    · rw [fMo_isPlace, fMo_lies, if_pos h]; rfl
  · have h' : ¬ a < 0 := by
      intro q
      rw [Int32.lt_iff_toInt_lt] at q
      rw [Int32.le_iff_toInt_le, nI_toInt (by decide)] at h
      rw [i0] at q; omega
    refine .inr ⟨fun p hp e => ?_, ?_, ?_⟩
    · subst e; exact nI_ge hp (by decide) h
    · rw [fSx_isPlace, if_neg h', if_pos (show (7 : Int32) ≤ a from h)]
    · rw [fMo_isPlace, fMo_lies, if_neg h', if_pos (show (6 : Int32) < a from ?_)]
      · rfl
      · rw [Int32.le_iff_toInt_le, nI_toInt (by decide)] at h
        rw [Int32.lt_iff_toInt_lt]
        show (6 : Int) < _
        omega
  · refine .inl ⟨p, hp, rfl, ?_, ?_⟩
    · rw [fSx_isPlace, if_neg (nI_pos (by omega)), if_neg (show ¬ (7 : Int32) ≤ nI p from nI_ge (b := 7) hp (by decide))]
    · rw [fMo_isPlace, fMo_lies, if_neg (nI_pos (by omega)), if_neg (show ¬ (6 : Int32) < nI p from nI_nlt (a := 6) (by omega) (by decide))]; rfl
theorem asks_CR (hN : 3000 ≤ N) (h : RR ln M g μ) (a b d : Int32) : CR ln M (fSx_asks N ln g a b d) (fMo_asks N μ a b d) := by
  have h0 := h
  obtain ⟨Lw, n, w, L, K, P, hr⟩ := h
  have hn7 := K.n7
  by_cases hc : ∃ c, c < n ∧ a = nI c
  · obtain ⟨c, hc, rfl⟩ := hc
    have c7 : c < 7 := by omega
    obtain ⟨p1, p2, p3⟩ := P.2.1 c c7
    rw [fSx_asks, fMo_asks, hasClaim_yes P K hc, misClaim_yes K hc, Option.bind_some, Option.bind_some]
    simp only [n10, if_false]
    rcases place_cases b with ⟨p, hp, rfl, e1, e2⟩ | ⟨_, e1, e2⟩
    · rw [e1, e2, Option.bind_some, Option.bind_some, if_neg n10, if_neg n10]
      by_cases d0 : d = 0
      · rw [if_pos d0, if_pos d0]
        obtain ⟨g', e1, f1⟩ := countAt_eq hN P K (by decide) c7 (nI p)
        obtain ⟨μ', e2, f2⟩ := mcount_eq hN K c7 (nI p)
        rw [e1, e2]
        exact h0.ask ⟨g', rfl, f1.up⟩ ⟨μ', rfl, f2.MS⟩
      · rw [if_neg d0, if_neg d0]
        by_cases d1 : d = 1
        · rw [if_pos d1, if_pos d1]
          obtain ⟨g', e1, f1⟩ := barsAt_eq hN P K (by decide) c7 (nI p)
          obtain ⟨μ', e2, f2⟩ := mbar_eq hN K c7 (nI p)
          rw [e1, e2, Option.bind_some, Option.bind_some]
          refine h0.ask (v := if barK (μ.1 86) (lawAt Lw (μ.1 86 46)) c (nI p) then 1 else 0) ⟨g', ?_, f1.up⟩ ⟨μ', ?_, f2.MS⟩
          · split <;> simp_all
          · split <;> simp_all
        · rw [if_neg d1, if_neg d1]
          by_cases d2 : d = 2
          · rw [if_pos d2, if_pos d2]
            obtain ⟨g1, e1, f1⟩ := xtilt_eq hN P K
            have P1 := P.ga f1 (by decide) (by decide)
            obtain ⟨μ1, e2, f2⟩ := mtilt_eq hN K
            have K1 : KI (μ1.1 86) Lw n w L := by rw [f2.k]; exact K
            obtain ⟨μ2, e3, f3⟩ := mpull_eq hN K1 c7
            have K2 : KI (μ2.1 86) Lw n w L := by rw [f3.k]; exact K1
            obtain ⟨μ3, e4, f4⟩ := mcount_eq hN K2 c7 (nI p)
            rw [f2.k] at e3
            rw [f3.k, f2.k] at e4
            rw [e2, Option.bind_some]
            simp only []
            rw [e3, Option.bind_some]
            simp only []
            rw [e4, Option.bind_some]
            simp only [fMo_armOf, Option.bind_some, either_eq]
            rw [fSx_tiltWithout, e1, Option.bind_some]
            simp only []
            rw [isOn_c P1 K c7, Option.bind_some]
            have fμ := (f2.trans (f3.trans f4)).MS
            by_cases ho : μ.1 86 (7 + c) = -1
            · simp only [ho, ne_eq, not_true_eq_false, and_false, if_false, if_true, Option.bind_some]
              obtain ⟨g2, e5, f5⟩ := weightAt_eq hN P1 K c7 (nI p)
              rw [e5, Option.bind_some]
              refine h0.ask ⟨g2, rfl, (f1.trans f5).up⟩ ⟨μ3, ?_, fμ⟩
              rw [pullK, if_pos ho, Int32.sub_zero]
            · simp only [hc, ho, ne_eq, not_false_eq_true, and_self, if_true, n10, if_false]
              rw [rd_nI c7 (by decide), (P1.2.1 c c7).2.2]
              obtain ⟨g2, e5, f5⟩ := weightAt_eq hN P1 K c7 (μ.1 86 (7 + c))
              have P2 := P1.ga f5 (by decide) (by decide)
              obtain ⟨g3, e6, f6⟩ := weightAt_eq hN P2 K c7 (nI p)
              rw [e5, Option.bind_some]
              simp only [Option.bind_some]
              rw [e6, Option.bind_some]
              refine h0.ask ⟨g3, rfl, ((f1.trans f5).trans f6).up⟩ ⟨μ3, ?_, fμ⟩
              rw [pullK, if_neg ho]
          · rw [if_neg d2, if_neg d2]
            exact h0.ask ⟨g, rfl, GU.refl⟩ ⟨μ, rfl, MS.refl⟩
    · rw [e1, e2, Option.bind_some, Option.bind_some, if_pos rfl, if_pos rfl]
      exact h0.ask ⟨g, rfl, GU.refl⟩ ⟨μ, rfl, MS.refl⟩
  · have hc' : ∀ c, c < n → a ≠ nI c := fun c x y => hc ⟨c, x, y⟩
    rw [fSx_asks, fMo_asks, hasClaim_no P K hc', misClaim_no K hc', Option.bind_some, Option.bind_some]
    exact h0.ask ⟨g, rfl, GU.refl⟩ ⟨μ, rfl, MS.refl⟩
theorem xlevel_eq {k : Nat → Int32} {Lw : Nat → List Cl} {L : Nat} (P : PQ ln M g 1 k Lw L) (a : Int32) : fSx_isLevel ln g a = some (if k 42 < jabs a then 0 else 1, g) := by
  rw [fSx_isLevel, rd_K 3 3 4 (by decide) (by decide), show g.1 5 3 = _ from P.2.2.1.2.2.2]
  split <;> rfl
theorem tilt_CR (hN : 3000 ≤ N) (h : RR ln M g μ) (a : Int32) : CR ln M (fSx_tilt N ln g a) (fMo_tilt N μ a) := by
  have h0 := h
  obtain ⟨Lw, n, w, L, K, P, hr⟩ := h
  obtain ⟨g1, e1, f1⟩ := xtilt_eq hN P K
  obtain ⟨μ1, e2, f2⟩ := mtilt_eq hN K
  have P1 := P.ga f1 (by decide) (by decide)
  rw [fSx_tilt, fMo_tilt, e1, e2, Option.bind_some, Option.bind_some]
  simp only [either_eq, Option.bind_some]
  by_cases a0 : a = 0
  · rw [if_pos a0, if_pos a0]; exact h0.ask ⟨g1, rfl, f1.up⟩ ⟨μ1, rfl, f2.MS⟩
  · rw [if_neg a0, if_neg a0]
    by_cases a1 : a = 1
    · rw [if_pos a1, if_pos a1]
      split
      · exact h0.ask ⟨g1, rfl, f1.up⟩ ⟨μ1, rfl, f2.MS⟩
      · split
        · exact h0.ask ⟨g1, rfl, f1.up⟩ ⟨μ1, rfl, f2.MS⟩
        · exact h0.ask ⟨g1, rfl, f1.up⟩ ⟨μ1, rfl, f2.MS⟩
    · rw [if_neg a1, if_neg a1]
      by_cases a2 : a = 2
      · rw [if_pos a2, if_pos a2, xlevel_eq P1, mlevel_eq, f2.k, Option.bind_some, Option.bind_some]
        by_cases hl : μ.1 86 42 < jabs (tiltK (μ.1 86) (lawAt Lw (μ.1 86 46)) n)
        · simp only [hl, if_true]; exact h0.ask ⟨g1, rfl, f1.up⟩ ⟨μ1, rfl, f2.MS⟩
        · simp only [hl, if_false, n10]; exact h0.ask ⟨g1, rfl, f1.up⟩ ⟨μ1, rfl, f2.MS⟩
      · rw [if_neg a2, if_neg a2]; exact h0.ask ⟨g1, rfl, f1.up⟩ ⟨μ1, rfl, f2.MS⟩
theorem sawdust_CR (h : RR ln M g μ) : CR ln M (fSx_sawdust ln g) (fMo_sawdust μ) := by
  have h0 := h
  obtain ⟨Lw, n, w, L, K, P, h1, h2, h3, h4⟩ := h
  exact ⟨_, g, μ, rfl, by rw [fMo_sawdust, h3.2.2.1], h0⟩
theorem fault_CR (h : RR ln M g μ) : CR ln M (fSx_fault ln g) (fMo_fault μ) := by
  have h0 := h
  obtain ⟨Lw, n, w, L, K, P, h1, h2, h3, h4⟩ := h
  exact ⟨_, g, μ, rfl, by rw [fMo_fault, h3.1], h0⟩
theorem stopped_CR (h : RR ln M g μ) : CR ln M (fSx_stopped ln g) (fMo_stopped μ) := by
  have h0 := h
  obtain ⟨Lw, n, w, L, K, P, h1, h2, h3, h4⟩ := h
  exact ⟨_, g, μ, rfl, by rw [fMo_stopped, h3.2.1], h0⟩
theorem status_CR (h : RR ln M g μ) : CR ln M (fSx_status ln g) (fMo_status μ) := by
  have h0 := h
  obtain ⟨Lw, n, w, L, K, P, h1, h2, h3, h4⟩ := h
  exact ⟨_, g, μ, rfl, by rw [fMo_status, h3.2.2.2.1], h0⟩
theorem drawn_CR (h : RR ln M g μ) (a b : Int32) : CR ln M (fSx_drawn ln g a b) (fMo_drawn μ a b) := by
  have h0 := h
  obtain ⟨Lw, n, w, L, K, P, h1, h2, h3, h4, h5⟩ := h
  rw [fSx_drawn, fMo_drawn, fPl_hasClaim]
  have no : ∀ (v2 : Option Int32), v2 = some 0 → CR ln M (some ((-1 : Int32), g)) (v2.bind fun v2 => (if v2 = 0 then some ((-1 : Int32), μ) else (fMo_lies b (0 : Int32) (1 : Int32)).bind fun v4 => (if v4 = 0 then some ((-1 : Int32), μ) else (if b = 0 then rd 15 ((0 : Int32) + a) (μ.1 109) fun v6 => some (v6, μ) else rd 15 ((7 : Int32) + a) (μ.1 109) fun v5 => some (v5, μ))))) := by
    intro v2 e; subst e
    exact ⟨_, g, μ, rfl, rfl, h0⟩
  by_cases ha : a < 0
  · rw [if_pos ha]
    exact no _ (by rw [fMo_lies, if_pos ha])
  · obtain ⟨j, hj, rfl⟩ := nI_of ha
    rcases h4 with ⟨d1, d2⟩ | ⟨m, m7, d1, d2, d3⟩
    · rw [if_neg ha, d1, if_pos (nI_pos' hj), d2]
      exact no _ (by rw [fMo_lies, if_neg ha, if_pos (show (-1 : Int32) - 1 < nI j from by rw [Int32.lt_iff_toInt_lt, nI_toInt hj]; show (-2 : Int) < _; omega)])
    · rw [d1, d2, if_neg ha]
      by_cases hm : j < m
      · obtain ⟨m', rfl⟩ : ∃ m', m = m' + 1 := ⟨m - 1, by omega⟩
        rw [if_neg (nI_ge hm (by omega)), if_neg (show ¬ (7 : Int32) ≤ nI j from nI_ge (b := 7) (by omega) (by decide)), Option.bind_some, fMo_lies, if_neg ha, nI_pred, if_neg (nI_nlt (by omega) (by omega)), Option.bind_some, if_neg n10]
        simp only [n10, if_false]
        obtain ⟨q1, q2⟩ := d3 j (by omega)
        by_cases b0 : b = 0
        · rw [if_pos b0, b0, fMo_lies, if_neg (by decide), if_neg (by decide), Option.bind_some, if_neg n10, if_pos rfl, rd_nI (by omega) (by decide), i00, rd_nI (by omega) (by decide), q1]
          exact ⟨_, g, μ, rfl, rfl, h0⟩
        · rw [if_neg b0, if_neg b0]
          by_cases b1 : b = 1
          · rw [if_pos b1, b1, fMo_lies, if_neg (by decide), if_neg (by decide), Option.bind_some, if_neg n10, rd_nI (by omega) (by decide), i7, rd_nI (by omega) (by decide), q2]
            exact ⟨_, g, μ, rfl, rfl, h0⟩
          · rw [if_neg b1, fMo_lies]
            have : (if b < 0 then some (0 : Int32) else (if (1 : Int32) < b then some 0 else some 1)) = some 0 := by
              split
              · rfl
              · split
                · rfl
                · rename_i x y
                  exfalso
                  rw [Int32.lt_iff_toInt_lt] at x y
                  have x' : ¬ b.toInt < 0 := x
                  have y' : ¬ 1 < b.toInt := y
                  have : b.toInt = 0 ∨ b.toInt = 1 := by omega
                  rcases this with q | q
                  · exact b0 (Int32.toInt_inj.1 q)
                  · exact b1 (Int32.toInt_inj.1 q)
            rw [this, Option.bind_some, if_pos rfl]
            exact ⟨_, g, μ, rfl, rfl, h0⟩
      · rw [if_pos (nI_le (by omega) (by omega))]
        refine no _ ?_
        rw [fMo_lies, if_neg ha]
        cases m with
        | zero => rw [if_pos (show nI 0 - 1 < nI j from by rw [show nI 0 - 1 = (-1 : Int32) from rfl, Int32.lt_iff_toInt_lt, nI_toInt (by omega)]; show (-1 : Int) < _; omega)]
        | succ m => rw [nI_pred, if_pos (nI_lt (by omega) (by omega))]
end
