/-! ===== exchanged ===== -/
theorem ring5 (t x y a b : Int32) : t + (x + y - a - b) = t - a - b + x + y := by
  rw [← zI_of t, ← zI_of x, ← zI_of y, ← zI_of a, ← zI_of b]
  simp only [zI_add, zI_sub]
  congr 1; omega
section
variable {N : Nat} {ln : Nat → Nat} {M : Nat} {Lw : Nat → List Cl} {n w L : Nat}
/-- two that are on, and neither barred where the other is -/
theorem exOne (hN : 3000 ≤ N) {g : sw_g} {μ : sw_m} (K : KI (μ.1 86) Lw n w L) (P : PQ ln M g 1 (μ.1 86) Lw L) (hp : ∀ c p, c < n → p < 7 → μ.1 100 (7 * c + p) = plK (μ.1 86) (lawAt Lw (μ.1 86 46)) c p ∧ μ.1 101 (7 * c + p) = brI (μ.1 86) (lawAt Lw (μ.1 86 46)) c p) {a b : Nat} (ha : a < n) (hb : b < n) (oa : μ.1 86 (7 + a) ≠ -1) (ob : μ.1 86 (7 + b) ≠ -1) :
    (∃ g', fSx_canExchange N ln g (nI a) (nI b) = some (0, g') ∧ fMo_tiltWith N μ (nI a) (nI b) = some (1000000, μ) ∧ GA 43 45 g g') ∨
    (∃ (t : Nat) (v : Int32) (g1 g' : sw_g) (μ' : sw_m), t ≤ 4000 ∧ fSx_canExchange N ln g (nI a) (nI b) = some (1, g1) ∧ fSx_tiltByExchange N ln g1 (nI a) (nI b) = some (v, g') ∧ jabs (tiltK (μ.1 86) (lawAt Lw (μ.1 86 46)) n + v) = nI t ∧ fMo_tiltWith N μ (nI a) (nI b) = some (nI t, μ') ∧ GA 43 45 g g' ∧ MT μ μ') := by
  have hn7 := K.n7
  have a7 : a < 7 := by omega
  have b7 : b < 7 := by omega
  obtain ⟨pa, pa6, pa1⟩ : ∃ p, p ≤ 6 ∧ μ.1 86 (7 + a) = nI p := by obtain ⟨p, h1, h2⟩ := (K.co.1 a ha).2.resolve_left oa; exact ⟨p, h2, h1⟩
  obtain ⟨pb, pb6, pb1⟩ : ∃ p, p ≤ 6 ∧ μ.1 86 (7 + b) = nI p := by obtain ⟨p, h1, h2⟩ := (K.co.1 b hb).2.resolve_left ob; exact ⟨p, h2, h1⟩
  have hx1 := hp a pb ha (by omega)
  have hx2 := hp b pa hb (by omega)
  have em : ∀ r, r = fMo_tiltWith N μ (nI a) (nI b) → r = (if barK (μ.1 86) (lawAt Lw (μ.1 86 46)) a (nI pb) = true ∨ barK (μ.1 86) (lawAt Lw (μ.1 86 46)) b (nI pa) = true then some (1000000, μ) else (fMo_tiltNow N μ).bind fun ⟨v9, μ8⟩ => (fMo_pullOf N μ8 (nI a)).bind fun ⟨v12, μ11⟩ => (fMo_pullOf N μ11 (nI b)).bind fun ⟨v15, μ14⟩ => rd 49 (nI (7 * a + pb)) (μ14.1 100) fun v16 => rd 49 (nI (7 * b + pa)) (μ14.1 100) fun v17 => (fMo_either ((((v9 - v12) - v15) + v16) + v17)).bind fun v19 => some (v19, μ14)) := by
    intro r hr
    rw [hr, fMo_tiltWith, i7, i7, rd_nI (by omega) (by decide), pb1]
    simp only [nm]
    rw [rd_nI (by omega) (by decide), pa1, show (7 : Int32) * nI a = nI (7 * a) from nI_mul 7 a, show (7 : Int32) * nI b = nI (7 * b) from nI_mul 7 b, nI_add, nI_add, rd_nI (by omega) (by decide), rd_nI (by omega) (by decide), hx1.2, hx2.2]
    unfold brI
    by_cases h1 : barK (μ.1 86) (lawAt Lw (μ.1 86 46)) a (nI pb) = true
    · simp only [h1, if_true, n10, if_false, true_or]
    · by_cases h2 : barK (μ.1 86) (lawAt Lw (μ.1 86 46)) b (nI pa) = true
      · simp only [h1, h2, if_true, n10, if_false, or_true, Bool.false_eq_true]
      · simp only [h1, h2, if_true, if_false, or_self, Bool.false_eq_true]
  rw [em _ rfl]
  obtain ⟨g1, e1, f1⟩ := barsAt_eq hN P K (by decide) a7 (nI pb)
  have P1 := P.ga f1 (by decide) (by decide)
  obtain ⟨g2, e2, f2⟩ := barsAt_eq hN P1 K (by decide) b7 (nI pa)
  have P2 := P1.ga f2 (by decide) (by decide)
  have ex : fSx_canExchange N ln g (nI a) (nI b) = some (if barK (μ.1 86) (lawAt Lw (μ.1 86 46)) a (nI pb) = true then 0 else if barK (μ.1 86) (lawAt Lw (μ.1 86 46)) b (nI pa) = true then 0 else 1, if barK (μ.1 86) (lawAt Lw (μ.1 86 46)) a (nI pb) = true then g1 else g2) := by
    rw [fSx_canExchange, isOn_c P K a7, Option.bind_some]
    simp only [ha, oa, ne_eq, not_false_eq_true, and_self, if_true, n10, if_false]
    rw [isOn_c P K b7, Option.bind_some]
    simp only [hb, ob, ne_eq, not_false_eq_true, and_self, if_true, n10, if_false]
    rw [rd_nI b7 (by decide), show g.1 4 b = _ from (P.2.1 b b7).2.2, pb1, e1, Option.bind_some]
    by_cases h1 : barK (μ.1 86) (lawAt Lw (μ.1 86 46)) a (nI pb) = true
    · simp only [h1, if_true, n10, if_false]
    · simp only [h1, if_true, if_false, Bool.false_eq_true]
      rw [rd_nI a7 (by decide), show g1.1 4 a = _ from (P1.2.1 a a7).2.2, pa1, e2, Option.bind_some]
      by_cases h2 : barK (μ.1 86) (lawAt Lw (μ.1 86 46)) b (nI pa) = true
      · simp only [h2, if_true, n10, if_false]
      · simp only [h2, if_true, if_false, Bool.false_eq_true]
  rw [ex]
  by_cases h1 : barK (μ.1 86) (lawAt Lw (μ.1 86 46)) a (nI pb) = true
  · left; simp only [h1, if_true, true_or]; exact ⟨g1, rfl, trivial, f1⟩
  · by_cases h2 : barK (μ.1 86) (lawAt Lw (μ.1 86 46)) b (nI pa) = true
    · left; simp only [h1, h2, if_true, if_false, or_true, Bool.false_eq_true]; exact ⟨g2, rfl, trivial, f1.trans f2⟩
    · right
      simp only [h1, h2, if_false, or_self, Bool.false_eq_true]
      -- the class
      obtain ⟨g3, e3, f3⟩ := weightAt_eq hN P2 K a7 (nI pb)
      have P3 := P2.ga f3 (by decide) (by decide)
      obtain ⟨g4, e4, f4⟩ := weightAt_eq hN P3 K b7 (nI pa)
      have P4 := P3.ga f4 (by decide) (by decide)
      obtain ⟨g5, e5, f5⟩ := weightAt_eq hN P4 K a7 (nI pa)
      have P5 := P4.ga f5 (by decide) (by decide)
      obtain ⟨g6, e6, f6⟩ := weightAt_eq hN P5 K b7 (nI pb)
      -- the reference
      obtain ⟨μ1, q1, r1⟩ := mtilt_eq hN K
      have K1 : KI (μ1.1 86) Lw n w L := by rw [r1.k]; exact K
      obtain ⟨μ2, q2, r2⟩ := mpull_eq hN K1 a7
      have K2 : KI (μ2.1 86) Lw n w L := by rw [r2.k]; exact K1
      obtain ⟨μ3, q3, r3⟩ := mpull_eq hN K2 b7
      rw [r1.k] at q2
      rw [r2.k, r1.k] at q3
      have r : MT μ μ3 := r1.trans (r2.trans r3)
      have pla : pullK (μ.1 86) (lawAt Lw (μ.1 86 46)) a = plK (μ.1 86) (lawAt Lw (μ.1 86 46)) a pa := by unfold pullK plK; rw [if_neg oa, pa1]
      have plb : pullK (μ.1 86) (lawAt Lw (μ.1 86 46)) b = plK (μ.1 86) (lawAt Lw (μ.1 86 46)) b pb := by unfold pullK plK; rw [if_neg ob, pb1]
      obtain ⟨z0, z01, z02, z03⟩ := tilt_rng (law := lawAt Lw (μ.1 86 46)) K
      obtain ⟨z1, z11, z12, z13⟩ := plK_rng (law := lawAt Lw (μ.1 86 46)) K ha (show pb < 7 by omega)
      obtain ⟨z2, z21, z22, z23⟩ := plK_rng (law := lawAt Lw (μ.1 86 46)) K hb (show pa < 7 by omega)
      obtain ⟨z3, z31, z32, z33⟩ := plK_rng (law := lawAt Lw (μ.1 86 46)) K ha (show pa < 7 by omega)
      obtain ⟨z4, z41, z42, z43⟩ := plK_rng (law := lawAt Lw (μ.1 86 46)) K hb (show pb < 7 by omega)
      refine ⟨(z0 + (z1 + z2 - z3 - z4)).natAbs, zI (z1 + z2 - z3 - z4), g2, g6, μ3, by omega, rfl, ?_, ?_, ?_, ((f1.trans f2).trans (f3.trans f4)).trans (f5.trans f6), r⟩
      · rw [fSx_tiltByExchange, rd_nI a7 (by decide), rd_nI b7 (by decide), show g2.1 4 a = _ from (P2.2.1 a a7).2.2, show g2.1 4 b = _ from (P2.2.1 b b7).2.2, pa1, pb1, e3, Option.bind_some]
        simp only []
        rw [e4, Option.bind_some]
        simp only []
        rw [e5, Option.bind_some]
        simp only []
        rw [e6, Option.bind_some]
        congr 2
        rw [← zI_sub, ← zI_sub, ← zI_add, ← z13, ← z23, ← z33, ← z43]
        rfl
      · rw [z03, zI_add, jabs_z (by omega) (by omega)]
      · rw [q1, Option.bind_some]
        simp only []
        rw [q2, Option.bind_some]
        simp only []
        rw [q3, Option.bind_some]
        simp only []
        rw [rd_nI (by omega) (by decide), rd_nI (by omega) (by decide), r.row (by decide) (by decide), hx1.1, hx2.1, either_eq, Option.bind_some, pla, plb, z03, z13, z23, z33, z43]
        simp only [zI_add, zI_sub]
        rw [jabs_z (by omega) (by omega)]
        congr 3; omega
theorem exch_in (hN : 3000 ≤ N) {a : Nat} (ha : a < n) {what : Int32} {k16 : sw_g → Int32 → Int32 → Int32 → Int32 → Int32 → Option (Int32 × sw_g)} {k28 : sw_m → Int32 → Int32 → Int32 → Int32 → Option (Int32 × sw_m)} {law : Option (List Cl)} {k : Nat → Int32} (hl : law = lawAt Lw (k 46)) : ∀ (d b fu fm l : Nat) (f : Int32) (g : sw_g) (μ : sw_m), b + d = n → a < b → d < fu → d < fm → l ≤ 2079 → μ.1 86 = k → KI k Lw n w L → PQ ln M g 1 k Lw L → (∀ c p, c < n → p < 7 → μ.1 100 (7 * c + p) = plK k law c p ∧ μ.1 101 (7 * c + p) = brI k law c p) → ∃ (l' : Nat) (f' : Int32) (g' : sw_g) (μ' : sw_m), l' ≤ 2079 ∧ fSx_exchanged_34 N ln k16 fu g what (tiltK k law n) (nI l) f (nI a) (nI b) = k16 g' what (tiltK k law n) (nI l') f' (nI (a + 1)) ∧ fMo_exchanged_43 N k28 fm μ what (nI l) f (nI a) (nI b) = k28 μ' what (nI l') f' (nI (a + 1)) ∧ GA 43 45 g g' ∧ MT μ μ' := by
  intro d
  induction d with
  | zero =>
    intro b fu fm l f g μ hb hab hfu hfm hl' hk K P hp
    obtain ⟨fu, rfl⟩ : ∃ z, fu = z + 1 := ⟨fu - 1, by omega⟩
    obtain ⟨fm, rfl⟩ : ∃ z, fm = z + 1 := ⟨fm - 1, by omega⟩
    obtain rfl : b = n := by omega
    have hn7 := K.n7
    rw [fSx_exchanged_34, show g.1 1 0 = nI b by rw [show g.1 1 0 = _ from P.1, K.hn], if_pos (nI_le (Nat.le_refl _) (by omega)), fMo_exchanged_43, many_eq (Lw := Lw) (w := w) (L := L) (by rw [hk]; exact K), Option.bind_some]
    simp only []
    rw [if_pos (nI_le (Nat.le_refl _) (by omega))]
    simp only [nm, nI_1]
    exact ⟨l, f, g, μ, hl', rfl, rfl, GA.refl, MT.refl⟩
  | succ d ih =>
    intro b fu fm l f g μ hb hab hfu hfm hl' hk K P hp
    obtain ⟨fu, rfl⟩ : ∃ z, fu = z + 1 := ⟨fu - 1, by omega⟩
    obtain ⟨fm, rfl⟩ : ∃ z, fm = z + 1 := ⟨fm - 1, by omega⟩
    have hn7 := K.n7
    have hbn : b < n := by omega
    have Kμ : KI (μ.1 86) Lw n w L := by rw [hk]; exact K
    rw [fSx_exchanged_34, show g.1 1 0 = nI n by rw [show g.1 1 0 = _ from P.1, K.hn], if_neg (nI_ge (by omega) (by omega)), fMo_exchanged_43, many_eq Kμ, Option.bind_some]
    simp only []
    rw [if_neg (nI_ge (by omega) (by omega)), misOn_eq (by omega), Option.bind_some, hk]
    -- nothing comes of these two
    have skip : ∀ (g1 : sw_g) (μ1 : sw_m), GA 43 45 g g1 → MT μ μ1 → ∃ (l' : Nat) (f' : Int32) (g' : sw_g) (μ' : sw_m), l' ≤ 2079 ∧ fSx_exchanged_34 N ln k16 fu g1 what (tiltK k law n) (nI l) f (nI a) (nI (b + 1)) = k16 g' what (tiltK k law n) (nI l') f' (nI (a + 1)) ∧ fMo_exchanged_43 N k28 fm μ1 what (nI l) f (nI a) (nI (b + 1)) = k28 μ' what (nI l') f' (nI (a + 1)) ∧ GA 43 45 g g' ∧ MT μ μ' := by
      intro g1 μ1 x y
      obtain ⟨l', f', g', μ', q0, q1, q2, q3, q4⟩ := ih (b + 1) fu fm l f g1 μ1 (by omega) (by omega) (by omega) (by omega) hl' (by rw [y.k, hk]) K (P.ga x (by decide) (by decide)) (fun c p u v => by rw [y.2 100 _ (by decide) (by omega), y.2 101 _ (by decide) (by omega)]; exact hp c p u v)
      exact ⟨l', f', g', μ', q0, q1, q2, x.trans q3, y.trans q4⟩
    have far : ∀ (g1 : sw_g) (μ1 : sw_m), GA 43 45 g g1 → MT μ μ1 → ∃ (l' : Nat) (f' : Int32) (g' : sw_g) (μ' : sw_m), l' ≤ 2079 ∧ fSx_exchanged_34 N ln k16 fu g1 what (tiltK k law n) (nI l) f (nI a) (nI (b + 1)) = k16 g' what (tiltK k law n) (nI l') f' (nI (a + 1)) ∧ fMo_exchanged_83 N k28 (fMo_exchanged_43 N k28 fm) μ1 what (nI l) f (nI a) (nI b) 1000000 = k28 μ' what (nI l') f' (nI (a + 1)) ∧ GA 43 45 g g' ∧ MT μ μ' := by
      intro g1 μ1 x y
      rw [fMo_exchanged_83, if_neg (show ¬ (1000000 : Int32) < nI l from nI_nlt (a := 1000000) (by omega) (by decide))]
      simp only [nm, nI_1]
      exact skip g1 μ1 x y
    by_cases oa : k (7 + a) = -1
    · simp only [oa, if_true]
      have ex : fSx_canExchange N ln g (nI a) (nI b) = some (0, g) := by
        rw [fSx_canExchange, isOn_c P K (by omega), Option.bind_some]; simp [oa]
      rw [ex, Option.bind_some]
      simp only [if_true, nm, nI_1]
      exact far g μ GA.refl MT.refl
    · simp only [oa, if_false, n10]
      rw [misOn_eq (by omega), Option.bind_some, hk]
      by_cases ob : k (7 + b) = -1
      · simp only [ob, if_true]
        have ex : fSx_canExchange N ln g (nI a) (nI b) = some (0, g) := by
          rw [fSx_canExchange, isOn_c P K (by omega), Option.bind_some]
          simp only [oa, ha, ne_eq, not_false_eq_true, and_self, if_true, n10, if_false]
          rw [isOn_c P K (by omega), Option.bind_some]; simp [ob]
        rw [ex, Option.bind_some]
        simp only [if_true, nm, nI_1]
        exact far g μ GA.refl MT.refl
      · simp only [ob, if_false, n10]
        rw [hl] at hp
        rcases exOne hN Kμ (by rw [hk]; exact P) (by rw [hk]; exact hp) ha hbn (by rw [hk]; exact oa) (by rw [hk]; exact ob) with ⟨g1, x1, x2, x3⟩ | ⟨t, v, g1, g', μ', y0, y1, y2, y3, y4, y5, y6⟩
        · rw [x1, x2, Option.bind_some, Option.bind_some]
          simp only [if_true, nm, nI_1]
          exact far g1 μ x3 MT.refl
        · rw [hk, ← hl] at y3
          rw [y1, Option.bind_some]
          simp only [n10, if_false]
          rw [y2, y4, Option.bind_some, Option.bind_some]
          simp only [nm]
          rw [y3, fMo_exchanged_83]
          by_cases ht : t < l
          · rw [if_neg (nI_ge ht (by omega)), if_pos (nI_lt ht (by omega))]
            simp only [nm, nI_1]
            obtain ⟨l', f', g2, μ2, q0, q1, q2, q3, q4⟩ := ih (b + 1) fu fm t ((10 : Int32) * nI a + nI b) g' μ' (by omega) (by omega) (by omega) (by omega) (by omega) (by rw [y6.k, hk]) K (P.ga y5 (by decide) (by decide)) (fun c p u v => by rw [y6.2 100 _ (by decide) (by omega), y6.2 101 _ (by decide) (by omega), hl]; exact hp c p u v)
            exact ⟨l', f', g2, μ2, q0, q1, q2, y5.trans q3, y6.trans q4⟩
          · rw [if_pos (nI_le (by omega) (by omega)), if_neg (nI_nlt (by omega) (by omega))]
            simp only [nm, nI_1]
            exact skip g' μ' y5 y6
theorem exch_out (hN : 3000 ≤ N) {what : Int32} (hw : what = 0 ∨ what = 1) {law : Option (List Cl)} {k : Nat → Int32} (hl : law = lawAt Lw (k 46)) : ∀ (d a fu fm l : Nat) (f : Int32) (g : sw_g) (μ : sw_m), a + d = n → d < fu → d < fm → l ≤ 2079 → μ.1 86 = k → KI k Lw n w L → PQ ln M g 1 k Lw L → (∀ c p, c < n → p < 7 → μ.1 100 (7 * c + p) = plK k law c p ∧ μ.1 101 (7 * c + p) = brI k law c p) → ∃ (v : Int32) (g' : sw_g) (μ' : sw_m), fSx_exchanged_16 N ln fu g what (tiltK k law n) (nI l) f (nI a) = some (v, g') ∧ fMo_exchanged_28 N fm μ what (nI l) f (nI a) = some (v, μ') ∧ GA 43 45 g g' ∧ MT μ μ' := by
  intro d
  induction d with
  | zero =>
    intro a fu fm l f g μ ha hfu hfm hl' hk K P hp
    obtain ⟨fu, rfl⟩ : ∃ z, fu = z + 1 := ⟨fu - 1, by omega⟩
    obtain ⟨fm, rfl⟩ : ∃ z, fm = z + 1 := ⟨fm - 1, by omega⟩
    obtain rfl : a = n := by omega
    have hn7 := K.n7
    rw [fSx_exchanged_16, show g.1 1 0 = nI a by rw [show g.1 1 0 = _ from P.1, K.hn], if_pos (nI_le (Nat.le_refl _) (by omega)), fMo_exchanged_28, many_eq (Lw := Lw) (w := w) (L := L) (by rw [hk]; exact K), Option.bind_some]
    simp only []
    rw [if_pos (nI_le (Nat.le_refl _) (by omega))]
    by_cases hf : f = -1
    · rw [if_pos hf, if_pos hf, hf]; exact ⟨_, g, μ, rfl, rfl, GA.refl, MT.refl⟩
    · rw [if_neg hf, if_neg hf]
      rcases hw with rfl | rfl
      · rw [if_neg (by decide), if_pos (by decide), if_pos rfl, if_pos rfl]; exact ⟨_, g, μ, rfl, rfl, GA.refl, MT.refl⟩
      · rw [if_neg (by decide), if_pos (by decide), if_neg (by decide), if_neg (by decide)]; exact ⟨_, g, μ, rfl, rfl, GA.refl, MT.refl⟩
  | succ d ih =>
    intro a fu fm l f g μ ha hfu hfm hl' hk K P hp
    obtain ⟨fu, rfl⟩ : ∃ z, fu = z + 1 := ⟨fu - 1, by omega⟩
    obtain ⟨fm, rfl⟩ : ∃ z, fm = z + 1 := ⟨fm - 1, by omega⟩
    have hn7 := K.n7
    rw [fSx_exchanged_16, show g.1 1 0 = nI n by rw [show g.1 1 0 = _ from P.1, K.hn], if_neg (nI_ge (by omega) (by omega)), fMo_exchanged_28, many_eq (Lw := Lw) (w := w) (L := L) (by rw [hk]; exact K), Option.bind_some]
    simp only []
    rw [if_neg (nI_ge (by omega) (by omega))]
    simp only [nm, nI_1]
    obtain ⟨l', f', g', μ', q0, q1, q2, q3, q4⟩ := exch_in (k16 := fSx_exchanged_16 N ln fu) (k28 := fMo_exchanged_28 N fm) (what := what) hN (a := a) (by omega) hl (n - (a + 1)) (a + 1) N N l f g μ (by omega) (by omega) (by omega) (by omega) hl' hk K P hp
    obtain ⟨v, g2, μ2, r1, r2, r3, r4⟩ := ih (a + 1) fu fm l' f' g' μ' (by omega) (by omega) (by omega) q0 (by rw [q4.k, hk]) K (P.ga q3 (by decide) (by decide)) (fun c p u v => by rw [q4.2 100 _ (by decide) (by omega), q4.2 101 _ (by decide) (by omega)]; exact hp c p u v)
    exact ⟨v, g2, μ2, q1.trans r1, q2.trans r2, q3.trans r3, q4.trans r4⟩
/-- the class goes through all even if it isn't asked rightly -/
theorem exch_any (hN : 3000 ≤ N) {what : Int32} (hw : ¬ (what = 0 ∨ what = 1)) {law : Option (List Cl)} {k : Nat → Int32} (hl : law = lawAt Lw (k 46)) : ∀ (d a fu fm l : Nat) (f : Int32) (g : sw_g) (μ : sw_m), a + d = n → d < fu → d < fm → l ≤ 2079 → μ.1 86 = k → KI k Lw n w L → PQ ln M g 1 k Lw L → (∀ c p, c < n → p < 7 → μ.1 100 (7 * c + p) = plK k law c p ∧ μ.1 101 (7 * c + p) = brI k law c p) → ∃ (g' : sw_g), fSx_exchanged_16 N ln fu g what (tiltK k law n) (nI l) f (nI a) = some (-1, g') ∧ GA 43 45 g g' := by
  intro d
  induction d with
  | zero =>
    intro a fu fm l f g μ ha hfu hfm hl' hk K P hp
    obtain ⟨fu, rfl⟩ : ∃ z, fu = z + 1 := ⟨fu - 1, by omega⟩
    obtain rfl : a = n := by omega
    have hn7 := K.n7
    rw [fSx_exchanged_16, show g.1 1 0 = nI a by rw [show g.1 1 0 = _ from P.1, K.hn], if_pos (nI_le (Nat.le_refl _) (by omega))]
    split
    · exact ⟨g, rfl, GA.refl⟩
    · split
      · exact ⟨g, rfl, GA.refl⟩
      · split
        · rename_i x y z
          exfalso
          rw [Int32.lt_iff_toInt_lt] at y
          rw [Int32.le_iff_toInt_le] at z
          have y' : ¬ what.toInt < 0 := y
          have z' : what.toInt ≤ 1 := z
          have : what.toInt = 0 ∨ what.toInt = 1 := by omega
          rcases this with q | q
          · exact hw (.inl (Int32.toInt_inj.1 q))
          · exact hw (.inr (Int32.toInt_inj.1 q))
        · exact ⟨g, rfl, GA.refl⟩
  | succ d ih =>
    intro a fu fm l f g μ ha hfu hfm hl' hk K P hp
    obtain ⟨fu, rfl⟩ : ∃ z, fu = z + 1 := ⟨fu - 1, by omega⟩
    obtain ⟨fm, rfl⟩ : ∃ z, fm = z + 1 := ⟨fm - 1, by omega⟩
    have hn7 := K.n7
    rw [fSx_exchanged_16, show g.1 1 0 = nI n by rw [show g.1 1 0 = _ from P.1, K.hn], if_neg (nI_ge (by omega) (by omega))]
    simp only [nm, nI_1]
    obtain ⟨l', f', g', μ', q0, q1, q2, q3, q4⟩ := exch_in (k16 := fSx_exchanged_16 N ln fu) (k28 := fMo_exchanged_28 N fm) (what := what) hN (a := a) (by omega) hl (n - (a + 1)) (a + 1) N N l f g μ (by omega) (by omega) (by omega) (by omega) hl' hk K P hp
    obtain ⟨g2, r1, r3⟩ := ih (a + 1) fu fm l' f' g' μ' (by omega) (by omega) (by omega) q0 (by rw [q4.k, hk]) K (P.ga q3 (by decide) (by decide)) (fun c p u v => by rw [q4.2 100 _ (by decide) (by omega), q4.2 101 _ (by decide) (by omega)]; exact hp c p u v)
    exact ⟨g2, q1.trans r1, q3.trans r3⟩
theorem exchanged_CR (hN : 3000 ≤ N) {g : sw_g} {μ : sw_m} (h : RR ln M g μ) (a : Int32) : CR ln M (fSx_exchanged N ln g a) (fMo_exchanged N μ a) := by
  have h0 := h
  obtain ⟨Lw, n, w, L, K, P, hr⟩ := h
  have hn7 := K.n7
  obtain ⟨g1, e1, f1⟩ := xtilt_eq hN P K
  have P1 := P.ga f1 (by decide) (by decide)
  obtain ⟨μ1, q1, q2, q3⟩ := pulls_eq hN K
  have K1 : KI (μ1.1 86) Lw n w L := by rw [q3.k]; exact K
  obtain ⟨μ2, r1, r2⟩ := mtilt_eq hN K1
  have k2 : μ2.1 86 = μ.1 86 := by rw [r2.k, q3.k]
  rw [q3.k] at r1
  have hp : ∀ c p, c < n → p < 7 → μ2.1 100 (7 * c + p) = plK (μ.1 86) (lawAt Lw (μ.1 86 46)) c p ∧ μ2.1 101 (7 * c + p) = brI (μ.1 86) (lawAt Lw (μ.1 86 46)) c p := by
    intro c p a b; rw [r2.2 100 _ (by decide) (by omega), r2.2 101 _ (by decide) (by omega)]; exact q2 c p a b
  obtain ⟨z, z1, z2, z3⟩ := tilt_rng (law := lawAt Lw (μ.1 86 46)) K
  have hj : jabs (tiltK (μ.1 86) (lawAt Lw (μ.1 86 46)) n) = nI z.natAbs := by rw [z3, jabs_z (by omega) (by omega)]
  rw [fSx_exchanged, e1, Option.bind_some]
  simp only [nm]
  rw [hj]
  by_cases hw : a = 0 ∨ a = 1
  · obtain ⟨v, g2, μ3, x1, x2, x3, x4⟩ := exch_out (n := n) (Lw := Lw) (w := w) (L := L) (M := M) (ln := ln) hN hw rfl n 0 N N z.natAbs (-1) g1 μ2 (by omega) (by omega) (by omega) (by omega) k2 K P1 hp
    have em : fMo_exchanged N μ a = fMo_exchanged_28 N N μ2 a (nI z.natAbs) (-1) (nI 0) := by
      have : fMo_lies a 0 1 = some 1 := by rcases hw with rfl | rfl <;> rfl
      rw [fMo_exchanged, this, Option.bind_some, if_neg n10, q1, Option.bind_some, r1, Option.bind_some]
      simp only [either_eq, Option.bind_some]
      rw [hj]; rfl
    rw [em, x2]
    exact h0.ask ⟨g2, x1, (f1.trans x3).up⟩ ⟨μ3, rfl, (q3.MS.trans r2.MS).trans x4.MS⟩
  · obtain ⟨g2, x1, x3⟩ := exch_any (n := n) (Lw := Lw) (w := w) (L := L) (M := M) (ln := ln) hN hw rfl n 0 N N z.natAbs (-1) g1 μ2 (by omega) (by omega) (by omega) (by omega) k2 K P1 hp
    have em : fMo_exchanged N μ a = some (-1, μ) := by
      have : fMo_lies a 0 1 = some 0 := by
        rw [fMo_lies]
        split
        · rfl
        · split
          · rfl
          · rename_i y z
            exfalso
            rw [Int32.lt_iff_toInt_lt] at y z
            have y' : ¬ a.toInt < 0 := y
            have z' : ¬ 1 < a.toInt := z
            have : a.toInt = 0 ∨ a.toInt = 1 := by omega
            rcases this with q | q
            · exact hw (.inl (Int32.toInt_inj.1 q))
            · exact hw (.inr (Int32.toInt_inj.1 q))
      rw [fMo_exchanged, this, Option.bind_some, if_pos rfl]
    rw [em]
    exact h0.ask ⟨g2, x1, (f1.trans x3).up⟩ ⟨μ, rfl, MS.refl⟩
end
