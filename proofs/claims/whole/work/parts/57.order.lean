/-! ===== both readers: an order's head; heads of both languages ===== -/
def ocd (v : Nat) : Nat := [21, 22, 23, 25].getD v 0
/-- the sums of an order -/
def HdS (T V : Nat → Int32) (v : Nat) (a b : Option Ex) (i k : Nat) : Prop := ((v = 0 ∨ v = 2) ∧ ∃ e1 e2 x, a = some e1 ∧ b = some e2 ∧ dp e1 ≤ 9 ∧ dp e2 ≤ 9 ∧ At T V true e1 0 (i + 1) x ∧ T x = nI (if v = 0 then 20 else 24) ∧ At T V true e2 0 (x + 1) k) ∨ (v = 1 ∧ ∃ e1, a = some e1 ∧ b = none ∧ dp e1 ≤ 9 ∧ At T V true e1 0 (i + 1) k) ∨ (v = 3 ∧ a = none ∧ b = none ∧ k = i + 1)
def HdT (T V : Nat → Int32) (n k j : Nat) : Prop := (T k = 26 ∧ V (k + 1) = nI n ∧ 1 ≤ n ∧ n ≤ 20 ∧ j = k + 2) ∨ (T k ≠ 26 ∧ n = 1 ∧ j = k)
def HdO (T V : Nat → Int32) (v : Nat) (a b : Option Ex) (n i j : Nat) : Prop := T i = nI (ocd v) ∧ ∃ k, HdS T V v a b i k ∧ HdT T V n k j
def Hdo (o : Bool) (T V : Nat → Int32) (v : Nat) (a b : Option Ex) (n i j : Nat) : Prop := if o then HdO T V v a b n i j else (HdL T V v a i j ∧ b = none ∧ n = 1)
def HG (N : Nat) (B : Nat → Nat) (t m : Nat) (S P : Nat → Nat) (g : sw_g) (μ : sw_m) (o : Bool) (k i lv u : Nat) (C : Nat → Int32) (x : Option sw_g) (y : Option sw_m) : Prop := (∃ (v : Nat) (a b : Option Ex) (n j u' lv' : Nat) (C' : Nat → Int32) (g1 : sw_g), Hdo o (TT B m S P) (VV B m S P) v a b n i j ∧ FB1 k g g1 ∧ g1.1 36 k = nI v ∧ g1.1 39 k = nI n ∧ oA a (At1c g1 37 k C' u' (nwo o)) ∧ oA b (At1c g1 38 k C' u' (nwo o)) ∧ (∀ x, x < u → C' x = C x) ∧ u ≤ u' ∧ j ≤ m ∧ i < j ∧ u' + i ≤ u + j ∧ lv ≤ lv' ∧ lv' ≤ 50 ∧ x = some (FX g1 S P j lv' 0 u' C') ∧ y = fMo_readClause_29 N (mp μ (nI j) (nI lv') (-1))) ∨ (∃ (φ : Int32) (g' : sw_g) (i' lv' : Int32), φ ≠ -1 ∧ BF k g t φ g' ∧ x = some g' ∧ y = fMo_readClause_29 N (mp μ i' lv' φ))
section
variable {N : Nat} {ln : Nat → Nat} {B : Nat → Nat} {t m : Nat} {S P : Nat → Nat} {g : sw_g} {μ : sw_m}
theorem rule_HG (K : Cn N B t m S P g μ false) {k i lv u : Nat} {C : Nat → Int32} (hk : k < 12) (hi : i ≤ m) (hu : u ≤ i) (hlv : lv ≤ 50) (h1 : g.1 39 k = 1) : HG N B t m S P g μ false k i lv u C (fRe_readRule N ln (FX g S P i lv 0 u C) (nI k)) (fMo_readClause N (mp μ (nI i) (nI lv) (-1))) := by
  rcases rule_sim (ln := ln) K (C := C) hk hi hu hlv with ⟨v, a, j, u', lv', C', g1, a1, a2, a3, a4, a5, a6, a7, a8, a9, a10, a11, a12, a13, a14⟩ | h
  · exact .inl ⟨v, a, none, 1, j, u', lv', C', g1, ⟨a1, rfl, rfl⟩, a2, a3, by rw [a4, h1]; rfl, a5, trivial, a6, a7, a8, a9, a10, a11, a12, a13, a14⟩
  · exact .inr h
theorem o159_bad (K : Cn N B t m S P g μ true) {k : Nat} {w φ i lv : Int32} (hφ : φ ≠ -1) {g' : sw_g} (hb : BF k g t φ g') : fRe_readOrder_159 N ln g' w = some g' ∧ fMo_readOrder_59 N (mp μ i lv φ) = fMo_readClause_29 N (mp μ i lv φ) := by
  unfold fRe_readOrder_159 fMo_readOrder_59
  rw [acc_badF K (i := 28) (by decide) hb, tk_bad hφ]
  exact ⟨by simp, by simp; rfl⟩
/-- how often -/
theorem times_sim (K : Cn N B t m S P g μ true) {k j lv u : Nat} {C : Nat → Int32} (hk : k < 12) (hj : j ≤ m) (hu : u ≤ 512) (h39 : g.1 39 k = 1) : (∃ n j' g1, HdT (TT B m S P) (VV B m S P) n j j' ∧ j ≤ j' ∧ j' ≤ m ∧ FB1 k g g1 ∧ g1.1 39 k = nI n ∧ (∀ p, p ≠ 39 → g1.1 p = g.1 p) ∧ fRe_readOrder_159 N ln (FX g S P j lv 0 u C) (nI k) = some (FX g1 S P j' lv 0 u C) ∧ fMo_readOrder_59 N (mp μ (nI j) (nI lv) (-1)) = fMo_readClause_29 N (mp μ (nI j') (nI lv) (-1))) ∨ (∃ (φ : Int32) (g' : sw_g) (i' lv' : Int32), φ ≠ -1 ∧ BF k g t φ g' ∧ fRe_readOrder_159 N ln (FX g S P j lv 0 u C) (nI k) = some g' ∧ fMo_readOrder_59 N (mp μ (nI j) (nI lv) (-1)) = fMo_readClause_29 N (mp μ i' lv' φ)) := by
  have hm := K.1.m_le
  have hN := K.2.2.1
  unfold fRe_readOrder_159 fMo_readOrder_59
  rw [acc_at K.1 hN (i := 28) (by decide) hj, tk_at K.1 K.2.1 26 26 rfl (by decide) hj, Option.bind_some, Option.bind_some]
  by_cases h : cds B m S P j = 26
  · have hjm : j < m := cds_pos (B := B) (S := S) (P := P) (by omega)
    simp only [h, show ct 28 = 26 from rfl, if_true, show ¬ ((1 : Int32) = 0) by decide, if_false]
    rw [show fMo_mustNumber N (mp μ (nI (j + 1)) (nI lv) (-1)) 1 20 = _ from mustN_at K.1 K.2.1 (lo := 1) (hi := 20) (by decide) (by decide) hjm, Option.bind_some]
    rcases expN_at (N := N) (ln := ln) K.1 hN (j := j + 1) (lv := lv) (d := 0) (u := u) (lo := 1) (hi := 20) (C := C) hjm (by decide) (by decide) hu with ⟨e1, e2⟩ | ⟨e1, g', e2, e3⟩
    · have hj1 : j + 1 < m := cds_pos (B := B) (S := S) (P := P) (by omega)
      rw [show fRe_expectNumber N ln (FX g S P (j + 1) lv 0 u C) 1 20 = _ from e2, Option.bind_some, if_pos e1]
      simp only []
      rw [wr_nI hk (by decide), FX_base (by decide) (by decide)]
      exact .inl ⟨vls B m S P (j + 1), j + 2, _, .inl ⟨by show nI _ = 26; rw [h]; rfl, rfl, e1.2.1, e1.2.2, rfl⟩, by omega, by omega, FB1.put (by decide) (by decide), by simp [gI_at], fun p hp => by funext x; rw [gI_at, if_neg (by omega)], rfl, rfl⟩
    · rw [show fRe_expectNumber N ln (FX g S P (j + 1) lv 0 u C) 1 20 = _ from e2, Option.bind_some, if_neg e1]
      simp only []
      rw [wr_nI hk (by decide)]
      exact .inr ⟨nI (S (j + 1)), _, nI (j + 1), nI lv, K.S1 hjm, BF.put (by decide) (by decide) ⟨g, FB1.refl, e3⟩, rfl, rfl⟩
  · simp only [h, show ct 28 = 26 from rfl, if_true, if_false]
    refine .inl ⟨1, j, g, .inr ⟨fun h' => h ?_, rfl, rfl⟩, Nat.le_refl _, hj, FB1.refl, h39, fun _ _ => rfl, rfl, rfl⟩
    exact (eqL 26 26 rfl (by have := K.1.cds_lt j; omega) (by decide)).1 h'
/-- the end of an order's head -/
theorem order_fin (K : Cn N B t m S P g μ true) {k i j lv lv' u u' v : Nat} {C C' : Nat → Int32} {a b : Option Ex} {g1 : sw_g} (hk : k < 12) (hc : cds B m S P i = ocd v) (hs : HdS (TT B m S P) (VV B m S P) v a b i j) (f1 : FB1 k g g1) (h36 : g1.1 36 k = nI v) (h39 : g1.1 39 k = 1) (ha : oA a (At1c g1 37 k C' u' 19)) (hb : oA b (At1c g1 38 k C' u' 19)) (hC : ∀ x, x < u → C' x = C x) (huu : u ≤ u') (hj : j ≤ m) (hij : i < j) (hch : u' + i ≤ u + j) (hl : lv ≤ lv') (hl' : lv' ≤ 50) (hui : u ≤ i) : HG N B t m S P g μ true k i lv u C (fRe_readOrder_159 N ln (FX g1 S P j lv' 0 u' C') (nI k)) (fMo_readOrder_59 N (mp μ (nI j) (nI lv') (-1))) := by
  have hm := K.1.m_le
  have mono : ∀ {g2 : sw_g} {p : Nat} {x : Option Ex}, g2.1 p = g1.1 p → oA x (At1c g1 p k C' u' 19) → oA x (At1c g2 p k C' u' 19) := by
    intro g2 p x hp h
    cases x with
    | none => trivial
    | some e => exact At1c.mono h (by rw [hp]) (Nat.le_refl _) (fun _ _ => rfl)
  rcases times_sim (ln := ln) (K.base f1.1) (lv := lv') (u := u') (C := C') hk hj (by omega) h39 with ⟨n, j', g2, a1, a2, a3, a4, a5, a6, a7, a8⟩ | ⟨φ, g', i', l', b1, ⟨g2, b2, b3⟩, b4, b5⟩
  · exact .inl ⟨v, a, b, n, j', u', lv', C', g2, ⟨by show nI _ = _; rw [hc], j, hs, a1⟩, f1.trans a4, by rw [a6 36 (by decide), h36], a5, mono (a6 37 (by decide)) ha, mono (a6 38 (by decide)) hb, hC, huu, a3, by omega, by omega, hl, hl', a7, a8⟩
  · exact .inr ⟨φ, g', i', l', b1, ⟨g2, f1.trans b2, b3⟩, b4, b5⟩
/-- two sums with a word between -/
theorem two_sim (K : Cn N B t m S P g μ true) {k i lv u v w : Nat} {C : Nat → Int32} (hk : k < 12) (hv : v = 0 ∨ v = 2) (hc : cds B m S P i = ocd v) (hw : w < 39) (hcw : ct w = if v = 0 then 20 else 24) (hi : i < m) (hu : u ≤ i) (hlv : lv ≤ 50) (h39 : g.1 39 k = 1) (h36 : g.1 36 k = nI v) : HG N B t m S P g μ true k i lv u C ((fRe_placeOfSum N ln (FX g S P (i + 1) lv 0 u C)).bind fun ⟨v39, g38⟩ => wr 12 (nI k) (fun j => gI g38 37 j v39) fun g40 => (fRe_expect N ln g40 w).bind fun g42 => (fRe_placeOfSum N ln g42).bind fun ⟨v45, g44⟩ => wr 12 (nI k) (fun j => gI g44 38 j v45) fun g46 => fRe_readOrder_159 N ln g46 (nI k)) ((fMo_readTwo N (mp μ (nI (i + 1)) (nI lv) (-1)) (nI (ct w))).bind fun μ27 => fMo_readOrder_59 N μ27) := by
  have hm := K.1.m_le
  have hN := K.2.2.1
  have hcw' : ct w < 1000 := by rw [hcw]; split <;> decide
  -- once it has failed
  have bad : ∀ (φ i' l' : Int32) (g' : sw_g), φ ≠ -1 → BF k g t φ g' → HG N B t m S P g μ true k i lv u C ((fRe_placeOfSum N ln g').bind fun ⟨v45, g44⟩ => wr 12 (nI k) (fun j => gI g44 38 j v45) fun g46 => fRe_readOrder_159 N ln g46 (nI k)) (((fMo_readSum N 10 (mp μ i' l' φ) 0).bind fun μ6 => some μ6).bind fun μ27 => fMo_readOrder_59 N μ27) := by
    intro φ i' l' g' hφ hb
    obtain ⟨x, g2, e1, e2⟩ := pos_bad (ln := ln) K hφ hb
    rw [e1, msum_bad hN hφ 9, Option.bind_some]
    simp only [Option.bind_some]
    rw [wr_nI hk (by decide)]
    have h3 : BF k g t φ (gI g2 38 k x) := BF.put (by decide) (by decide) e2
    have h4 := o159_bad (ln := ln) K (w := nI k) (i := i') (lv := l') hφ h3
    exact .inr ⟨φ, _, i', l', hφ, h3, h4.1, h4.2⟩
  unfold fMo_readTwo
  rcases pos_sim (ln := ln) K (i := i + 1) (lv := lv) (u := u) (C := C) hi (by omega) hlv with ⟨e1, j, u1, lv1, C1, a1, a2, a3, a3', a4, a5, a6, a7, a8, a9, a10⟩ | ⟨φ, g', i', lv', b1, b2, b3, b4⟩
  · have l1 := a1.lt
    have l2 := a3.lt
    rw [a9, a10, Option.bind_some, Option.bind_some]
    simp only []
    rw [wr_nI hk (by decide), FX_base (by decide) (by decide)]
    have f1 : FB1 k g (gI g 37 k (nI u)) := FB1.put (by decide) (by decide)
    have K1 := K.base f1.1
    rw [must_at K.1 K.2.1 (nI (ct w)) (ct w) rfl hcw' a5]
    rcases exp_at (N := N) (ln := ln) K1.1 hN (i := w) (j := j) (lv := lv1) (d := 0) (u := u1 + 1) (C := C1) hw a5 (by omega) with ⟨c1, c2⟩ | ⟨c1, g', c2, c3⟩
    · have hjm : j < m := cds_pos (B := B) (S := S) (P := P) (by rw [c1]; rcases w39_ct w hw with q | q <;> omega)
      rw [c2, if_pos c1, Option.bind_some, Option.bind_some]
      rcases pos_sim (ln := ln) K1 (i := j + 1) (lv := lv1) (u := u1 + 1) (C := C1) hjm (by omega) a8 with ⟨e2, j2, u2, lv2, C2, d1, d2, d3, d3', d4, d5, d6, d7, d8, d9, d10⟩ | ⟨φ, g', i', lv', d1, d2, d3, d4⟩
      · have l3 := d1.lt
        have l4 := d3.lt
        rw [d9, d10, Option.bind_some, Option.bind_some]
        simp only [Option.bind_some]
        rw [wr_nI hk (by decide), FX_base (by decide) (by decide)]
        have n1 := need_le.2.2 a1
        have n2 := need_le.2.2 d1
        refine order_fin K (a := some e1) (b := some e2) hk hc (.inl ⟨hv, e1, e2, j, rfl, rfl, by omega, by omega, a1, by show nI _ = _; rw [c1, hcw], d1⟩) (f1.trans (FB1.put (by decide) (by decide))) (by simp [gI_at, h36]) (by simp [gI_at, h39]) ⟨u, u1, by simp [gI_at], a3.congr (fun x q1 q2 => d4 x (by omega)), by omega, by rw [d4 u1 (by omega), a3'], by omega⟩ ⟨u1 + 1, u2, by simp [gI_at], d3, by omega, d3', by omega⟩ (fun x hx => by rw [d4 x (by omega), a4 x hx]) (by omega) d5 (by omega) (by omega) (by omega) d8 hu
      · rw [d3, d4, Option.bind_some, Option.bind_some]
        simp only [Option.bind_some]
        rw [wr_nI hk (by decide)]
        have h3 : BF k g t φ (gI g' 38 k (nI (u1 + 1))) := BF.put (by decide) (by decide) ⟨_, f1, d2⟩
        have h4 := o159_bad (ln := ln) K (w := nI k) (i := i') (lv := lv') d1 h3
        exact .inr ⟨φ, _, i', lv', d1, h3, h4.1, h4.2⟩
    · rw [c2, if_neg c1, Option.bind_some, Option.bind_some]
      exact bad _ _ _ _ (K.S1 a5) ⟨_, f1, c3⟩
  · rw [b3, b4, Option.bind_some, Option.bind_some]
    simp only []
    rw [wr_nI hk (by decide), must_bad b1, Option.bind_some]
    have h3 : BF k g t φ (gI g' 37 k (nI u)) := BF.put (by decide) (by decide) ⟨g, FB1.refl, b2⟩
    rw [exp_badF K hw b1 h3, Option.bind_some]
    exact bad _ _ _ _ b1 h3
theorem order_HG (K : Cn N B t m S P g μ true) {k i lv u : Nat} {C : Nat → Int32} (hk : k < 12) (hi : i ≤ m) (hu : u ≤ i) (hlv : lv ≤ 50) (h39 : g.1 39 k = 1) : HG N B t m S P g μ true k i lv u C (fRe_readOrder N ln (FX g S P i lv 0 u C) (nI k)) (fMo_readOrder N (mp μ (nI i) (nI lv) (-1))) := by
  have hm := K.1.m_le
  have hN := K.2.2.1
  have f0 : ∀ v, FB1 k g (gI g 36 k (nI v)) := fun v => FB1.put (by decide) (by decide)
  -- the same, with the verb laid down ahead
  have up : ∀ {v : Nat} {x : Option sw_g} {y : Option sw_m}, HG N B t m S P (gI g 36 k (nI v)) μ true k i lv u C x y → HG N B t m S P g μ true k i lv u C x y := by
    intro v x y h
    rcases h with ⟨v', a, b, n, j, u', lv', C', g1, a1, a2, a3⟩ | ⟨φ, g', i', lv', b1, ⟨g2, b2, b2'⟩, b3⟩
    · exact .inl ⟨v', a, b, n, j, u', lv', C', g1, a1, (f0 v).trans a2, a3⟩
    · exact .inr ⟨φ, g', i', lv', b1, ⟨g2, (f0 v).trans b2, b2'⟩, b3⟩
  have e36 : ∀ v, (gI g 36 k (nI v)).1 36 k = nI v := fun v => by simp [gI_at]
  have e39 : ∀ v, (gI g 36 k (nI v)).1 39 k = 1 := fun v => by simp [gI_at, h39]
  unfold fRe_readOrder fMo_readOrder
  simp only [acc_at K.1 hN (i := 23) (by decide) hi, acc_at K.1 hN (i := 24) (by decide) hi, acc_at K.1 hN (i := 25) (by decide) hi, tk_at K.1 K.2.1 21 21 rfl (by decide) hi, tk_at K.1 K.2.1 23 23 rfl (by decide) hi, tk_at K.1 K.2.1 22 22 rfl (by decide) hi, Option.bind_some, show ct 23 = 21 from rfl, show ct 24 = 22 from rfl, show ct 25 = 23 from rfl]
  by_cases h1 : cds B m S P i = 21
  · have him : i < m := cds_pos (B := B) (S := S) (P := P) (by omega)
    simp only [h1, if_true, show ¬ ((1 : Int32) = 0) by decide, if_false]
    rw [wr_nI hk (by decide), FX_base (by decide) (by decide)]
    exact up (v := 0) (two_sim (K.base (f0 0).1) (w := 15) hk (.inl rfl) h1 (by decide) (by decide) him hu hlv (e39 0) (e36 0))
  · by_cases h2 : cds B m S P i = 22
    · have him : i < m := cds_pos (B := B) (S := S) (P := P) (by omega)
      simp only [h2, show ¬ (22 = 21) by decide, show ¬ (22 = 23) by decide, acc_at K.1 hN (i := 24) (by decide) hi, tk_at K.1 K.2.1 23 23 rfl (by decide) hi, tk_at K.1 K.2.1 22 22 rfl (by decide) hi, Option.bind_some, show ct 24 = 22 from rfl, if_true, show ¬ ((1 : Int32) = 0) by decide, if_false]
      rw [wr_nI hk (by decide), FX_base (by decide) (by decide)]
      have K1 := K.base (f0 1).1
      refine up (v := 1) ?_
      show HG N B t m S P (gI g 36 k (nI 1)) μ true k i lv u C ((fRe_placeOfSum N ln (FX (gI g 36 k (nI 1)) S P (i + 1) lv 0 u C)).bind _) ((fMo_readSum N 10 (mp μ (nI (i + 1)) (nI lv) (-1)) 0).bind _)
      rcases pos_sim (ln := ln) K1 (i := i + 1) (lv := lv) (u := u) (C := C) him (by omega) hlv with ⟨e1, j, u1, lv1, C1, a1, a2, a3, a3', a4, a5, a6, a7, a8, a9, a10⟩ | ⟨φ, g', i', lv', b1, b2, b3, b4⟩
      · have l1 := a1.lt
        have l2 := a3.lt
        have n1 := need_le.2.2 a1
        rw [a9, a10, Option.bind_some, Option.bind_some]
        simp only []
        rw [wr_nI hk (by decide), FX_base (by decide) (by decide)]
        exact order_fin K1 (a := some e1) (b := none) (v := 1) hk h2 (.inr (.inl ⟨rfl, e1, rfl, rfl, by omega, a1⟩)) (FB1.put (by decide) (by decide)) (by simp [gI_at]) (by simp [gI_at, h39]) ⟨u, u1, by simp [gI_at], a3, by omega, a3', by omega⟩ trivial a4 (by omega) a5 (by omega) (by omega) a7 a8 hu
      · rw [b3, b4, Option.bind_some, Option.bind_some]
        simp only []
        rw [wr_nI hk (by decide)]
        have h3 : BF k (gI g 36 k (nI 1)) t φ (gI g' 37 k (nI u)) := BF.put (by decide) (by decide) ⟨_, FB1.refl, b2⟩
        have h4 := o159_bad (ln := ln) K1 (w := nI k) (i := i') (lv := lv') b1 h3
        exact .inr ⟨φ, _, i', lv', b1, h3, h4.1, h4.2⟩
    · by_cases h3 : cds B m S P i = 23
      · have him : i < m := cds_pos (B := B) (S := S) (P := P) (by omega)
        simp only [h3, show ¬ (23 = 21) by decide, show ¬ (23 = 22) by decide, acc_at K.1 hN (i := 24) (by decide) hi, acc_at K.1 hN (i := 25) (by decide) hi, tk_at K.1 K.2.1 23 23 rfl (by decide) hi, Option.bind_some, show ct 24 = 22 from rfl, show ct 25 = 23 from rfl, if_true, show ¬ ((1 : Int32) = 0) by decide, if_false]
        rw [wr_nI hk (by decide), FX_base (by decide) (by decide)]
        exact up (v := 2) (two_sim (K.base (f0 2).1) (w := 26) hk (.inr rfl) h3 (by decide) (by decide) him hu hlv (e39 2) (e36 2))
      · simp only [h1, h2, h3, acc_at K.1 hN (i := 24) (by decide) hi, acc_at K.1 hN (i := 25) (by decide) hi, tk_at K.1 K.2.1 23 23 rfl (by decide) hi, tk_at K.1 K.2.1 22 22 rfl (by decide) hi, Option.bind_some, show ct 24 = 22 from rfl, show ct 25 = 23 from rfl, if_true, if_false]
        rw [must_at K.1 K.2.1 25 25 rfl (by decide) hi, Option.bind_some]
        rcases exp_at (N := N) (ln := ln) K.1 hN (i := 27) (j := i) (lv := lv) (d := 0) (u := u) (C := C) (by decide) hi (by omega) with ⟨c1, c2⟩ | ⟨c1, g', c2, c3⟩
        · have c1' : cds B m S P i = 25 := c1
          have him : i < m := cds_pos (B := B) (S := S) (P := P) (by omega)
          rw [c2, Option.bind_some, if_pos c1', wr_nI hk (by decide), FX_base (by decide) (by decide)]
          exact order_fin K (a := none) (b := none) (v := 3) hk c1' (.inr (.inr ⟨rfl, rfl, rfl, rfl⟩)) (f0 3) (e36 3) (e39 3) trivial trivial (fun _ _ => rfl) (Nat.le_refl _) him (by omega) (by omega) (Nat.le_refl _) hlv hu
        · have c1' : cds B m S P i ≠ 25 := c1
          rw [c2, Option.bind_some, if_neg c1', wr_nI hk (by decide)]
          have h5 : BF k g t (nI (S i)) (gI g' 36 k 3) := BF.put (by decide) (by decide) ⟨g, FB1.refl, c3⟩
          have h4 := o159_bad (ln := ln) K (w := nI k) (i := nI i) (lv := nI lv) (K.S1 hi) h5
          exact .inr ⟨_, _, nI i, nI lv, K.S1 hi, h5, h4.1, h4.2⟩
end
