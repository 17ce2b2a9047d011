/-! ===== both readers read a clause ===== -/
/-- the text of the class may change in its rows of clauses -/
def FB (g g1 : sw_g) : Prop := g1.2 = g.2 ∧ ∀ p j, (p < 36 ∨ 40 < p) → g1.1 p j = g.1 p j
def FB1 (k : Nat) (g g1 : sw_g) : Prop := FB g g1 ∧ ∀ p j, j ≠ k → g1.1 p j = g.1 p j
theorem FB1.refl {k : Nat} {g : sw_g} : FB1 k g g := ⟨⟨rfl, fun _ _ _ => rfl⟩, fun _ _ _ => rfl⟩
theorem FB1.trans {k : Nat} {g g1 g2 : sw_g} (h1 : FB1 k g g1) (h2 : FB1 k g1 g2) : FB1 k g g2 := ⟨⟨h2.1.1.trans h1.1.1, fun p j a => (h2.1.2 p j a).trans (h1.1.2 p j a)⟩, fun p j a => (h2.2 p j a).trans (h1.2 p j a)⟩
theorem gI_at {g : sw_g} {p k : Nat} {v : Int32} {q j : Nat} : (gI g p k v).1 q j = if q = p ∧ j = k then v else g.1 q j := rfl
theorem FB1.put {k p : Nat} {g : sw_g} {v : Int32} (hp : 36 ≤ p) (hp' : p ≤ 40) : FB1 k g (gI g p k v) := ⟨⟨rfl, fun q j h => by rw [gI_at, if_neg (by omega)]⟩, fun q j h => by rw [gI_at, if_neg (fun x => h x.2)]⟩
theorem rs_base {g : sw_g} {f s e pt d u : Int32} {C : Nat → Int32} {p k : Nat} {v : Int32} (hp : 36 ≤ p) (hp' : p ≤ 40) : gI (rs g f s e pt d u C) p k v = rs (gI g p k v) f s e pt d u C := by
  refine Prod.ext (funext fun q => funext fun j => ?_) rfl
  simp only [gI, rs, sw_u]
  by_cases h1 : q = 33
  · subst h1; simp [show ¬ (33 = p) by omega]
  · by_cases h2 : q = 35
    · subst h2; simp [show ¬ (35 = p) by omega]
    · by_cases h3 : q = 41
      · subst h3; simp [show ¬ (41 = p) by omega]
      · simp [h1, h2, h3]
theorem FX_base {g : sw_g} {S P : Nat → Nat} {j lv d u : Nat} {C : Nat → Int32} {p k : Nat} {v : Int32} (hp : 36 ≤ p) (hp' : p ≤ 40) : gI (FX g S P j lv d u C) p k v = FX (gI g p k v) S P j lv d u C := rs_base hp hp'
theorem BX_base {g : sw_g} {t : Nat} {φ : Int32} {g' : sw_g} {p k : Nat} {v : Int32} (hp : 36 ≤ p) (hp' : p ≤ 40) (h : BX g t φ g') : BX (gI g p k v) t φ (gI g' p k v) := by
  obtain ⟨pt, d, u, C, h1, rfl⟩ := h
  exact ⟨pt, d, u, C, h1, rs_base hp hp'⟩
def BF (k : Nat) (g : sw_g) (t : Nat) (φ : Int32) (g' : sw_g) : Prop := ∃ g1, FB1 k g g1 ∧ BX g1 t φ g'
section
variable {N : Nat} {ln : Nat → Nat} {B : Nat → Nat} {t m : Nat} {S P : Nat → Nat} {g : sw_g} {μ : sw_m} {o : Bool}
theorem Cn.base {g1 : sw_g} (K : Cn N B t m S P g μ o) (h : FB g g1) : Cn N B t m S P g1 μ o := by
  obtain ⟨⟨a1, a2, a3, a4, a5⟩, b, c, d, e⟩ := K
  exact ⟨⟨a1, a2, a3, by rw [h.2 33 0 (by decide), a4], fun j hj => by rw [h.2 34 j (by decide)]; exact a5 j hj⟩, b, c, by rw [h.2 33 4 (by decide), d], e⟩
theorem BF.put {k p : Nat} {φ v : Int32} {g' : sw_g} (hp : 36 ≤ p) (hp' : p ≤ 40) (h : BF k g t φ g') : BF k g t φ (gI g' p k v) := by
  obtain ⟨g1, h1, h2⟩ := h
  exact ⟨gI g1 p k v, h1.trans (FB1.put hp hp'), BX_base hp hp' h2⟩
/-- where a sum's code begins -/
theorem pos_sim (K : Cn N B t m S P g μ o) {i lv u : Nat} {C : Nat → Int32} (hi : i ≤ m) (hu : u + 1 ≤ i) (hlv : lv ≤ 50) : (∃ (e : Ex) (j u1 lv' : Nat) (C' : Nat → Int32), At (TT B m S P) (VV B m S P) o e 0 i j ∧ dp e ≤ 8 ∧ Cd C' (nwo o) e u u1 ∧ C' u1 = 0 ∧ (∀ k, k < u → C' k = C k) ∧ j ≤ m ∧ u1 + i ≤ u + j ∧ lv ≤ lv' ∧ lv' ≤ 50 ∧ fRe_placeOfSum N ln (FX g S P i lv 0 u C) = some (nI u, FX g S P j lv' 0 (u1 + 1) C') ∧ fMo_readSum N 10 (mp μ (nI i) (nI lv) (-1)) 0 = some (mp μ (nI j) (nI lv') (-1))) ∨ (∃ (φ : Int32) (g' : sw_g) (i' lv' : Int32), φ ≠ -1 ∧ BX g t φ g' ∧ fRe_placeOfSum N ln (FX g S P i lv 0 u C) = some (nI u, g') ∧ fMo_readSum N 10 (mp μ (nI i) (nI lv) (-1)) 0 = some (mp μ i' lv' φ)) := by
  have hm := K.1.m_le
  unfold fRe_placeOfSum
  simp only [nm, show (FX g S P i lv 0 u C).1 35 6 = nI u from rs_u]
  rcases sum_sim (ln := ln) K 10 0 (by decide) (by decide) i lv u C hi (by omega) hlv with ⟨e, j, u1, lv', C', a1, a2, a3, a4, a5, a6, a7, a8, a9, a10⟩ | ⟨φ, g', i', lv', b1, b2, b3, b4⟩
  · have l1 := a3.lt
    refine .inl ⟨e, j, u1, lv', updI C' u1 0, a1, by omega, a3.congr (fun k h1 h2 => updI_ne (by omega)), updI_at, fun k hk => by rw [updI_ne (by omega), a4 k hk], a5, a6, a7, a8, ?_, a10⟩
    rw [a9, Option.bind_some, emit_at (by omega), Option.bind_some]
    rfl
  · obtain ⟨g'', c1, c2⟩ := emit_bad (N := N) (ln := ln) K.1 (a := 0) (b := 0) b1 b2
    refine .inr ⟨φ, g'', i', lv', b1, c2, ?_, b4⟩
    rw [b3, Option.bind_some, c1, Option.bind_some]
theorem pos_bad (K : Cn N B t m S P g μ o) {k : Nat} {φ : Int32} (hφ : φ ≠ -1) {g' : sw_g} (hb : BF k g t φ g') : ∃ x g'', fRe_placeOfSum N ln g' = some (x, g'') ∧ BF k g t φ g'' := by
  obtain ⟨g1, h1, h2⟩ := hb
  have K1 := K.base h1.1
  unfold fRe_placeOfSum
  simp only [nm]
  rw [sum_bad K1 hφ h2 9, Option.bind_some]
  obtain ⟨g'', c1, c2⟩ := emit_bad (N := N) (ln := ln) K1.1 (a := 0) (b := 0) hφ h2
  exact ⟨_, g'', by rw [c1]; rfl, g1, h1, c2⟩
theorem exp_badF (K : Cn N B t m S P g μ o) {k i : Nat} (hi : i < 39) {φ : Int32} (hφ : φ ≠ -1) {g' : sw_g} (hb : BF k g t φ g') : fRe_expect N ln g' i = some g' := by
  obtain ⟨g1, h1, h2⟩ := hb
  exact exp_bad (K.base h1.1).1 K.2.2.1 hi hφ h2
theorem acc_badF (K : Cn N B t m S P g μ o) {k i : Nat} (hi : i < 39) {φ : Int32} {g' : sw_g} (hb : BF k g t φ g') : fRe_accepts N ln g' i = some (0, g') := by
  obtain ⟨g1, h1, h2⟩ := hb
  exact acc_bad K.2.2.1 hi h2
/-! heads -/
/-- a sum's code stands from where the row says -/
def At1c (g : sw_g) (p k : Nat) (C : Nat → Int32) (u nw : Nat) (e : Ex) : Prop := ∃ i j, g.1 p k = nI i ∧ Cd C nw e i j ∧ j < u ∧ C j = 0 ∧ need e ≤ 39
def AtTc (g : sw_g) (p k : Nat) (C : Nat → Int32) (u nw : Nat) (e : Tx) : Prop := ∃ i j, g.1 p k = nI i ∧ CdT C nw e i j ∧ j < u ∧ C j = 0 ∧ needT e ≤ 39
def oA (e : Option Ex) (F : Ex → Prop) : Prop := match e with | none => True | some e => F e
def HdL (T V : Nat → Int32) (v : Nat) (a : Option Ex) (i j : Nat) : Prop := T i = nI (v + 1) ∧ ((v < 2 ∧ ∃ e, a = some e ∧ dp e ≤ 9 ∧ At T V false e 0 (i + 1) j) ∨ (v = 2 ∧ a = none ∧ j = i + 1))
theorem At1c.mono {p k u u' nw : Nat} {C C' : Nat → Int32} {e : Ex} {g g' : sw_g} (h : At1c g p k C u nw e) (hg : g'.1 p k = g.1 p k) (hu : u ≤ u') (hC : ∀ x, x < u → C' x = C x) : At1c g' p k C' u' nw e := by
  obtain ⟨i, j, h1, h2, h3, h4, h5⟩ := h
  exact ⟨i, j, by rw [hg, h1], h2.congr (fun x a b => hC x (by omega)), by omega, by rw [hC j h3, h4], h5⟩
theorem AtTc.mono {p k u u' nw : Nat} {C C' : Nat → Int32} {e : Tx} {g g' : sw_g} (h : AtTc g p k C u nw e) (hg : g'.1 p k = g.1 p k) (hu : u ≤ u') (hC : ∀ x, x < u → C' x = C x) : AtTc g' p k C' u' nw e := by
  obtain ⟨i, j, h1, h2, h3, h4, h5⟩ := h
  exact ⟨i, j, by rw [hg, h1], h2.congr (fun x a b => hC x (by omega)), by omega, by rw [hC j h3, h4], h5⟩
/-- a rule's head -/
theorem rule_sim (K : Cn N B t m S P g μ false) {k i lv u : Nat} {C : Nat → Int32} (hk : k < 12) (hi : i ≤ m) (hu : u ≤ i) (hlv : lv ≤ 50) : (∃ (v : Nat) (a : Option Ex) (j u' lv' : Nat) (C' : Nat → Int32) (g1 : sw_g), HdL (TT B m S P) (VV B m S P) v a i j ∧ FB1 k g g1 ∧ g1.1 36 k = nI v ∧ g1.1 39 k = g.1 39 k ∧ oA a (At1c g1 37 k C' u' 8) ∧ (∀ x, x < u → C' x = C x) ∧ u ≤ u' ∧ j ≤ m ∧ i < j ∧ u' + i ≤ u + j ∧ lv ≤ lv' ∧ lv' ≤ 50 ∧ fRe_readRule N ln (FX g S P i lv 0 u C) (nI k) = some (FX g1 S P j lv' 0 u' C') ∧ fMo_readClause N (mp μ (nI i) (nI lv) (-1)) = fMo_readClause_29 N (mp μ (nI j) (nI lv') (-1))) ∨ (∃ (φ : Int32) (g' : sw_g) (i' lv' : Int32), φ ≠ -1 ∧ BF k g t φ g' ∧ fRe_readRule N ln (FX g S P i lv 0 u C) (nI k) = some g' ∧ fMo_readClause N (mp μ (nI i) (nI lv) (-1)) = fMo_readClause_29 N (mp μ i' lv' φ)) := by
  have hm := K.1.m_le
  have hN := K.2.2.1
  -- a verb with a sum
  have go : ∀ v, v < 2 → cds B m S P i = v + 1 → (∀ r, r = ((wr 12 (nI k) (fun j => gI (FX g S P (i + 1) lv 0 u C) 36 j (nI v)) fun g10 => (fRe_placeOfSum N ln g10).bind fun ⟨v13, g12⟩ => wr 12 (nI k) (fun j => gI g12 37 j v13) fun g14 => some g14) : Option sw_g) → (∃ (v : Nat) (a : Option Ex) (j u' lv' : Nat) (C' : Nat → Int32) (g1 : sw_g), HdL (TT B m S P) (VV B m S P) v a i j ∧ FB1 k g g1 ∧ g1.1 36 k = nI v ∧ g1.1 39 k = g.1 39 k ∧ oA a (At1c g1 37 k C' u' 8) ∧ (∀ x, x < u → C' x = C x) ∧ u ≤ u' ∧ j ≤ m ∧ i < j ∧ u' + i ≤ u + j ∧ lv ≤ lv' ∧ lv' ≤ 50 ∧ r = some (FX g1 S P j lv' 0 u' C') ∧ fMo_readClause_16 N (mp μ (nI (i + 1)) (nI lv) (-1)) = fMo_readClause_29 N (mp μ (nI j) (nI lv') (-1))) ∨ (∃ (φ : Int32) (g' : sw_g) (i' lv' : Int32), φ ≠ -1 ∧ BF k g t φ g' ∧ r = some g' ∧ fMo_readClause_16 N (mp μ (nI (i + 1)) (nI lv) (-1)) = fMo_readClause_29 N (mp μ i' lv' φ))) := by
    intro v hv hc r hr
    have him : i < m := cds_pos (B := B) (S := S) (P := P) (by omega)
    subst hr
    rw [wr_nI hk (by decide), FX_base (by decide) (by decide)]
    have f1 : FB1 k g (gI g 36 k (nI v)) := FB1.put (by decide) (by decide)
    have K1 := K.base f1.1
    unfold fMo_readClause_16
    rcases pos_sim (ln := ln) K1 (i := i + 1) (lv := lv) (u := u) (C := C) him (by omega) hlv with ⟨e, j, u1, lv', C', a1, a2, a3, a3', a4, a5, a6, a7, a8, a9, a10⟩ | ⟨φ, g', i', lv', b1, b2, b3, b4⟩
    · have hlt := a1.lt
      have l1 := a3.lt
      rw [a9, a10, Option.bind_some, Option.bind_some]
      simp only []
      rw [wr_nI hk (by decide), FX_base (by decide) (by decide)]
      refine .inl ⟨v, some e, j, u1 + 1, lv', C', gI (gI g 36 k (nI v)) 37 k (nI u), ⟨by show nI _ = _; rw [hc], .inl ⟨hv, e, rfl, by omega, a1⟩⟩, f1.trans (FB1.put (by decide) (by decide)), by simp [gI_at], by simp [gI_at], ⟨u, u1, by simp [gI_at], a3, by omega, a3', ?_⟩, a4, by omega, a5, by omega, by omega, a7, a8, rfl, rfl⟩
      have := need_le.2.2 a1
      omega
    · rw [b3, b4, Option.bind_some, Option.bind_some]
      simp only []
      rw [wr_nI hk (by decide)]
      exact .inr ⟨φ, _, i', lv', b1, BF.put (by decide) (by decide) ⟨_, f1, b2⟩, rfl, rfl⟩
  unfold fRe_readRule fMo_readClause
  rw [acc_at K.1 hN (i := 0) (by decide) hi, tk_at K.1 K.2.1 1 1 rfl (by decide) hi, Option.bind_some, Option.bind_some]
  by_cases h1 : cds B m S P i = 1
  · simp only [h1, show ct 0 = 1 from rfl, if_true, show ¬ ((1 : Int32) = 0) by decide, if_false]
    exact go 0 (by decide) h1 _ rfl
  · simp only [h1, show ct 0 = 1 from rfl, if_true, if_false]
    rw [acc_at K.1 hN (i := 21) (by decide) hi, tk_at K.1 K.2.1 2 2 rfl (by decide) hi, Option.bind_some, Option.bind_some]
    by_cases h2 : cds B m S P i = 2
    · simp only [h2, show ct 21 = 2 from rfl, if_true, show ¬ ((1 : Int32) = 0) by decide, if_false]
      exact go 1 (by decide) h2 _ rfl
    · simp only [h2, show ct 21 = 2 from rfl, if_true, if_false]
      rw [must_at K.1 K.2.1 3 3 rfl (by decide) hi, Option.bind_some]
      rcases exp_at (N := N) (ln := ln) K.1 hN (i := 22) (j := i) (lv := lv) (d := 0) (u := u) (C := C) (by decide) hi (by omega) with ⟨c1, c2⟩ | ⟨c1, g', c2, c3⟩
      · have c1' : cds B m S P i = 3 := c1
        have him : i < m := cds_pos (B := B) (S := S) (P := P) (by omega)
        rw [c2, Option.bind_some, if_pos c1', wr_nI hk (by decide), FX_base (by decide) (by decide)]
        exact .inl ⟨2, none, i + 1, u, lv, C, _, ⟨by show nI _ = _; rw [c1'], .inr ⟨rfl, rfl, rfl⟩⟩, FB1.put (by decide) (by decide), by simp [gI_at]; rfl, by simp [gI_at], trivial, fun _ _ => rfl, Nat.le_refl _, him, by omega, by omega, Nat.le_refl _, hlv, rfl, rfl⟩
      · have c1' : cds B m S P i ≠ 3 := c1
        rw [c2, Option.bind_some, if_neg c1', wr_nI hk (by decide)]
        exact .inr ⟨_, _, _, _, K.S1 hi, BF.put (by decide) (by decide) ⟨g, FB1.refl, c3⟩, rfl, rfl⟩
/-- the if behind a head -/
theorem if_sim (K : Cn N B t m S P g μ o) {k i lv u : Nat} {C : Nat → Int32} (hk : k < 12) (hi : i ≤ m) (hu : u ≤ i) (hlv : lv ≤ 50) : (∃ (x : Option Tx) (j u' lv' : Nat) (C' : Nat → Int32) (g1 : sw_g), AtI (TT B m S P) (VV B m S P) o x i j ∧ FB1 k g g1 ∧ (∀ p, p ≠ 40 → g1.1 p = g.1 p) ∧ (match x with | none => g1.1 40 k = -1 | some e => AtTc g1 40 k C' u' (nwo o) e) ∧ (∀ x, x < u → C' x = C x) ∧ u ≤ u' ∧ j ≤ m ∧ u' + i ≤ u + j ∧ lv ≤ lv' ∧ lv' ≤ 50 ∧ fRe_readIf N ln (FX g S P i lv 0 u C) (nI k) = some (FX g1 S P j lv' 0 u' C') ∧ fMo_readClause_29 N (mp μ (nI i) (nI lv) (-1)) = some (mp μ (nI j) (nI lv') (-1))) ∨ (∃ (φ : Int32) (g' : sw_g) (i' lv' : Int32), φ ≠ -1 ∧ BF k g t φ g' ∧ fRe_readIf N ln (FX g S P i lv 0 u C) (nI k) = some g' ∧ fMo_readClause_29 N (mp μ (nI i) (nI lv) (-1)) = some (mp μ i' lv' φ)) := by
  have hm := K.1.m_le
  have hN := K.2.2.1
  unfold fRe_readIf fMo_readClause_29
  rw [wr_nI hk (by decide), FX_base (by decide) (by decide)]
  have f1 : FB1 k g (gI g 40 k (-1)) := FB1.put (by decide) (by decide)
  have fp : ∀ (g0 : sw_g) (v : Int32), ∀ p, p ≠ 40 → (gI g0 40 k v).1 p = g0.1 p := fun g0 v p hp => by funext j; rw [gI_at, if_neg (by omega)]
  have K1 := K.base f1.1
  rw [acc_at K1.1 hN (i := 29) (by decide) hi, tk_at K.1 K.2.1 4 4 rfl (by decide) hi, Option.bind_some, Option.bind_some]
  by_cases h4 : cds B m S P i = 4
  · have him : i < m := cds_pos (B := B) (S := S) (P := P) (by omega)
    simp only [h4, show ct 29 = 4 from rfl, if_true, show ¬ ((1 : Int32) = 0) by decide, if_false]
    rw [wr_nI hk (by decide), show (FX (gI g 40 k (-1)) S P (i + 1) lv 0 u C).1 35 6 = nI u from rs_u, FX_base (by decide) (by decide)]
    have f2 : FB1 k g (gI (gI g 40 k (-1)) 40 k (nI u)) := f1.trans (FB1.put (by decide) (by decide))
    have K2 := K.base f2.1
    rcases test_sim (ln := ln) K2 10 0 (by decide) (by decide) (i + 1) lv u C him (by omega) hlv with ⟨e, j, u1, lv', C', a1, a2, a2', a3, a4, a5, a6, a7, a8, a9, a10⟩ | ⟨φ, g', i', lv', b1, b2, b3, b4⟩
    · have hlt := a1.lt
      have l1 := a3.lt
      rw [a9, show fMo_readTest N 10 (mp μ (nI (i + 1)) (nI lv) (-1)) 0 = _ from a10, Option.bind_some, Option.bind_some, emit_at (by omega), Option.bind_some]
      refine .inl ⟨some e, j, u1 + 1, lv', _, _, ⟨by show nI _ = 4; rw [h4]; rfl, a1, by omega, a2'⟩, f2, fun p hp => by rw [fp _ _ p hp, fp _ _ p hp], ⟨u, u1, by simp [gI_at], a3.congr (fun x h1 h2 => updI_ne (by omega)), by omega, ?_, ?_⟩, fun x hx => by rw [updI_ne (by omega), a4 x hx], by omega, a5, by omega, a7, a8, rfl, rfl⟩
      · rw [updI_at]; rfl
      · have := needT_le a1 a2'; omega
    · rw [b3, show fMo_readTest N 10 (mp μ (nI (i + 1)) (nI lv) (-1)) 0 = _ from b4, Option.bind_some, Option.bind_some]
      obtain ⟨g'', c1, c2⟩ := emit_bad (N := N) (ln := ln) K2.1 (a := 0) (b := 0) b1 b2
      rw [c1, Option.bind_some]
      exact .inr ⟨φ, g'', i', lv', b1, ⟨_, f2, c2⟩, rfl, rfl⟩
  · simp only [h4, show ct 29 = 4 from rfl, if_true, if_false]
    refine .inl ⟨none, i, u, lv, C, _, ⟨rfl, fun h => h4 ?_⟩, f1, fp g _, by simp [gI_at], fun _ _ => rfl, Nat.le_refl _, hi, by omega, Nat.le_refl _, hlv, rfl, rfl⟩
    exact (eqL 4 4 rfl (by have := K.1.cds_lt i; omega) (by decide)).1 h
theorem if_bad (K : Cn N B t m S P g μ o) {k : Nat} (hk : k < 12) {φ i lv : Int32} (hφ : φ ≠ -1) {g' : sw_g} (hb : BF k g t φ g') : ∃ g'', fRe_readIf N ln g' (nI k) = some g'' ∧ BF k g t φ g'' ∧ fMo_readClause_29 N (mp μ i lv φ) = some (mp μ i lv φ) := by
  unfold fRe_readIf fMo_readClause_29
  rw [wr_nI hk (by decide)]
  have h1 : BF k g t φ (gI g' 40 k (-1)) := BF.put (by decide) (by decide) hb
  rw [acc_badF K (i := 29) (by decide) h1, tk_bad hφ]
  exact ⟨_, by simp, h1, by simp⟩
end
