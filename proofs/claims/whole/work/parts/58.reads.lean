/-! ===== both readers read a whole text ===== -/
theorem bs_id {α : Type} (x : Option α) : (x.bind fun a => some a) = x := by cases x <;> rfl
/-- a clause's row in the class' text at place p -/
def RowC (g : sw_g) (p : Nat) (C : Nat → Int32) (u nw k : Nat) (c : Cl) : Prop := g.1 (p + 1) k = nI c.v ∧ g.1 (p + 4) k = nI c.n ∧ oA c.a (At1c g (p + 2) k C u nw) ∧ oA c.b (At1c g (p + 3) k C u nw) ∧ (match c.t with | none => g.1 (p + 5) k = -1 | some e => AtTc g (p + 5) k C u nw e)
theorem RowC.mono {g g' : sw_g} {p p' : Nat} {C C' : Nat → Int32} {u u' nw k : Nat} {c : Cl} (h : RowC g p C u nw k c) (hg : ∀ x, 1 ≤ x → x ≤ 5 → g'.1 (p' + x) k = g.1 (p + x) k) (hu : u ≤ u') (hC : ∀ x, x < u → C' x = C x) : RowC g' p' C' u' nw k c := by
  obtain ⟨h1, h2, h3, h4, h5⟩ := h
  have go : ∀ x, 1 ≤ x → x ≤ 5 → ∀ e, At1c g (p + x) k C u nw e → At1c g' (p' + x) k C' u' nw e := by
    intro x x1 x5 e ⟨i, j, a1, a2, a3, a4, a5⟩
    exact ⟨i, j, by rw [hg x x1 x5, a1], a2.congr (fun y b1 b2 => hC y (by omega)), by omega, by rw [hC j a3, a4], a5⟩
  refine ⟨by rw [hg 1 (by decide) (by decide), h1], by rw [hg 4 (by decide) (by decide), h2], ?_, ?_, ?_⟩
  · cases ha : c.a with
    | none => trivial
    | some e => rw [ha] at h3; exact go 2 (by decide) (by decide) e h3
  · cases hb : c.b with
    | none => trivial
    | some e => rw [hb] at h4; exact go 3 (by decide) (by decide) e h4
  · cases ht : c.t with
    | none => rw [ht] at h5; exact (hg 5 (by decide) (by decide)).trans h5
    | some e =>
      rw [ht] at h5
      obtain ⟨i, j, a1, a2, a3, a4, a5⟩ := h5
      exact ⟨i, j, by rw [hg 5 (by decide) (by decide), a1], a2.congr (fun y b1 b2 => hC y (by omega)), by omega, by rw [hC j a3, a4], a5⟩
def AtO (o : Bool) (T V : Nat → Int32) (c : Cl) (i j : Nat) : Prop := ∃ k, Hdo o T V c.v c.a c.b c.n i k ∧ AtI T V o c.t k j
def AtLo (o : Bool) (T V : Nat → Int32) (n : Nat) : List Cl → Nat → Prop
  | [], i => i = n + 1
  | c :: cs, i => ∃ j, AtO o T V c i j ∧ (T j = 159 ∨ j = n) ∧ j ≤ n ∧ AtLo o T V n cs (j + 1)
/-- only the reader's own cells may change -/
def FW (g g' : sw_g) : Prop := g'.2 = g.2 ∧ ∀ p j, (p < 35 ∨ 41 < p) → (p = 33 → j ≠ 2 ∧ j ≠ 5 ∧ j ≠ 6 ∧ j ≠ 7 ∧ j ≠ 8) → g'.1 p j = g.1 p j
theorem FW.trans {g g1 g2 : sw_g} (h1 : FW g g1) (h2 : FW g1 g2) : FW g g2 := ⟨h2.1.trans h1.1, fun p j a b => (h2.2 p j a b).trans (h1.2 p j a b)⟩
theorem rs_FW {g : sw_g} {f s e pt d u : Int32} {C : Nat → Int32} : FW g (rs g f s e pt d u C) := by
  refine ⟨rfl, fun p j h1 h2 => ?_⟩
  simp only [rs]
  by_cases h3 : p = 33
  · subst h3
    obtain ⟨a, b, c, d', e'⟩ := h2 rfl
    simp [a, b, c, d', e']
  · have h4 : ¬ p = 35 := by omega
    have h5 : ¬ p = 41 := by omega
    simp [h3, h4, h5]
theorem FB.FW {g g1 : sw_g} (h : FB g g1) : FW g g1 := ⟨h.1, fun p j a _ => h.2 p j (by omega)⟩
theorem BF.FW {k : Nat} {g : sw_g} {t : Nat} {φ : Int32} {g' : sw_g} (h : BF k g t φ g') : FW g g' ∧ g'.1 33 2 = φ ∧ g'.1 33 0 = g.1 33 0 ∧ g'.1 33 5 = nI t := by
  obtain ⟨g1, h1, pt, d, u, C, h2, rfl⟩ := h
  exact ⟨h1.1.FW.trans rs_FW, rs_2, by rw [rs_0, h1.1.2 33 0 (by decide)], rs_5⟩
def FK (k : Nat) (g g1 : sw_g) : Prop := g1.2 = g.2 ∧ (∀ p j, (p < 35 ∨ 40 < p) → g1.1 p j = g.1 p j) ∧ (∀ p j, j < k → 36 ≤ p → g1.1 p j = g.1 p j)
theorem FK.refl {k : Nat} {g : sw_g} : FK k g g := ⟨rfl, fun _ _ _ => rfl, fun _ _ _ _ => rfl⟩
theorem FK.trans {k k' : Nat} {g g1 g2 : sw_g} (hk : k ≤ k') (h1 : FK k g g1) (h2 : FK k' g1 g2) : FK k g g2 := ⟨h2.1.trans h1.1, fun p j a => (h2.2.1 p j a).trans (h1.2.1 p j a), fun p j a b => (h2.2.2 p j (by omega) b).trans (h1.2.2 p j a b)⟩
theorem FB1.FK {k : Nat} {g g1 : sw_g} (h : FB1 k g g1) : FK k g g1 := ⟨h.1.1, fun p j a => h.1.2 p j (by omega), fun p j a _ => h.2 p j (by omega)⟩
theorem FK.FW {k : Nat} {g g1 : sw_g} (h : FK k g g1) : FW g g1 := ⟨h.1, fun p j a _ => h.2.1 p j (by omega)⟩
theorem FX_35 {g : sw_g} {S P : Nat → Nat} {j lv d u : Nat} {C : Nat → Int32} {v : Int32} : gI (FX g S P j lv d u C) 35 0 v = FX (gI g 35 0 v) S P j lv d u C := by
  refine Prod.ext (funext fun q => funext fun j => ?_) rfl
  simp only [FX, gI, rs, sw_u]
  by_cases h1 : q = 33
  · subst h1; simp
  · by_cases h2 : q = 35
    · subst h2
      by_cases h3 : j = 6
      · subst h3; simp
      · simp [h3]
    · by_cases h3 : q = 41
      · subst h3; simp
      · simp [h1, h2, h3]
section
variable {N : Nat} {ln : Nat → Nat} {B : Nat → Nat} {t m : Nat} {S P : Nat → Nat} {g : sw_g} {μ : sw_m} {o : Bool}
theorem Cn.baseK {g1 : sw_g} {k : Nat} (K : Cn N B t m S P g μ o) (h : FK k g g1) : Cn N B t m S P g1 μ o := by
  obtain ⟨⟨a1, a2, a3, a4, a5⟩, b, c, d, e⟩ := K
  exact ⟨⟨a1, a2, a3, by rw [h.2.1 33 0 (by decide), a4], fun j hj => by rw [h.2.1 34 j (by decide)]; exact a5 j hj⟩, b, c, by rw [h.2.1 33 4 (by decide), d], e⟩
/-- both read a clause -/
theorem clause_sim (K : Cn N B t m S P g μ o) {k i lv u : Nat} {C : Nat → Int32} (hk : k < 12) (hi : i ≤ m) (hu : u ≤ i) (hlv : lv ≤ 50) (h1 : g.1 39 k = 1) : (∃ (c : Cl) (j u' lv' : Nat) (C' : Nat → Int32) (g1 : sw_g), AtO o (TT B m S P) (VV B m S P) c i j ∧ FB1 k g g1 ∧ RowC g1 35 C' u' (nwo o) k c ∧ (∀ x, x < u → C' x = C x) ∧ u ≤ u' ∧ j ≤ m ∧ i < j ∧ u' + i ≤ u + j ∧ lv' ≤ 50 ∧ ((if o then fRe_readOrder N ln (FX g S P i lv 0 u C) (nI k) else fRe_readRule N ln (FX g S P i lv 0 u C) (nI k)).bind fun g17 => fRe_readIf N ln g17 (nI k)) = some (FX g1 S P j lv' 0 u' C') ∧ fMo_readOne N (mp μ (nI i) (nI lv) (-1)) = some (mp μ (nI j) (nI lv') (-1))) ∨ (∃ (φ : Int32) (g' : sw_g) (i' lv' : Int32), φ ≠ -1 ∧ BF k g t φ g' ∧ ((if o then fRe_readOrder N ln (FX g S P i lv 0 u C) (nI k) else fRe_readRule N ln (FX g S P i lv 0 u C) (nI k)).bind fun g17 => fRe_readIf N ln g17 (nI k)) = some g' ∧ fMo_readOne N (mp μ (nI i) (nI lv) (-1)) = some (mp μ i' lv' φ)) := by
  have hm := K.1.m_le
  have hH : HG N B t m S P g μ o k i lv u C (if o then fRe_readOrder N ln (FX g S P i lv 0 u C) (nI k) else fRe_readRule N ln (FX g S P i lv 0 u C) (nI k)) (fMo_readOne N (mp μ (nI i) (nI lv) (-1))) := by
    unfold fMo_readOne
    rw [mp_10, K.2.2.2.2.1, bs_id, bs_id]
    cases o with
    | false => simpa using rule_HG K hk hi hu hlv h1
    | true => simpa using order_HG K hk hi hu hlv h1
  rcases hH with ⟨v, a, b, n, j, u', lv', C', g1, a1, a2, a3, a4, a5, a6, a7, a8, a9, a10, a11, a12, a13, a14, a15⟩ | ⟨φ, g', i', lv', b1, b2, b3, b4⟩
  · rw [a14, a15, Option.bind_some]
    rcases if_sim (ln := ln) (K.base a2.1) (k := k) (i := j) (lv := lv') (u := u') (C := C') hk a9 (by omega) a13 with ⟨x, j2, u2, lv2, C2, g2, c1, c2, c3, c4, c5, c6, c7, c8, c9, c10, c11, c12⟩ | ⟨φ, g', i', lv', b1, ⟨g2, b2, b3⟩, b4, b5⟩
    · have hj2 := c1.le
      refine .inl ⟨(v, a, b, n, x), j2, u2, lv2, C2, g2, ⟨j, a1, c1⟩, a2.trans c2, ⟨?_, ?_, ?_, ?_, ?_⟩, fun y hy => by rw [c5 y (by omega), a7 y hy], by omega, c7, by omega, by omega, c10, c11, c12⟩
      · show g2.1 36 k = _; rw [c3 36 (by decide), a3]; rfl
      · show g2.1 39 k = _; rw [c3 39 (by decide), a4]; rfl
      · show oA a (At1c g2 37 k C2 u2 (nwo o))
        cases a with
        | none => trivial
        | some e => exact At1c.mono a5 (by rw [c3 37 (by decide)]) c6 c5
      · show oA b (At1c g2 38 k C2 u2 (nwo o))
        cases b with
        | none => trivial
        | some e => exact At1c.mono a6 (by rw [c3 38 (by decide)]) c6 c5
      · exact c4
    · exact .inr ⟨φ, g', i', lv', b1, ⟨g2, a2.trans b2, b3⟩, b4, b5⟩
  · rw [b3, b4, Option.bind_some]
    obtain ⟨g'', c1, c2, c3⟩ := if_bad (ln := ln) (i := i') (lv := lv') K hk b1 b2
    exact .inr ⟨φ, g'', i', lv', b1, c2, c1, c3⟩
/-- the reading's end: both have read it all, or both have failed -/
def RS (B : Nat → Nat) (m : Nat) (S P : Nat → Nat) (g : sw_g) (μ : sw_m) (o : Bool) (k i u : Nat) (C : Nat → Int32) (x : Option (Int32 × sw_g)) (y : Option (Int32 × sw_m)) : Prop := (∃ (cs : List Cl) (g2 : sw_g) (u' lv' : Nat) (C' : Nat → Int32), cs ≠ [] ∧ k + cs.length ≤ 12 ∧ AtLo o (TT B m S P) (VV B m S P) m cs i ∧ FK k g g2 ∧ g2.1 35 0 = nI (k + cs.length) ∧ (∀ z c, cs[z]? = some c → RowC g2 35 C' u' (nwo o) (k + z) c) ∧ (∀ z, z < u → C' z = C z) ∧ u ≤ u' ∧ u' ≤ 500 ∧ x = some (1, gI (FX g2 S P m lv' 0 u' C') 33 0 0) ∧ y = some (1, mI (mp μ (nI m) (nI lv') (-1)) 84 14 (-1))) ∨ (∃ (φ : Int32) (g' : sw_g) (i' lv' : Int32), φ ≠ -1 ∧ FW g g' ∧ g'.1 33 2 = φ ∧ x = some (0, gI g' 33 0 0) ∧ y = some (0, mI (mp μ i' lv' φ) 84 14 φ))
theorem r34_bad {φ i lv n : Int32} (hφ : φ ≠ -1) {fm : Nat} : fMo_reads_34 N (fm + 1) (mp μ i lv φ) n = some (0, mI (mp μ i lv φ) 84 14 φ) := by
  rw [fMo_reads_34]
  simp only [fMo_sign, Option.bind_some]
  rw [tk_bad hφ]
  simp [fMo_fine, mp_21, hφ, fMo_reads_95, nm, mI_at, tz]
theorem r128_bad {φ : Int32} (hφ : φ ≠ -1) {g' : sw_g} (h : g'.1 33 2 = φ) : fRe_reads_128 N ln g' = some (0, gI g' 33 0 0) := by
  simp [fRe_reads_128, nm, gI_at, h, hφ]
theorem r109_bad (K : Cn N B t m S P g μ o) {k : Nat} {φ : Int32} (hφ : φ ≠ -1) {g' : sw_g} (hb : BF k g t φ g') : fRe_reads_109 N ln g' 0 = some (0, gI g' 33 0 0) := by
  obtain ⟨h1, h2, h3, h4⟩ := hb.FW
  have ht : g'.1 33 0 ≤ g'.1 33 5 := by rw [h3, h4, K.1.2.2.2.1]; exact nI_le (Nat.le_refl _) (by have := K.1.2.1; omega)
  rw [fRe_reads_109, if_pos rfl, if_pos ht, r128_bad hφ h2]
theorem reads_loop (h18 : μ.1 84 18 = nI m) : ∀ (d k : Nat), k + d = 12 → 1 ≤ d → ∀ (g : sw_g) (i lv u fu fm : Nat) (C : Nat → Int32), Cn N B t m S P g μ o → i ≤ m → u ≤ i → lv ≤ 50 → d < fu → d + 1 < fm → RS B m S P g μ o k i u C (fRe_reads_41 N ln fu (FX g S P i lv 0 u C) 1 (nI k)) ((fMo_readOne N (mp μ (nI i) (nI lv) (-1))).bind fun μ8 => fMo_reads_34 N fm μ8 (nI (k + 1))) := by
  intro d
  induction d with
  | zero => intro k _ h; omega
  | succ d ih =>
    intro k hkd _ g i lv u fu fm C K hi hu hlv hfu hfm
    have hN := K.2.2.1
    have hm := K.1.m_le
    have ht := K.1.2.1
    obtain ⟨fu, rfl⟩ : ∃ z, fu = z + 1 := ⟨fu - 1, by omega⟩
    obtain ⟨fm, rfl⟩ : ∃ z, fm = z + 1 := ⟨fm - 1, by omega⟩
    have hk : k < 12 := by omega
    rw [fRe_reads_41, if_neg (show ¬ (12 : Int32) ≤ nI k from nI_ge (b := 12) hk (by decide)), if_neg (show ¬ (1 : Int32) = 0 by decide)]
    simp only [nm]
    rw [wr_nI hk (by decide), FX_35, FX_base (by decide) (by decide)]
    generalize hg1 : gI (gI g 35 0 (nI k + 1)) 39 k 1 = g1
    have f1 : FK k g g1 := by
      subst hg1
      exact ⟨rfl, fun p j h => by rw [gI_at, gI_at, if_neg (by omega), if_neg (by omega)], fun p j h h' => by rw [gI_at, gI_at, if_neg (by omega), if_neg (by omega)]⟩
    have e39 : g1.1 39 k = 1 := by subst hg1; simp [gI_at]
    have e350 : g1.1 35 0 = nI (k + 1) := by subst hg1; simp [gI_at, nI_1]
    have K1 := K.baseK f1
    have e4 : (FX g1 S P i lv 0 u C).1 33 4 = if o then 0 else 1 := by rw [show (FX g1 S P i lv 0 u C).1 33 4 = g1.1 33 4 from rs_4, K1.2.2.2.1]
    have hb : (if (FX g1 S P i lv 0 u C).1 33 4 = 0 then (fRe_readOrder N ln (FX g1 S P i lv 0 u C) (nI k)).bind fun g15 => fRe_reads_91 N ln (fRe_reads_41 N ln fu) g15 (nI k) else (fRe_readRule N ln (FX g1 S P i lv 0 u C) (nI k)).bind fun g23 => fRe_reads_91 N ln (fRe_reads_41 N ln fu) g23 (nI k)) = ((if o then fRe_readOrder N ln (FX g1 S P i lv 0 u C) (nI k) else fRe_readRule N ln (FX g1 S P i lv 0 u C) (nI k)).bind fun g17 => fRe_readIf N ln g17 (nI k)).bind fun g17 => (fRe_accepts N ln g17 38).bind fun ⟨v20, g19⟩ => fRe_reads_41 N ln fu g19 v20 (nI k + 1) := by
      rw [e4, Option.bind_assoc]
      cases o <;> simp [fRe_reads_91, nm]
    rw [hb]
    rcases clause_sim (ln := ln) K1 (C := C) hk hi hu hlv e39 with ⟨c, j, u', lv', C', g2, a1, a2, a3, a4, a5, a6, a7, a8, a9, a10, a11⟩ | ⟨φ, g', i', lv', b1, b2, b3, b4⟩
    · have K2 := K1.base a2.1
      rw [a10, a11, Option.bind_some, Option.bind_some, acc_at K2.1 hN (i := 38) (by decide) a6, Option.bind_some, fMo_reads_34]
      simp only [fMo_sign, Option.bind_some]
      rw [tk_at K.1 K.2.1 (100 + 59) 159 rfl (by decide) a6, Option.bind_some]
      have f2 : FK k g g2 := f1.trans (Nat.le_refl _) a2.FK
      have e35 : g2.1 35 0 = nI (k + 1) := by rw [a2.1.2 35 0 (by decide), e350]
      by_cases h59 : cds B m S P j = 159
      · have hjm : j < m := cds_pos (B := B) (S := S) (P := P) (by omega)
        simp only [h59, show ct 38 = 159 from rfl, if_true, show ¬ ((1 : Int32) = 0) by decide, if_false, nI_1]
        by_cases hd : d = 0
        · -- one clause too many
          subst hd
          obtain rfl : k = 11 := by omega
          obtain ⟨fu, rfl⟩ : ∃ z, fu = z + 1 := ⟨fu - 1, by omega⟩
          obtain ⟨fm, rfl⟩ : ∃ z, fm = z + 1 := ⟨fm - 1, by omega⟩
          rw [fRe_reads_41, if_pos (show (12 : Int32) ≤ nI (11 + 1) by decide), if_pos (show nI (11 + 1) = (12 : Int32) by decide), faults_at K.1 K.2.1 (j := j + 1) hjm, Option.bind_some]
          have hS := K.S1 (j := j + 1) hjm
          obtain ⟨g', q1, q2⟩ := fail_at (N := N) (ln := ln) K2.1 (j := j + 1) (lv := lv') (d := 0) (u := u') (C := C') (by omega)
          have hBF : BF 12 g2 t (nI (S (j + 1))) g' := ⟨g2, FB1.refl, q2⟩
          obtain ⟨r1, r2, r3, r4⟩ := hBF.FW
          refine .inr ⟨nI (S (j + 1)), g', nI (j + 1), nI lv', hS, f2.FW.trans r1, r2, ?_, ?_⟩
          · rw [fRe_reads_109, if_neg (by decide), fRe_reads_124, q1, Option.bind_some, r128_bad hS r2]
          · simp only [fMo_reads_56, fMo_fine, mp_21, hS, if_false, Option.bind_some, if_true, nm]
            exact r34_bad hS
        · have h12 : ¬ nI (k + 1) = (12 : Int32) := fun h => by have := (eqL 12 12 rfl (by omega) (by decide)).1 h; omega
          rw [if_neg h12]
          simp only [fMo_reads_56, fMo_fine, mp_21, if_true, Option.bind_some, show ¬ ((1 : Int32) = 0) by decide, if_false, nm]
          rcases ih (k + 1) (by omega) (by omega) g2 (j + 1) lv' u' fu fm C' K2 hjm (by omega) a9 (by omega) (by omega) with ⟨cs, g3, u3, lv3, C3, c0, c1, c2, c3, c4, c5, c6, c7, c8, c9, c10⟩ | ⟨φ, g', i', lv', b1, b2, b3, b4, b5⟩
          · refine .inl ⟨c :: cs, g3, u3, lv3, C3, by simp, by simp; omega, ⟨j, a1, .inl (by show nI _ = 159; rw [h59]; rfl), a6, c2⟩, f2.trans (by omega) c3, by rw [c4, List.length_cons]; congr 1; omega, ?_, fun z hz => by rw [c6 z (by omega), a4 z hz], by omega, c8, c9, ?_⟩
            · intro z c' hz
              cases z with
              | zero =>
                simp at hz; subst hz
                exact a3.mono (fun x x1 x2 => c3.2.2 (35 + x) k (by omega) (by omega)) c7 c6
              | succ z =>
                have := c5 z c' (by simpa using hz)
                rw [show k + (z + 1) = k + 1 + z by omega]; exact this
            · rw [← c10, nI_1]
          · exact .inr ⟨φ, g', i', lv', b1, f2.FW.trans b2, b3, b4, by rw [← b5, nI_1]⟩
      · simp only [h59, show ct 38 = 159 from rfl, if_false, if_true, nI_1]
        obtain ⟨fu, rfl⟩ : ∃ z, fu = z + 1 := ⟨fu - 1, by omega⟩
        have e109 : fRe_reads_41 N ln (fu + 1) (FX g2 S P j lv' 0 u' C') 0 (nI (k + 1)) = fRe_reads_109 N ln (FX g2 S P j lv' 0 u' C') 0 := by
          rw [fRe_reads_41]; split
          · rfl
          · rw [if_pos rfl]
        rw [e109, fRe_reads_109, if_pos rfl]
        simp only [fMo_fine, mp_21, if_true, Option.bind_some, show ¬ ((1 : Int32) = 0) by decide, if_false, show (mp μ (nI j) (nI lv') (-1)).1 84 18 = nI m by rw [← h18]; rfl, mp_19]
        rw [show (FX g2 S P j lv' 0 u' C').1 33 0 = nI t from (show _ = g2.1 33 0 from rs_0).trans K2.1.2.2.2.1, show (FX g2 S P j lv' 0 u' C').1 33 5 = nI (S j) from rs_5]
        by_cases hjm : j = m
        · subst hjm
          rw [if_pos (nI_le (Nat.le_refl _) (by omega)), if_pos (by rw [K.1.1.2.2.2.2.1]; exact nI_le (Nat.le_refl _) (by omega))]
          refine .inl ⟨[c], g2, u', lv', C', by simp, by simp; omega, ⟨j, a1, .inr rfl, Nat.le_refl _, rfl⟩, f2, e35, ?_, a4, a5, by omega, ?_, ?_⟩
          · intro z c' hz
            cases z with
            | zero => simp at hz; subst hz; exact a3
            | succ z => simp at hz
          · have : (FX g2 S P j lv' 0 u' C').1 33 2 = -1 := rs_2
            simp [fRe_reads_128, nm, gI_at, this]
          · simp [fMo_reads_95, nm, fMo_fine, mI_at, mp_21, tz]
        · have hSj : S j < t := by
            have q := (K.1.1.2.2.1 j (by omega))
            have := q.2.1; have := q.2.2.1; omega
          rw [if_neg (nI_ge (show j < m by omega) (by omega)), if_neg (nI_ge hSj (by omega)), faults_at K.1 K.2.1 a6, Option.bind_some]
          have hS := K.S1 a6
          obtain ⟨g', q1, q2⟩ := fail_at (N := N) (ln := ln) K2.1 (j := j) (lv := lv') (d := 0) (u := u') (C := C') (by omega)
          have hBF : BF 12 g2 t (nI (S j)) g' := ⟨g2, FB1.refl, q2⟩
          obtain ⟨r1, r2, r3, r4⟩ := hBF.FW
          refine .inr ⟨nI (S j), g', nI j, nI lv', hS, f2.FW.trans r1, r2, ?_, ?_⟩
          · rw [fRe_reads_124, q1, Option.bind_some, r128_bad hS r2]
          · simp [fMo_reads_95, nm, fMo_fine, mI_at, mp_21, tz, hS]
    · rw [b3, b4, Option.bind_some, Option.bind_some, acc_badF K1 (i := 38) (by decide) b2, Option.bind_some, r34_bad b1]
      obtain ⟨r1, r2, r3, r4⟩ := b2.FW
      refine .inr ⟨φ, g', i', lv', b1, f1.FW.trans r1, r2, ?_, rfl⟩
      obtain ⟨fu, rfl⟩ : ∃ z, fu = z + 1 := ⟨fu - 1, by omega⟩
      show fRe_reads_41 N ln (fu + 1) g' 0 (nI k + 1) = _
      rw [fRe_reads_41]; split
      · exact r109_bad K1 b1 b2
      · rw [if_pos rfl]; exact r109_bad K1 b1 b2
end
