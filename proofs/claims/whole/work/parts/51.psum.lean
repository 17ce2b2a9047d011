/-! ===== both readers read a sum ===== -/
theorem Cd.congr {C C' : Nat → Int32} {nw : Nat} : ∀ {e : Ex} {i j : Nat}, (∀ k, i ≤ k → k < j → C' k = C k) → Cd C nw e i j → Cd C' nw e i j := by
  intro e
  induction e using Ex.ind with
  | num v => intro i j h h1; obtain ⟨a, b, rfl⟩ := Cd_num.1 h1; exact Cd_num.2 ⟨a, by rw [h i (by omega) (by omega), b], rfl⟩
  | word x => intro i j h h1; obtain ⟨a, b, rfl⟩ := Cd_word.1 h1; exact Cd_word.2 ⟨a, by rw [h i (by omega) (by omega), b], rfl⟩
  | br a ih => intro i j h h1; exact ih h (Cd_br.1 h1)
  | bin op a b ho iha ihb =>
    intro i j h h1
    obtain ⟨k, l, a1, a2, a3, rfl⟩ := (Cd_bin ho).1 h1
    have := a1.lt; have := a2.lt
    exact (Cd_bin ho).2 ⟨k, l, iha (fun x y z => h x y (by omega)) a1, ihb (fun x y z => h x (by omega) (by omega)) a2, by rw [h l (by omega) (by omega), a3], rfl⟩
  | oth e he => intro i j h h1; exact absurd h1 (Cd_oth he)
def Cn (N : Nat) (B : Nat → Nat) (t m : Nat) (S P : Nat → Nat) (g : sw_g) (μ : sw_m) (o : Bool) : Prop := GX B t m S P g ∧ GM B m S P μ ∧ 3000 ≤ N ∧ g.1 33 4 = (if o then 0 else 1) ∧ μ.1 84 10 = (if o then 1 else 0) ∧ μ.1 84 8 = (if o then 14 else 8) ∧ μ.1 84 9 = (if o then 20 else 15)
abbrev TT (B : Nat → Nat) (m : Nat) (S P : Nat → Nat) : Nat → Int32 := fun j => nI (cds B m S P j)
abbrev VV (B : Nat → Nat) (m : Nat) (S P : Nat → Nat) : Nat → Int32 := fun j => nI (vls B m S P j)
def nwo (o : Bool) : Nat := if o then 19 else 8
/-- both have failed, at the same place -/
def BB (g : sw_g) (μ : sw_m) (t : Nat) (x : Option sw_g) (y : Option sw_m) : Prop := ∃ (φ : Int32) (g' : sw_g) (i lv : Int32), φ ≠ -1 ∧ BX g t φ g' ∧ x = some g' ∧ y = some (mp μ i lv φ)
/-- both have read a sum -/
def SE (B : Nat → Nat) (m : Nat) (S P : Nat → Nat) (g : sw_g) (μ : sw_m) (o : Bool) (L i lv d u : Nat) (C : Nat → Int32) (x : Option sw_g) (y : Option sw_m) : Prop := ∃ (e : Ex) (j u' lv' : Nat) (C' : Nat → Int32), At (TT B m S P) (VV B m S P) o e L i j ∧ dp e + d ≤ 8 ∧ Cd C' (nwo o) e u u' ∧ (∀ k, k < u → C' k = C k) ∧ j ≤ m ∧ u' + i ≤ u + j ∧ lv ≤ lv' ∧ lv' ≤ 50 ∧ x = some (FX g S P j lv' d u' C') ∧ y = some (mp μ (nI j) (nI lv') (-1))
section
variable {N : Nat} {ln : Nat → Nat} {B : Nat → Nat} {t m : Nat} {S P : Nat → Nat} {g : sw_g} {μ : sw_m} {o : Bool}
theorem Cn.S1 (K : Cn N B t m S P g μ o) {j : Nat} (hj : j ≤ m) : nI (S j) ≠ -1 := nI_nm1 (by have := K.1.Sle hj; have := K.1.2.1; omega)
/-! words -/
theorem lw_at (K : Cn N B t m S P g μ o) {j lv d u : Nat} {C : Nat → Int32} (hj : j ≤ m) : (∃ x, x < 8 ∧ cds B m S P j = lwc x ∧ fRe_lawWord N ln (FX g S P j lv d u C) = some (nI x, FX g S P j lv d u C)) ∨ ((∀ x, x < 8 → cds B m S P j ≠ lwc x) ∧ fRe_lawWord N ln (FX g S P j lv d u C) = some (-1, FX g S P j lv d u C)) := by
  have is : ∀ i, i < 39 → fRe_isToken N ln (FX g S P j lv d u C) i = _ := fun i hi => ist_at K.1 K.2.2.1 hi hj
  unfold fRe_lawWord
  simp only [is 3 (by decide), is 4 (by decide), is 5 (by decide), is 6 (by decide), is 7 (by decide), is 8 (by decide), is 9 (by decide), is 10 (by decide), Option.bind_some]
  by_cases h0 : cds B m S P j = 8
  · exact .inl ⟨0, by decide, h0, by simp [h0, ct]; rfl⟩
  by_cases h1 : cds B m S P j = 14
  · exact .inl ⟨1, by decide, h1, by simp [h1, ct]; rfl⟩
  by_cases h2 : cds B m S P j = 9
  · exact .inl ⟨2, by decide, h2, by simp [h2, ct]; rfl⟩
  by_cases h3 : cds B m S P j = 10
  · exact .inl ⟨3, by decide, h3, by simp [h3, ct]; rfl⟩
  by_cases h4 : cds B m S P j = 11
  · exact .inl ⟨4, by decide, h4, by simp [h4, ct]; rfl⟩
  by_cases h5 : cds B m S P j = 15
  · exact .inl ⟨5, by decide, h5, by simp [h5, ct]; rfl⟩
  by_cases h6 : cds B m S P j = 12
  · exact .inl ⟨6, by decide, h6, by simp [h6, ct]; rfl⟩
  by_cases h7 : cds B m S P j = 13
  · exact .inl ⟨7, by decide, h7, by simp [h7, ct]; rfl⟩
  refine .inr ⟨?_, by simp [ct, h0, h1, h2, h3, h4, h5, h6, h7]⟩
  intro x hx
  rcases (show x = 0 ∨ x = 1 ∨ x = 2 ∨ x = 3 ∨ x = 4 ∨ x = 5 ∨ x = 6 ∨ x = 7 by omega) with rfl | rfl | rfl | rfl | rfl | rfl | rfl | rfl <;> assumption
def owd (x : Nat) : Prop := x < 5 ∨ x = 5 ∨ x = 12
theorem ow_at (K : Cn N B t m S P g μ o) {j lv d u : Nat} {C : Nat → Int32} (hj : j ≤ m) : (∃ x, owd x ∧ cds B m S P j = owc x ∧ fRe_orderWord N ln (FX g S P j lv d u C) = some (nI x, FX g S P j lv d u C)) ∨ ((∀ x, owd x → cds B m S P j ≠ owc x) ∧ fRe_orderWord N ln (FX g S P j lv d u C) = some (-1, FX g S P j lv d u C)) := by
  have is : ∀ i, i < 39 → fRe_isToken N ln (FX g S P j lv d u C) i = _ := fun i hi => ist_at K.1 K.2.2.1 hi hj
  unfold fRe_orderWord
  simp only [is 8 (by decide), is 11 (by decide), is 12 (by decide), is 13 (by decide), is 14 (by decide), is 4 (by decide), is 15 (by decide), Option.bind_some]
  by_cases h0 : cds B m S P j = 15
  · exact .inl ⟨0, .inl (by decide), h0, by simp [h0, ct]; rfl⟩
  by_cases h1 : cds B m S P j = 16
  · exact .inl ⟨1, .inl (by decide), h1, by simp [h1, ct]; rfl⟩
  by_cases h2 : cds B m S P j = 17
  · exact .inl ⟨2, .inl (by decide), h2, by simp [h2, ct]; rfl⟩
  by_cases h3 : cds B m S P j = 18
  · exact .inl ⟨3, .inl (by decide), h3, by simp [h3, ct]; rfl⟩
  by_cases h4 : cds B m S P j = 19
  · exact .inl ⟨4, .inl (by decide), h4, by simp [h4, ct]; rfl⟩
  by_cases h5 : cds B m S P j = 14
  · exact .inl ⟨5, .inr (.inl rfl), h5, by simp [h5, ct]; rfl⟩
  by_cases h6 : cds B m S P j = 20
  · exact .inl ⟨12, .inr (.inr rfl), h6, by simp [h6, ct]; rfl⟩
  refine .inr ⟨?_, by simp [ct, h0, h1, h2, h3, h4, h5, h6]⟩
  intro x hx
  rcases (show x = 0 ∨ x = 1 ∨ x = 2 ∨ x = 3 ∨ x = 4 ∨ x = 5 ∨ x = 12 by unfold owd at hx; omega) with rfl | rfl | rfl | rfl | rfl | rfl | rfl <;> assumption
theorem lw_bad (hN : 3000 ≤ N) {φ : Int32} {g' : sw_g} (hb : BX g t φ g') : fRe_lawWord N ln g' = some (-1, g') := by
  unfold fRe_lawWord
  simp only [ist_bad hN (i := 3) (by decide) hb, ist_bad hN (i := 4) (by decide) hb, ist_bad hN (i := 5) (by decide) hb, ist_bad hN (i := 6) (by decide) hb, ist_bad hN (i := 7) (by decide) hb, ist_bad hN (i := 8) (by decide) hb, ist_bad hN (i := 9) (by decide) hb, ist_bad hN (i := 10) (by decide) hb, Option.bind_some, if_true]
theorem ow_bad (hN : 3000 ≤ N) {φ : Int32} {g' : sw_g} (hb : BX g t φ g') : fRe_orderWord N ln g' = some (-1, g') := by
  unfold fRe_orderWord
  simp only [ist_bad hN (i := 8) (by decide) hb, ist_bad hN (i := 11) (by decide) hb, ist_bad hN (i := 12) (by decide) hb, ist_bad hN (i := 13) (by decide) hb, ist_bad hN (i := 14) (by decide) hb, ist_bad hN (i := 4) (by decide) hb, ist_bad hN (i := 15) (by decide) hb, Option.bind_some, if_true]
/-! a reader that has failed goes on to no end -/
theorem part_bad (K : Cn N B t m S P g μ o) {φ : Int32} (hφ : φ ≠ -1) {g' : sw_g} (hb : BX g t φ g') (rc : sw_g → Option sw_g) : fRe_readPart N rc ln g' = some g' := by
  have hN := K.2.2.1
  unfold fRe_readPart
  rw [ist_bad hN (i := 1) (by decide) hb, Option.bind_some]
  simp only [if_true]
  rw [num_bad K.1 hb, Option.bind_some]
  simp only []
  have h54 : fRe_readPart_54 N rc ln g' (-1) (-1) = some g' := by
    unfold fRe_readPart_54 fRe_readPart_74
    rw [if_pos rfl, if_pos rfl, fail_bad K.1 hφ hb]; rfl
  rw [ow_bad hN hb, lw_bad hN hb]
  simp only [Option.bind_some, h54, ite_self]
theorem mpart_bad {i lv φ d : Int32} (hφ : φ ≠ -1) (rc : sw_m → Int32 → Option sw_m) : fMo_readPart N rc (mp μ i lv φ) d = some (mp μ i lv φ) := by
  unfold fMo_readPart fMo_fine
  rw [mp_21, if_neg hφ]; simp
theorem t6_bad (hN : 3000 ≤ N) {φ c : Int32} {g' : sw_g} (hb : BX g t φ g') (rc : sw_g → Option sw_g) (fu : Nat) : fRe_readTerm_6 N rc ln (fu + 1) g' c = some g' := by
  rw [fRe_readTerm_6]
  simp only [ist_bad hN (i := 16) (by decide) hb, ist_bad hN (i := 17) (by decide) hb, ist_bad hN (i := 18) (by decide) hb, Option.bind_some, if_true, ite_self]
theorem mt5_bad {i lv φ d : Int32} (hφ : φ ≠ -1) (rc : sw_m → Int32 → Option sw_m) (fu : Nat) : fMo_readTerm_5 N rc (fu + 1) (mp μ i lv φ) d = some (mp μ i lv φ) := by
  rw [fMo_readTerm_5]
  simp only [fMo_sign, Option.bind_some, tk_bad hφ, if_true]
theorem s6_bad (hN : 3000 ≤ N) {φ c : Int32} {g' : sw_g} (hb : BX g t φ g') (rc : sw_g → Option sw_g) (fu : Nat) : fRe_readSum_b_6 N rc ln (fu + 1) g' c = some g' := by
  rw [fRe_readSum_b_6]
  simp only [ist_bad hN (i := 19) (by decide) hb, ist_bad hN (i := 20) (by decide) hb, Option.bind_some, if_true, ite_self]
theorem ms5_bad {i lv φ d : Int32} (hφ : φ ≠ -1) (rc : sw_m → Int32 → Option sw_m) (fu : Nat) : fMo_readSum_b_5 N rc (fu + 1) (mp μ i lv φ) d = some (mp μ i lv φ) := by
  rw [fMo_readSum_b_5]
  simp only [fMo_sign, Option.bind_some, tk_bad hφ, if_true]
theorem term_bad (K : Cn N B t m S P g μ o) {φ : Int32} (hφ : φ ≠ -1) {g' : sw_g} (hb : BX g t φ g') (rc : sw_g → Option sw_g) : fRe_readTerm N rc ln g' = some g' := by
  have hN := K.2.2.1
  obtain ⟨M, hM⟩ : ∃ x, N = x + 1 := ⟨N - 1, by omega⟩
  unfold fRe_readTerm
  rw [part_bad K hφ hb, Option.bind_some]
  have := t6_bad (ln := ln) hN (c := 0) hb rc M
  rwa [← hM] at this
theorem mterm_bad (hN : 3000 ≤ N) {i lv φ d : Int32} (hφ : φ ≠ -1) (rc : sw_m → Int32 → Option sw_m) : fMo_readTerm N rc (mp μ i lv φ) d = some (mp μ i lv φ) := by
  obtain ⟨M, hM⟩ : ∃ x, N = x + 1 := ⟨N - 1, by omega⟩
  unfold fMo_readTerm
  rw [mpart_bad hφ, Option.bind_some]
  have := mt5_bad (N := N) (μ := μ) (i := i) (lv := lv) (d := d) hφ rc M
  rwa [← hM] at this
theorem sumb_bad (K : Cn N B t m S P g μ o) {φ : Int32} (hφ : φ ≠ -1) {g' : sw_g} (hb : BX g t φ g') (rc : sw_g → Option sw_g) : fRe_readSum_b N rc ln g' = some g' := by
  have hN := K.2.2.1
  obtain ⟨M, hM⟩ : ∃ x, N = x + 1 := ⟨N - 1, by omega⟩
  unfold fRe_readSum_b
  rw [term_bad K hφ hb, Option.bind_some]
  have := s6_bad (ln := ln) hN (c := 0) hb rc M
  rwa [← hM] at this
theorem msumb_bad (hN : 3000 ≤ N) {i lv φ d : Int32} (hφ : φ ≠ -1) (rc : sw_m → Int32 → Option sw_m) : fMo_readSum_b N rc (mp μ i lv φ) d = some (mp μ i lv φ) := by
  obtain ⟨M, hM⟩ : ∃ x, N = x + 1 := ⟨N - 1, by omega⟩
  unfold fMo_readSum_b
  rw [mterm_bad hN hφ, Option.bind_some]
  have := ms5_bad (N := N) (μ := μ) (i := i) (lv := lv) (d := d) hφ rc M
  rwa [← hM] at this
theorem sum_bad (K : Cn N B t m S P g μ o) {φ : Int32} (hφ : φ ≠ -1) {g' : sw_g} (hb : BX g t φ g') (D : Nat) : fRe_readSum N ln (D + 1) g' = some g' := by
  rw [fRe_readSum]; exact sumb_bad K hφ hb _
theorem msum_bad (hN : 3000 ≤ N) {i lv φ d : Int32} (hφ : φ ≠ -1) (D : Nat) : fMo_readSum N (D + 1) (mp μ i lv φ) d = some (mp μ i lv φ) := by
  rw [fMo_readSum]; exact msumb_bad hN hφ _
/-- a leaf of the reference -/
theorem leaf_at (K : Cn N B t m S P g μ o) {j lv : Nat} (hj : j ≤ m) (hlv : lv < 50) : fMo_leaf N (mp μ (nI j) (nI lv) (-1)) = some (mp μ (nI (j + 1)) (nI (lv + 1)) (-1)) := by
  unfold fMo_leaf
  rw [mp_20, if_neg (fun h => by have := (eqL 50 50 rfl (by omega) (by decide)).1 h; omega)]
  unfold fMo_leaf_13 fMo_fine
  simp only [nm, mp_20, mp_w20, nI_1, mp_21, if_true, Option.bind_some, show ¬ ((1 : Int32) = 0) by decide, if_false, mp_19, mp_w19]
theorem leaf_50 (K : Cn N B t m S P g μ o) {j : Nat} (hj : j ≤ m) : fMo_leaf N (mp μ (nI j) (nI 50) (-1)) = some (mp μ (nI j) (nI 51) (nI (S j))) := by
  unfold fMo_leaf
  rw [mp_20, if_pos (show nI 50 = 50 from rfl), faults_at K.1 K.2.1 hj, Option.bind_some]
  unfold fMo_leaf_13 fMo_fine
  simp only [nm, mp_20, mp_w20, nI_1, mp_21, K.S1 hj, if_false, if_true, Option.bind_some]
theorem p65_num (K : Cn N B t m S P g μ o) {j lv d u v : Nat} {C : Nat → Int32} {w : Int32} (rc : sw_g → Option sw_g) (hj : j < m) (hlv : lv < 50) (hu : u < 512) (hv : v ≤ 1000) : fRe_readPart_65 N rc ln (FX g S P j lv d u C) (nI v) w = some (FX g S P (j + 1) (lv + 1) d (u + 1) (updI C u (1 * 2048 + nI v))) := by
  unfold fRe_readPart_65
  rw [show (FX g S P j lv d u C).1 33 7 = nI lv from rs_7, if_pos (show nI lv < (50 : Int32) from nI_lt (b := 50) hlv (by decide))]
  simp only [nm, nI_1]
  rw [show gI (FX g S P j lv d u C) 33 7 (nI (lv + 1)) = FX g S P j (lv + 1) d u C from rs_w7, adv_at K.1 K.2.2.1 hj, Option.bind_some, if_neg (nI_nm1 (by omega)), emit_at hu, Option.bind_some]
theorem p65_50 (K : Cn N B t m S P g μ o) {j d u : Nat} {C : Nat → Int32} {v w : Int32} (rc : sw_g → Option sw_g) (hu : u ≤ 512) : ∃ g', fRe_readPart_65 N rc ln (FX g S P j 50 d u C) v w = some g' ∧ BX g t (nI (S j)) g' := by
  obtain ⟨g', h1, h2⟩ := fail_at (N := N) (ln := ln) K.1 (j := j) (lv := 50) (d := d) (C := C) hu
  refine ⟨g', ?_, h2⟩
  unfold fRe_readPart_65 fRe_readPart_74
  rw [show (FX g S P j 50 d u C).1 33 7 = nI 50 from rs_7, if_neg (by decide), h1]; rfl
theorem p65_word (K : Cn N B t m S P g μ o) {j lv d u x : Nat} {C : Nat → Int32} (rc : sw_g → Option sw_g) (hj : j < m) (hlv : lv < 50) (hu : u < 512) (hx : o = true → x < 5) (hx8 : x < 8) : fRe_readPart_65 N rc ln (FX g S P j lv d u C) (-1) (nI x) = some (FX g S P (j + 1) (lv + 1) d (u + 1) (updI C u (2 * 2048 + nI x))) := by
  unfold fRe_readPart_65
  rw [show (FX g S P j lv d u C).1 33 7 = nI lv from rs_7, if_pos (show nI lv < (50 : Int32) from nI_lt (b := 50) hlv (by decide))]
  simp only [nm, nI_1]
  rw [show gI (FX g S P j lv d u C) 33 7 (nI (lv + 1)) = FX g S P j (lv + 1) d u C from rs_w7, adv_at K.1 K.2.2.1 hj, Option.bind_some, if_pos trivial]
  have h146 : fRe_readPart_146 N rc ln (FX g S P (j + 1) (lv + 1) d u C) (nI x) = some (FX g S P (j + 1) (lv + 1) d (u + 1) (updI C u (2 * 2048 + nI x))) := by
    unfold fRe_readPart_146; rw [emit_at hu]; rfl
  have h4 : (FX g S P (j + 1) (lv + 1) d u C).1 33 4 = _ := rs_4
  rw [h4, K.2.2.2.1, h146]
  cases ho : o
  · simp
  · have := hx ho
    rw [if_pos rfl, if_pos rfl, if_neg (fun h => by have := (eqL 5 5 rfl (by omega) (by decide)).1 h; omega), if_neg (fun h => by have := (eqL 12 12 rfl (by omega) (by decide)).1 h; omega)]
theorem p65_idx (K : Cn N B t m S P g μ o) (ho : o = true) {j lv d u x : Nat} {C : Nat → Int32} (rc : sw_g → Option sw_g) (hj : j < m) (hlv : lv < 50) (hu : u < 512) (hx : x = 5 ∨ x = 12) : ((cds B m S P (j + 1) = 50 ∧ vls B m S P (j + 1) ≤ 6) ∧ fRe_readPart_65 N rc ln (FX g S P j lv d u C) (-1) (nI x) = some (FX g S P (j + 2) (lv + 1) d (u + 1) (updI C u (2 * 2048 + nI (x + vls B m S P (j + 1)))))) ∨ (¬ (cds B m S P (j + 1) = 50 ∧ vls B m S P (j + 1) ≤ 6) ∧ ∃ g', fRe_readPart_65 N rc ln (FX g S P j lv d u C) (-1) (nI x) = some g' ∧ BX g t (nI (S (j + 1))) g') := by
  have e65 : fRe_readPart_65 N rc ln (FX g S P j lv d u C) (-1) (nI x) = fRe_readPart_125 N rc ln (FX g S P (j + 1) (lv + 1) d u C) (nI x) := by
    unfold fRe_readPart_65
    rw [show (FX g S P j lv d u C).1 33 7 = nI lv from rs_7, if_pos (show nI lv < (50 : Int32) from nI_lt (b := 50) hlv (by decide))]
    simp only [nm, nI_1]
    rw [show gI (FX g S P j lv d u C) 33 7 (nI (lv + 1)) = FX g S P j (lv + 1) d u C from rs_w7, adv_at K.1 K.2.2.1 hj, Option.bind_some, if_pos trivial]
    have h4 : (FX g S P (j + 1) (lv + 1) d u C).1 33 4 = _ := rs_4
    rw [h4, K.2.2.2.1, ho]
    rcases hx with rfl | rfl
    · rw [if_pos rfl, if_pos rfl, if_pos (by decide)]
    · rw [if_pos rfl, if_pos rfl, if_neg (by decide), if_pos (by decide)]
  rw [e65]
  unfold fRe_readPart_125
  rcases expN_at (N := N) (ln := ln) K.1 K.2.2.1 (j := j + 1) (lv := lv + 1) (d := d) (u := u) (lo := 0) (hi := 6) (C := C) hj (by decide) (by decide) (by omega) with ⟨⟨e1, e2, e3⟩, h1⟩ | ⟨e1, g', h1, h2⟩
  · refine .inl ⟨⟨e1, e3⟩, ?_⟩
    rw [show (0 : Int32) = nI 0 from rfl, show (6 : Int32) = nI 6 from rfl, h1, Option.bind_some]
    have ej : nI x + jmax (nI 0) (nI (vls B m S P (j + 1))) = nI (x + vls B m S P (j + 1)) := by
      rw [← nI_add]; congr 1
      unfold jmax
      split
      · rfl
      · rename_i hlt
        by_cases hv : vls B m S P (j + 1) = 0
        · rw [hv]
        · exact absurd (nI_lt (a := 0) (by omega) (by omega)) hlt
    simp only [ej]
    rw [emit_at hu]
    rfl
  · refine .inr ⟨fun h => e1 ⟨h.1, by omega, h.2⟩, ?_⟩
    rw [show (0 : Int32) = nI 0 from rfl, show (6 : Int32) = nI 6 from rfl, h1, Option.bind_some]
    obtain ⟨g'', h3, h4⟩ := emit_bad (N := N) (ln := ln) K.1 (a := 2) (b := nI x + jmax (nI 0) (-1)) (K.S1 hj) h2
    exact ⟨g'', by simp only []; rw [h3]; rfl, h4⟩
end
