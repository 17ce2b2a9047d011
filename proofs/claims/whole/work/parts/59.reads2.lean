/-! ===== both readers: the tape is read ===== -/
def FV (g g' : sw_g) : Prop := g'.2 = g.2 ∧ ∀ p j, p ≠ 33 → (p < 35 ∨ 41 < p) → g'.1 p j = g.1 p j
def MV (μ μ' : sw_m) : Prop := μ'.2 = μ.2 ∧ ∀ p j, p ≠ 93 → p ≠ 94 → p ≠ 95 → (p = 84 → j < 8 ∨ (10 < j ∧ j < 13) ∨ (14 < j ∧ j < 18) ∨ 21 < j) → μ'.1 p j = μ.1 p j
theorem rs_init {g : sw_g} {a : Int32} : gI (gI (gI (gI (gI (gI g 33 4 a) 33 2 (-1)) 33 6 0) 33 7 0) 33 8 0) 35 6 0 = rs (gI g 33 4 a) (-1) (g.1 33 5) 0 0 0 0 (g.1 41) := by
  refine Prod.ext (funext fun q => funext fun j => ?_) rfl
  simp only [gI, rs, sw_u]
  by_cases h1 : q = 33
  · subst h1
    by_cases a2 : j = 2
    · subst a2; simp
    · by_cases a5 : j = 5
      · subst a5; simp
      · by_cases a6 : j = 6
        · subst a6; simp
        · by_cases a7 : j = 7
          · subst a7; simp
          · by_cases a8 : j = 8
            · subst a8; simp
            · simp [a2, a5, a6, a7, a8]
  · by_cases h2 : q = 35
    · subst h2
      by_cases h3 : j = 6
      · subst h3; simp
      · simp [h3]
    · by_cases h3 : q = 41
      · subst h3; simp
      · simp [h1, h2, h3]
theorem mp_init {μ : sw_m} : mI (mI (mI μ 84 19 0) 84 20 0) 84 21 (-1) = mp μ 0 0 (-1) := by
  refine Prod.ext (funext fun q => funext fun j => ?_) rfl
  simp only [mI, mp, sw_u]
  by_cases h1 : q = 84
  · subst h1
    by_cases a2 : j = 19
    · subst a2; simp
    · by_cases a5 : j = 20
      · subst a5; simp
      · by_cases a6 : j = 21
        · subst a6; simp
        · simp [a2, a5, a6]
  · simp [h1]
theorem mp_at {μ : sw_m} {i lv b : Int32} {p j : Nat} (h : p = 84 → j < 19 ∨ 21 < j) : (mp μ i lv b).1 p j = μ.1 p j := by
  simp only [mp]
  by_cases h1 : p = 84
  · subst h1
    have := h rfl
    simp [show ¬ j = 19 by omega, show ¬ j = 20 by omega, show ¬ j = 21 by omega]
  · simp [h1]
theorem AtLo.ne {o : Bool} {T V : Nat → Int32} {n : Nat} {cs : List Cl} (h : AtLo o T V n cs 0) : cs ≠ [] := by
  intro h'; subst h'; simp [AtLo] at h
section
variable {N : Nat} {ln : Nat → Nat} {B : Nat → Nat} {t : Nat} {g : sw_g} {μ : sw_m} {o : Bool}
theorem readsAs_eq : fMo_readsAs N μ (if o then 1 else 0) = (fMo_reads N (mI (mI (mI μ 84 10 (if o then 1 else 0)) 84 8 (if o then 14 else 8)) 84 9 (if o then 20 else 15))).bind fun x => tz x.1 <| some (x.1, x.2) := by
  cases o <;> simp [fMo_readsAs, fMo_readsAs_17, fMo_readsAs_32, nm, tz]
/-- the tape is read by both alike -/
theorem reads_sim (hN : 3000 ≤ N) (hB : ∀ k, B k < 256) (ht : t ≤ 400) (h0 : g.1 33 0 = nI t) (hg : ∀ j, j < t → g.1 34 j = nI (B j)) (m0 : μ.1 84 13 = nI t) (hμ : ∀ j, j < t → μ.1 91 j = sx (B j)) (hw : ∀ j, j < 124 → μ.1 90 j = nI ((wfl w26).getD j 0)) :
    (∃ (cs : List Cl) (T V : Nat → Int32) (m u : Nat) (C : Nat → Int32) (g' : sw_g) (μ' : sw_m), cs.length ≤ 12 ∧ AtLo o T V m cs 0 ∧ m ≤ 400 ∧ (∀ j, m ≤ j → T j = 0) ∧ fRe_reads N ln g (if o then 0 else 1) = some (1, g') ∧ FV g g' ∧ g'.1 33 0 = 0 ∧ g'.1 33 2 = -1 ∧ g'.1 35 0 = nI cs.length ∧ g'.1 35 6 = nI u ∧ u ≤ 500 ∧ g'.1 41 = C ∧ (∀ z c, cs[z]? = some c → RowC g' 35 C u (nwo o) z c)
      ∧ fMo_readsAs N μ (if o then 1 else 0) = some (1, μ') ∧ MV μ μ' ∧ μ'.1 84 13 = 0 ∧ μ'.1 84 14 = -1 ∧ μ'.1 84 18 = nI m ∧ (∀ j, j < m → μ'.1 93 j = T j ∧ μ'.1 94 j = V j)) ∨
    (∃ (φ : Int32) (g' : sw_g) (μ' : sw_m), φ ≠ -1 ∧ fRe_reads N ln g (if o then 0 else 1) = some (0, g') ∧ FV g g' ∧ g'.1 33 0 = 0 ∧ g'.1 33 2 = φ ∧ fMo_readsAs N μ (if o then 1 else 0) = some (0, μ') ∧ MV μ μ' ∧ μ'.1 84 13 = 0 ∧ μ'.1 84 14 = φ) := by
  generalize hμ1 : mI (mI (mI μ 84 10 (if o then 1 else 0)) 84 8 (if o then 14 else 8)) 84 9 (if o then 20 else 15) = μ1
  have e1 : ∀ p j, (p = 84 → j < 8 ∨ 10 < j) → μ1.1 p j = μ.1 p j := by
    intro p j h
    subst hμ1
    rw [mI_at, mI_at, mI_at, if_neg (by omega), if_neg (by omega), if_neg (by omega)]
  have e2 : μ1.2 = μ.2 := by subst hμ1; rfl
  obtain ⟨m, S, P, μ2, hT, s1, s2, s3, s4⟩ := splits_eq (N := N) (B := B) (t := t) (μ := μ1) hN ht hB (fun j hj => by rw [e1 91 j (by omega), hμ j hj]) (fun j hj => by rw [e1 90 j (by omega), hw j hj])
  generalize hμ3 : mI μ2 84 13 0 = μ3
  have e3 : ∀ p j, (p = 84 → j ≠ 13) → μ3.1 p j = μ2.1 p j := by
    intro p j h
    subst hμ3
    rw [mI_at, if_neg (by omega)]
  have e313 : μ3.1 84 13 = 0 := by subst hμ3; simp [mI_at]
  have e32 : μ3.2 = μ.2 := by subst hμ3; exact (show _ = μ2.2 from rfl).trans (s4.1.trans e2)
  have e318 : μ3.1 84 18 = nI m := by rw [e3 84 18 (by decide), s2]
  have eF : ∀ p j, p ≠ 93 → p ≠ 94 → p ≠ 95 → (p = 84 → j < 8 ∨ (10 < j ∧ j < 13) ∨ (13 < j ∧ j < 18) ∨ 18 < j) → μ3.1 p j = μ.1 p j := by
    intro p j q1 q2 q3 q4
    rw [e3 p j (by omega), s4.2 p j (by omega) (by omega), e1 p j (by omega)]
  have hg4 : (gI g 33 4 (if o then 0 else 1)).1 33 4 = if o then 0 else 1 := by simp [gI_at]
  have hm : m ≤ 400 := Nat.le_trans hT.2.1 ht
  have K : Cn N B t m S P (gI g 33 4 (if o then 0 else 1)) μ3 o := by
    refine ⟨⟨hT, ht, hB, by rw [gI_at, if_neg (by decide), h0], fun j hj => by rw [gI_at, if_neg (by omega), hg j hj]⟩, fun j hj => ?_, hN, hg4, ?_, ?_, ?_⟩
    · rw [e3 95 j (by omega), e3 93 j (by omega), e3 94 j (by omega)]; exact s3 j hj
    · rw [e3 84 10 (by decide), s4.2 84 10 (by decide) (by omega)]; subst hμ1; simp [mI_at]
    · rw [e3 84 8 (by decide), s4.2 84 8 (by decide) (by omega)]; subst hμ1; simp [mI_at]
    · rw [e3 84 9 (by decide), s4.2 84 9 (by decide) (by omega)]; subst hμ1; simp [mI_at]
  have ex : fRe_reads N ln g (if o then 0 else 1) = fRe_reads_41 N ln N (FX (gI g 33 4 (if o then 0 else 1)) S P 0 0 0 0 (g.1 41)) 1 (nI 0) := by
    unfold fRe_reads
    have htz : ∀ (k : Option (Int32 × sw_g)), tz (if o then (0 : Int32) else 1) k = k := by intro k; cases o <;> simp [tz]
    rw [htz]
    simp only [nm]
    rw [rs_init, show rs (gI g 33 4 (if o then 0 else 1)) (-1) (g.1 33 5) 0 0 0 0 (g.1 41) = rs (gI g 33 4 (if o then 0 else 1)) (-1) (g.1 33 5) (nI (P 0)) 0 0 0 (g.1 41) by rw [hT.1]; rfl, advance_at K.1 hN (Nat.zero_le _), Option.bind_some]
    rfl
  have ey : fMo_reads N μ1 = (fMo_readOne N (mp μ3 (nI 0) (nI 0) (-1))).bind fun μ8 => fMo_reads_34 N N μ8 (nI (0 + 1)) := by
    unfold fMo_reads
    rw [e1 84 13 (by decide), m0, s1, Option.bind_some]
    simp only [nm]
    rw [hμ3, mp_init]
    rfl
  have hFV : ∀ g2, FW (gI g 33 4 (if o then 0 else 1)) g2 → FV g (gI g2 33 0 0) := by
    intro g2 h
    refine ⟨h.1, fun p j h1 h2 => ?_⟩
    rw [gI_at, if_neg (by omega), h.2 p j h2 (by omega), gI_at, if_neg (by omega)]
  have hMV : ∀ i lv b φ, MV μ (mI (mp μ3 i lv b) 84 14 φ) := by
    intro i lv b φ
    refine ⟨e32, fun p j q1 q2 q3 q4 => ?_⟩
    rw [mI_at, if_neg (by omega), mp_at (by omega), eF p j q1 q2 q3 (by omega)]
  have h13 : ∀ i lv b φ, (mI (mp μ3 i lv b) 84 14 φ).1 84 13 = 0 := by
    intro i lv b φ; rw [mI_at, if_neg (by decide), mp_at (by omega), e313]
  rw [readsAs_eq, hμ1, ex, ey]
  rcases reads_loop (ln := ln) (o := o) (t := t) e318 12 0 rfl (by decide) (gI g 33 4 (if o then 0 else 1)) 0 0 0 N N (g.1 41) K (Nat.zero_le _) (Nat.le_refl _) (by decide) (by omega) (by omega) with ⟨cs, g2, u', lv', C', c0, c1, c2, c3, c4, c5, c6, c7, c8, c9, c10⟩ | ⟨φ, g', i', lv', b1, b2, b3, b4, b5⟩
  · refine .inl ⟨cs, TT B m S P, VV B m S P, m, u', C', gI (FX g2 S P m lv' 0 u' C') 33 0 0, mI (mp μ3 (nI m) (nI lv') (-1)) 84 14 (-1), by omega, c2, hm, fun j hj => by simp [TT, cds, show ¬ j < m by omega]; rfl, c9, hFV _ (c3.FW.trans rs_FW), by simp [gI_at], ?_, ?_, ?_, c8, ?_, ?_, ?_, hMV _ _ _ _, h13 _ _ _ _, by simp [mI_at], ?_, ?_⟩
    · rw [gI_at, if_neg (by decide)]; exact rs_2
    · rw [gI_at, if_neg (by decide), show (FX g2 S P m lv' 0 u' C').1 35 0 = g2.1 35 0 by simp [FX, rs], c4]; congr 1; omega
    · rw [gI_at, if_neg (by decide)]; exact rs_u
    · funext x; rw [gI_at, if_neg (by omega)]; exact congrFun rs_41 x
    · intro z c hz
      have := c5 z c hz
      rw [Nat.zero_add] at this
      refine this.mono (fun x x1 x2 => ?_) (Nat.le_refl _) (fun _ _ => rfl)
      rw [gI_at, if_neg (by omega)]
      simp only [FX, rs]
      simp [show ¬ 35 + x = 33 by omega, show ¬ x = 0 by omega, show ¬ 35 + x = 41 by omega]
    · rw [c10]; simp [tz]
    · rw [mI_at, if_neg (by decide), mp_at (by omega), e318]
    · intro j hj
      have q := K.2.1 j (by omega)
      rw [mI_at, if_neg (by omega), mp_at (by omega), mI_at, if_neg (by omega), mp_at (by omega)]
      exact q.2
  · exact .inr ⟨φ, gI g' 33 0 0, mI (mp μ3 i' lv' φ) 84 14 φ, b1, b4, hFV _ b2, by simp [gI_at], by rw [gI_at, if_neg (by decide), b3], by rw [b5]; simp [tz], hMV _ _ _ _, h13 _ _ _ _, by simp [mI_at]⟩
end
