/-! ===== orders: numbers that the reference finds too great ===== -/
/-- the reference's number beside the class' -/
def SM (a a' : Int32) : Prop := a' = a ∨ ((a < 0 ∨ 1000000 < a) ∧ a' = -1)
theorem small_eq {v : Int64} (hv : v.toInt32.toInt64 = v) : ∃ a', fMo_small v = some a' ∧ SM v.toInt32 a' := by
  have e : v.toInt = v.toInt32.toInt := by
    conv => lhs; rw [← hv]
    exact Int32.toInt_toInt64 _
  rw [fMo_small]
  by_cases h1 : v < 0
  · have : lg_cmp v 0 < 0 := by
      have h := @cmp_ge v 0
      rw [Int32.lt_iff_toInt_lt]
      have h0 : ¬ (0 ≤ lg_cmp v 0) := by rw [h]; rw [Int64.le_iff_toInt_le]; rw [Int64.lt_iff_toInt_lt] at h1; omega
      rw [Int32.le_iff_toInt_le] at h0
      omega
    rw [if_pos this]
    refine ⟨-1, rfl, .inr ⟨.inl ?_, rfl⟩⟩
    rw [Int32.lt_iff_toInt_lt, ← e]
    rw [Int64.lt_iff_toInt_lt] at h1
    exact h1
  · have : ¬ lg_cmp v 0 < 0 := by
      have h := @cmp_ge v 0
      have h0 : 0 ≤ lg_cmp v 0 := by rw [h]; rw [Int64.le_iff_toInt_le]; rw [Int64.lt_iff_toInt_lt] at h1; omega
      rw [Int32.lt_iff_toInt_lt]
      rw [Int32.le_iff_toInt_le] at h0
      omega
    rw [if_neg this]
    by_cases h2 : v ≤ 1000000
    · rw [if_pos (by rw [cmp_le]; exact h2)]
      exact ⟨_, rfl, .inl rfl⟩
    · rw [if_neg (by rw [cmp_le]; exact h2)]
      refine ⟨-1, rfl, .inr ⟨.inr ?_, rfl⟩⟩
      rw [Int32.lt_iff_toInt_lt, ← e]
      rw [Int64.le_iff_toInt_le] at h2
      have : (1000000 : Int64).toInt = 1000000 := rfl
      have : (1000000 : Int32).toInt = 1000000 := rfl
      omega
section
variable {N : Nat} {ln : Nat → Nat} {M : Nat} {k : Nat → Int32} {Lw : Nat → List Cl} {n w L : Nat} {g : sw_g}
theorem SM.far {a a' : Int32} (h : SM a a') : a' = a ∨ (∀ c : Nat, c ≤ 100 → a ≠ nI c ∧ a' ≠ nI c) := by
  rcases h with h | ⟨h, rfl⟩
  · exact .inl h
  · refine .inr (fun c hc => ⟨fun e => ?_, fun e => nI_nm1 (by omega) e.symm⟩)
    subst e
    rcases h with h | h
    · exact nI_pos (by omega) h
    · exact nI_nlt (a := 1000000) (b := c) (by omega) (by decide) h
theorem isPlace_x {a : Int32} (h : ∀ c : Nat, c ≤ 100 → a ≠ nI c) : fSx_isPlace a = some 0 := by
  rw [fSx_isPlace]
  by_cases h0 : a < 0
  · rw [if_pos h0]
  · obtain ⟨i, hi, rfl⟩ := nI_of h0
    have : ¬ i ≤ 100 := fun q => h i q rfl
    rw [if_neg h0, if_pos (show (7 : Int32) ≤ nI i from nI_le (a := 7) (by omega) (by omega))]
theorem canHeavy_x {a : Int32} (h : ∀ c : Nat, c ≤ 100 → a ≠ nI c) : fSx_canBeHeavy a = some 0 := by
  rw [fSx_canBeHeavy]
  by_cases h0 : a < 1
  · rw [if_pos h0]
  · obtain ⟨i, hi, rfl⟩ := nI_of (show ¬ a < 0 from fun q => h0 (by rw [Int32.lt_iff_toInt_lt] at q ⊢; have : (0 : Int32).toInt = 0 := rfl; have : (1 : Int32).toInt = 1 := rfl; omega))
    have : ¬ i ≤ 100 := fun q => h i q rfl
    rw [if_neg h0, if_pos (show (30 : Int32) < nI i from nI_lt (a := 30) (by omega) (by omega))]
theorem hasClaim_x (K : KI k Lw n w L) (P : PQ ln M g 1 k Lw L) {a : Int32} (h : ∀ c : Nat, c ≤ 100 → a ≠ nI c) : fPl_hasClaim ln g 1 a = some (0, g) := hasClaim_no P K (fun c hc => h c (by have := K.n7; omega))
theorem puts_x (K : KI k Lw n w L) (P : PQ ln M g 1 k Lw L) {a a' b b' : Int32} (ha : SM a a') (hb : SM b b') : fSx_puts N ln g a b = fSx_puts N ln g a' b' := by
  have e1 : fSx_isPlace b = fSx_isPlace b' := by
    rcases hb.far with q | q
    · rw [q]
    · rw [isPlace_x (fun c hc => (q c hc).1), isPlace_x (fun c hc => (q c hc).2)]
  rw [fSx_puts, fSx_puts, e1]
  rcases hb.far with q | q
  · rw [q]
    rcases ha.far with r | r
    · rw [r]
    · rw [hasClaim_x K P (fun c hc => (r c hc).1), hasClaim_x K P (fun c hc => (r c hc).2)]; simp only [Option.bind_some, if_true]
  · rw [isPlace_x (fun c hc => (q c hc).2)]; simp only [Option.bind_some, if_true]
theorem takes_x (K : KI k Lw n w L) (P : PQ ln M g 1 k Lw L) {a a' : Int32} (ha : SM a a') : fSx_takes ln g a = fSx_takes ln g a' := by
  rcases ha.far with r | r
  · rw [r]
  · rw [fSx_takes, fSx_takes, hasClaim_x K P (fun c hc => (r c hc).1), hasClaim_x K P (fun c hc => (r c hc).2)]; simp only [Option.bind_some, if_true]
theorem pads_x (K : KI k Lw n w L) (P : PQ ln M g 1 k Lw L) {a a' b b' : Int32} (ha : SM a a') (hb : SM b b') : fSx_pads ln g a b = fSx_pads ln g a' b' := by
  rcases hb.far with q | q
  · rw [q]
    rcases ha.far with r | r
    · rw [r]
    · rw [fSx_pads, fSx_pads, hasClaim_x K P (fun c hc => (r c hc).1), hasClaim_x K P (fun c hc => (r c hc).2)]; simp only [Option.bind_some, if_true]
  · rw [fSx_pads, fSx_pads, canHeavy_x (fun c hc => (q c hc).1), canHeavy_x (fun c hc => (q c hc).2)]; simp only [Option.bind_some, if_true]
end
