/-! ===== both readers: terms, sums ===== -/
section
variable {N : Nat} {ln : Nat → Nat} {B : Nat → Nat} {t m : Nat} {S P : Nat → Nat} {g : sw_g} {μ : sw_m} {o : Bool}
/-- what came so far and a part behind it -/
theorem SE.step {L d i lv u : Nat} {C : Nat → Int32} {op : Nat} (ho : op = 6 ∨ op = 7 ∨ op = 8 ∨ op = 9 ∨ op = 10) {e : Ex} {j u' lv' : Nat} {C' : Nat → Int32} {La Lb : Nat} (hL : ((op = 6 ∨ op = 7) ∧ L = 0 ∧ La = 0 ∧ Lb = 1) ∨ ((op = 8 ∨ op = 9 ∨ op = 10) ∧ L = 1 ∧ La = 1 ∧ Lb = 2)) (hT : cds B m S P j = otk op) (a1 : At (TT B m S P) (VV B m S P) o e La i j) (a2 : dp e + d ≤ 8) (a3 : Cd C' (nwo o) e u u') (a4 : ∀ k, k < u → C' k = C k) (a6 : u' + i ≤ u + j) (a7 : lv ≤ lv') {e2 : Ex} {j2 u2 lv2 : Nat} {C2 : Nat → Int32} (b1 : At (TT B m S P) (VV B m S P) o e2 Lb (j + 1) j2) (b2 : dp e2 + d ≤ 8) (b3 : Cd C2 (nwo o) e2 u' u2) (b4 : ∀ k, k < u' → C2 k = C' k) (b6 : u2 + (j + 1) ≤ u' + j2) (b7 : lv' ≤ lv2) : At (TT B m S P) (VV B m S P) o (.bin op e e2) L i j2 ∧ dp (.bin op e e2) + d ≤ 8 ∧ Cd (updI C2 u2 (nI (op * 2048))) (nwo o) (.bin op e e2) u (u2 + 1) ∧ (∀ k, k < u → updI C2 u2 (nI (op * 2048)) k = C k) ∧ (u2 + 1) + i ≤ u + j2 ∧ lv ≤ lv2 := by
  have l1 := a3.lt
  have l2 := b3.lt
  refine ⟨(At_bin ho).2 ⟨j, by show nI _ = _; rw [hT], ?_⟩, by rw [dp_bin ho]; omega, (Cd_bin ho).2 ⟨u', u2, ?_, ?_, updI_at, rfl⟩, fun k hk => ?_, by omega, by omega⟩
  · rcases hL with ⟨h1, rfl, rfl, rfl⟩ | ⟨h1, rfl, rfl, rfl⟩
    · exact .inl ⟨h1, rfl, a1, b1⟩
    · exact .inr ⟨h1, Nat.le_refl _, a1, b1⟩
  · exact a3.congr (fun k h1 h2 => by rw [updI_ne (by omega), b4 k h2])
  · exact b3.congr (fun k h1 h2 => by rw [updI_ne (by omega)])
  · rw [updI_ne (by omega), b4 k (by omega), a4 k hk]
theorem term_loop (K : Cn N B t m S P g μ o) {rx : sw_g → Option sw_g} {rm : sw_m → Int32 → Option sw_m} {d : Nat} (hd : d ≤ 8) (hr : d < 8 → HR N ln B t m S P g μ o (d + 1) rx rm) {i lv u : Nat} {C : Nat → Int32} (hu : u ≤ i) : ∀ (n j : Nat), m - j ≤ n → ∀ (e : Ex) (u' lv' c fu fm : Nat) (C' : Nat → Int32), At (TT B m S P) (VV B m S P) o e 1 i j → dp e + d ≤ 8 → Cd C' (nwo o) e u u' → (∀ k, k < u → C' k = C k) → j ≤ m → u' + i ≤ u + j → lv ≤ lv' → lv' ≤ 50 → c ≤ j → m < fu + j → m < fm + j → SE B m S P g μ o 1 i lv d u C (fRe_readTerm_6 N rx ln fu (FX g S P j lv' d u' C') (nI c)) (fMo_readTerm_5 N rm fm (mp μ (nI j) (nI lv') (-1)) (nI d)) ∨ BB g μ t (fRe_readTerm_6 N rx ln fu (FX g S P j lv' d u' C') (nI c)) (fMo_readTerm_5 N rm fm (mp μ (nI j) (nI lv') (-1)) (nI d)) := by
  have hm := K.1.m_le
  have hN := K.2.2.1
  intro n
  induction n with
  | zero =>
    intro j hn e u' lv' c fu fm C' a1 a2 a3 a4 a5 a6 a7 a8 hc hfu hfm
    obtain rfl : j = m := by omega
    obtain ⟨fu, rfl⟩ : ∃ x, fu = x + 1 := ⟨fu - 1, by omega⟩
    obtain ⟨fm, rfl⟩ : ∃ x, fm = x + 1 := ⟨fm - 1, by omega⟩
    have h0 : cds B j S P j = 0 := by unfold cds; rw [if_neg (by omega)]
    refine .inl ⟨e, j, u', lv', C', a1, a2, a3, a4, a5, a6, a7, a8, ?_, ?_⟩
    · rw [fRe_readTerm_6]
      simp [ist_at K.1 hN (i := 16) (by decide) a5, ist_at K.1 hN (i := 17) (by decide) a5, ist_at K.1 hN (i := 18) (by decide) a5, h0, ct]
    · rw [fMo_readTerm_5]
      simp [fMo_sign, tk_at K.1 K.2.1 142 142 rfl (by decide) a5, tk_at K.1 K.2.1 147 147 rfl (by decide) a5, tk_at K.1 K.2.1 137 137 rfl (by decide) a5, h0]
  | succ n ih =>
    intro j hn e u' lv' c fu fm C' a1 a2 a3 a4 a5 a6 a7 a8 hc hfu hfm
    obtain ⟨fu, rfl⟩ : ∃ x, fu = x + 1 := ⟨fu - 1, by omega⟩
    obtain ⟨fm, rfl⟩ : ∃ x, fm = x + 1 := ⟨fm - 1, by omega⟩
    -- how an operator goes on
    have go : ∀ op, (op = 8 ∨ op = 9 ∨ op = 10) → cds B m S P j = otk op → j < m → SE B m S P g μ o 1 i lv d u C (fRe_readTerm_70 N rx ln (fRe_readTerm_6 N rx ln fu) (FX g S P j lv' d u' C') (nI c) (nI op)) (fMo_readTerm_41 N rm (fMo_readTerm_5 N rm fm) (mp μ (nI (j + 1)) (nI lv') (-1)) (nI d)) ∨ BB g μ t (fRe_readTerm_70 N rx ln (fRe_readTerm_6 N rx ln fu) (FX g S P j lv' d u' C') (nI c) (nI op)) (fMo_readTerm_41 N rm (fMo_readTerm_5 N rm fm) (mp μ (nI (j + 1)) (nI lv') (-1)) (nI d)) := by
      intro op ho hT hjm
      unfold fRe_readTerm_70 fMo_readTerm_41
      rw [adv_at K.1 hN hjm, Option.bind_some]
      rcases part_sim (ln := ln) K hd hr (i := j + 1) (lv := lv') (u := u') (C := C') hjm (by omega) a8 with ⟨e2, j2, u2, lv2, C2, b1, b2, b3, b4, b5, b6, b7, b8, b9, b10⟩ | ⟨φ, g', i', lv2, b1, b2, b3, b4⟩
      · rw [b9, b10, Option.bind_some, Option.bind_some, emit_at (by omega), Option.bind_some]
        simp only [nm, nI_1]
        have hop : nI op * 2048 + 0 = nI (op * 2048) := by
          rw [show (2048 : Int32) = nI 2048 from rfl, nI_mul, Int32.add_zero]
        rw [hop]
        obtain ⟨s1, s2, s3, s4, s6, s7⟩ := SE.step (o := o) (L := 1) (d := d) (op := op) (by omega) (.inr ⟨ho, rfl, rfl, rfl⟩) hT a1 a2 a3 a4 a6 a7 b1 b2 b3 b4 b6 b7
        have hlt := b1.lt
        exact ih j2 (by omega) _ _ _ _ _ _ _ s1 s2 s3 s4 b5 s6 s7 b8 (by omega) (by omega) (by omega)
      · rw [b3, b4, Option.bind_some, Option.bind_some]
        obtain ⟨g'', c1, c2⟩ := emit_bad (N := N) (ln := ln) K.1 (a := nI op) (b := 0) b1 b2
        rw [c1, Option.bind_some]
        simp only [nm]
        obtain ⟨fu', rfl⟩ : ∃ x, fu = x + 1 := ⟨fu - 1, by omega⟩
        obtain ⟨fm', rfl⟩ : ∃ x, fm = x + 1 := ⟨fm - 1, by omega⟩
        exact .inr ⟨φ, g'', i', lv2, b1, c2, t6_bad hN c2 rx fu', mt5_bad b1 rm fm'⟩
    have e40 : ∀ op, (op = 8 ∨ op = 9 ∨ op = 10) → cds B m S P j = otk op → fRe_readTerm_40 N rx ln (fRe_readTerm_6 N rx ln fu) (FX g S P j lv' d u' C') (nI c) = fRe_readTerm_70 N rx ln (fRe_readTerm_6 N rx ln fu) (FX g S P j lv' d u' C') (nI c) (nI op) := by
      intro op ho hT
      unfold fRe_readTerm_40
      simp only [ist_at K.1 hN (i := 16) (by decide) a5, ist_at K.1 hN (i := 17) (by decide) a5, Option.bind_some, hT]
      rcases ho with rfl | rfl | rfl
      · simp [ct, otk]; rfl
      · simp [ct, otk]; rfl
      · simp [ct, otk]; rfl
    rw [fRe_readTerm_6, fMo_readTerm_5]
    simp only [fMo_sign, Option.bind_some, ist_at K.1 hN (i := 16) (by decide) a5, ist_at K.1 hN (i := 17) (by decide) a5, ist_at K.1 hN (i := 18) (by decide) a5, show ct 16 = 142 from rfl, show ct 17 = 147 from rfl, show ct 18 = 137 from rfl]
    rw [tk_at K.1 K.2.1 (100 + 42) 142 rfl (by decide) a5, Option.bind_some]
    by_cases h1 : cds B m S P j = 142
    · have hjm : j < m := cds_pos (B := B) (S := S) (P := P) (by omega)
      simp only [h1, if_true, show ¬ ((1 : Int32) = 0) by decide, if_false]
      rw [if_neg (show ¬ (400 : Int32) ≤ nI c from nI_ge (b := 400) (by omega) (by decide)), e40 8 (by decide) h1]
      exact go 8 (by decide) h1 hjm
    · by_cases h2 : cds B m S P j = 147
      · have hjm : j < m := cds_pos (B := B) (S := S) (P := P) (by omega)
        simp only [h2, if_true, show ¬ ((1 : Int32) = 0) by decide, if_false, show ¬ (147 = 142) by decide]
        rw [tk_at K.1 K.2.1 (100 + 47) 147 rfl (by decide) a5]
        simp only [Option.bind_some, h2, if_true, show ¬ ((1 : Int32) = 0) by decide, if_false]
        rw [if_neg (show ¬ (400 : Int32) ≤ nI c from nI_ge (b := 400) (by omega) (by decide)), e40 9 (by decide) h2]
        exact go 9 (by decide) h2 hjm
      · by_cases h3 : cds B m S P j = 137
        · have hjm : j < m := cds_pos (B := B) (S := S) (P := P) (by omega)
          simp only [h3, if_true, show ¬ ((1 : Int32) = 0) by decide, if_false, show ¬ (137 = 142) by decide, show ¬ (137 = 147) by decide]
          rw [tk_at K.1 K.2.1 (100 + 47) 147 rfl (by decide) a5]
          simp only [Option.bind_some, h3, show ¬ (137 = 147) by decide, if_false, if_true]
          rw [tk_at K.1 K.2.1 (100 + 37) 137 rfl (by decide) a5]
          simp only [Option.bind_some, h3, if_true, show ¬ ((1 : Int32) = 0) by decide, if_false]
          rw [if_neg (show ¬ (400 : Int32) ≤ nI c from nI_ge (b := 400) (by omega) (by decide)), e40 10 (by decide) h3]
          exact go 10 (by decide) h3 hjm
        · refine .inl ⟨e, j, u', lv', C', a1, a2, a3, a4, a5, a6, a7, a8, ?_, ?_⟩
          · simp [h1, h2, h3]
          · simp only [h1, if_false, if_true]
            rw [tk_at K.1 K.2.1 (100 + 47) 147 rfl (by decide) a5]
            simp only [Option.bind_some, h2, if_false, if_true]
            rw [tk_at K.1 K.2.1 (100 + 37) 137 rfl (by decide) a5]
            simp [h3]
theorem term_sim (K : Cn N B t m S P g μ o) {rx : sw_g → Option sw_g} {rm : sw_m → Int32 → Option sw_m} {d : Nat} (hd : d ≤ 8) (hr : d < 8 → HR N ln B t m S P g μ o (d + 1) rx rm) {i lv u : Nat} {C : Nat → Int32} (hi : i ≤ m) (hu : u ≤ i) (hlv : lv ≤ 50) : SE B m S P g μ o 1 i lv d u C (fRe_readTerm N rx ln (FX g S P i lv d u C)) (fMo_readTerm N rm (mp μ (nI i) (nI lv) (-1)) (nI d)) ∨ BB g μ t (fRe_readTerm N rx ln (FX g S P i lv d u C)) (fMo_readTerm N rm (mp μ (nI i) (nI lv) (-1)) (nI d)) := by
  have hm := K.1.m_le
  have hN := K.2.2.1
  unfold fRe_readTerm fMo_readTerm
  rcases part_sim (ln := ln) K hd hr (i := i) (lv := lv) (u := u) (C := C) hi hu hlv with ⟨e, j, u', lv', C', a1, a2, a3, a4, a5, a6, a7, a8, a9, a10⟩ | ⟨φ, g', i', lv', b1, b2, b3, b4⟩
  · rw [a9, a10, Option.bind_some, Option.bind_some]
    exact term_loop K hd hr hu (m - j) j (Nat.le_refl _) e u' lv' 0 N N C' (a1.mono (by decide)) a2 a3 a4 a5 a6 a7 a8 (by omega) (by omega) (by omega)
  · rw [b3, b4, Option.bind_some, Option.bind_some]
    obtain ⟨M, hM⟩ : ∃ x, N = x + 1 := ⟨N - 1, by omega⟩
    have x1 := t6_bad (ln := ln) hN (c := 0) b2 rx M
    have x2 := mt5_bad (N := N) (μ := μ) (i := i') (lv := lv') (d := nI d) b1 rm M
    rw [← hM] at x1 x2
    exact .inr ⟨φ, g', i', lv', b1, b2, x1, x2⟩
theorem sum_loop (K : Cn N B t m S P g μ o) {rx : sw_g → Option sw_g} {rm : sw_m → Int32 → Option sw_m} {d : Nat} (hd : d ≤ 8) (hr : d < 8 → HR N ln B t m S P g μ o (d + 1) rx rm) {i lv u : Nat} {C : Nat → Int32} (hu : u ≤ i) : ∀ (n j : Nat), m - j ≤ n → ∀ (e : Ex) (u' lv' c fu fm : Nat) (C' : Nat → Int32), At (TT B m S P) (VV B m S P) o e 0 i j → dp e + d ≤ 8 → Cd C' (nwo o) e u u' → (∀ k, k < u → C' k = C k) → j ≤ m → u' + i ≤ u + j → lv ≤ lv' → lv' ≤ 50 → c ≤ j → m < fu + j → m < fm + j → SE B m S P g μ o 0 i lv d u C (fRe_readSum_b_6 N rx ln fu (FX g S P j lv' d u' C') (nI c)) (fMo_readSum_b_5 N rm fm (mp μ (nI j) (nI lv') (-1)) (nI d)) ∨ BB g μ t (fRe_readSum_b_6 N rx ln fu (FX g S P j lv' d u' C') (nI c)) (fMo_readSum_b_5 N rm fm (mp μ (nI j) (nI lv') (-1)) (nI d)) := by
  have hm := K.1.m_le
  have hN := K.2.2.1
  intro n
  induction n with
  | zero =>
    intro j hn e u' lv' c fu fm C' a1 a2 a3 a4 a5 a6 a7 a8 hc hfu hfm
    obtain rfl : j = m := by omega
    obtain ⟨fu, rfl⟩ : ∃ x, fu = x + 1 := ⟨fu - 1, by omega⟩
    obtain ⟨fm, rfl⟩ : ∃ x, fm = x + 1 := ⟨fm - 1, by omega⟩
    have h0 : cds B j S P j = 0 := by unfold cds; rw [if_neg (by omega)]
    refine .inl ⟨e, j, u', lv', C', a1, a2, a3, a4, a5, a6, a7, a8, ?_, ?_⟩
    · rw [fRe_readSum_b_6]
      simp [ist_at K.1 hN (i := 19) (by decide) a5, ist_at K.1 hN (i := 20) (by decide) a5, h0, ct]
    · rw [fMo_readSum_b_5]
      simp [fMo_sign, tk_at K.1 K.2.1 143 143 rfl (by decide) a5, tk_at K.1 K.2.1 145 145 rfl (by decide) a5, h0]
  | succ n ih =>
    intro j hn e u' lv' c fu fm C' a1 a2 a3 a4 a5 a6 a7 a8 hc hfu hfm
    obtain ⟨fu, rfl⟩ : ∃ x, fu = x + 1 := ⟨fu - 1, by omega⟩
    obtain ⟨fm, rfl⟩ : ∃ x, fm = x + 1 := ⟨fm - 1, by omega⟩
    have go : ∀ op, (op = 6 ∨ op = 7) → cds B m S P j = otk op → j < m → SE B m S P g μ o 0 i lv d u C (fRe_readSum_b_47 N rx ln (fRe_readSum_b_6 N rx ln fu) (FX g S P j lv' d u' C') (nI c) (nI op)) (fMo_readSum_b_29 N rm (fMo_readSum_b_5 N rm fm) (mp μ (nI (j + 1)) (nI lv') (-1)) (nI d)) ∨ BB g μ t (fRe_readSum_b_47 N rx ln (fRe_readSum_b_6 N rx ln fu) (FX g S P j lv' d u' C') (nI c) (nI op)) (fMo_readSum_b_29 N rm (fMo_readSum_b_5 N rm fm) (mp μ (nI (j + 1)) (nI lv') (-1)) (nI d)) := by
      intro op ho hT hjm
      unfold fRe_readSum_b_47 fMo_readSum_b_29
      rw [adv_at K.1 hN hjm, Option.bind_some]
      rcases term_sim (ln := ln) K hd hr (i := j + 1) (lv := lv') (u := u') (C := C') hjm (by omega) a8 with ⟨e2, j2, u2, lv2, C2, b1, b2, b3, b4, b5, b6, b7, b8, b9, b10⟩ | ⟨φ, g', i', lv2, b1, b2, b3, b4⟩
      · rw [b9, b10, Option.bind_some, Option.bind_some, emit_at (by omega), Option.bind_some]
        simp only [nm, nI_1]
        have hop : nI op * 2048 + 0 = nI (op * 2048) := by
          rw [show (2048 : Int32) = nI 2048 from rfl, nI_mul, Int32.add_zero]
        rw [hop]
        obtain ⟨s1, s2, s3, s4, s6, s7⟩ := SE.step (o := o) (L := 0) (d := d) (op := op) (by omega) (.inl ⟨ho, rfl, rfl, rfl⟩) hT a1 a2 a3 a4 a6 a7 b1 b2 b3 b4 b6 b7
        have hlt := b1.lt
        exact ih j2 (by omega) _ _ _ _ _ _ _ s1 s2 s3 s4 b5 s6 s7 b8 (by omega) (by omega) (by omega)
      · rw [b3, b4, Option.bind_some, Option.bind_some]
        obtain ⟨g'', c1, c2⟩ := emit_bad (N := N) (ln := ln) K.1 (a := nI op) (b := 0) b1 b2
        rw [c1, Option.bind_some]
        simp only [nm]
        obtain ⟨fu', rfl⟩ : ∃ x, fu = x + 1 := ⟨fu - 1, by omega⟩
        obtain ⟨fm', rfl⟩ : ∃ x, fm = x + 1 := ⟨fm - 1, by omega⟩
        exact .inr ⟨φ, g'', i', lv2, b1, c2, s6_bad hN c2 rx fu', ms5_bad b1 rm fm'⟩
    rw [fRe_readSum_b_6, fMo_readSum_b_5]
    simp only [fMo_sign, Option.bind_some, ist_at K.1 hN (i := 19) (by decide) a5, ist_at K.1 hN (i := 20) (by decide) a5, show ct 19 = 143 from rfl, show ct 20 = 145 from rfl]
    rw [tk_at K.1 K.2.1 (100 + 43) 143 rfl (by decide) a5, Option.bind_some]
    have e31 : ∀ op, (op = 6 ∨ op = 7) → cds B m S P j = otk op → fRe_readSum_b_31 N rx ln (fRe_readSum_b_6 N rx ln fu) (FX g S P j lv' d u' C') (nI c) = fRe_readSum_b_47 N rx ln (fRe_readSum_b_6 N rx ln fu) (FX g S P j lv' d u' C') (nI c) (nI op) := by
      intro op ho hT
      unfold fRe_readSum_b_31
      rw [ist_at K.1 hN (i := 19) (by decide) a5, Option.bind_some, hT]
      rcases ho with rfl | rfl
      · simp [ct, otk]; rfl
      · simp [ct, otk]; rfl
    by_cases h1 : cds B m S P j = 143
    · have hjm : j < m := cds_pos (B := B) (S := S) (P := P) (by omega)
      simp only [h1, if_true, show ¬ ((1 : Int32) = 0) by decide, if_false]
      rw [if_neg (show ¬ (400 : Int32) ≤ nI c from nI_ge (b := 400) (by omega) (by decide)), e31 6 (by decide) h1]
      exact go 6 (by decide) h1 hjm
    · by_cases h2 : cds B m S P j = 145
      · have hjm : j < m := cds_pos (B := B) (S := S) (P := P) (by omega)
        simp only [h2, if_true, show ¬ ((1 : Int32) = 0) by decide, if_false, show ¬ (145 = 143) by decide]
        rw [tk_at K.1 K.2.1 (100 + 45) 145 rfl (by decide) a5]
        simp only [Option.bind_some, h2, if_true, show ¬ ((1 : Int32) = 0) by decide, if_false]
        rw [if_neg (show ¬ (400 : Int32) ≤ nI c from nI_ge (b := 400) (by omega) (by decide)), e31 7 (by decide) h2]
        exact go 7 (by decide) h2 hjm
      · refine .inl ⟨e, j, u', lv', C', a1, a2, a3, a4, a5, a6, a7, a8, ?_, ?_⟩
        · simp [h1, h2]
        · simp only [h1, if_false, if_true]
          rw [tk_at K.1 K.2.1 (100 + 45) 145 rfl (by decide) a5]
          simp [h2]
theorem sumb_sim (K : Cn N B t m S P g μ o) {rx : sw_g → Option sw_g} {rm : sw_m → Int32 → Option sw_m} {d : Nat} (hd : d ≤ 8) (hr : d < 8 → HR N ln B t m S P g μ o (d + 1) rx rm) {i lv u : Nat} {C : Nat → Int32} (hi : i ≤ m) (hu : u ≤ i) (hlv : lv ≤ 50) : SE B m S P g μ o 0 i lv d u C (fRe_readSum_b N rx ln (FX g S P i lv d u C)) (fMo_readSum_b N rm (mp μ (nI i) (nI lv) (-1)) (nI d)) ∨ BB g μ t (fRe_readSum_b N rx ln (FX g S P i lv d u C)) (fMo_readSum_b N rm (mp μ (nI i) (nI lv) (-1)) (nI d)) := by
  have hm := K.1.m_le
  have hN := K.2.2.1
  unfold fRe_readSum_b fMo_readSum_b
  rcases term_sim (ln := ln) K hd hr (i := i) (lv := lv) (u := u) (C := C) hi hu hlv with ⟨e, j, u', lv', C', a1, a2, a3, a4, a5, a6, a7, a8, a9, a10⟩ | ⟨φ, g', i', lv', b1, b2, b3, b4⟩
  · rw [a9, a10, Option.bind_some, Option.bind_some]
    exact sum_loop K hd hr hu (m - j) j (Nat.le_refl _) e u' lv' 0 N N C' (a1.mono (by decide)) a2 a3 a4 a5 a6 a7 a8 (by omega) (by omega) (by omega)
  · rw [b3, b4, Option.bind_some, Option.bind_some]
    obtain ⟨M, hM⟩ : ∃ x, N = x + 1 := ⟨N - 1, by omega⟩
    have x1 := s6_bad (ln := ln) hN (c := 0) b2 rx M
    have x2 := ms5_bad (N := N) (μ := μ) (i := i') (lv := lv') (d := nI d) b1 rm M
    rw [← hM] at x1 x2
    exact .inr ⟨φ, g', i', lv', b1, b2, x1, x2⟩
theorem sum_sim (K : Cn N B t m S P g μ o) : ∀ (D d : Nat), d ≤ 8 → 9 ≤ D + d → HR N ln B t m S P g μ o d (fRe_readSum N ln D) (fMo_readSum N D) := by
  intro D
  induction D with
  | zero => intro d h1 h2; omega
  | succ D ih =>
    intro d h1 h2 i lv u C hi hu hlv
    rw [fRe_readSum, fMo_readSum]
    exact sumb_sim K h1 (fun h8 => ih (d + 1) (by omega) (by omega)) hi hu hlv
end
