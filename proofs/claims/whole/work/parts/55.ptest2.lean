/-! ===== both readers: and, or ===== -/
theorem AtT.mono2 {T V : Nat → Int32} {o : Bool} : ∀ {e : Tx} {L L' i j : Nat}, L ≤ 2 ∧ L' ≤ L → AtT T V o e L i j → AtT T V o e L' i j := by
  intro e
  induction e using Tx.ind with
  | cmp op a b ho => intro L L' i j hl h; have := ((AtT_cmp ho).1 h).1; omega
  | par t ih => intro L L' i j hl h; have := (AtT_par.1 h).1; omega
  | nots k t ih => intro L L' i j hl h; obtain ⟨h1, h2, h3⟩ := AtT_nots.1 h; exact AtT_nots.2 ⟨by omega, h2, h3⟩
  | both a b iha ihb => intro L L' i j hl h; obtain ⟨h1, h2⟩ := AtT_both.1 h; exact AtT_both.2 ⟨by omega, h2⟩
  | alt a b iha ihb => intro L L' i j hl h; obtain ⟨h1, h2⟩ := AtT_alt.1 h; exact AtT_alt.2 ⟨by omega, h2⟩
  | oth t ht => intro L L' i j hl h; exact absurd h (AtT_oth ht)
section
variable {N : Nat} {ln : Nat → Nat} {B : Nat → Nat} {t m : Nat} {S P : Nat → Nat} {g : sw_g} {μ : sw_m} {o : Bool}
theorem b6_bad (hN : 3000 ≤ N) {φ c : Int32} {g' : sw_g} (hb : BX g t φ g') (rc : sw_g → Option sw_g) (fu : Nat) : fRe_readBoth_6 N rc ln (fu + 1) g' c = some g' := by
  rw [fRe_readBoth_6, acc_bad hN (i := 36) (by decide) hb]
  simp
theorem mb5_bad {i lv φ d : Int32} (hφ : φ ≠ -1) (rc : sw_m → Int32 → Option sw_m) (fu : Nat) : fMo_readBoth_5 N rc (fu + 1) (mp μ i lv φ) d = some (mp μ i lv φ) := by
  rw [fMo_readBoth_5, tk_bad hφ]
  simp
theorem e6_bad (hN : 3000 ≤ N) {φ c : Int32} {g' : sw_g} (hb : BX g t φ g') (rc : sw_g → Option sw_g) (fu : Nat) : fRe_readTest_b_6 N rc ln (fu + 1) g' c = some g' := by
  rw [fRe_readTest_b_6, acc_bad hN (i := 37) (by decide) hb]
  simp
theorem me5_bad {i lv φ d : Int32} (hφ : φ ≠ -1) (rc : sw_m → Int32 → Option sw_m) (fu : Nat) : fMo_readTest_b_5 N rc (fu + 1) (mp μ i lv φ) d = some (mp μ i lv φ) := by
  rw [fMo_readTest_b_5, tk_bad hφ]
  simp
theorem both_loop (K : Cn N B t m S P g μ o) {rx : sw_g → Option sw_g} {rm : sw_m → Int32 → Option sw_m} {d : Nat} (hd : d ≤ 8) (hr : d < 8 → HT N ln B t m S P g μ o (d + 1) rx rm) {i lv u : Nat} {C : Nat → Int32} (hu : u ≤ i) : ∀ (n j : Nat), m - j ≤ n → ∀ (e : Tx) (u' lv' c fu fm : Nat) (C' : Nat → Int32), AtT (TT B m S P) (VV B m S P) o e 1 i j → dpT e + d ≤ 8 → okT e → CdT C' (nwo o) e u u' → (∀ k, k < u → C' k = C k) → j ≤ m → u' + i ≤ u + j → lv ≤ lv' → lv' ≤ 50 → c ≤ j → m < fu + j → m < fm + j → ST B m S P g μ o 1 i lv d u C (fRe_readBoth_6 N rx ln fu (FX g S P j lv' d u' C') (nI c)) (fMo_readBoth_5 N rm fm (mp μ (nI j) (nI lv') (-1)) (nI d)) ∨ BB g μ t (fRe_readBoth_6 N rx ln fu (FX g S P j lv' d u' C') (nI c)) (fMo_readBoth_5 N rm fm (mp μ (nI j) (nI lv') (-1)) (nI d)) := by
  have hm := K.1.m_le
  have hN := K.2.2.1
  intro n
  induction n with
  | zero =>
    intro j hn e u' lv' c fu fm C' a1 a2 a2' a3 a4 a5 a6 a7 a8 hc hfu hfm
    obtain ⟨fu, rfl⟩ : ∃ x, fu = x + 1 := ⟨fu - 1, by omega⟩
    obtain ⟨fm, rfl⟩ : ∃ x, fm = x + 1 := ⟨fm - 1, by omega⟩
    have h0 : cds B m S P j = 0 := by unfold cds; rw [if_neg (by omega)]
    refine .inl ⟨e, j, u', lv', C', a1, a2, a2', a3, a4, a5, a6, a7, a8, ?_, ?_⟩
    · rw [fRe_readBoth_6, acc_at K.1 hN (i := 36) (by decide) a5, h0]
      simp [ct]
    · rw [fMo_readBoth_5, tk_at K.1 K.2.1 6 6 rfl (by decide) a5, h0]
      simp
  | succ n ih =>
    intro j hn e u' lv' c fu fm C' a1 a2 a2' a3 a4 a5 a6 a7 a8 hc hfu hfm
    obtain ⟨fu, rfl⟩ : ∃ x, fu = x + 1 := ⟨fu - 1, by omega⟩
    obtain ⟨fm, rfl⟩ : ∃ x, fm = x + 1 := ⟨fm - 1, by omega⟩
    rw [fRe_readBoth_6, fMo_readBoth_5, acc_at K.1 hN (i := 36) (by decide) a5, tk_at K.1 K.2.1 6 6 rfl (by decide) a5]
    simp only [Option.bind_some, show ct 36 = 6 from rfl]
    by_cases h1 : cds B m S P j = 6
    · have hjm : j < m := cds_pos (B := B) (S := S) (P := P) (by omega)
      simp only [h1, if_true, show ¬ ((1 : Int32) = 0) by decide, if_false, nm]
      rw [if_neg (show ¬ (400 : Int32) ≤ nI c from nI_ge (b := 400) (by omega) (by decide)), show (FX g S P (j + 1) lv' d u' C').1 35 6 = nI u' from rs_u, emit_at (by omega), Option.bind_some]
      rcases plain_sim (ln := ln) K hd hr (i := j + 1) (lv := lv') (u := u' + 1) (C := updI C' u' (5 * 2048 + 0)) hjm (by omega) a8 with ⟨e2, j2, u2, lv2, C2, b1, b2, b2', b3, b4, b5, b6, b7, b8, b9, b10⟩ | ⟨φ, g', i', lv2, b1, b2, b3, b4⟩
      · have l1 := a3.lt
        have l2 := b3.lt
        have hlt := b1.lt
        rw [b9, b10, Option.bind_some, Option.bind_some, lead_at (by omega), Option.bind_some]
        simp only [nI_1]
        refine ih j2 (by omega) (.both e e2) u2 lv2 (c + 1) fu fm _ (AtT_both.2 ⟨Nat.le_refl _, j, a1, by show nI _ = 6; rw [h1]; rfl, b1⟩) (by rw [dpT_both]; omega) (okT_both.2 ⟨a2', b2'⟩) (CdT_both.2 ⟨u', a3.congr (fun x h2 h3 => by rw [updI_ne (by omega), b4 x (by omega), updI_ne (by omega)]), by rw [updI_at, show (5 : Int32) * 2048 = nI (5 * 2048) from rfl, nI_add], b3.congr (fun x h2 h3 => updI_ne (by omega))⟩) (fun x hx => by rw [updI_ne (by omega), b4 x (by omega), updI_ne (by omega), a4 x hx]) b5 (by omega) (by omega) b8 (by omega) (by omega) (by omega)
      · rw [b3, b4, Option.bind_some, Option.bind_some]
        obtain ⟨g'', c1, c2⟩ := lead_bad (ln := ln) (a := 5) (x := u') (by omega) b2
        rw [c1, Option.bind_some]
        obtain ⟨fu', rfl⟩ : ∃ x, fu = x + 1 := ⟨fu - 1, by omega⟩
        obtain ⟨fm', rfl⟩ : ∃ x, fm = x + 1 := ⟨fm - 1, by omega⟩
        exact .inr ⟨φ, g'', i', lv2, b1, c2, b6_bad hN c2 rx fu', mb5_bad b1 rm fm'⟩
    · refine .inl ⟨e, j, u', lv', C', a1, a2, a2', a3, a4, a5, a6, a7, a8, ?_, ?_⟩
      · simp [h1]
      · simp [h1]
theorem both_sim (K : Cn N B t m S P g μ o) {rx : sw_g → Option sw_g} {rm : sw_m → Int32 → Option sw_m} {d : Nat} (hd : d ≤ 8) (hr : d < 8 → HT N ln B t m S P g μ o (d + 1) rx rm) {i lv u : Nat} {C : Nat → Int32} (hi : i ≤ m) (hu : u ≤ i) (hlv : lv ≤ 50) : ST B m S P g μ o 1 i lv d u C (fRe_readBoth N rx ln (FX g S P i lv d u C)) (fMo_readBoth N rm (mp μ (nI i) (nI lv) (-1)) (nI d)) ∨ BB g μ t (fRe_readBoth N rx ln (FX g S P i lv d u C)) (fMo_readBoth N rm (mp μ (nI i) (nI lv) (-1)) (nI d)) := by
  have hm := K.1.m_le
  have hN := K.2.2.1
  unfold fRe_readBoth fMo_readBoth
  rcases plain_sim (ln := ln) K hd hr (i := i) (lv := lv) (u := u) (C := C) hi hu hlv with ⟨e, j, u', lv', C', a1, a2, a2', a3, a4, a5, a6, a7, a8, a9, a10⟩ | ⟨φ, g', i', lv', b1, b2, b3, b4⟩
  · rw [a9, a10, Option.bind_some, Option.bind_some]
    exact both_loop K hd hr hu (m - j) j (Nat.le_refl _) e u' lv' 0 N N C' (AtT.mono2 (by decide) a1) a2 a2' a3 a4 a5 a6 a7 a8 (by omega) (by omega) (by omega)
  · rw [b3, b4, Option.bind_some, Option.bind_some]
    obtain ⟨M, hM⟩ : ∃ x, N = x + 1 := ⟨N - 1, by omega⟩
    have x1 := b6_bad (ln := ln) hN (c := 0) b2 rx M
    have x2 := mb5_bad (N := N) (μ := μ) (i := i') (lv := lv') (d := nI d) b1 rm M
    rw [← hM] at x1 x2
    exact .inr ⟨φ, g', i', lv', b1, b2, x1, x2⟩
theorem test_loop (K : Cn N B t m S P g μ o) {rx : sw_g → Option sw_g} {rm : sw_m → Int32 → Option sw_m} {d : Nat} (hd : d ≤ 8) (hr : d < 8 → HT N ln B t m S P g μ o (d + 1) rx rm) {i lv u : Nat} {C : Nat → Int32} (hu : u ≤ i) : ∀ (n j : Nat), m - j ≤ n → ∀ (e : Tx) (u' lv' c fu fm : Nat) (C' : Nat → Int32), AtT (TT B m S P) (VV B m S P) o e 0 i j → dpT e + d ≤ 8 → okT e → CdT C' (nwo o) e u u' → (∀ k, k < u → C' k = C k) → j ≤ m → u' + i ≤ u + j → lv ≤ lv' → lv' ≤ 50 → c ≤ j → m < fu + j → m < fm + j → ST B m S P g μ o 0 i lv d u C (fRe_readTest_b_6 N rx ln fu (FX g S P j lv' d u' C') (nI c)) (fMo_readTest_b_5 N rm fm (mp μ (nI j) (nI lv') (-1)) (nI d)) ∨ BB g μ t (fRe_readTest_b_6 N rx ln fu (FX g S P j lv' d u' C') (nI c)) (fMo_readTest_b_5 N rm fm (mp μ (nI j) (nI lv') (-1)) (nI d)) := by
  have hm := K.1.m_le
  have hN := K.2.2.1
  intro n
  induction n with
  | zero =>
    intro j hn e u' lv' c fu fm C' a1 a2 a2' a3 a4 a5 a6 a7 a8 hc hfu hfm
    obtain ⟨fu, rfl⟩ : ∃ x, fu = x + 1 := ⟨fu - 1, by omega⟩
    obtain ⟨fm, rfl⟩ : ∃ x, fm = x + 1 := ⟨fm - 1, by omega⟩
    have h0 : cds B m S P j = 0 := by unfold cds; rw [if_neg (by omega)]
    refine .inl ⟨e, j, u', lv', C', a1, a2, a2', a3, a4, a5, a6, a7, a8, ?_, ?_⟩
    · rw [fRe_readTest_b_6, acc_at K.1 hN (i := 37) (by decide) a5, h0]
      simp [ct]
    · rw [fMo_readTest_b_5, tk_at K.1 K.2.1 5 5 rfl (by decide) a5, h0]
      simp
  | succ n ih =>
    intro j hn e u' lv' c fu fm C' a1 a2 a2' a3 a4 a5 a6 a7 a8 hc hfu hfm
    obtain ⟨fu, rfl⟩ : ∃ x, fu = x + 1 := ⟨fu - 1, by omega⟩
    obtain ⟨fm, rfl⟩ : ∃ x, fm = x + 1 := ⟨fm - 1, by omega⟩
    rw [fRe_readTest_b_6, fMo_readTest_b_5, acc_at K.1 hN (i := 37) (by decide) a5, tk_at K.1 K.2.1 5 5 rfl (by decide) a5]
    simp only [Option.bind_some, show ct 37 = 5 from rfl]
    by_cases h1 : cds B m S P j = 5
    · have hjm : j < m := cds_pos (B := B) (S := S) (P := P) (by omega)
      simp only [h1, if_true, show ¬ ((1 : Int32) = 0) by decide, if_false, nm]
      rw [if_neg (show ¬ (400 : Int32) ≤ nI c from nI_ge (b := 400) (by omega) (by decide)), show (FX g S P (j + 1) lv' d u' C').1 35 6 = nI u' from rs_u, emit_at (by omega), Option.bind_some]
      rcases both_sim (ln := ln) K hd hr (i := j + 1) (lv := lv') (u := u' + 1) (C := updI C' u' (4 * 2048 + 0)) hjm (by omega) a8 with ⟨e2, j2, u2, lv2, C2, b1, b2, b2', b3, b4, b5, b6, b7, b8, b9, b10⟩ | ⟨φ, g', i', lv2, b1, b2, b3, b4⟩
      · have l1 := a3.lt
        have l2 := b3.lt
        have hlt := b1.lt
        rw [b9, b10, Option.bind_some, Option.bind_some, lead_at (by omega), Option.bind_some]
        simp only [nI_1]
        refine ih j2 (by omega) (.alt e e2) u2 lv2 (c + 1) fu fm _ (AtT_alt.2 ⟨rfl, j, a1, by show nI _ = 5; rw [h1]; rfl, b1⟩) (by rw [dpT_alt]; omega) (okT_alt.2 ⟨a2', b2'⟩) (CdT_alt.2 ⟨u', a3.congr (fun x h2 h3 => by rw [updI_ne (by omega), b4 x (by omega), updI_ne (by omega)]), by rw [updI_at, show (4 : Int32) * 2048 = nI (4 * 2048) from rfl, nI_add], b3.congr (fun x h2 h3 => updI_ne (by omega))⟩) (fun x hx => by rw [updI_ne (by omega), b4 x (by omega), updI_ne (by omega), a4 x hx]) b5 (by omega) (by omega) b8 (by omega) (by omega) (by omega)
      · rw [b3, b4, Option.bind_some, Option.bind_some]
        obtain ⟨g'', c1, c2⟩ := lead_bad (ln := ln) (a := 4) (x := u') (by omega) b2
        rw [c1, Option.bind_some]
        obtain ⟨fu', rfl⟩ : ∃ x, fu = x + 1 := ⟨fu - 1, by omega⟩
        obtain ⟨fm', rfl⟩ : ∃ x, fm = x + 1 := ⟨fm - 1, by omega⟩
        exact .inr ⟨φ, g'', i', lv2, b1, c2, e6_bad hN c2 rx fu', me5_bad b1 rm fm'⟩
    · refine .inl ⟨e, j, u', lv', C', a1, a2, a2', a3, a4, a5, a6, a7, a8, ?_, ?_⟩
      · simp [h1]
      · simp [h1]
theorem testb_sim (K : Cn N B t m S P g μ o) {rx : sw_g → Option sw_g} {rm : sw_m → Int32 → Option sw_m} {d : Nat} (hd : d ≤ 8) (hr : d < 8 → HT N ln B t m S P g μ o (d + 1) rx rm) {i lv u : Nat} {C : Nat → Int32} (hi : i ≤ m) (hu : u ≤ i) (hlv : lv ≤ 50) : ST B m S P g μ o 0 i lv d u C (fRe_readTest_b N rx ln (FX g S P i lv d u C)) (fMo_readTest_b N rm (mp μ (nI i) (nI lv) (-1)) (nI d)) ∨ BB g μ t (fRe_readTest_b N rx ln (FX g S P i lv d u C)) (fMo_readTest_b N rm (mp μ (nI i) (nI lv) (-1)) (nI d)) := by
  have hm := K.1.m_le
  have hN := K.2.2.1
  unfold fRe_readTest_b fMo_readTest_b
  rcases both_sim (ln := ln) K hd hr (i := i) (lv := lv) (u := u) (C := C) hi hu hlv with ⟨e, j, u', lv', C', a1, a2, a2', a3, a4, a5, a6, a7, a8, a9, a10⟩ | ⟨φ, g', i', lv', b1, b2, b3, b4⟩
  · rw [a9, a10, Option.bind_some, Option.bind_some]
    exact test_loop K hd hr hu (m - j) j (Nat.le_refl _) e u' lv' 0 N N C' (AtT.mono2 (by decide) a1) a2 a2' a3 a4 a5 a6 a7 a8 (by omega) (by omega) (by omega)
  · rw [b3, b4, Option.bind_some, Option.bind_some]
    obtain ⟨M, hM⟩ : ∃ x, N = x + 1 := ⟨N - 1, by omega⟩
    have x1 := e6_bad (ln := ln) hN (c := 0) b2 rx M
    have x2 := me5_bad (N := N) (μ := μ) (i := i') (lv := lv') (d := nI d) b1 rm M
    rw [← hM] at x1 x2
    exact .inr ⟨φ, g', i', lv', b1, b2, x1, x2⟩
theorem test_sim (K : Cn N B t m S P g μ o) : ∀ (D d : Nat), d ≤ 8 → 9 ≤ D + d → HT N ln B t m S P g μ o d (fRe_readTest N ln D) (fMo_readTest N D) := by
  intro D
  induction D with
  | zero => intro d h1 h2; omega
  | succ D ih =>
    intro d h1 h2 i lv u C hi hu hlv
    rw [fRe_readTest, fMo_readTest]
    exact testb_sim K h1 (fun h8 => ih (d + 1) (by omega) (by omega)) hi hu hlv
end
