/-! ===== both readers read a test ===== -/
theorem CdT.congr {C C' : Nat → Int32} {nw : Nat} : ∀ {t : Tx} {i j : Nat}, (∀ k, i ≤ k → k < j → C' k = C k) → CdT C nw t i j → CdT C' nw t i j := by
  intro t
  induction t using Tx.ind with
  | cmp op a b ho =>
    intro i j h h1
    obtain ⟨k, l, a1, a2, a3, rfl⟩ := (CdT_cmp ho).1 h1
    have := a1.lt; have := a2.lt
    exact (CdT_cmp ho).2 ⟨k, l, a1.congr (fun x y z => h x y (by omega)), a2.congr (fun x y z => h x (by omega) (by omega)), by rw [h l (by omega) (by omega), a3], rfl⟩
  | par t ih => intro i j h h1; exact CdT_par.2 (ih h (CdT_par.1 h1))
  | nots m t ih =>
    intro i j h h1
    rcases CdT_nots.1 h1 with ⟨hm, l, a1, a2, rfl⟩ | ⟨hm, a1⟩
    · have := a1.lt
      exact CdT_nots.2 (.inl ⟨hm, l, ih (fun x y z => h x y (by omega)) a1, by rw [h l (by omega) (by omega), a2], rfl⟩)
    · exact CdT_nots.2 (.inr ⟨hm, ih h a1⟩)
  | both a b iha ihb =>
    intro i j h h1
    obtain ⟨k, a1, a2, a3⟩ := CdT_both.1 h1
    have := a1.lt; have := a3.lt
    exact CdT_both.2 ⟨k, iha (fun x y z => h x y (by omega)) a1, by rw [h k (by omega) (by omega), a2], ihb (fun x y z => h x (by omega) z) a3⟩
  | alt a b iha ihb =>
    intro i j h h1
    obtain ⟨k, a1, a2, a3⟩ := CdT_alt.1 h1
    have := a1.lt; have := a3.lt
    exact CdT_alt.2 ⟨k, iha (fun x y z => h x y (by omega)) a1, by rw [h k (by omega) (by omega), a2], ihb (fun x y z => h x (by omega) z) a3⟩
  | oth t ht => intro i j h h1; exact absurd h1 (CdT_oth ht)
def ST (B : Nat → Nat) (m : Nat) (S P : Nat → Nat) (g : sw_g) (μ : sw_m) (o : Bool) (L i lv d u : Nat) (C : Nat → Int32) (x : Option sw_g) (y : Option sw_m) : Prop := ∃ (e : Tx) (j u' lv' : Nat) (C' : Nat → Int32), AtT (TT B m S P) (VV B m S P) o e L i j ∧ dpT e + d ≤ 8 ∧ okT e ∧ CdT C' (nwo o) e u u' ∧ (∀ k, k < u → C' k = C k) ∧ j ≤ m ∧ u' + i ≤ u + j ∧ lv ≤ lv' ∧ lv' ≤ 50 ∧ x = some (FX g S P j lv' d u' C') ∧ y = some (mp μ (nI j) (nI lv') (-1))
def HT (N : Nat) (ln : Nat → Nat) (B : Nat → Nat) (t m : Nat) (S P : Nat → Nat) (g : sw_g) (μ : sw_m) (o : Bool) (d : Nat) (rx : sw_g → Option sw_g) (rm : sw_m → Int32 → Option sw_m) : Prop := ∀ (i lv u : Nat) (C : Nat → Int32), i ≤ m → u ≤ i → lv ≤ 50 → ST B m S P g μ o 0 i lv d u C (rx (FX g S P i lv d u C)) (rm (mp μ (nI i) (nI lv) (-1)) (nI d)) ∨ BB g μ t (rx (FX g S P i lv d u C)) (rm (mp μ (nI i) (nI lv) (-1)) (nI d))
section
variable {N : Nat} {ln : Nat → Nat} {B : Nat → Nat} {t m : Nat} {S P : Nat → Nat} {g : sw_g} {μ : sw_m} {o : Bool}
theorem p138_bad (K : Cn N B t m S P g μ o) (rx : sw_g → Option sw_g) {φ w : Int32} (hφ : φ ≠ -1) {g' : sw_g} (hb : BX g t φ g') : ∃ g'', fRe_readPlain_138 N rx ln g' w = some g'' ∧ BX g t φ g'' := by
  unfold fRe_readPlain_138
  by_cases h : w = 0
  · exact ⟨g', by rw [if_pos h], hb⟩
  · obtain ⟨g'', c1, c2⟩ := emit_bad (N := N) (ln := ln) K.1 (a := 3) (b := 0) hφ hb
    exact ⟨g'', by rw [if_neg h, c1]; rfl, c2⟩
/-- the nots are closed -/
theorem plain_fin (K : Cn N B t m S P g μ o) (rx : sw_g → Option sw_g) {i k lv d u j u' lv' : Nat} {C C' : Nat → Int32} {e : Tx} (hk : ∀ x, x < k → TT B m S P (i + x) = 7) (a1 : AtT (TT B m S P) (VV B m S P) o e 3 (i + k) j) (a2 : dpT e + d ≤ 8) (a2' : okT e) (a3 : CdT C' (nwo o) e u u') (a4 : ∀ x, x < u → C' x = C x) (a5 : j ≤ m) (a6 : u' + (i + k) ≤ u + j) (a7 : lv ≤ lv') (a8 : lv' ≤ 50) (hu : u ≤ i) : ST B m S P g μ o 2 i lv d u C (fRe_readPlain_138 N rx ln (FX g S P j lv' d u' C') (nI (k % 2))) (some (mp μ (nI j) (nI lv') (-1))) := by
  have hm := K.1.m_le
  have l1 := a3.lt
  unfold fRe_readPlain_138
  rcases (show k % 2 = 0 ∨ k % 2 = 1 by omega) with h | h
  · rw [h, if_pos (show nI 0 = 0 from rfl)]
    exact ⟨.nots k e, j, u', lv', C', AtT_nots.2 ⟨Nat.le_refl _, hk, a1⟩, by rw [dpT_nots]; exact a2, okT_nots.2 a2', CdT_nots.2 (.inr ⟨h, a3⟩), a4, a5, by omega, a7, a8, rfl, rfl⟩
  · rw [h, if_neg (show ¬ nI 1 = 0 by decide), emit_at (by omega)]
    refine ⟨.nots k e, j, u' + 1, lv', _, AtT_nots.2 ⟨Nat.le_refl _, hk, a1⟩, by rw [dpT_nots]; exact a2, okT_nots.2 a2', CdT_nots.2 (.inl ⟨h, u', a3.congr (fun x h1 h2 => updI_ne (by omega)), by rw [updI_at]; rfl, rfl⟩), fun x hx => by rw [updI_ne (by omega), a4 x hx], a5, by omega, a7, a8, rfl, rfl⟩
/-- behind the nots: brackets, or two sums compared -/
theorem body_sim (K : Cn N B t m S P g μ o) {rx : sw_g → Option sw_g} {rm : sw_m → Int32 → Option sw_m} {d : Nat} (hd : d ≤ 8) (hr : d < 8 → HT N ln B t m S P g μ o (d + 1) rx rm) {i k lv u fm : Nat} {C : Nat → Int32} (hk : ∀ x, x < k → TT B m S P (i + x) = 7) (hi : i + k ≤ m) (hu : u ≤ i) (hlv : lv ≤ 50) : ST B m S P g μ o 2 i lv d u C (fRe_readPlain_36 N rx ln (FX g S P (i + k) lv d u C) (nI (k % 2))) (fMo_readPlain_2 N rm (fm + 1) (mp μ (nI (i + k)) (nI lv) (-1)) (nI d) 0) ∨ BB g μ t (fRe_readPlain_36 N rx ln (FX g S P (i + k) lv d u C) (nI (k % 2))) (fMo_readPlain_2 N rm (fm + 1) (mp μ (nI (i + k)) (nI lv) (-1)) (nI d) 0) := by
  have hm := K.1.m_le
  have hN := K.2.2.1
  have hcl := K.1.cds_lt (i + k)
  unfold fRe_readPlain_36
  rw [ist_at K.1 hN (i := 31) (by decide) hi, Option.bind_some, fMo_readPlain_2, if_pos rfl]
  unfold fMo_fine
  rw [mp_21, if_pos rfl, Option.bind_some]
  simp only [show ¬ ((1 : Int32) = 0) by decide, if_false, fMo_sign, Option.bind_some]
  rw [mp_19, rd_nI (by omega) (by decide), mp_93, (K.2.1 (i + k) hi).2.1]
  by_cases e : cds B m S P (i + k) = 140
  · have him : i + k < m := cds_pos (B := B) (S := S) (P := P) (by omega)
    simp only [e, show ct 31 = 140 from rfl, if_true, show ¬ ((1 : Int32) = 0) by decide, if_false]
    rw [if_pos (show nI 140 = (100 : Int32) + 40 from rfl)]
    by_cases hd8 : d < 8
    · have hd8' : ¬ nI d = (8 : Int32) := fun h => by have := (eqL 8 8 rfl (by omega) (by decide)).1 h; omega
      rw [opens_at K.1 hN him hd8, Option.bind_some]
      simp only [show ¬ ((1 : Int32) = 0) by decide, if_false, hd8']
      have e53 : fMo_readPlain_53 N rm (mp μ (nI (i + k)) (nI lv) (-1)) (nI d) = (rm (mp μ (nI (i + k + 1)) (nI lv) (-1)) (nI (d + 1))).bind fun μ30 => (fMo_must N μ30 (100 + 41)).bind fun μ34 => some μ34 := by
        unfold fMo_readPlain_53 fMo_fine
        rw [mp_21, if_pos rfl, Option.bind_some]
        simp only [show ¬ ((1 : Int32) = 0) by decide, if_false, nm, mp_19, mp_w19, nI_1, fMo_sign, Option.bind_some]
      rw [e53]
      rcases hr hd8 (i + k + 1) lv u C him (by omega) hlv with ⟨e1, j, u', lv', C', a1, a2, a2', a3, a4, a5, a6, a7, a8, a9, a10⟩ | ⟨φ, g', i', lv', b1, b2, b3, b4⟩
      · rw [a9, a10, Option.bind_some, Option.bind_some]
        have hlt := a1.lt
        rw [must_at K.1 K.2.1 (100 + 41) 141 rfl (by decide) a5, Option.bind_some]
        rcases closes_at (N := N) (ln := ln) K.1 hN (i := 32) (j := j) (lv := lv') (d := d) (u := u') (C := C') (by decide) a5 (by omega) with ⟨c1, c2⟩ | ⟨c1, g', c2, c3⟩
        · have c1' : cds B m S P j = 141 := c1
          have hjm : j < m := cds_pos (B := B) (S := S) (P := P) (by omega)
          rw [c2, Option.bind_some, if_pos c1']
          refine .inl (plain_fin K rx hk (e := .par e1) (AtT_par.2 ⟨rfl, j, ?_, a1, ?_, rfl⟩) (by rw [dpT_par]; omega) (okT_par.2 a2') (CdT_par.2 a3) a4 (by omega) (by omega) a7 a8 hu)
          · show nI _ = 140; rw [e]; rfl
          · show nI _ = 141; rw [c1']; rfl
        · have c1' : cds B m S P j ≠ 141 := c1
          rw [c2, Option.bind_some, if_neg c1']
          obtain ⟨g'', c4, c5⟩ := p138_bad (ln := ln) K rx (w := nI (k % 2)) (K.S1 a5) c3
          exact .inr ⟨nI (S j), g'', nI j, nI lv', K.S1 a5, c5, c4, rfl⟩
      · rw [b3, b4, Option.bind_some, Option.bind_some, must_bad b1]
        obtain ⟨g'', c2, c3⟩ := closes_bad (N := N) (ln := ln) K.1 hN (i := 32) (by decide) b1 b2
        rw [c2, Option.bind_some]
        obtain ⟨g3, c4, c5⟩ := p138_bad (ln := ln) K rx (w := nI (k % 2)) b1 c3
        exact .inr ⟨φ, g3, i', lv', b1, c5, c4, rfl⟩
    · obtain rfl : d = 8 := by omega
      obtain ⟨g', c2, c3⟩ := opens_no (N := N) (ln := ln) K.1 (j := i + k) (lv := lv) (u := u) (C := C) (by omega)
      rw [c2, Option.bind_some]
      simp only [show nI 8 = (8 : Int32) from rfl, if_true]
      rw [faults_at K.1 K.2.1 hi, Option.bind_some]
      obtain ⟨g'', c4, c5⟩ := p138_bad (ln := ln) K rx (w := nI (k % 2)) (K.S1 hi) c3
      refine .inr ⟨nI (S (i + k)), g'', nI (i + k), nI lv, K.S1 hi, c5, c4, ?_⟩
      unfold fMo_readPlain_53 fMo_fine
      rw [mp_21, if_neg (K.S1 hi)]; simp
  · simp only [e, show ct 31 = 140 from rfl, if_false, if_true]
    rw [if_neg (fun h => e ((eqL (100 + 40) 140 rfl (by omega) (by decide)).1 h))]
    -- what follows the first sum
    have tail : ∀ (op : Nat) (hop : op = 11 ∨ op = 12 ∨ op = 13) (e1 : Ex) (j u1 lv1 : Nat) (C1 : Nat → Int32), At (TT B m S P) (VV B m S P) o e1 0 (i + k) j → dp e1 + d ≤ 8 → Cd C1 (nwo o) e1 u u1 → (∀ x, x < u → C1 x = C x) → j < m → cds B m S P j = ctk op → u1 + (i + k) ≤ u + j → lv ≤ lv1 → lv1 ≤ 50 → ST B m S P g μ o 2 i lv d u C ((fRe_readSum N ln 10 (FX g S P (j + 1) lv1 d u1 C1)).bind fun g15 => (fRe_emit N ln g15 (nI op) (0 : Int32)).bind fun g17 => fRe_readPlain_138 N rx ln g17 (nI (k % 2))) (fMo_readPlain_128 N rm (mp μ (nI (j + 1)) (nI lv1) (-1)) (nI d)) ∨ BB g μ t ((fRe_readSum N ln 10 (FX g S P (j + 1) lv1 d u1 C1)).bind fun g15 => (fRe_emit N ln g15 (nI op) (0 : Int32)).bind fun g17 => fRe_readPlain_138 N rx ln g17 (nI (k % 2))) (fMo_readPlain_128 N rm (mp μ (nI (j + 1)) (nI lv1) (-1)) (nI d)) := by
      intro op hop e1 j u1 lv1 C1 a1 a2 a3 a4 a5 aT a6 a7 a8
      unfold fMo_readPlain_128
      have hlt := a1.lt
      rcases sum_sim (ln := ln) K 10 d hd (by omega) (j + 1) lv1 u1 C1 a5 (by omega) a8 with ⟨e2, j2, u2, lv2, C2, b1, b2, b3, b4, b5, b6, b7, b8, b9, b10⟩ | ⟨φ, g', i', lv2, b1, b2, b3, b4⟩
      · rw [b9, b10, Option.bind_some, Option.bind_some, emit_at (by omega), Option.bind_some]
        have hopn : nI op * 2048 + 0 = nI (op * 2048) := by
          rw [show (2048 : Int32) = nI 2048 from rfl, nI_mul, Int32.add_zero]
        rw [hopn]
        have l1 := a3.lt
        have l2 := b3.lt
        refine .inl (plain_fin K rx hk (e := .cmp op e1 e2) ((AtT_cmp hop).2 ⟨rfl, hop, j, a1, by show nI _ = _; rw [aT], b1⟩) ?_ ((okT_cmp hop).2 ⟨by omega, by omega⟩) ((CdT_cmp hop).2 ⟨u1, u2, a3.congr (fun x h1 h2 => by rw [updI_ne (by omega), b4 x h2]), b3.congr (fun x h1 h2 => updI_ne (by omega)), updI_at, rfl⟩) (fun x hx => by rw [updI_ne (by omega), b4 x (by omega), a4 x hx]) b5 (by omega) (by omega) b8 hu)
        have : dpT (Tx.cmp op e1 e2) = 0 := by rcases hop with rfl | rfl | rfl <;> rfl
        omega
      · rw [b3, b4, Option.bind_some, Option.bind_some]
        obtain ⟨g'', c1, c2⟩ := emit_bad (N := N) (ln := ln) K.1 (a := nI op) (b := 0) b1 b2
        rw [c1, Option.bind_some]
        obtain ⟨g3, c4, c5⟩ := p138_bad (ln := ln) K rx (w := nI (k % 2)) b1 c2
        exact .inr ⟨φ, g3, i', lv2, b1, c5, c4, rfl⟩
    rcases sum_sim (ln := ln) K 10 d hd (by omega) (i + k) lv u C hi (by omega) hlv with ⟨e1, j, u1, lv1, C1, a1, a2, a3, a4, a5, a6, a7, a8, a9, a10⟩ | ⟨φ, g', i', lv', b1, b2, b3, b4⟩
    · rw [a9, a10, Option.bind_some, Option.bind_some]
      simp only [ist_at K.1 hN (i := 33) (by decide) a5, ist_at K.1 hN (i := 34) (by decide) a5, Option.bind_some, show ct 33 = 160 from rfl, show ct 34 = 162 from rfl]
      rw [tk_at K.1 K.2.1 (100 + 60) 160 rfl (by decide) a5, Option.bind_some]
      by_cases h1 : cds B m S P j = 160
      · have hjm : j < m := cds_pos (B := B) (S := S) (P := P) (by omega)
        simp only [h1, if_true, show ¬ ((1 : Int32) = 0) by decide, if_false]
        unfold fRe_readPlain_99
        rw [if_pos rfl]
        rcases exp_at (N := N) (ln := ln) K.1 hN (i := 33) (j := j) (lv := lv1) (d := d) (u := u1) (C := C1) (by decide) a5 (by omega) with ⟨c1, c2⟩ | ⟨c1, _⟩
        · rw [c2, Option.bind_some]
          exact tail 11 (by decide) e1 j u1 lv1 C1 a1 a2 a3 a4 hjm h1 a6 a7 a8
        · exact absurd h1 c1
      · by_cases h2 : cds B m S P j = 162
        · have hjm : j < m := cds_pos (B := B) (S := S) (P := P) (by omega)
          simp only [h2, if_true, show ¬ (162 = 160) by decide, show ¬ ((1 : Int32) = 0) by decide, if_false]
          rw [tk_at K.1 K.2.1 (100 + 62) 162 rfl (by decide) a5]
          simp only [Option.bind_some, h2, if_true, show ¬ ((1 : Int32) = 0) by decide, if_false]
          unfold fRe_readPlain_99
          rw [if_neg (by decide), if_pos rfl]
          rcases exp_at (N := N) (ln := ln) K.1 hN (i := 34) (j := j) (lv := lv1) (d := d) (u := u1) (C := C1) (by decide) a5 (by omega) with ⟨c1, c2⟩ | ⟨c1, _⟩
          · rw [c2, Option.bind_some]
            exact tail 12 (by decide) e1 j u1 lv1 C1 a1 a2 a3 a4 hjm h2 a6 a7 a8
          · exact absurd h2 c1
        · simp only [h1, h2, if_false, if_true]
          rw [tk_at K.1 K.2.1 (100 + 62) 162 rfl (by decide) a5]
          simp only [Option.bind_some, h2, if_false, if_true]
          rw [must_at K.1 K.2.1 (100 + 61) 161 rfl (by decide) a5]
          unfold fRe_readPlain_99
          rw [if_neg (by decide), if_neg (by decide)]
          rcases exp_at (N := N) (ln := ln) K.1 hN (i := 35) (j := j) (lv := lv1) (d := d) (u := u1) (C := C1) (by decide) a5 (by omega) with ⟨c1, c2⟩ | ⟨c1, g', c2, c3⟩
          · have c1' : cds B m S P j = 161 := c1
            have hjm : j < m := cds_pos (B := B) (S := S) (P := P) (by omega)
            rw [c2, Option.bind_some, if_pos c1', Option.bind_some]
            exact tail 13 (by decide) e1 j u1 lv1 C1 a1 a2 a3 a4 hjm c1' a6 a7 a8
          · have c1' : cds B m S P j ≠ 161 := c1
            rw [c2, Option.bind_some, if_neg c1', Option.bind_some, sum_bad K (K.S1 a5) c3 9, Option.bind_some]
            obtain ⟨g'', c4, c5⟩ := emit_bad (N := N) (ln := ln) K.1 (a := 13) (b := 0) (K.S1 a5) c3
            rw [c4, Option.bind_some]
            obtain ⟨g3, c6, c7⟩ := p138_bad (ln := ln) K rx (w := nI (k % 2)) (K.S1 a5) c5
            refine .inr ⟨nI (S j), g3, nI j, nI lv1, K.S1 a5, c7, c6, ?_⟩
            unfold fMo_readPlain_128
            rw [msum_bad hN (K.S1 a5) 9]; rfl
    · rw [b3, b4, Option.bind_some, Option.bind_some]
      simp only [ist_bad hN (i := 33) (by decide) b2, ist_bad hN (i := 34) (by decide) b2, tk_bad b1, must_bad b1, Option.bind_some, if_true]
      unfold fRe_readPlain_99
      rw [if_neg (by decide), if_neg (by decide), exp_bad K.1 hN (i := 35) (by decide) b1 b2, Option.bind_some, sum_bad K b1 b2 9, Option.bind_some]
      obtain ⟨g'', c4, c5⟩ := emit_bad (N := N) (ln := ln) K.1 (a := 13) (b := 0) b1 b2
      rw [c4, Option.bind_some]
      obtain ⟨g3, c6, c7⟩ := p138_bad (ln := ln) K rx (w := nI (k % 2)) b1 c5
      refine .inr ⟨φ, g3, i', lv', b1, c7, c6, ?_⟩
      unfold fMo_readPlain_128
      rw [msum_bad hN b1 9]; rfl
theorem plain_loop (K : Cn N B t m S P g μ o) {rx : sw_g → Option sw_g} {rm : sw_m → Int32 → Option sw_m} {d : Nat} (hd : d ≤ 8) (hr : d < 8 → HT N ln B t m S P g μ o (d + 1) rx rm) {i lv u : Nat} {C : Nat → Int32} (hu : u ≤ i) (hlv : lv ≤ 50) : ∀ (n k : Nat), m - (i + k) ≤ n → i + k ≤ m → (∀ x, x < k → TT B m S P (i + x) = 7) → ∀ (c fu fm : Nat), c ≤ i + k → n < fu → n + 1 < fm → ST B m S P g μ o 2 i lv d u C (fRe_readPlain_4 N rx ln fu (FX g S P (i + k) lv d u C) (nI (k % 2)) (nI c)) (fMo_readPlain_2 N rm fm (mp μ (nI (i + k)) (nI lv) (-1)) (nI d) 1) ∨ BB g μ t (fRe_readPlain_4 N rx ln fu (FX g S P (i + k) lv d u C) (nI (k % 2)) (nI c)) (fMo_readPlain_2 N rm fm (mp μ (nI (i + k)) (nI lv) (-1)) (nI d) 1) := by
  have hm := K.1.m_le
  have hN := K.2.2.1
  intro n
  induction n with
  | zero =>
    intro k hn hi hk c fu fm hc hfu hfm
    obtain ⟨fu, rfl⟩ : ∃ x, fu = x + 1 := ⟨fu - 1, by omega⟩
    obtain ⟨fm, rfl⟩ : ∃ x, fm = x + 2 := ⟨fm - 2, by omega⟩
    have h0 : cds B m S P (i + k) = 0 := by unfold cds; rw [if_neg (by omega)]
    have e1 : fRe_readPlain_4 N rx ln (fu + 1) (FX g S P (i + k) lv d u C) (nI (k % 2)) (nI c) = fRe_readPlain_36 N rx ln (FX g S P (i + k) lv d u C) (nI (k % 2)) := by
      rw [fRe_readPlain_4, acc_at K.1 hN (i := 30) (by decide) hi, h0]
      simp [ct]
    have e2 : fMo_readPlain_2 N rm (fm + 2) (mp μ (nI (i + k)) (nI lv) (-1)) (nI d) 1 = fMo_readPlain_2 N rm (fm + 1) (mp μ (nI (i + k)) (nI lv) (-1)) (nI d) 0 := by
      rw [fMo_readPlain_2, if_neg (by decide), tk_at K.1 K.2.1 7 7 rfl (by decide) hi, h0]
      simp
    rw [e1, e2]
    exact body_sim K hd hr hk hi hu hlv
  | succ n ih =>
    intro k hn hi hk c fu fm hc hfu hfm
    obtain ⟨fu, rfl⟩ : ∃ x, fu = x + 1 := ⟨fu - 1, by omega⟩
    obtain ⟨fm, rfl⟩ : ∃ x, fm = x + 2 := ⟨fm - 2, by omega⟩
    by_cases h7 : cds B m S P (i + k) = 7
    · have him : i + k < m := cds_pos (B := B) (S := S) (P := P) (by omega)
      have e1 : fRe_readPlain_4 N rx ln (fu + 1) (FX g S P (i + k) lv d u C) (nI (k % 2)) (nI c) = fRe_readPlain_4 N rx ln fu (FX g S P (i + (k + 1)) lv d u C) (nI ((k + 1) % 2)) (nI (c + 1)) := by
        rw [fRe_readPlain_4, acc_at K.1 hN (i := 30) (by decide) hi, h7, if_neg (show ¬ (400 : Int32) ≤ nI c from nI_ge (b := 400) (by omega) (by decide))]
        simp only [show ct 30 = 7 from rfl, if_true, Option.bind_some, show ¬ ((1 : Int32) = 0) by decide, if_false, nm, nI_1]
        rcases (show k % 2 = 0 ∨ k % 2 = 1 by omega) with h | h
        · rw [h, if_pos (show nI 0 = 0 from rfl), show (k + 1) % 2 = 1 by omega]; rfl
        · rw [h, if_neg (show ¬ nI 1 = 0 by decide), show (k + 1) % 2 = 0 by omega]; rfl
      have e2 : fMo_readPlain_2 N rm (fm + 2) (mp μ (nI (i + k)) (nI lv) (-1)) (nI d) 1 = fMo_readPlain_2 N rm (fm + 1) (mp μ (nI (i + (k + 1))) (nI lv) (-1)) (nI d) 1 := by
        rw [fMo_readPlain_2, if_neg (by decide), tk_at K.1 K.2.1 7 7 rfl (by decide) hi, h7]
        simp only [if_true, Option.bind_some]
        rfl
      rw [e1, e2]
      refine ih (k + 1) (by omega) (by omega) (fun x hx => ?_) (c + 1) fu (fm + 1) (by omega) (by omega) (by omega)
      by_cases hxk : x = k
      · subst hxk; show nI _ = 7; rw [h7]; rfl
      · exact hk x (by omega)
    · have e1 : fRe_readPlain_4 N rx ln (fu + 1) (FX g S P (i + k) lv d u C) (nI (k % 2)) (nI c) = fRe_readPlain_36 N rx ln (FX g S P (i + k) lv d u C) (nI (k % 2)) := by
        rw [fRe_readPlain_4, acc_at K.1 hN (i := 30) (by decide) hi]
        simp [show ct 30 = 7 from rfl, h7]
      have e2 : fMo_readPlain_2 N rm (fm + 2) (mp μ (nI (i + k)) (nI lv) (-1)) (nI d) 1 = fMo_readPlain_2 N rm (fm + 1) (mp μ (nI (i + k)) (nI lv) (-1)) (nI d) 0 := by
        rw [fMo_readPlain_2, if_neg (by decide), tk_at K.1 K.2.1 7 7 rfl (by decide) hi]
        simp [h7]
      rw [e1, e2]
      exact body_sim K hd hr hk hi hu hlv
theorem plain_sim (K : Cn N B t m S P g μ o) {rx : sw_g → Option sw_g} {rm : sw_m → Int32 → Option sw_m} {d : Nat} (hd : d ≤ 8) (hr : d < 8 → HT N ln B t m S P g μ o (d + 1) rx rm) {i lv u : Nat} {C : Nat → Int32} (hi : i ≤ m) (hu : u ≤ i) (hlv : lv ≤ 50) : ST B m S P g μ o 2 i lv d u C (fRe_readPlain N rx ln (FX g S P i lv d u C)) (fMo_readPlain N rm (mp μ (nI i) (nI lv) (-1)) (nI d)) ∨ BB g μ t (fRe_readPlain N rx ln (FX g S P i lv d u C)) (fMo_readPlain N rm (mp μ (nI i) (nI lv) (-1)) (nI d)) := by
  have hm := K.1.m_le
  have hN := K.2.2.1
  exact plain_loop K hd hr hu hlv (m - i) 0 (Nat.le_refl _) hi (fun x hx => by omega) 0 N N (by omega) (by omega) (by omega)
end
