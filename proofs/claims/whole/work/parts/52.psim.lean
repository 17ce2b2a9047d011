/-! ===== both readers read a part, a term, a sum, side by side ===== -/
section
variable {N : Nat} {ln : Nat → Nat} {B : Nat → Nat} {t m : Nat} {S P : Nat → Nat} {g : sw_g} {μ : sw_m} {o : Bool}
theorem updI_at {C : Nat → Int32} {j : Nat} {v : Int32} : updI C j v j = v := if_pos rfl
theorem updI_ne {C : Nat → Int32} {j k : Nat} {v : Int32} (h : k ≠ j) : updI C j v k = C k := if_neg h
/-- what a bracket holds -/
def HR (N : Nat) (ln : Nat → Nat) (B : Nat → Nat) (t m : Nat) (S P : Nat → Nat) (g : sw_g) (μ : sw_m) (o : Bool) (d : Nat) (rx : sw_g → Option sw_g) (rm : sw_m → Int32 → Option sw_m) : Prop := ∀ (i lv u : Nat) (C : Nat → Int32), i ≤ m → u ≤ i → lv ≤ 50 → SE B m S P g μ o 0 i lv d u C (rx (FX g S P i lv d u C)) (rm (mp μ (nI i) (nI lv) (-1)) (nI d)) ∨ BB g μ t (rx (FX g S P i lv d u C)) (rm (mp μ (nI i) (nI lv) (-1)) (nI d))
theorem part_fault (K : Cn N B t m S P g μ o) {i lv d u : Nat} {C : Nat → Int32} (rx : sw_g → Option sw_g) (rm : sw_m → Int32 → Option sw_m) (hi : i ≤ m) (hu : u ≤ 512) {w : Int32} (hw : w = -1) {y : Option sw_m} (hy : y = fMo_readPart_144 N rm (mp μ (nI i) (nI lv) (-1))) : BB g μ t (fRe_readPart_54 N rx ln (FX g S P i lv d u C) (-1) w) y := by
  obtain ⟨g', h1, h2⟩ := fail_at (N := N) (ln := ln) K.1 (j := i) (lv := lv) (d := d) (C := C) hu
  subst hy hw
  refine ⟨nI (S i), g', nI i, nI lv, K.S1 hi, h2, ?_, ?_⟩
  · unfold fRe_readPart_54 fRe_readPart_74
    rw [if_pos rfl, if_pos rfl, h1]; rfl
  · unfold fMo_readPart_144
    rw [faults_at K.1 K.2.1 hi]; rfl
theorem p111_at (K : Cn N B t m S P g μ o) {i lv : Nat} {c : Int32} (rm : sw_m → Int32 → Option sw_m) (hi : i ≤ m) (hlv : lv < 50) (hc : o = true → c ≠ 14 ∧ c ≠ 20) : fMo_readPart_111 N rm (mp μ (nI i) (nI lv) (-1)) c = some (mp μ (nI (i + 1)) (nI (lv + 1)) (-1)) := by
  unfold fMo_readPart_111
  rw [leaf_at K hi hlv, Option.bind_some, mp_10, K.2.2.2.2.1]
  cases ho : o
  · simp
  · have := hc ho
    simp [this.1, this.2]
theorem p111_50 (K : Cn N B t m S P g μ o) {i : Nat} {c : Int32} (rm : sw_m → Int32 → Option sw_m) (hi : i ≤ m) : fMo_readPart_111 N rm (mp μ (nI i) (nI 50) (-1)) c = some (mp μ (nI i) (nI 51) (nI (S i))) := by
  unfold fMo_readPart_111
  rw [leaf_50 K hi, Option.bind_some]
  unfold fMo_readPart_134
  rw [mustN_bad (K.S1 hi)]
  simp
theorem lwc_rng : ∀ x, x < 8 → 8 ≤ lwc x ∧ lwc x ≤ 15 := by decide
theorem rng_lwc : ∀ c, 8 ≤ c → c ≤ 15 → ∃ x, x < 8 ∧ c = lwc x := by
  intro c h1 h2
  rcases (show c = 8 ∨ c = 9 ∨ c = 10 ∨ c = 11 ∨ c = 12 ∨ c = 13 ∨ c = 14 ∨ c = 15 by omega) with rfl | rfl | rfl | rfl | rfl | rfl | rfl | rfl
  · exact ⟨0, by decide⟩
  · exact ⟨2, by decide⟩
  · exact ⟨3, by decide⟩
  · exact ⟨4, by decide⟩
  · exact ⟨6, by decide⟩
  · exact ⟨7, by decide⟩
  · exact ⟨1, by decide⟩
  · exact ⟨5, by decide⟩
theorem owc_rng {x : Nat} (h : owd x) : 14 ≤ owc x ∧ owc x ≤ 20 := by
  rcases (show x = 0 ∨ x = 1 ∨ x = 2 ∨ x = 3 ∨ x = 4 ∨ x = 5 ∨ x = 12 by unfold owd at h; omega) with rfl | rfl | rfl | rfl | rfl | rfl | rfl <;> decide
theorem rng_owc : ∀ c, 14 ≤ c → c ≤ 20 → ∃ x, owd x ∧ c = owc x := by
  intro c h1 h2
  rcases (show c = 14 ∨ c = 15 ∨ c = 16 ∨ c = 17 ∨ c = 18 ∨ c = 19 ∨ c = 20 by omega) with rfl | rfl | rfl | rfl | rfl | rfl | rfl
  · exact ⟨5, .inr (.inl rfl), by decide⟩
  · exact ⟨0, .inl (by decide), by decide⟩
  · exact ⟨1, .inl (by decide), by decide⟩
  · exact ⟨2, .inl (by decide), by decide⟩
  · exact ⟨3, .inl (by decide), by decide⟩
  · exact ⟨4, .inl (by decide), by decide⟩
  · exact ⟨12, .inr (.inr rfl), by decide⟩
/-- the reference looks whether it is a word -/
theorem p95_in (K : Cn N B t m S P g μ o) {i : Nat} {lv : Int32} (rm : sw_m → Int32 → Option sw_m) {c : Nat} (h1 : (if o then 14 else 8) ≤ c) (h2 : c ≤ (if o then 20 else 15)) : fMo_readPart_95 N rm (mp μ (nI i) lv (-1)) (nI c) = fMo_readPart_111 N rm (mp μ (nI i) lv (-1)) (nI c) := by
  unfold fMo_readPart_95
  rw [mp_8, mp_9, K.2.2.2.2.2.1, K.2.2.2.2.2.2]
  cases o
  · simp only [Bool.false_eq_true, if_false] at h1 h2 ⊢
    rw [if_neg (show ¬ nI c < (8 : Int32) from nI_nlt (b := 8) h1 (by omega)), if_neg (show ¬ (15 : Int32) < nI c from nI_nlt (a := 15) h2 (by decide))]
  · simp only [if_true] at h1 h2 ⊢
    rw [if_neg (show ¬ nI c < (14 : Int32) from nI_nlt (b := 14) h1 (by omega)), if_neg (show ¬ (20 : Int32) < nI c from nI_nlt (a := 20) h2 (by decide))]
theorem p95_out (K : Cn N B t m S P g μ o) {i : Nat} {lv : Int32} (rm : sw_m → Int32 → Option sw_m) {c : Nat} (hc : c < 1000) (h1 : ¬ ((if o then 14 else 8) ≤ c ∧ c ≤ (if o then 20 else 15))) : fMo_readPart_95 N rm (mp μ (nI i) lv (-1)) (nI c) = fMo_readPart_144 N rm (mp μ (nI i) lv (-1)) := by
  unfold fMo_readPart_95
  rw [mp_8, mp_9, K.2.2.2.2.2.1, K.2.2.2.2.2.2]
  cases o
  · simp only [Bool.false_eq_true, if_false] at h1 ⊢
    by_cases a : 8 ≤ c
    · rw [if_neg (show ¬ nI c < (8 : Int32) from nI_nlt (b := 8) a (by omega)), if_pos (show (15 : Int32) < nI c from nI_lt (a := 15) (by omega) (by omega))]
    · rw [if_pos (show nI c < (8 : Int32) from nI_lt (b := 8) (by omega) (by decide))]
  · simp only [if_true] at h1 ⊢
    by_cases a : 14 ≤ c
    · rw [if_neg (show ¬ nI c < (14 : Int32) from nI_nlt (b := 14) a (by omega)), if_pos (show (20 : Int32) < nI c from nI_lt (a := 20) (by omega) (by omega))]
    · rw [if_pos (show nI c < (14 : Int32) from nI_lt (b := 14) (by omega) (by decide))]
theorem part_sim (K : Cn N B t m S P g μ o) {rx : sw_g → Option sw_g} {rm : sw_m → Int32 → Option sw_m} {d : Nat} (hd : d ≤ 8) (hr : d < 8 → HR N ln B t m S P g μ o (d + 1) rx rm) {i lv u : Nat} {C : Nat → Int32} (hi : i ≤ m) (hu : u ≤ i) (hlv : lv ≤ 50) : SE B m S P g μ o 2 i lv d u C (fRe_readPart N rx ln (FX g S P i lv d u C)) (fMo_readPart N rm (mp μ (nI i) (nI lv) (-1)) (nI d)) ∨ BB g μ t (fRe_readPart N rx ln (FX g S P i lv d u C)) (fMo_readPart N rm (mp μ (nI i) (nI lv) (-1)) (nI d)) := by
  have hm := K.1.m_le
  have hcl := K.1.cds_lt i
  have hvl := K.1.vls_lt i
  have hN := K.2.2.1
  -- the reference's head
  have eM : fMo_readPart N rm (mp μ (nI i) (nI lv) (-1)) (nI d) = (if cds B m S P i = 191 then (if nI d = (8 : Int32) then (fMo_faults (mp μ (nI i) (nI lv) (-1))).bind fun μ25 => fMo_readPart_37 N rm μ25 (nI d) else fMo_readPart_37 N rm (mp μ (nI i) (nI lv) (-1)) (nI d)) else (if cds B m S P i = 50 then (if vls B m S P i ≤ 1000 then fMo_readPart_111 N rm (mp μ (nI i) (nI lv) (-1)) (nI (cds B m S P i)) else fMo_readPart_95 N rm (mp μ (nI i) (nI lv) (-1)) (nI (cds B m S P i))) else fMo_readPart_95 N rm (mp μ (nI i) (nI lv) (-1)) (nI (cds B m S P i)))) := by
    unfold fMo_readPart fMo_fine
    rw [mp_21, if_pos rfl, Option.bind_some]
    simp only [show ¬ ((1 : Int32) = 0) by decide, if_false, fMo_sign, Option.bind_some]
    rw [mp_19, rd_nI (by omega) (by decide), mp_93, (K.2.1 i hi).2.1]
    by_cases e : cds B m S P i = 191
    · rw [if_pos (by rw [e]; rfl), if_pos e]
    · rw [if_neg (fun h => e ((eqL (100 + 91) 191 rfl (by omega) (by decide)).1 h)), if_neg e]
      by_cases e2 : cds B m S P i = 50
      · rw [if_pos (by rw [e2]; rfl), if_pos e2, rd_nI (by omega) (by decide), mp_94, (K.2.1 i hi).2.2]
        by_cases e3 : vls B m S P i ≤ 1000
        · rw [if_pos (show nI _ ≤ (1000 : Int32) from nI_le (b := 1000) e3 (by decide)), if_pos e3]
        · rw [if_neg (show ¬ nI _ ≤ (1000 : Int32) from nI_ge (a := 1000) (by omega) (by omega)), if_neg e3]
      · rw [if_neg (fun h => e2 ((eqL 50 50 rfl (by omega) (by decide)).1 h)), if_neg e2]
  rw [eM]
  unfold fRe_readPart
  rw [ist_at K.1 hN (i := 1) (by decide) hi, Option.bind_some]
  by_cases e : cds B m S P i = 191
  · have him : i < m := cds_pos (B := B) (S := S) (P := P) (by omega)
    simp only [e, show ct 1 = 191 from rfl, if_true, show ¬ ((1 : Int32) = 0) by decide, if_false]
    by_cases hd8 : d < 8
    · have hd8' : ¬ nI d = (8 : Int32) := fun h => by have := (eqL 8 8 rfl (by omega) (by decide)).1 h; omega
      rw [opens_at K.1 hN him hd8, Option.bind_some]
      simp only [show ¬ ((1 : Int32) = 0) by decide, if_false, hd8']
      have e37 : fMo_readPart_37 N rm (mp μ (nI i) (nI lv) (-1)) (nI d) = (rm (mp μ (nI (i + 1)) (nI lv) (-1)) (nI (d + 1))).bind fun μ19 => (fMo_must N μ19 (100 + 93)).bind fun μ23 => some μ23 := by
        unfold fMo_readPart_37 fMo_fine
        rw [mp_21, if_pos rfl, Option.bind_some]
        simp only [show ¬ ((1 : Int32) = 0) by decide, if_false, nm, mp_19, mp_w19, nI_1, fMo_sign, Option.bind_some]
      rw [e37]
      rcases hr hd8 (i + 1) lv u C him (by omega) hlv with ⟨e1, j, u', lv', C', a1, a2, a3, a4, a5, a6, a7, a8, a9, a10⟩ | ⟨φ, g', i', lv', b1, b2, b3, b4⟩
      · rw [a9, a10, Option.bind_some, Option.bind_some]
        have hlt := a1.lt
        rw [must_at K.1 K.2.1 (100 + 93) 193 rfl (by decide) a5, Option.bind_some]
        rcases closes_at (N := N) (ln := ln) K.1 hN (i := 2) (j := j) (lv := lv') (d := d) (u := u') (C := C') (by decide) a5 (by omega) with ⟨c1, c2⟩ | ⟨c1, g', c2, c3⟩
        · have c1' : cds B m S P j = 193 := c1
          have hjm : j < m := cds_pos (B := B) (S := S) (P := P) (by omega)
          rw [c2, Option.bind_some, if_pos c1']
          refine .inl ⟨.br e1, j + 1, u', lv', C', At_br.2 ⟨j, ?_, a1, ?_, rfl⟩, by rw [dp_br]; omega, Cd_br.2 a3, a4, by omega, by omega, a7, a8, rfl, rfl⟩
          · show nI _ = 191; rw [e]; rfl
          · show nI _ = 193; rw [c1']; rfl
        · have c1' : cds B m S P j ≠ 193 := c1
          rw [c2, Option.bind_some, if_neg c1']
          exact .inr ⟨nI (S j), g', nI j, nI lv', K.S1 a5, c3, rfl, rfl⟩
      · rw [b3, b4, Option.bind_some, Option.bind_some, must_bad b1]
        obtain ⟨g'', c2, c3⟩ := closes_bad (N := N) (ln := ln) K.1 hN (i := 2) (by decide) b1 b2
        rw [c2]
        exact .inr ⟨φ, g'', i', lv', b1, c3, rfl, rfl⟩
    · obtain rfl : d = 8 := by omega
      obtain ⟨g', c2, c3⟩ := opens_no (N := N) (ln := ln) K.1 (j := i) (lv := lv) (u := u) (C := C) (by omega)
      rw [c2, Option.bind_some]
      simp only [show nI 8 = (8 : Int32) from rfl, if_true]
      rw [faults_at K.1 K.2.1 hi, Option.bind_some]
      refine .inr ⟨nI (S i), g', nI i, nI lv, K.S1 hi, c3, rfl, ?_⟩
      unfold fMo_readPart_37 fMo_fine
      rw [mp_21, if_neg (K.S1 hi)]; simp
  · simp only [e, show ct 1 = 191 from rfl, if_false, if_true]
    have hn := num_at (ln := ln) K.1 hN (j := i) (lv := lv) (d := d) (u := u) (lo := 0) (hi := 1000) (C := C) hi (by decide) (by decide)
    rw [show (0 : Int32) = nI 0 from rfl, show (1000 : Int32) = nI 1000 from rfl, hn, Option.bind_some]
    simp only [Nat.zero_le, true_and, show nI 0 = 0 from rfl]
    have h4 : (FX g S P i lv d u C).1 33 4 = _ := rs_4
    rw [h4, K.2.2.2.1]
    by_cases hnum : cds B m S P i = 50 ∧ vls B m S P i ≤ 1000
    · have him : i < m := cds_pos (B := B) (S := S) (P := P) (by omega)
      rw [if_pos hnum, if_pos hnum.1, if_pos hnum.2]
      -- whatever the word is
      have hw : ∃ w, (if (if o then (0 : Int32) else 1) = 0 then (fRe_orderWord N ln (FX g S P i lv d u C)).bind fun ⟨v9, g8⟩ => fRe_readPart_54 N rx ln g8 (nI (vls B m S P i)) v9 else (fRe_lawWord N ln (FX g S P i lv d u C)).bind fun ⟨v26, g25⟩ => fRe_readPart_54 N rx ln g25 (nI (vls B m S P i)) v26) = fRe_readPart_65 N rx ln (FX g S P i lv d u C) (nI (vls B m S P i)) w := by
        have e54 : ∀ w, fRe_readPart_54 N rx ln (FX g S P i lv d u C) (nI (vls B m S P i)) w = fRe_readPart_65 N rx ln (FX g S P i lv d u C) (nI (vls B m S P i)) w := fun w => by
          unfold fRe_readPart_54; rw [if_neg (nI_nm1 (by omega))]
        cases o
        · rcases lw_at (ln := ln) K (j := i) (lv := lv) (d := d) (u := u) (C := C) hi with ⟨x, _, _, h⟩ | ⟨_, h⟩
          · exact ⟨nI x, by simp [h, e54]⟩
          · exact ⟨-1, by simp [h, e54]⟩
        · rcases ow_at (ln := ln) K (j := i) (lv := lv) (d := d) (u := u) (C := C) hi with ⟨x, _, _, h⟩ | ⟨_, h⟩
          · exact ⟨nI x, by simp [h, e54]⟩
          · exact ⟨-1, by simp [h, e54]⟩
      obtain ⟨w, hw⟩ := hw
      rw [hw]
      by_cases hl : lv < 50
      · rw [p65_num K rx him hl (by omega) hnum.2, p111_at K rm hi hl (fun _ => by rw [hnum.1]; decide)]
        refine .inl ⟨.num (vls B m S P i), i + 1, u + 1, lv + 1, _, At_num.2 ⟨hnum.2, by show nI _ = 50; rw [hnum.1]; rfl, rfl, rfl⟩, by rw [dp_num]; omega, Cd_num.2 ⟨hnum.2, ?_, rfl⟩, fun k hk => updI_ne (by omega), him, by omega, by omega, by omega, rfl, rfl⟩
        rw [updI_at, show (1 : Int32) * 2048 = nI 2048 from rfl, nI_add]
      · obtain rfl : lv = 50 := by omega
        obtain ⟨g', c2, c3⟩ := p65_50 (ln := ln) K (j := i) (d := d) (u := u) (C := C) (v := nI (vls B m S P i)) (w := w) rx (by omega)
        rw [c2, p111_50 K rm hi]
        exact .inr ⟨nI (S i), g', _, _, K.S1 hi, c3, rfl, rfl⟩
    · rw [if_neg hnum]
      have eR : (if cds B m S P i = 50 then (if vls B m S P i ≤ 1000 then fMo_readPart_111 N rm (mp μ (nI i) (nI lv) (-1)) (nI (cds B m S P i)) else fMo_readPart_95 N rm (mp μ (nI i) (nI lv) (-1)) (nI (cds B m S P i))) else fMo_readPart_95 N rm (mp μ (nI i) (nI lv) (-1)) (nI (cds B m S P i))) = fMo_readPart_95 N rm (mp μ (nI i) (nI lv) (-1)) (nI (cds B m S P i)) := by
        by_cases e2 : cds B m S P i = 50
        · rw [if_pos e2, if_neg (fun h => hnum ⟨e2, h⟩)]
        · rw [if_neg e2]
      rw [eR]
      cases ho : o
      · simp only [Bool.false_eq_true, if_false, show ¬ ((1 : Int32) = 0) by decide]
        rcases lw_at (ln := ln) K (j := i) (lv := lv) (d := d) (u := u) (C := C) hi with ⟨x, hx, hc, h⟩ | ⟨hc, h⟩
        · have hrg := lwc_rng x hx
          have him : i < m := cds_pos (B := B) (S := S) (P := P) (by omega)
          rw [h, Option.bind_some, p95_in K rm (by rw [ho]; simpa using (by omega : 8 ≤ cds B m S P i)) (by rw [ho]; simpa using (by omega : cds B m S P i ≤ 15))]
          have e54 : fRe_readPart_54 N rx ln (FX g S P i lv d u C) (-1) (nI x) = fRe_readPart_65 N rx ln (FX g S P i lv d u C) (-1) (nI x) := by
            unfold fRe_readPart_54; rw [if_pos rfl, if_neg (nI_nm1 (by omega))]
          simp only [e54]
          by_cases hl : lv < 50
          · rw [p65_word K rx him hl (by omega) (fun h' => by rw [ho] at h'; cases h') hx, p111_at K rm hi hl (fun h' => by rw [ho] at h'; cases h')]
            refine .inl ⟨.word x, i + 1, u + 1, lv + 1, _, At_word.2 (show AtW _ _ false x i (i + 1) from ⟨hx, by show nI _ = _; rw [hc], rfl⟩), by rw [dp_word]; omega, Cd_word.2 ⟨hx, ?_, rfl⟩, fun k hk => updI_ne (by omega), him, by omega, by omega, by omega, rfl, rfl⟩
            rw [updI_at, show (2 : Int32) * 2048 = nI 4096 from rfl, nI_add]
          · obtain rfl : lv = 50 := by omega
            obtain ⟨g', c2, c3⟩ := p65_50 (ln := ln) K (j := i) (d := d) (u := u) (C := C) (v := -1) (w := nI x) rx (by omega)
            rw [c2, p111_50 K rm hi]
            exact .inr ⟨nI (S i), g', _, _, K.S1 hi, c3, rfl, rfl⟩
        · rw [h, Option.bind_some]
          refine .inr (part_fault K rx rm hi (by omega) rfl (p95_out K rm (by omega) ?_))
          rw [ho]
          simp only [Bool.false_eq_true, if_false]
          intro hh
          obtain ⟨x, hx, he⟩ := rng_lwc _ hh.1 hh.2
          exact hc x hx he
      · simp only [if_true]
        rcases ow_at (ln := ln) K (j := i) (lv := lv) (d := d) (u := u) (C := C) hi with ⟨x, hx, hc, h⟩ | ⟨hc, h⟩
        · have hrg := owc_rng hx
          have him : i < m := cds_pos (B := B) (S := S) (P := P) (by omega)
          have hx12 : x ≤ 12 := by unfold owd at hx; omega
          rw [h, Option.bind_some, p95_in K rm (by rw [ho]; simpa using (by omega : 14 ≤ cds B m S P i)) (by rw [ho]; simpa using (by omega : cds B m S P i ≤ 20))]
          have e54 : fRe_readPart_54 N rx ln (FX g S P i lv d u C) (-1) (nI x) = fRe_readPart_65 N rx ln (FX g S P i lv d u C) (-1) (nI x) := by
            unfold fRe_readPart_54; rw [if_pos rfl, if_neg (nI_nm1 (by omega))]
          simp only [e54]
          by_cases hl : lv < 50
          · by_cases hx5 : x < 5
            · have hcc : owc x = 15 + x := by unfold owc; rw [if_pos hx5]
              rw [p65_word K rx him hl (by omega) (fun _ => hx5) (by omega), p111_at K rm hi hl (fun _ => by
                rw [hc, hcc]
                exact ⟨fun h' => by have := (eqL 14 14 rfl (by omega) (by decide)).1 h'; omega, fun h' => by have := (eqL 20 20 rfl (by omega) (by decide)).1 h'; omega⟩)]
              refine .inl ⟨.word x, i + 1, u + 1, lv + 1, _, At_word.2 (show AtW _ _ true x i (i + 1) from ⟨by omega, by show nI _ = _; rw [hc], by rw [if_pos hx5]⟩), by rw [dp_word]; omega, Cd_word.2 ⟨by show x < 19; omega, ?_, rfl⟩, fun k hk => updI_ne (by omega), him, by omega, by omega, by omega, rfl, rfl⟩
              rw [updI_at, show (2 : Int32) * 2048 = nI 4096 from rfl, nI_add]
            · have hxx : x = 5 ∨ x = 12 := by unfold owd at hx; omega
              have e111 : fMo_readPart_111 N rm (mp μ (nI i) (nI lv) (-1)) (nI (cds B m S P i)) = (fMo_mustNumber N (mp μ (nI (i + 1)) (nI (lv + 1)) (-1)) (nI 0) (nI 6)).bind fun μ12 => some μ12 := by
                unfold fMo_readPart_111
                rw [leaf_at K hi hl, Option.bind_some, mp_10, K.2.2.2.2.1, ho, if_pos rfl, if_neg (by decide)]
                rcases hxx with rfl | rfl
                · rw [hc, if_pos (by decide)]; rfl
                · rw [hc, if_neg (by decide), if_pos (by decide)]; rfl
              rw [e111, mustN_at K.1 K.2.1 (by decide) (by decide) him, Option.bind_some]
              rcases p65_idx (ln := ln) K ho (j := i) (lv := lv) (d := d) (u := u) (x := x) (C := C) rx him hl (by omega) hxx with ⟨c1, c2⟩ | ⟨c1, g', c2, c3⟩
              · have hj1 : i + 1 < m := cds_pos (B := B) (S := S) (P := P) (by omega)
                rw [c2, if_pos ⟨c1.1, by omega, c1.2⟩]
                refine .inl ⟨.word (x + vls B m S P (i + 1)), i + 2, u + 1, lv + 1, _, At_word.2 (show AtW _ _ true _ i (i + 2) from ⟨by omega, ?_, ?_⟩), by rw [dp_word]; omega, Cd_word.2 ⟨by show x + _ < 19; omega, ?_, rfl⟩, fun k hk => updI_ne (by omega), by omega, by omega, by omega, by omega, rfl, rfl⟩
                · show nI _ = _
                  rw [hc]
                  rcases hxx with rfl | rfl
                  · unfold owc; rw [if_neg (by decide), if_pos (by decide), if_neg (by omega), if_pos (by omega)]
                  · unfold owc; rw [if_neg (by decide), if_neg (by decide), if_neg (by omega), if_neg (by omega)]
                · rw [if_neg (by omega)]
                  refine ⟨?_, rfl⟩
                  show nI _ = _
                  rcases hxx with rfl | rfl
                  · unfold owk; rw [if_neg (by omega), if_pos (by omega)]; congr 1; omega
                  · unfold owk; rw [if_neg (by omega), if_neg (by omega)]; congr 1; omega
                · rw [updI_at, show (2 : Int32) * 2048 = nI 4096 from rfl, nI_add]
              · rw [c2, if_neg (fun h' => c1 ⟨h'.1, h'.2.2⟩)]
                exact .inr ⟨nI (S (i + 1)), g', _, _, K.S1 him, c3, rfl, rfl⟩
          · obtain rfl : lv = 50 := by omega
            obtain ⟨g', c2, c3⟩ := p65_50 (ln := ln) K (j := i) (d := d) (u := u) (C := C) (v := -1) (w := nI x) rx (by omega)
            rw [c2, p111_50 K rm hi]
            exact .inr ⟨nI (S i), g', _, _, K.S1 hi, c3, rfl, rfl⟩
        · rw [h, Option.bind_some]
          refine .inr (part_fault K rx rm hi (by omega) rfl (p95_out K rm (by omega) ?_))
          rw [ho]
          simp only [if_true]
          intro hh
          obtain ⟨x, hx, he⟩ := rng_owc _ hh.1 hh.2
          exact hc x hx he
end
