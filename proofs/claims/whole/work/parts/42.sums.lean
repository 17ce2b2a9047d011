section
variable {N : Nat} {μ : sw_m} {T V W : Nat → Int32} {o : Bool} {n : Nat}
theorem Rs.pure {live b : Int32} (hl : tv live) (hb : tv b) {v w : Int64} (h : live = 1 → b = 0 → v = w) : Rs live b (some w) v b := by
  refine ⟨fun _ => rfl, fun h => h, fun h1 h2 => .inr ⟨by rw [h h1 h2], h2⟩⟩
theorem part_begin (C : Cm N μ T V W o n) {rc : sw_m → Int32 → Option (Int64 × sw_m)} {i : Nat} {b live : Int32} (hi : i ≤ 2800) (hT : T i ≠ 191) : fMo_partOf N rc (st μ (nI i) b) live = (if o then (if T i = 14 then fMo_partOf_70 N rc (st μ (nI (i + 1)) b) live (T i) else (if T i = 20 then fMo_partOf_70 N rc (st μ (nI (i + 1)) b) live (T i) else fMo_partOf_94 N rc (st μ (nI (i + 1)) b) live (T i) 0)) else fMo_partOf_94 N rc (st μ (nI (i + 1)) b) live (T i) 0) := by
  unfold fMo_partOf
  simp only [fMo_sign, Option.bind_some, show (100 : Int32) + 91 = 191 from rfl, passes0_st C b hi, hT, if_false, if_true, st_22, codeAt_st C b hi, nm, st_w22, nI_1, st_25, C.fo]
  cases o <;> simp
theorem part_num (C : Cm N μ T V W o n) {d i v : Nat} (hi : i < 2800) (hT : T i = 50) (hV : V i = nI v) : PartM N d μ W (.num v) i (i + 1) := by
  intro live b hl hb
  rw [part_begin C (by omega) (by rw [hT]; decide)]
  rw [hT]
  simp only [show ¬ ((50 : Int32) = 14) by decide, show ¬ ((50 : Int32) = 20) by decide, if_false, ite_self]
  unfold fMo_partOf_94
  simp only [st_24, st_22, if_true]
  have e : (2854 : Int32) + nI (i + 1) - 1 = nI (2854 + i) := by rw [show (2854 : Int32) + nI (i + 1) = nI (2854 + (i + 1)) from nI_add 2854 (i + 1), ← Nat.add_assoc, nI_pred]
  rw [e, rd_nI (by omega) (by decide), st_86, C.fv i hi, hV]
  rcases hl with rfl | rfl
  · exact ⟨0, b, by simp, hb, Rs.pure (.inl rfl) hb (by simp)⟩
  · rcases hb with rfl | rfl
    · exact ⟨_, 0, by simp, .inl rfl, Rs.pure (.inr rfl) (.inl rfl) (fun _ _ => rfl)⟩
    · exact ⟨0, 1, by simp, .inr rfl, Rs.pure (.inr rfl) (.inr rfl) (by simp)⟩
theorem part_wl (C : Cm N μ T V W o n) (ho : o = false) {d i x : Nat} (hi : i < 2800) (hx : x < 8) (hT : T i = nI (lwc x)) : PartM N d μ W (.word x) i (i + 1) := by
  intro live b hl hb
  have hw := C.fwl ho x hx
  have h1 : nI (lwc x) ≠ 191 ∧ nI (lwc x) ≠ 50 ∧ nI (lwc x) - 8 = nI (lwc x - 8) ∧ lwc x - 8 < 8 := by
    rcases (show x = 0 ∨ x = 1 ∨ x = 2 ∨ x = 3 ∨ x = 4 ∨ x = 5 ∨ x = 6 ∨ x = 7 by omega) with rfl | rfl | rfl | rfl | rfl | rfl | rfl | rfl <;> decide
  rw [part_begin C (by omega) (by rw [hT]; exact h1.1), hT]
  subst ho
  have hz := C.fo
  simp only [if_false, Bool.false_eq_true] at hz ⊢
  unfold fMo_partOf_94
  simp only [st_24, st_22, st_25, st_96, h1.2.1, if_false, hz, if_true, h1.2.2.1, rd_nI h1.2.2.2 (by decide), hw]
  rcases hl with rfl | rfl
  · exact ⟨0, b, by simp, hb, Rs.pure (.inl rfl) hb (by simp)⟩
  · rcases hb with rfl | rfl
    · exact ⟨_, 0, by simp, .inl rfl, Rs.pure (.inr rfl) (.inl rfl) (fun _ _ => rfl)⟩
    · exact ⟨0, 1, by simp, .inr rfl, Rs.pure (.inr rfl) (.inr rfl) (by simp)⟩
theorem part_94o (C : Cm N μ T V W o n) (ho : o = true) {rc : sw_m → Int32 → Option (Int64 × sw_m)} {i x : Nat} (hx : x < 19) {live b : Int32} (hl : tv live) (hb : tv b) : ∃ v, fMo_partOf_94 N rc (st μ (nI i) b) live (nI (owc x)) (nI (owk x)) = some (v, st μ (nI i) b) ∧ Rs live b (some (W x).toInt64) v b := by
  have hw := C.fwo ho x hx
  have hz := C.fo
  have h1 : nI (owc x) ≠ 50 := by
    unfold owc
    split
    · rcases (show x = 0 ∨ x = 1 ∨ x = 2 ∨ x = 3 ∨ x = 4 by omega) with rfl | rfl | rfl | rfl | rfl <;> decide
    · split <;> decide
  subst ho
  unfold fMo_partOf_94
  simp only [st_24, st_22, st_25, h1, if_false, hz, if_true, show ¬ ((1 : Int32) = 0) by decide, hw, Option.bind_some]
  rcases hl with rfl | rfl
  · exact ⟨0, by simp, Rs.pure (.inl rfl) hb (by simp)⟩
  · rcases hb with rfl | rfl
    · exact ⟨_, by simp, Rs.pure (.inr rfl) (.inl rfl) (fun _ _ => rfl)⟩
    · exact ⟨0, by simp, Rs.pure (.inr rfl) (.inr rfl) (by simp)⟩
theorem part_wo1 (C : Cm N μ T V W o n) (ho : o = true) {d i x : Nat} (hi : i < 2800) (hx : x < 5) (hT : T i = nI (owc x)) : PartM N d μ W (.word x) i (i + 1) := by
  intro live b hl hb
  have h1 : nI (owc x) ≠ 191 ∧ nI (owc x) ≠ 14 ∧ nI (owc x) ≠ 20 ∧ nI (owk x) = 0 := by
    rcases (show x = 0 ∨ x = 1 ∨ x = 2 ∨ x = 3 ∨ x = 4 by omega) with rfl | rfl | rfl | rfl | rfl <;> decide
  rw [part_begin C (by omega) (by rw [hT]; exact h1.1), hT]
  obtain ⟨v, h2, h3⟩ := part_94o C ho (rc := fMo_sumOf N d) (i := i + 1) (x := x) (by omega) hl hb
  subst ho
  simp only [h1.2.1, h1.2.2.1, if_false, if_true]
  rw [h1.2.2.2] at h2
  exact ⟨v, b, h2, hb, h3⟩
theorem part_wo2 (C : Cm N μ T V W o n) (ho : o = true) {d i x : Nat} (hi : i + 1 < 2800) (hx : 5 ≤ x) (hx' : x < 19) (hT : T i = nI (owc x)) (hV : V (i + 1) = nI (owk x)) : PartM N d μ W (.word x) i (i + 2) := by
  intro live b hl hb
  have h1 : nI (owc x) ≠ 191 ∧ (nI (owc x) = 14 ∨ nI (owc x) = 20) := by
    unfold owc
    split
    · omega
    · split <;> decide
  rw [part_begin C (by omega) (by rw [hT]; exact h1.1), hT]
  obtain ⟨v, h2, h3⟩ := part_94o C ho (rc := fMo_sumOf N d) (i := i + 2) (x := x) hx' hl hb
  have h4 : fMo_partOf_70 N (fMo_sumOf N d) (st μ (nI (i + 1)) b) live (nI (owc x)) = some (v, st μ (nI (i + 2)) b) := by
    unfold fMo_partOf_70
    rw [st_22, show (2854 : Int32) + nI (i + 1) = nI (2854 + (i + 1)) from nI_add 2854 (i + 1), rd_nI (by omega) (by decide), st_86, C.fv (i + 1) hi, hV]
    simp only [nm, st_w22, nI_1]
    exact h2
  subst ho
  refine ⟨v, b, ?_, hb, h3⟩
  rcases h1.2 with h | h
  · simp [h]; rw [← h]; exact h4
  · rw [h] at h4 ⊢; simpa using h4
theorem part_word (C : Cm N μ T V W o n) {d i j x : Nat} (hj : j ≤ 2800) (h : AtW T V o x i j) : PartM N d μ W (.word x) i j := by
  unfold AtW at h
  cases ho : o
  · simp only [ho, Bool.false_eq_true, if_false] at h
    obtain ⟨h1, h2, rfl⟩ := h
    exact part_wl C ho (by omega) h1 h2
  · simp only [ho, if_true] at h
    obtain ⟨h1, h2, h3⟩ := h
    split at h3
    · subst h3; exact part_wo1 C ho (by omega) (by omega) h2
    · obtain ⟨h3, rfl⟩ := h3; exact part_wo2 C ho (by omega) (by omega) h1 h2 h3
theorem part_br (C : Cm N μ T V W o n) (hN : 3000 ≤ N) {d i j : Nat} {a : Ex} (hj : j + 1 ≤ 2800) (hi : i ≤ 2800) (h0 : T i = 191) (h1 : T j = 193) (h : SumM N d μ W a (i + 1) j) : PartM N (d + 1) μ W (.br a) i (j + 1) := by
  intro live b hl hb
  obtain ⟨v, b', h2, h3, h4⟩ := h.ret C hN (by omega) (by rw [h1]; unfold isAdd; decide) live b hl hb
  refine ⟨v, b', ?_, h3, h4⟩
  unfold fMo_partOf
  simp only [fMo_sign, Option.bind_some, show (100 : Int32) + 91 = 191 from rfl, passes0_st C b hi, h0, if_true, show ¬ ((1 : Int32) = 0) by decide, if_false, h2, nm, st_22, st_w22, nI_1]
theorem term_mul (C : Cm N μ T V W o n) (hN : 3000 ≤ N) {d i j k op : Nat} {a b : Ex} (hk : k ≤ 2800) (hij : i < j) (hjk : j < k) (ho : op = 8 ∨ op = 9 ∨ op = 10) (hT : T j = nI (otk op)) (ha : TermM N d μ W a i j) (hb : PartM N d μ W b (j + 1) k) : TermM N d μ W (.bin op a b) i k := by
  intro live b0 hl hb0
  obtain ⟨fu, v, b1, h1, h2, h3, h4⟩ := ha live b0 hl hb0
  obtain ⟨w, b2, h5, h6, h7⟩ := hb live b1 hl h3
  obtain ⟨fu, rfl⟩ : ∃ k, fu = k + 1 := ⟨fu - 1, by omega⟩
  have hs : fMo_termOf_6 N (fMo_sumOf N d) (fu + 1) (st μ (nI j) b1) live v = fMo_termOf_54 N (fMo_sumOf N d) (fMo_termOf_6 N (fMo_sumOf N d) fu) (st μ (nI j) b1) live v := by
    rw [fMo_termOf_6]
    simp only [st_22, codeAt_st C b1 (show j ≤ 2800 by omega), Option.bind_some, fMo_sign, hT]
    rcases ho with rfl | rfl | rfl
    · rw [if_pos (by decide)]
    · rw [if_neg (by decide), if_pos (by decide)]
    · rw [if_neg (by decide), if_neg (by decide), if_pos (by decide)]
  rw [hs] at h2
  unfold fMo_termOf_54 at h2
  simp only [st_22, codeAt_st C b1 (show j ≤ 2800 by omega), Option.bind_some, nm, st_w22, nI_1, h5, fMo_sign, hT, st_24, st_w24, cmp_eq] at h2
  have fin : ∀ (b2' : Int32) (s : Int64) (z : Option Int64), tv b2' → Rs live b1 (ev W b) w b2' ∨ True → (∀ v' b3, Rs live b2' (lim s) v' b3 → tv b3 → Rs live b0 (ev W (.bin op a b)) v' b3) → fMo_termOf N (fMo_sumOf N d) (st μ (nI i) b0) live = fMo_termOf_160 N (fMo_sumOf N d) (fMo_termOf_6 N (fMo_sumOf N d) fu) (st μ (nI k) b2') live s → ∃ fu v b', N ≤ fu + (k - i) ∧ fMo_termOf N (fMo_sumOf N d) (st μ (nI i) b0) live = fMo_termOf_6 N (fMo_sumOf N d) fu (st μ (nI k) b') live v ∧ tv b' ∧ Rs live b0 (ev W (.bin op a b)) v b' := by
    intro b2' s z t1 _ t3 t4
    obtain ⟨v', b3, q1, q2, q3⟩ := bounded_st (N := N) (μ := μ) hl (i := nI k) t1 s
    refine ⟨fu, v', b3, by omega, ?_, q2, t3 v' b3 q3 q2⟩
    rw [t4]; unfold fMo_termOf_160; rw [q1]; rfl
  rcases ho with rfl | rfl | rfl
  · rw [if_pos (by decide)] at h2
    unfold fMo_termOf_121 at h2
    simp only [fMo_sign, Option.bind_some] at h2
    rw [if_pos (by decide)] at h2
    exact fin b2 _ none h6 (.inr trivial) (fun v' b3 q _ => by rw [ev_bin (by decide)]; exact Rs.two hb0 h4 h7 q (fun _ _ => rfl)) h2
  all_goals
    rw [if_neg (by decide)] at h2
    by_cases hw : w = 0
    · subst hw
      rw [if_pos rfl] at h2
      have hx : ∃ b2' s, tv b2' ∧ (live = 0 → b2' = b2) ∧ (live = 1 → b2' = 1) ∧ (b2 = 1 → b2' = 1) ∧ fMo_termOf N (fMo_sumOf N d) (st μ (nI i) b0) live = fMo_termOf_160 N (fMo_sumOf N d) (fMo_termOf_6 N (fMo_sumOf N d) fu) (st μ (nI k) b2') live s := by
        have e2 : ∀ b', fMo_termOf_121 N (fMo_sumOf N d) (fMo_termOf_6 N (fMo_sumOf N d) fu) (st μ (nI k) b') live v (nI (otk 9)) 1 = fMo_termOf_160 N (fMo_sumOf N d) (fMo_termOf_6 N (fMo_sumOf N d) fu) (st μ (nI k) b') live (v / 1) := by
          intro b'; unfold fMo_termOf_121; simp only [fMo_sign, Option.bind_some]
          rw [if_neg (by decide), if_pos (by decide)]; unfold nzl; rw [if_neg (by decide)]
        have e3 : ∀ b', fMo_termOf_121 N (fMo_sumOf N d) (fMo_termOf_6 N (fMo_sumOf N d) fu) (st μ (nI k) b') live v (nI (otk 10)) 1 = fMo_termOf_160 N (fMo_sumOf N d) (fMo_termOf_6 N (fMo_sumOf N d) fu) (st μ (nI k) b') live (v - v / 1 * 1) := by
          intro b'; unfold fMo_termOf_121; simp only [fMo_sign, Option.bind_some]
          rw [if_neg (by decide), if_neg (by decide)]; unfold nzl; rw [if_neg (by decide)]
        simp only [e2, e3] at h2
        rcases h6 with rfl | rfl
        · rw [if_pos rfl] at h2
          rcases hl with rfl | rfl
          · exact ⟨0, _, .inl rfl, fun _ => rfl, by simp, by simp, h2⟩
          · exact ⟨1, _, .inr rfl, by simp, by simp, by simp, h2⟩
        · rw [if_neg (by decide)] at h2
          exact ⟨1, _, .inr rfl, fun _ => rfl, fun _ => rfl, fun _ => rfl, h2⟩
      obtain ⟨b2', s, t1, t2, t3, t4, t5⟩ := hx
      refine fin b2' s none t1 (.inr trivial) (fun v' b3 q _ => ?_) t5
      refine ⟨fun h => by rw [q.1 h, t2 h, h7.1 h, h4.1 h], fun h => q.2.1 (t4 (h7.2.1 (h4.2.1 h))), fun h h0 => ?_⟩
      refine .inl ⟨?_, q.2.1 (t3 h)⟩
      rcases h4.2.2 h h0 with ⟨e1, e2⟩ | ⟨e1, e2⟩
      · simp [ev_bin, bin2, e1]
      · rcases h7.2.2 h e2 with ⟨e3, e4⟩ | ⟨e3, e4⟩
        · simp [ev_bin, bin2, e1, e3]
        · simp [ev_bin, bin2, e1, e3, cmb]
    · rw [if_neg hw] at h2
      unfold fMo_termOf_121 at h2
      simp only [fMo_sign, Option.bind_some, nzl, hw, if_false] at h2
      rw [if_neg (by decide)] at h2
      first
        | (rw [if_pos (by decide)] at h2
           exact fin b2 _ none h6 (.inr trivial) (fun v' b3 q _ => by rw [ev_bin (by decide)]; exact Rs.two (f := cmb 9) hb0 h4 h7 q (fun _ _ => by simp [cmb, hw])) h2)
        | (rw [if_neg (by decide)] at h2
           exact fin b2 _ none h6 (.inr trivial) (fun v' b3 q _ => by rw [ev_bin (by decide)]; exact Rs.two (f := cmb 10) hb0 h4 h7 q (fun _ _ => by simp [cmb, hw])) h2)
theorem sum_add (C : Cm N μ T V W o n) (hN : 3000 ≤ N) {d i j k op : Nat} {a b : Ex} (hk : k ≤ 2800) (hij : i < j) (hjk : j < k) (ho : op = 6 ∨ op = 7) (hT : T j = nI (otk op)) (hm : ¬ isMul (T k)) (ha : SumM N d μ W a i j) (hb : TermM N d μ W b (j + 1) k) : SumM N d μ W (.bin op a b) i k := by
  intro live b0 hl hb0
  obtain ⟨fu, v, b1, h1, h2, h3, h4⟩ := ha live b0 hl hb0
  obtain ⟨fu2, w, b2, h0, h5, h6, h7⟩ := hb live b1 hl h3
  obtain ⟨fu, rfl⟩ : ∃ k, fu = k + 1 := ⟨fu - 1, by omega⟩
  obtain ⟨fu2, rfl⟩ : ∃ k, fu2 = k + 1 := ⟨fu2 - 1, by omega⟩
  rw [termEnd C hk hm] at h5
  have fin : ∀ (s : Int64), (∀ v' b3, Rs live b2 (lim s) v' b3 → Rs live b0 (ev W (.bin op a b)) v' b3) → fMo_sumOf_b N (fMo_sumOf N d) (st μ (nI i) b0) live = fMo_sumOf_b_95 N (fMo_sumOf N d) (fMo_sumOf_b_6 N (fMo_sumOf N d) fu) (st μ (nI k) b2) live s → ∃ fu v b', N ≤ fu + (k - i) ∧ fMo_sumOf_b N (fMo_sumOf N d) (st μ (nI i) b0) live = fMo_sumOf_b_6 N (fMo_sumOf N d) fu (st μ (nI k) b') live v ∧ tv b' ∧ Rs live b0 (ev W (.bin op a b)) v b' := by
    intro s t3 t4
    obtain ⟨v', b3, q1, q2, q3⟩ := bounded_st (N := N) (μ := μ) hl (i := nI k) h6 s
    refine ⟨fu, v', b3, by omega, ?_, q2, t3 v' b3 q3⟩
    rw [t4]; unfold fMo_sumOf_b_95; rw [q1]; rfl
  rw [fMo_sumOf_b_6] at h2
  simp only [st_22, codeAt_st C b1 (show j ≤ 2800 by omega), Option.bind_some, fMo_sign, hT] at h2
  rcases ho with rfl | rfl
  · rw [if_pos (by decide)] at h2
    simp only [fMo_sumOf_b_38, st_22, codeAt_st C b1 (show j ≤ 2800 by omega), Option.bind_some, fMo_sign, hT] at h2
    rw [if_pos (by decide)] at h2
    simp only [fMo_sumOf_b_59, nm, st_22, st_w22, nI_1, h5, Option.bind_some] at h2
    rw [if_neg (by decide)] at h2
    exact fin _ (fun v' b3 q => by rw [ev_bin (by decide)]; exact Rs.two hb0 h4 h7 q (fun _ _ => rfl)) h2
  · rw [if_neg (by decide), if_pos (by decide)] at h2
    simp only [fMo_sumOf_b_38, st_22, codeAt_st C b1 (show j ≤ 2800 by omega), Option.bind_some, fMo_sign, hT] at h2
    rw [if_neg (by decide)] at h2
    simp only [fMo_sumOf_b_59, nm, st_22, st_w22, nI_1, h5, Option.bind_some] at h2
    rw [if_pos (by decide)] at h2
    exact fin _ (fun v' b3 q => by rw [ev_bin (by decide)]; exact Rs.two hb0 h4 h7 q (fun _ _ => rfl)) h2
theorem evM (C : Cm N μ T V W o n) (hN : 3000 ≤ N) : ∀ (e : Ex) (d : Nat), dp e ≤ d → ∀ i j, j ≤ 2800 → (At T V o e 2 i j → PartM N d μ W e i j) ∧ (At T V o e 1 i j → TermM N d μ W e i j) ∧ (At T V o e 0 i j → ¬ isMul (T j) → SumM N d μ W e i j) := by
  intro e
  induction e using Ex.ind with
  | num v =>
    intro d _ i j hj
    have h : At T V o (.num v) 2 i j → PartM N d μ W (.num v) i j := by
      intro h
      obtain ⟨_, h1, h2, rfl⟩ := At_num.1 h
      exact part_num C (by omega) h1 h2
    exact ⟨h, fun a => (h a).term, fun a hm => (h a).term.sum C hN hj hm⟩
  | word x =>
    intro d _ i j hj
    have h : At T V o (.word x) 2 i j → PartM N d μ W (.word x) i j := fun a => part_word C hj (At_word.1 a)
    exact ⟨h, fun a => (h a).term, fun a hm => (h a).term.sum C hN hj hm⟩
  | br a iha =>
    intro d hd i k hk
    rw [dp_br] at hd
    obtain ⟨d, rfl⟩ : ∃ x, d = x + 1 := ⟨d - 1, by omega⟩
    have h : At T V o (.br a) 2 i k → PartM N (d + 1) μ W (.br a) i k := by
      intro h
      obtain ⟨j, h1, h2, h3, rfl⟩ := At_br.1 h
      have := h2.lt
      exact part_br C hN hk (by omega) h1 h3 ((iha d (by omega) (i + 1) j (by omega)).2.2 h2 (by rw [h3]; unfold isMul; decide))
    exact ⟨h, fun a => (h a).term, fun a hm => (h a).term.sum C hN hk hm⟩
  | bin op a b ho iha ihb =>
    intro d hd i k hk
    rw [dp_bin ho] at hd
    have ht : At T V o (.bin op a b) 1 i k → TermM N d μ W (.bin op a b) i k := by
      intro h
      obtain ⟨j, h0, ⟨_, h, _⟩ | ⟨h1, h2, h3, h4⟩⟩ := (At_bin ho).1 h
      · omega
      · have := h3.lt; have := h4.lt
        exact term_mul C hN hk (by omega) (by omega) h1 h0 ((iha d (by omega) i j (by omega)).2.1 h3) ((ihb d (by omega) (j + 1) k hk).1 h4)
    refine ⟨?_, ht, ?_⟩
    · intro h
      obtain ⟨j, h0, ⟨_, h, _⟩ | ⟨_, h, _⟩⟩ := (At_bin ho).1 h <;> omega
    · intro h hm
      obtain ⟨j, h0, ⟨h1, h2, h3, h4⟩ | ⟨h1, h2, h3, h4⟩⟩ := (At_bin ho).1 h
      · have := h3.lt; have := h4.lt
        refine sum_add C hN hk (by omega) (by omega) h1 h0 hm ((iha d (by omega) i j (by omega)).2.2 h3 ?_) ((ihb d (by omega) (j + 1) k hk).2.1 h4)
        rw [h0]; rcases h1 with rfl | rfl <;> unfold isMul <;> decide
      · exact (ht ((At_bin ho).2 ⟨j, h0, .inr ⟨h1, by omega, h3, h4⟩⟩)).sum C hN hk hm
  | oth e he => intro d _ i j _; exact ⟨fun h => absurd h (At_oth he), fun h => absurd h (At_oth he), fun h => absurd h (At_oth he)⟩
theorem sumM (C : Cm N μ T V W o n) (hN : 3000 ≤ N) {e : Ex} (he : dp e ≤ 9) {i j : Nat} (hj : j ≤ 2800) (h : At T V o e 0 i j) (hm : ¬ isMul (T j)) (ha : ¬ isAdd (T j)) (live b : Int32) (hl : tv live) (hb : tv b) : ∃ v b', fMo_sumOf N 10 (st μ (nI i) b) live = some (v, st μ (nI j) b') ∧ tv b' ∧ Rs live b (ev W e) v b' :=
  ((evM C hN e 9 he i j hj).2.2 h hm).ret C hN hj ha live b hl hb
end
