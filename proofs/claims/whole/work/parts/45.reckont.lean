/-! ===== the class' reckoner over tests ===== -/
def need1 : Jvm.Term → Nat
  | .mul a b => max (need a) (need b + 1) | .div a b => max (need a) (need b + 1) | .rem a b => max (need a) (need b + 1)
  | .length t => need1 t | .elem (.arg _) t => need1 t | .add a b => max (need1 a) (need1 b) | .sub a b => max (need1 a) (need1 b) | _ => 1
def needT (t : Tx) : Nat := need1 t
theorem needT_cmp {op : Nat} (h : op = 11 ∨ op = 12 ∨ op = 13) {a b : Ex} : needT (.cmp op a b) = max (need a) (need b + 1) := by
  rcases h with rfl | rfl | rfl <;> rfl
theorem needT_par {t : Tx} : needT (.par t) = needT t := rfl
theorem needT_nots {k : Nat} {t : Tx} : needT (.nots k t) = needT t := rfl
theorem needT_both {a b : Tx} : needT (.both a b) = max (needT a) (needT b) := rfl
theorem needT_alt {a b : Tx} : needT (.alt a b) = max (needT a) (needT b) := rfl
theorem needT_oth {t : Tx} (h : ¬ Tx.is t) : needT t = 1 := by
  cases t with
  | elem k t => cases k <;> first | exact absurd trivial h | rfl
  | _ => first | exact absurd trivial h | rfl
theorem needT_pos : ∀ t : Tx, 1 ≤ needT t := by
  intro t
  induction t using Tx.ind with
  | cmp op a b ho => rw [needT_cmp ho]; omega
  | par t ih => exact ih
  | nots k t ih => exact ih
  | both a b ih1 ih2 => rw [needT_both]; omega
  | alt a b ih1 ih2 => rw [needT_alt]; omega
  | oth t ht => rw [needT_oth ht]; exact Nat.le_refl 1
theorem needT_le {T V : Nat → Int32} {o : Bool} : ∀ {t : Tx} {L i j : Nat}, AtT T V o t L i j → okT t → needT t ≤ 22 := by
  intro t
  induction t using Tx.ind with
  | cmp op a b ho =>
    intro L i j h ok
    obtain ⟨_, _, k, h1, _, h2⟩ := (AtT_cmp ho).1 h
    have := need_le.2.2 h1; have := need_le.2.2 h2; have ok := (okT_cmp ho).1 ok; rw [needT_cmp ho]; omega
  | par t ih => intro L i j h ok; obtain ⟨_, k, _, h2, _⟩ := AtT_par.1 h; exact ih h2 ok
  | nots k t ih => intro L i j h ok; obtain ⟨_, _, h2⟩ := AtT_nots.1 h; exact ih h2 ok
  | both a b iha ihb => intro L i j h ok; obtain ⟨_, k, h1, _, h2⟩ := AtT_both.1 h; have := iha h1 ok.1; have := ihb h2 ok.2; rw [needT_both]; omega
  | alt a b iha ihb => intro L i j h ok; obtain ⟨_, k, h1, _, h2⟩ := AtT_alt.1 h; have := iha h1 ok.1; have := ihb h2 ok.2; rw [needT_alt]; omega
  | oth t ht => intro L i j h; exact absurd h (AtT_oth ht)
def CdX (C : Nat → Int32) (nw op : Nat) (a b : Ex) (i j : Nat) : Prop := ∃ k l, Cd C nw a i k ∧ Cd C nw b k l ∧ C l = nI (op * 2048) ∧ j = l + 1
def Cd1 (C : Nat → Int32) (nw : Nat) : Jvm.Term → Nat → Nat → Prop
  | .mul a b, i, j => CdX C nw 11 a b i j
  | .div a b, i, j => CdX C nw 12 a b i j
  | .rem a b, i, j => CdX C nw 13 a b i j
  | .length t, i, j => Cd1 C nw t i j
  | .elem (.arg m) t, i, j => (m % 2 = 1 ∧ ∃ l, Cd1 C nw t i l ∧ C l = nI (3 * 2048) ∧ j = l + 1) ∨ (m % 2 = 0 ∧ Cd1 C nw t i j)
  | .add a b, i, j => ∃ k, Cd1 C nw a i k ∧ C k = nI (5 * 2048 + j) ∧ Cd1 C nw b (k + 1) j
  | .sub a b, i, j => ∃ k, Cd1 C nw a i k ∧ C k = nI (4 * 2048 + j) ∧ Cd1 C nw b (k + 1) j
  | _, _, _ => False
def CdT (C : Nat → Int32) (nw : Nat) (t : Tx) (i j : Nat) : Prop := Cd1 C nw t i j
section
variable {C : Nat → Int32} {nw : Nat}
theorem CdT_cmp {op : Nat} (h : op = 11 ∨ op = 12 ∨ op = 13) {a b : Ex} {i j : Nat} : CdT C nw (.cmp op a b) i j ↔ ∃ k l, Cd C nw a i k ∧ Cd C nw b k l ∧ C l = nI (op * 2048) ∧ j = l + 1 := by
  rcases h with rfl | rfl | rfl <;> exact Iff.rfl
theorem CdT_par {t : Tx} {i j : Nat} : CdT C nw (.par t) i j ↔ CdT C nw t i j := Iff.rfl
theorem CdT_nots {m : Nat} {t : Tx} {i j : Nat} : CdT C nw (.nots m t) i j ↔ ((m % 2 = 1 ∧ ∃ l, CdT C nw t i l ∧ C l = nI (3 * 2048) ∧ j = l + 1) ∨ (m % 2 = 0 ∧ CdT C nw t i j)) := Iff.rfl
theorem CdT_both {a b : Tx} {i j : Nat} : CdT C nw (.both a b) i j ↔ ∃ k, CdT C nw a i k ∧ C k = nI (5 * 2048 + j) ∧ CdT C nw b (k + 1) j := Iff.rfl
theorem CdT_alt {a b : Tx} {i j : Nat} : CdT C nw (.alt a b) i j ↔ ∃ k, CdT C nw a i k ∧ C k = nI (4 * 2048 + j) ∧ CdT C nw b (k + 1) j := Iff.rfl
theorem CdT_oth {t : Tx} (h : ¬ Tx.is t) {i j : Nat} : ¬ CdT C nw t i j := by
  intro h1
  cases t with
  | elem k t => cases k <;> first | exact h trivial | exact h1
  | _ => first | exact h trivial | exact h1
theorem CdT.lt : ∀ {t : Tx} {i j : Nat}, CdT C nw t i j → i < j := by
  intro t
  induction t using Tx.ind with
  | cmp op a b ho => intro i j h; obtain ⟨k, l, h1, h2, _, rfl⟩ := (CdT_cmp ho).1 h; have := h1.lt; have := h2.lt; omega
  | par t ih => intro i j h; exact ih h
  | nots m t ih =>
    intro i j h
    rcases CdT_nots.1 h with ⟨_, l, h2, _, h3⟩ | ⟨_, h2⟩
    · have := ih h2; omega
    · exact ih h2
  | both a b iha ihb => intro i j h; obtain ⟨k, h1, _, h2⟩ := CdT_both.1 h; have := iha h1; have := ihb h2; omega
  | alt a b iha ihb => intro i j h; obtain ⟨k, h1, _, h2⟩ := CdT_alt.1 h; have := iha h1; have := ihb h2; omega
  | oth t ht => intro i j h; exact absurd h (CdT_oth ht)
end
def bL (r : Bool) : Int64 := if r then 1 else 0
section
variable {N : Nat} {ln : Nat → Nat} {g : sw_g} {q0 q1 q3 nw u : Nat} {C W : Nat → Int32}
theorem combine_cmp {op : Nat} (h : op = 11 ∨ op = 12 ∨ op = 13) (a b : Int64) : fRk_combine (nI op) a b = some (bL (cmpB op a b)) := by
  unfold fRk_combine
  simp only [cmp_ge, cmp_le, cmp_eq]
  rcases h with rfl | rfl | rfl
  · rw [if_neg (by decide), if_neg (by decide), if_neg (by decide), if_neg (by decide), if_neg (by decide), if_pos (by decide)]
    simp only [cmpB, bL, if_true]
    by_cases h : b ≤ a
    · rw [if_pos h]; simp; grind
    · rw [if_neg h]; simp; grind
  · rw [if_neg (by decide), if_neg (by decide), if_neg (by decide), if_neg (by decide), if_neg (by decide), if_neg (by decide), if_pos (by decide)]
    simp only [cmpB, bL, if_true, show ¬ (12 = 11) by decide, if_false]
    by_cases h : a ≤ b
    · rw [if_pos h]; simp; grind
    · rw [if_neg h]; simp; grind
  · rw [if_neg (by decide), if_neg (by decide), if_neg (by decide), if_neg (by decide), if_neg (by decide), if_neg (by decide), if_neg (by decide)]
    simp only [cmpB, bL, show ¬ (13 = 11) by decide, show ¬ (13 = 12) by decide, if_false]
    by_cases h : a = b
    · rw [if_pos h]; simp [h]
    · rw [if_neg h]; simp [h]
theorem run_not (K : Cx ln g q1 q3 nw C W u) {l s stp fu : Nat} {S : Nat → Int64} (hl : l < u) (hc : C l = nI (3 * 2048)) (h1 : stp ≤ l) (hs : s + 1 ≤ 40) : fRk_works_9 N ln q0 q1 q3 nw (fu + 1) (gS g q0 S) (nI (s + 1)) (nI l) (nI stp) = fRk_works_9 N ln q0 q1 q3 nw fu (gS g q0 (updL S s (1 - S s))) (nI (s + 1)) (nI (l + 1)) (nI (stp + 1)) := by
  have m1 : (1 : Int32) ≤ nI (s + 1) := nI_le (a := 1) (by omega) (by omega)
  rw [wk_step K hl h1 hc (by omega), show 3 * 2048 / 2048 = 3 from rfl]
  unfold wkB
  rw [if_neg (show ¬ nI 3 = 1 by decide), if_neg (show ¬ nI 3 = 2 by decide), if_pos m1, if_neg (show ¬ nI 3 = 0 by decide), if_pos (show nI 3 = 3 by decide), nI_pred, rd_nI (by omega) (by decide), wr_nI (by omega) (by decide), gS_w, nm, nI_1]
theorem run_skip (K : Cx ln g q1 q3 nw C W u) {op l s stp fu j : Nat} {S : Nat → Int64} {r : Bool} (ho : op = 4 ∨ op = 5) (hl : l < u) (hj : j < 2048) (hc : C l = nI (op * 2048 + j)) (h1 : stp ≤ l) (hs : s + 1 ≤ 40) (hr : S s = bL r) : fRk_works_9 N ln q0 q1 q3 nw (fu + 1) (gS g q0 S) (nI (s + 1)) (nI l) (nI stp) = (if r = decide (op = 4) then fRk_works_9 N ln q0 q1 q3 nw fu (gS g q0 S) (nI (s + 1)) (nI j) (nI (stp + 1)) else fRk_works_9 N ln q0 q1 q3 nw fu (gS g q0 S) (nI s) (nI (l + 1)) (nI (stp + 1))) := by
  have m1 : (1 : Int32) ≤ nI (s + 1) := nI_le (a := 1) (by omega) (by omega)
  have e1 : (op * 2048 + j) / 2048 = op := by omega
  have e2 : (op * 2048 + j) % 2048 = j := by omega
  have e3 : nI (s + 1) + (-1 : Int32) = nI s := by rw [nI_succ s]; lia
  rw [wk_step K hl h1 hc (by omega), e1, e2]
  unfold wkB
  have w : (fRk_works_194 N ln q0 q1 q3 nw (fRk_works_9 N ln q0 q1 q3 nw fu) (gS g q0 S) (nI (s + 1)) (nI (l + 1)) (nI stp) (nI op) (nI j)) = (if r = decide (op = 4) then fRk_works_9 N ln q0 q1 q3 nw fu (gS g q0 S) (nI (s + 1)) (nI j) (nI (stp + 1)) else fRk_works_9 N ln q0 q1 q3 nw fu (gS g q0 S) (nI s) (nI (l + 1)) (nI (stp + 1))) := by
    unfold fRk_works_194
    rw [nI_pred, rd_nI (by omega) (by decide), gS_2, hr]
    simp only [cmp_eq, fRk_works_213, fRk_works_228, nm, nI_1, e3]
    have z0 : bL false = 0 := rfl
    have z1 : ¬ bL true = 0 := by decide
    have y4 : nI 4 = 4 := rfl
    have y5 : ¬ nI 5 = 4 := by decide
    have o1 : ¬ (0 : Int32) = 1 := by decide
    have o2 : ¬ (1 : Int32) = 0 := by decide
    rcases ho with rfl | rfl <;> cases r <;> simp only [z0, z1, y4, y5, o1, o2, if_true, if_false] <;> rfl
  rcases ho with rfl | rfl
  · rw [if_neg (show ¬ nI 4 = 1 by decide), if_neg (show ¬ nI 4 = 2 by decide), if_pos m1, if_neg (show ¬ nI 4 = 0 by decide), if_neg (show ¬ nI 4 = 3 by decide), if_pos (show nI 4 = 4 by decide), w]
  · rw [if_neg (show ¬ nI 5 = 1 by decide), if_neg (show ¬ nI 5 = 2 by decide), if_pos m1, if_neg (show ¬ nI 5 = 0 by decide), if_neg (show ¬ nI 5 = 3 by decide), if_neg (show ¬ nI 5 = 4 by decide), if_pos (show nI 5 = 5 by decide), w]
theorem lim_bL (r : Bool) : lim (bL r) = some (bL r) := by cases r <;> decide
theorem runT (K : Cx ln g q1 q3 nw C W u) : ∀ (t : Tx) (i j : Nat), CdT C nw t i j → j ≤ u → RunX N ln g q0 q1 q3 nw i j (needT t) ((evT W t).map bL) := by
  intro t
  have h5 := K.f5
  induction t using Tx.ind with
  | oth t ht => intro i j h; exact absurd h (CdT_oth ht)
  | cmp op a b ho =>
    intro i j h hj
    obtain ⟨k, l, h1, h2, h3, rfl⟩ := (CdT_cmp ho).1 h
    have l1 := h1.lt
    have l2 := h2.lt
    intro S s stp fu a1 a2 a3
    rw [needT_cmp ho] at a3
    have np := need_pos b
    rw [evT_cmp ho]
    rcases runX (N := N) (q0 := q0) K a i k h1 (by omega) S s stp fu a1 a2 (by omega) with ⟨v, fu1, st1, S1, e1, b1, b2, b3, b4, b5⟩ | ⟨e1, S1, b5⟩
    · rcases runX (N := N) (q0 := q0) K b k l h2 (by omega) S1 (s + 1) st1 fu1 b1 b2 (by omega) with ⟨w, fu2, st2, S2, e2, d1, d2, d3, d4, d5⟩ | ⟨e2, S2, d5⟩
      · have f1 := combine_cmp (op := op) ho v w
        have hv : S2 s = v := by rw [d4 s (by omega), b3]
        have hr : fRk_combine (nI op) (S2 s) (S2 (s + 1)) = some (bL (cmpB op v w)) := by rw [hv, d3, f1]
        have hx : binT (cmpB op) (ev W a) (ev W b) = some (cmpB op v w) := by simp only [e1, e2, binT]
        rw [hx, b5, d5]
        rcases run_two (N := N) (q0 := q0) K (by omega) (by omega) (by omega) h3 d1 d2 (by omega) hr with ⟨fu3, st3, S3, g1, g2, g3, g4, g5, g6⟩ | ⟨g1, S3, g6⟩
        · exact .inl ⟨_, fu3, st3, S3, rfl, g2, g3, g4, fun k hk => by rw [g5 k hk, d4 k (by omega), b4 k hk], g6⟩
        · rw [lim_bL] at g1; cases g1
      · exact .inr ⟨by simp [e1, e2, binT], S2, by rw [b5, d5]⟩
    · exact .inr ⟨by simp [e1, binT], S1, b5⟩
  | par t ih => intro i j h hj; exact ih i j (CdT_par.1 h) hj
  | nots m t ih =>
    intro i j h hj
    rw [evT_nots, needT_nots]
    rcases CdT_nots.1 h with ⟨hm, l, h1, h2, rfl⟩ | ⟨hm, h⟩
    · intro S s stp fu a1 a2 a3
      have l1 := h1.lt
      have np := needT_pos t
      rcases ih i l h1 (by omega) S s stp fu a1 a2 (by omega) with ⟨v, fu1, st1, S1, e1, b1, b2, b3, b4, b5⟩ | ⟨e1, S1, b5⟩
      · obtain ⟨fu1, rfl⟩ : ∃ k, fu1 = k + 1 := ⟨fu1 - 1, by omega⟩
        refine .inl ⟨1 - v, fu1, st1 + 1, updL S1 s (1 - S1 s), ?_, by omega, by omega, by simp [updL, b3], fun k hk => by simp [updL, show k ≠ s by omega]; exact b4 k hk, by rw [b5, run_not K (by omega) h2 b1 (by omega)]⟩
        simp only [hm, if_true]
        cases he : evT W t with
        | none => rw [he] at e1; simp at e1
        | some r => rw [he] at e1; simp at e1; subst e1; cases r <;> rfl
      · refine .inr ⟨?_, S1, b5⟩
        cases he : evT W t with
        | none => rfl
        | some r => rw [he] at e1; simp at e1
    · have := ih i j h hj
      have e : (evT W t).map (fun r => if m % 2 = 1 then !r else r) = evT W t := by
        simp only [show ¬ (m % 2 = 1) by omega, if_false, Option.map_id_fun', id]
      rw [e]; exact this
  | both a b iha ihb =>
    intro i j h hj
    obtain ⟨k, h1, h2, h3⟩ := CdT_both.1 h
    have l1 := h1.lt
    have l2 := h3.lt
    have np := needT_pos a
    intro S s stp fu a1 a2 a3
    rw [needT_both] at a3
    rw [evT_both]
    rcases iha i k h1 (by omega) S s stp fu a1 a2 (by omega) with ⟨v, fu1, st1, S1, e1, b1, b2, b3, b4, b5⟩ | ⟨e1, S1, b5⟩
    · obtain ⟨fu1, rfl⟩ : ∃ k, fu1 = k + 1 := ⟨fu1 - 1, by omega⟩
      cases he : evT W a with
      | none => rw [he] at e1; simp at e1
      | some r =>
        rw [he] at e1; simp at e1; subst e1
        rw [run_skip (op := 5) K (.inr rfl) (by omega) (by omega) h2 b1 (by omega) b3] at b5
        cases r
        · rw [if_pos (by decide)] at b5
          exact .inl ⟨_, fu1, st1 + 1, S1, by simp [oT, he], by omega, by omega, b3, b4, b5⟩
        · rw [if_neg (by decide)] at b5
          rcases ihb (k + 1) j h3 hj S1 s (st1 + 1) fu1 (by omega) (by omega) (by omega) with ⟨w, fu2, st2, S2, e2, d1, d2, d3, d4, d5⟩ | ⟨e2, S2, d5⟩
          · exact .inl ⟨w, fu2, st2, S2, by simp only [oT, he]; simpa using e2, d1, d2, d3, fun k hk => by rw [d4 k hk, b4 k hk], by rw [b5, d5]⟩
          · exact .inr ⟨by simp only [oT, he]; simpa using e2, S2, by rw [b5, d5]⟩
    · refine .inr ⟨?_, S1, b5⟩
      cases he : evT W a with
      | none => simp [oT, he]
      | some r => rw [he] at e1; simp at e1
  | alt a b iha ihb =>
    intro i j h hj
    obtain ⟨k, h1, h2, h3⟩ := CdT_alt.1 h
    have l1 := h1.lt
    have l2 := h3.lt
    have np := needT_pos a
    intro S s stp fu a1 a2 a3
    rw [needT_alt] at a3
    rw [evT_alt]
    rcases iha i k h1 (by omega) S s stp fu a1 a2 (by omega) with ⟨v, fu1, st1, S1, e1, b1, b2, b3, b4, b5⟩ | ⟨e1, S1, b5⟩
    · obtain ⟨fu1, rfl⟩ : ∃ k, fu1 = k + 1 := ⟨fu1 - 1, by omega⟩
      cases he : evT W a with
      | none => rw [he] at e1; simp at e1
      | some r =>
        rw [he] at e1; simp at e1; subst e1
        rw [run_skip (op := 4) K (.inl rfl) (by omega) (by omega) h2 b1 (by omega) b3] at b5
        cases r
        · rw [if_neg (by decide)] at b5
          rcases ihb (k + 1) j h3 hj S1 s (st1 + 1) fu1 (by omega) (by omega) (by omega) with ⟨w, fu2, st2, S2, e2, d1, d2, d3, d4, d5⟩ | ⟨e2, S2, d5⟩
          · exact .inl ⟨w, fu2, st2, S2, by simp only [oT, he]; simpa using e2, d1, d2, d3, fun k hk => by rw [d4 k hk, b4 k hk], by rw [b5, d5]⟩
          · exact .inr ⟨by simp only [oT, he]; simpa using e2, S2, by rw [b5, d5]⟩
        · rw [if_pos (by decide)] at b5
          exact .inl ⟨_, fu1, st1 + 1, S1, by simp [oT, he], by omega, by omega, b3, b4, b5⟩
    · refine .inr ⟨?_, S1, b5⟩
      cases he : evT W a with
      | none => simp [oT, he]
      | some r => rw [he] at e1; simp at e1
theorem worksR (K : Cx ln g q1 q3 nw C W u) (hN : 3000 ≤ N) {i j nd : Nat} {x : Option Int64} (h : RunX N ln g q0 q1 q3 nw i j nd x) (hj : j < u) (hc : C j = 0) (hn : nd ≤ 39) : ∃ S', fRk_works N ln g q0 q1 q3 nw (nI i) = some (match x with | some v => ((1 : Int32), gI (gS g q0 S') q0 0 v.toInt32) | none => (0, gS g q0 S')) := by
  have eg : g = gS g q0 (g.2.1 (q0 + 1)) := by
    refine Prod.ext rfl (Prod.ext ?_ rfl)
    funext p; simp only [gS]; split
    · rename_i h; rw [h]
    · rfl
  unfold fRk_works
  have key := h (g.2.1 (q0 + 1)) 0 0 N (by omega) (by omega) (by omega)
  rw [← eg] at key
  rcases key with ⟨v, fu, stp, S, e1, b1, b2, b3, b4, b5⟩ | ⟨e1, S, b5⟩
  · refine ⟨S, ?_⟩
    rw [show ((0 : Int32)) = nI 0 from rfl, b5, run_stop K hj hc b1 b2 (by omega), e1, b3]
  · refine ⟨S, ?_⟩
    rw [show ((0 : Int32)) = nI 0 from rfl, b5, e1]
    rfl
end
