/-! ===== the class' reckoner ===== -/
def gS (g : sw_g) (q0 : Nat) (S : Nat → Int64) : sw_g := (g.1, fun p => if p = q0 + 1 then S else g.2.1 p, g.2.2)
theorem gS_1 {g : sw_g} {q0 : Nat} {S : Nat → Int64} : (gS g q0 S).1 = g.1 := rfl
theorem gS_2 {g : sw_g} {q0 : Nat} {S : Nat → Int64} : (gS g q0 S).2.1 (q0 + 1) = S := by simp [gS]
def updL (S : Nat → Int64) (k : Nat) (v : Int64) : Nat → Int64 := fun j => if j = k then v else S j
theorem gS_w {g : sw_g} {q0 : Nat} {S : Nat → Int64} {k : Nat} {v : Int64} : gL (gS g q0 S) (q0 + 1) k v = gS g q0 (updL S k v) := by
  simp only [gL, gS, updL, sw_u]
  refine Prod.ext rfl (Prod.ext ?_ rfl)
  funext p j
  show (if p = q0 + 1 ∧ j = k then v else (if p = q0 + 1 then S else g.2.1 p) j) = _
  by_cases h : p = q0 + 1 <;> by_cases h2 : j = k <;> simp [h, h2, updL]
def need0 : Jvm.Term → Nat
  | .add a b => max (need0 a) (need0 b + 1) | .sub a b => max (need0 a) (need0 b + 1) | .mul a b => max (need0 a) (need0 b + 1) | .div a b => max (need0 a) (need0 b + 1) | .rem a b => max (need0 a) (need0 b + 1) | .length a => need0 a | _ => 1
def need (e : Ex) : Nat := need0 e
theorem need_num {v : Nat} : need (.num v) = 1 := rfl
theorem need_word {v : Nat} : need (.word v) = 1 := rfl
theorem need_br {a : Ex} : need (.br a) = need a := rfl
theorem need_bin {op : Nat} (h : op = 6 ∨ op = 7 ∨ op = 8 ∨ op = 9 ∨ op = 10) {a b : Ex} : need (.bin op a b) = max (need a) (need b + 1) := by
  rcases h with rfl | rfl | rfl | rfl | rfl <;> rfl
theorem need_oth {e : Ex} (h : ¬ Ex.is e) : need e = 1 := by
  cases e with
  | _ => first | exact absurd trivial h | rfl
theorem need_pos : ∀ e : Ex, 1 ≤ need e := by
  intro e
  induction e using Ex.ind with
  | num v => exact Nat.le_refl 1
  | word x => exact Nat.le_refl 1
  | br a ih => exact ih
  | bin op a b ho ih1 ih2 => rw [need_bin ho]; omega
  | oth e he => rw [need_oth he]; exact Nat.le_refl 1
theorem need_le {T V : Nat → Int32} {o : Bool} : ∀ {e : Ex} {i j : Nat}, (At T V o e 2 i j → need e ≤ 2 * dp e + 1) ∧ (At T V o e 1 i j → need e ≤ 2 * dp e + 2) ∧ (At T V o e 0 i j → need e ≤ 2 * dp e + 3) := by
  intro e
  induction e using Ex.ind with
  | num v => intro i j; rw [need_num]; omega
  | word x => intro i j; rw [need_word]; omega
  | br a iha =>
    intro i j
    rw [need_br, dp_br]
    refine ⟨?_, ?_, ?_⟩ <;> intro h <;> obtain ⟨k, _, h2, _⟩ := At_br.1 h <;> have := iha.2.2 h2 <;> omega
  | bin op a b ho iha ihb =>
    intro i j
    rw [need_bin ho, dp_bin ho]
    refine ⟨?_, ?_, ?_⟩
    · intro h; obtain ⟨k, _, ⟨_, h, _⟩ | ⟨_, h, _⟩⟩ := (At_bin ho).1 h <;> omega
    · intro h
      obtain ⟨k, _, ⟨_, h, _⟩ | ⟨_, h, h1, h2⟩⟩ := (At_bin ho).1 h
      · omega
      · have := iha.2.1 h1; have := ihb.1 h2; omega
    · intro h
      obtain ⟨k, _, ⟨_, h, h1, h2⟩ | ⟨_, h, h1, h2⟩⟩ := (At_bin ho).1 h
      · have := iha.2.2 h1; have := ihb.2.1 h2; omega
      · have := iha.2.1 h1; have := ihb.1 h2; omega
  | oth e he => intro i j; exact ⟨fun h => absurd h (At_oth he), fun h => absurd h (At_oth he), fun h => absurd h (At_oth he)⟩
/-- the code from i to j is a sum's -/
def CdA (C : Nat → Int32) (op : Nat) (fa fb : Nat → Nat → Prop) (i j : Nat) : Prop := ∃ k l, fa i k ∧ fb k l ∧ C l = nI (op * 2048) ∧ j = l + 1
def Cd0 (C : Nat → Int32) (nw : Nat) : Jvm.Term → Nat → Nat → Prop
  | .arg v, i, j => v ≤ 1000 ∧ C i = nI (2048 + v) ∧ j = i + 1
  | .index x, i, j => x < nw ∧ C i = nI (4096 + x) ∧ j = i + 1
  | .add a b, i, j => CdA C 6 (Cd0 C nw a) (Cd0 C nw b) i j
  | .sub a b, i, j => CdA C 7 (Cd0 C nw a) (Cd0 C nw b) i j
  | .mul a b, i, j => CdA C 8 (Cd0 C nw a) (Cd0 C nw b) i j
  | .div a b, i, j => CdA C 9 (Cd0 C nw a) (Cd0 C nw b) i j
  | .rem a b, i, j => CdA C 10 (Cd0 C nw a) (Cd0 C nw b) i j
  | .length a, i, j => Cd0 C nw a i j
  | _, _, _ => False
def Cd (C : Nat → Int32) (nw : Nat) (e : Ex) (i j : Nat) : Prop := Cd0 C nw e i j
section
variable {C : Nat → Int32} {nw : Nat}
theorem Cd_num {v i j : Nat} : Cd C nw (.num v) i j ↔ (v ≤ 1000 ∧ C i = nI (2048 + v) ∧ j = i + 1) := Iff.rfl
theorem Cd_word {x i j : Nat} : Cd C nw (.word x) i j ↔ (x < nw ∧ C i = nI (4096 + x) ∧ j = i + 1) := Iff.rfl
theorem Cd_br {a : Ex} {i j : Nat} : Cd C nw (.br a) i j ↔ Cd C nw a i j := Iff.rfl
theorem Cd_bin {op : Nat} (h : op = 6 ∨ op = 7 ∨ op = 8 ∨ op = 9 ∨ op = 10) {a b : Ex} {i j : Nat} : Cd C nw (.bin op a b) i j ↔ ∃ k l, Cd C nw a i k ∧ Cd C nw b k l ∧ C l = nI (op * 2048) ∧ j = l + 1 := by
  rcases h with rfl | rfl | rfl | rfl | rfl <;> exact Iff.rfl
theorem Cd_oth {e : Ex} (h : ¬ Ex.is e) {i j : Nat} : ¬ Cd C nw e i j := by
  intro h1
  cases e with
  | _ => first | exact h trivial | exact h1
theorem Cd.lt : ∀ {e : Ex} {i j : Nat}, Cd C nw e i j → i < j := by
  intro e
  induction e using Ex.ind with
  | num v => intro i j h; obtain ⟨_, _, rfl⟩ := Cd_num.1 h; omega
  | word x => intro i j h; obtain ⟨_, _, rfl⟩ := Cd_word.1 h; omega
  | bin op a b ho iha ihb => intro i j h; obtain ⟨k, l, h1, h2, _, rfl⟩ := (Cd_bin ho).1 h; have := iha h1; have := ihb h2; omega
  | br a iha => intro i j h; exact iha h
  | oth e he => intro i j h; exact absurd h (Cd_oth he)
end
def Cx (ln : Nat → Nat) (g : sw_g) (q1 q3 nw : Nat) (C W : Nat → Int32) (u : Nat) : Prop := g.1 q1 6 = nI u ∧ u ≤ 512 ∧ u ≤ ln (q1 + 6) ∧ ln (q1 + 6) < 2147483648 ∧ (∀ k, k < u → g.1 (q1 + 6) k = C k) ∧ (∀ x, x < nw → g.1 q3 x = W x) ∧ nw < 2048
section
variable {ln : Nat → Nat} {g : sw_g} {q1 q3 nw : Nat} {C W : Nat → Int32} {u : Nat}
theorem Cx.fu (K : Cx ln g q1 q3 nw C W u) : g.1 q1 6 = nI u := K.1
theorem Cx.f5 (K : Cx ln g q1 q3 nw C W u) : u ≤ 512 := K.2.1
theorem Cx.fl (K : Cx ln g q1 q3 nw C W u) : u ≤ ln (q1 + 6) := K.2.2.1
theorem Cx.fb (K : Cx ln g q1 q3 nw C W u) : ln (q1 + 6) < 2147483648 := K.2.2.2.1
theorem Cx.fc (K : Cx ln g q1 q3 nw C W u) : ∀ k, k < u → g.1 (q1 + 6) k = C k := K.2.2.2.2.1
theorem Cx.fw (K : Cx ln g q1 q3 nw C W u) : ∀ x, x < nw → g.1 q3 x = W x := K.2.2.2.2.2.1
theorem Cx.fn (K : Cx ln g q1 q3 nw C W u) : nw < 2048 := K.2.2.2.2.2.2
end
section
variable {N : Nat} {ln : Nat → Nat} {g : sw_g} {q0 q1 q3 nw u : Nat} {C W : Nat → Int32}
/-- one step -/
def wkB (N : Nat) (ln : Nat → Nat) (q0 q1 q3 nw fu : Nat) (G : sw_g) (S : Nat → Int64) (x2 x4 x5 u4 u6 : Int32) : Option (Int32 × sw_g) := if x2 = (1 : Int32) then fRk_works_72 N ln q0 q1 q3 nw (fRk_works_9 N ln q0 q1 q3 nw fu) G u4 x5 u6 x2 x4 else (if x2 = (2 : Int32) then fRk_works_72 N ln q0 q1 q3 nw (fRk_works_9 N ln q0 q1 q3 nw fu) G u4 x5 u6 x2 x4 else (if (1 : Int32) ≤ u4 then (if x2 = 0 then rd 40 (u4 - (1 : Int32)) S fun v27 => nm (gI G q0 0 ((v27).toInt32)) fun g28 => some ((1 : Int32), g28) else (if x2 = (3 : Int32) then rd 40 (u4 - (1 : Int32)) S fun v24 => wr 40 (u4 - (1 : Int32)) (fun j => gL G (q0 + 1) j ((1 : Int64) - v24)) fun g25 => nm (u6 + (1 : Int32)) fun x26 => (fRk_works_9 N ln q0 q1 q3 nw fu) g25 u4 x5 x26 else (if x2 = (4 : Int32) then fRk_works_194 N ln q0 q1 q3 nw (fRk_works_9 N ln q0 q1 q3 nw fu) G u4 x5 u6 x2 x4 else (if x2 = (5 : Int32) then fRk_works_194 N ln q0 q1 q3 nw (fRk_works_9 N ln q0 q1 q3 nw fu) G u4 x5 u6 x2 x4 else (if (2 : Int32) ≤ u4 then nm (u4 + (-1 : Int32)) fun x17 => rd 40 (x17 - (1 : Int32)) S fun v18 => rd 40 x17 S fun v19 => (fRk_combine x2 v18 v19).bind fun v21 => (if 0 < (lg_cmp v21 (1000000000 : Int64)) then some ((0 : Int32), G) else (if 0 ≤ (lg_cmp v21 (-1000000000 : Int64)) then wr 40 (x17 - (1 : Int32)) (fun j => gL G (q0 + 1) j v21) fun g22 => nm (u6 + (1 : Int32)) fun x23 => (fRk_works_9 N ln q0 q1 q3 nw fu) g22 x17 x5 x23 else some ((0 : Int32), G))) else some ((0 : Int32), G)))))) else some ((0 : Int32), G)))
theorem wk0 {fu : Nat} {u4 u5 u6 : Int32} : fRk_works_9 N ln q0 q1 q3 nw (fu + 1) g u4 u5 u6 = (if (512 : Int32) ≤ u6 then some ((0 : Int32), g) else (if u5 < 0 then some ((0 : Int32), g) else (if (g.1 q1 6) ≤ u5 then some ((0 : Int32), g) else rd (ln (q1 + 6)) u5 (g.1 (q1 + 6)) fun v1 => rd (ln (q1 + 6)) u5 (g.1 (q1 + 6)) fun v3 => wkB N ln q0 q1 q3 nw fu g (g.2.1 (q0 + 1)) (v1 / 2048) (v3 - v3 / 2048 * 2048) (u5 + 1) u4 u6))) := by
  rw [fRk_works_9]; rfl
theorem wk_step (K : Cx ln g q1 q3 nw C W u) {S : Nat → Int64} {s i stp fu cc : Nat} (hi : i < u) (hs : stp ≤ i) (hc : C i = nI cc) (hcc : cc < 40000) : fRk_works_9 N ln q0 q1 q3 nw (fu + 1) (gS g q0 S) (nI s) (nI i) (nI stp) = wkB N ln q0 q1 q3 nw fu (gS g q0 S) S (nI (cc / 2048)) (nI (cc % 2048)) (nI (i + 1)) (nI s) (nI stp) := by
  have h5 := K.f5
  have hl := K.fl
  have hb := K.fb
  have d1 : nI cc / (2048 : Int32) = nI (cc / 2048) := pk_div (by omega) (by decide) (by decide)
  have d2 : nI cc - nI cc / (2048 : Int32) * (2048 : Int32) = nI (cc % 2048) := pk_rem (by omega) (by decide) (by decide)
  have c1 : ¬ (512 : Int32) ≤ nI stp := nI_ge (a := stp) (b := 512) (by omega) (by decide)
  rw [wk0, gS_1, gS_2, if_neg c1, if_neg (nI_pos (by omega)), K.fu, if_neg (nI_ge hi (by omega)), rd_nI (by omega) (by omega), rd_nI (by omega) (by omega), K.fc i hi, hc, nI_1, d2, d1]
def RunX (N : Nat) (ln : Nat → Nat) (g : sw_g) (q0 q1 q3 nw : Nat) (i j nd : Nat) (x : Option Int64) : Prop := ∀ (S : Nat → Int64) (s stp fu : Nat), stp ≤ i → 600 ≤ fu + stp → s + nd ≤ 40 →
  (∃ v fu' stp' S', x = some v ∧ stp' ≤ j ∧ 600 ≤ fu' + stp' ∧ S' s = v ∧ (∀ k, k < s → S' k = S k) ∧ fRk_works_9 N ln q0 q1 q3 nw fu (gS g q0 S) (nI s) (nI i) (nI stp) = fRk_works_9 N ln q0 q1 q3 nw fu' (gS g q0 S') (nI (s + 1)) (nI j) (nI stp')) ∨
  (x = none ∧ ∃ S', fRk_works_9 N ln q0 q1 q3 nw fu (gS g q0 S) (nI s) (nI i) (nI stp) = some (0, gS g q0 S'))
theorem run_push (K : Cx ln g q1 q3 nw C W u) {i cc : Nat} {v : Int64} (hi : i < u) (hc : C i = nI cc) (hv : (∃ n, n < 2048 ∧ cc = 2048 + n ∧ v = (nI n).toInt64) ∨ (∃ x, x < nw ∧ cc = 4096 + x ∧ v = (W x).toInt64)) : RunX N ln g q0 q1 q3 nw i (i + 1) 1 (some v) := by
  intro S s stp fu h1 h2 h3
  have h5 := K.f5
  have hn := K.fn
  obtain ⟨fu, rfl⟩ : ∃ k, fu = k + 1 := ⟨fu - 1, by omega⟩
  refine .inl ⟨v, fu, stp + 1, updL S s v, rfl, by omega, by omega, by simp [updL], fun k hk => by simp [updL, show k ≠ s by omega], ?_⟩
  rcases hv with ⟨n, hn, rfl, rfl⟩ | ⟨x, hx, rfl, rfl⟩
  · rw [wk_step K hi h1 hc (by omega), wkB]
    have e1 : (2048 + n) / 2048 = 1 := by omega
    have e2 : (2048 + n) % 2048 = n := by omega
    simp only [e1, e2]
    rw [if_pos (by decide)]
    unfold fRk_works_72
    rw [if_neg (show ¬ (40 : Int32) ≤ nI s from nI_ge (a := s) (b := 40) (by omega) (by decide)), if_neg (show ¬ nI 1 = 2 by decide)]
    unfold fRk_works_94
    rw [if_pos (by decide), wr_nI (by omega) (by decide)]
    simp only [nm, gS_w, nI_1]
  · rw [wk_step K hi h1 hc (by omega), wkB]
    have e1 : (4096 + x) / 2048 = 2 := by omega
    have e2 : (4096 + x) % 2048 = x := by omega
    simp only [e1, e2]
    rw [if_neg (show ¬ nI 2 = 1 by decide), if_pos (by decide)]
    unfold fRk_works_72
    rw [if_neg (show ¬ (40 : Int32) ≤ nI s from nI_ge (a := s) (b := 40) (by omega) (by decide)), if_pos (by decide), if_pos (show nI x < Int32.ofNat nw from nI_lt hx (by omega))]
    unfold fRk_works_94
    rw [if_neg (show ¬ nI 2 = 1 by decide), rd_nI hx (by omega), wr_nI (by omega) (by decide)]
    simp only [nm, gS_w, nI_1, gS_1, K.fw x hx]
theorem combine_eq {op : Nat} (h : op = 6 ∨ op = 7 ∨ op = 8 ∨ op = 9 ∨ op = 10) (a b : Int64) : ∃ r, fRk_combine (nI op) a b = some r ∧ cmb op a b = lim r := by
  unfold fRk_combine
  simp only [cmp_eq, nzl]
  rcases h with rfl | rfl | rfl | rfl | rfl
  · exact ⟨a + b, by rw [if_pos (by decide)], rfl⟩
  · exact ⟨a - b, by rw [if_neg (by decide), if_pos (by decide)], rfl⟩
  · exact ⟨a * b, by rw [if_neg (by decide), if_neg (by decide), if_pos (by decide)], rfl⟩
  · rw [if_neg (by decide), if_neg (by decide), if_neg (by decide), if_pos (by decide)]
    by_cases hb : b = 0
    · exact ⟨1000000001, by simp [hb], by simp [cmb, hb, lim]⟩
    · exact ⟨a / b, by simp [hb], by simp [cmb, hb]⟩
  · rw [if_neg (by decide), if_neg (by decide), if_neg (by decide), if_neg (by decide), if_pos (by decide)]
    by_cases hb : b = 0
    · exact ⟨1000000001, by simp [hb], by simp [cmb, hb, lim]⟩
    · exact ⟨a - a / b * b, by simp [hb], by simp [cmb, hb]⟩
theorem run_b (K : Cx ln g q1 q3 nw C W u) {op l s stp fu : Nat} {S : Nat → Int64} (hl : l < u) (ho : 6 ≤ op) (ho' : op < 16) (hc : C l = nI (op * 2048)) (h1 : stp ≤ l) (hs : s + 2 ≤ 40) {r : Int64} (hr : fRk_combine (nI op) (S s) (S (s + 1)) = some r) : fRk_works_9 N ln q0 q1 q3 nw (fu + 1) (gS g q0 S) (nI (s + 2)) (nI l) (nI stp) = (if 0 < (lg_cmp r (1000000000 : Int64)) then some ((0 : Int32), gS g q0 S) else (if 0 ≤ (lg_cmp r (-1000000000 : Int64)) then fRk_works_9 N ln q0 q1 q3 nw fu (gS g q0 (updL S s r)) (nI (s + 1)) (nI (l + 1)) (nI (stp + 1)) else some ((0 : Int32), gS g q0 S))) := by
  have h5 := K.f5
  have hne : ∀ k, k < 6 → ¬ nI op = nI k := fun k hk h => by have := (nI_eq (a := op) (b := k) (by omega) (by omega)).1 h; omega
  have n0 : ¬ nI op = 0 := hne 0 (by decide)
  have n1 : ¬ nI op = 1 := hne 1 (by decide)
  have n2 : ¬ nI op = 2 := hne 2 (by decide)
  have n3 : ¬ nI op = 3 := hne 3 (by decide)
  have n4 : ¬ nI op = 4 := hne 4 (by decide)
  have n5 : ¬ nI op = 5 := hne 5 (by decide)
  have m1 : (1 : Int32) ≤ nI (s + 2) := nI_le (a := 1) (by omega) (by omega)
  have m2 : (2 : Int32) ≤ nI (s + 2) := nI_le (a := 2) (by omega) (by omega)
  have e2 : nI (s + 2) + (-1 : Int32) = nI (s + 1) := by rw [show s + 2 = s + 1 + 1 from rfl, nI_succ (s + 1)]; lia
  have e1 : op * 2048 / 2048 = op := by omega
  rw [wk_step K hl h1 hc (by omega), e1]
  unfold wkB
  rw [if_neg n1, if_neg n2, if_pos m1, if_neg n0, if_neg n3, if_neg n4, if_neg n5, if_pos m2, nm, e2, nI_pred, rd_nI (by omega) (by decide), rd_nI (by omega) (by decide), hr, Option.bind_some, wr_nI (by omega) (by decide), gS_w, nm, nI_1]
/-- two numbers are brought together -/
theorem run_two (K : Cx ln g q1 q3 nw C W u) {op l s stp fu : Nat} {S : Nat → Int64} (hl : l < u) (ho : 6 ≤ op) (ho' : op < 16) (hc : C l = nI (op * 2048)) (h1 : stp ≤ l) (h2 : 600 ≤ fu + stp) (hs : s + 2 ≤ 40) {r : Int64} (hr : fRk_combine (nI op) (S s) (S (s + 1)) = some r) :
    (∃ fu' stp' S', lim r = some r ∧ stp' ≤ l + 1 ∧ 600 ≤ fu' + stp' ∧ S' s = r ∧ (∀ k, k < s → S' k = S k) ∧ fRk_works_9 N ln q0 q1 q3 nw fu (gS g q0 S) (nI (s + 2)) (nI l) (nI stp) = fRk_works_9 N ln q0 q1 q3 nw fu' (gS g q0 S') (nI (s + 1)) (nI (l + 1)) (nI stp')) ∨
    (lim r = none ∧ ∃ S', fRk_works_9 N ln q0 q1 q3 nw fu (gS g q0 S) (nI (s + 2)) (nI l) (nI stp) = some (0, gS g q0 S')) := by
  have h5 := K.f5
  obtain ⟨fu, rfl⟩ : ∃ k, fu = k + 1 := ⟨fu - 1, by omega⟩
  rw [run_b K hl ho ho' hc h1 hs hr]
  simp only [cmp_gt, cmp_ge]
  by_cases c1 : 1000000000 < r
  · exact .inr ⟨lim_none (.inl c1), S, if_pos c1⟩
  · by_cases c2 : -1000000000 ≤ r
    · exact .inl ⟨fu, stp + 1, updL S s r, lim_some (by grind), by omega, by omega, by simp [updL], fun k hk => by simp [updL, show k ≠ s by omega], by rw [if_neg c1, if_pos c2]⟩
    · exact .inr ⟨lim_none (by grind), S, by rw [if_neg c1, if_neg c2]⟩
theorem runX (K : Cx ln g q1 q3 nw C W u) : ∀ (e : Ex) (i j : Nat), Cd C nw e i j → j ≤ u → RunX N ln g q0 q1 q3 nw i j (need e) (ev W e) := by
  intro e
  induction e using Ex.ind with
  | num v =>
    intro i j h hj
    obtain ⟨h1, h2, rfl⟩ := Cd_num.1 h
    exact run_push K (by omega) h2 (.inl ⟨v, by omega, rfl, rfl⟩)
  | word x =>
    intro i j h hj
    obtain ⟨h1, h2, rfl⟩ := Cd_word.1 h
    exact run_push K (by omega) h2 (.inr ⟨x, h1, rfl, rfl⟩)
  | br a iha => intro i j h hj; exact iha i j (Cd_br.1 h) hj
  | oth e he => intro i j h; exact absurd h (Cd_oth he)
  | bin op a b ho iha ihb =>
    intro i j h hj
    obtain ⟨k, l, h1, h2, h3, rfl⟩ := (Cd_bin ho).1 h
    have l1 := h1.lt
    have l2 := h2.lt
    intro S s stp fu a1 a2 a3
    rw [need_bin ho] at a3
    have np := need_pos b
    rw [ev_bin ho]
    rcases iha i k h1 (by omega) S s stp fu a1 a2 (by omega) with ⟨v, fu1, st1, S1, e1, b1, b2, b3, b4, b5⟩ | ⟨e1, S1, b5⟩
    · rcases ihb k l h2 (by omega) S1 (s + 1) st1 fu1 b1 b2 (by omega) with ⟨w, fu2, st2, S2, e2, d1, d2, d3, d4, d5⟩ | ⟨e2, S2, d5⟩
      · obtain ⟨r, f1, f2⟩ := combine_eq (op := op) ho v w
        have hv : S2 s = v := by rw [d4 s (by omega), b3]
        have hr : fRk_combine (nI op) (S2 s) (S2 (s + 1)) = some r := by rw [hv, d3, f1]
        have hx : bin2 (cmb op) (ev W a) (ev W b) = lim r := by simp only [e1, e2, bin2, f2]
        rw [hx, b5, d5]
        rcases run_two (N := N) (q0 := q0) K (by omega) (by omega) (by omega) h3 d1 d2 (by omega) hr with ⟨fu3, st3, S3, g1, g2, g3, g4, g5, g6⟩ | ⟨g1, S3, g6⟩
        · exact .inl ⟨r, fu3, st3, S3, g1, g2, g3, g4, fun k hk => by rw [g5 k hk, d4 k (by omega), b4 k hk], g6⟩
        · exact .inr ⟨g1, S3, g6⟩
      · exact .inr ⟨by simp [e1, e2, bin2], S2, by rw [b5, d5]⟩
    · exact .inr ⟨by simp [e1, bin2], S1, b5⟩
theorem run_stop (K : Cx ln g q1 q3 nw C W u) {i s stp fu : Nat} {S : Nat → Int64} (hi : i < u) (hc : C i = 0) (h1 : stp ≤ i) (h2 : 600 ≤ fu + stp) (hs : s + 1 ≤ 40) : fRk_works_9 N ln q0 q1 q3 nw fu (gS g q0 S) (nI (s + 1)) (nI i) (nI stp) = some (1, gI (gS g q0 S) q0 0 (S s).toInt32) := by
  have h5 := K.f5
  obtain ⟨fu, rfl⟩ : ∃ k, fu = k + 1 := ⟨fu - 1, by omega⟩
  rw [wk_step K hi h1 (cc := 0) hc (by omega), wkB]
  simp only [Nat.zero_div]
  rw [if_neg (show ¬ nI 0 = 1 by decide), if_neg (show ¬ nI 0 = 2 by decide), if_pos (show (1 : Int32) ≤ nI (s + 1) from nI_le (a := 1) (by omega) (by omega)), if_pos (by decide), nI_pred, rd_nI (by omega) (by decide)]
  rfl
/-- a sum's code is gone through -/
theorem worksE (K : Cx ln g q1 q3 nw C W u) (hN : 3000 ≤ N) {e : Ex} {i j : Nat} (h : Cd C nw e i j) (hj : j < u) (hc : C j = 0) (hn : need e ≤ 39) : ∃ S', fRk_works N ln g q0 q1 q3 nw (nI i) = some (match ev W e with | some v => ((1 : Int32), gI (gS g q0 S') q0 0 v.toInt32) | none => (0, gS g q0 S')) := by
  have eg : g = gS g q0 (g.2.1 (q0 + 1)) := by
    refine Prod.ext rfl (Prod.ext ?_ rfl)
    funext p; simp only [gS]; split
    · rename_i h; rw [h]
    · rfl
  unfold fRk_works
  have key := runX (N := N) (q0 := q0) K e i j h (by omega) (g.2.1 (q0 + 1)) 0 0 N (by omega) (by omega) (by omega)
  rw [← eg] at key
  rcases key with ⟨v, fu, stp, S, e1, b1, b2, b3, b4, b5⟩ | ⟨e1, S, b5⟩
  · refine ⟨S, ?_⟩
    rw [show ((0 : Int32)) = nI 0 from rfl, b5, run_stop K hj hc b1 b2 (by omega), e1, b3]
  · refine ⟨S, ?_⟩
    rw [show ((0 : Int32)) = nI 0 from rfl, b5, e1]
    rfl
end
