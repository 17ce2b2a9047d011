/-! ===== the reference goes along a test ===== -/
/-! tests, laid into the same terms: below 11, above 12, same 13: mul, div, rem; brackets: length; not: elem; and: add; or: sub -/
def Tx : Type := Jvm.Term
def Tx.cmp (op : Nat) (a b : Ex) : Tx := if op = 11 then Jvm.Term.mul a b else if op = 12 then Jvm.Term.div a b else Jvm.Term.rem a b
def Tx.par (t : Tx) : Tx := Jvm.Term.length t
def Tx.nots (k : Nat) (t : Tx) : Tx := Jvm.Term.elem (Jvm.Term.arg k) t
def Tx.both (a b : Tx) : Tx := Jvm.Term.add a b
def Tx.alt (a b : Tx) : Tx := Jvm.Term.sub a b
def Tx.is : Jvm.Term → Prop
  | .length _ => True | .elem (.arg _) _ => True | .add _ _ => True | .sub _ _ => True | .mul _ _ => True | .div _ _ => True | .rem _ _ => True | _ => False
theorem Tx.ind {P : Tx → Prop} (cmp : ∀ op a b, op = 11 ∨ op = 12 ∨ op = 13 → P (Tx.cmp op a b)) (par : ∀ t, P t → P (Tx.par t)) (nots : ∀ k t, P t → P (Tx.nots k t)) (both : ∀ a b, P a → P b → P (Tx.both a b)) (alt : ∀ a b, P a → P b → P (Tx.alt a b)) (oth : ∀ t, ¬ Tx.is t → P t) : ∀ t, P t := by
  intro t
  induction t using Jvm.Term.rec with
  | length t ih => exact par t ih
  | add a b ih1 ih2 => exact both a b ih1 ih2
  | sub a b ih1 ih2 => exact alt a b ih1 ih2
  | mul a b _ _ => exact cmp 11 a b (by decide)
  | div a b _ _ => exact cmp 12 a b (by decide)
  | rem a b _ _ => exact cmp 13 a b (by decide)
  | elem k t _ ih =>
    cases k with
    | arg k => exact nots k t ih
    | _ => exact oth _ (fun h => h)
  | _ => exact oth _ (fun h => h)
def cmpB (op : Nat) (x y : Int64) : Bool := if op = 11 then decide (x < y) else if op = 12 then decide (y < x) else decide (x = y)
def binT (f : Int64 → Int64 → Bool) (x y : Option Int64) : Option Bool := match x, y with
  | some p, some q => some (f p q)
  | _, _ => none
def oT (z : Bool) (x y : Option Bool) : Option Bool := match x with
  | none => none
  | some r => if r = z then some z else y
def ev1 (W : Nat → Int32) : Jvm.Term → Option Bool
  | .mul a b => binT (cmpB 11) (ev W a) (ev W b)
  | .div a b => binT (cmpB 12) (ev W a) (ev W b)
  | .rem a b => binT (cmpB 13) (ev W a) (ev W b)
  | .length t => ev1 W t
  | .elem (.arg k) t => (ev1 W t).map (fun r => if k % 2 = 1 then !r else r)
  | .add a b => oT false (ev1 W a) (ev1 W b)
  | .sub a b => oT true (ev1 W a) (ev1 W b)
  | _ => none
def evT (W : Nat → Int32) (t : Tx) : Option Bool := ev1 W t
theorem evT_cmp {W : Nat → Int32} {op : Nat} (h : op = 11 ∨ op = 12 ∨ op = 13) {a b : Ex} : evT W (Tx.cmp op a b) = binT (cmpB op) (ev W a) (ev W b) := by
  rcases h with rfl | rfl | rfl <;> rfl
theorem evT_par {W : Nat → Int32} {t : Tx} : evT W (Tx.par t) = evT W t := rfl
theorem evT_nots {W : Nat → Int32} {k : Nat} {t : Tx} : evT W (Tx.nots k t) = (evT W t).map (fun r => if k % 2 = 1 then !r else r) := rfl
theorem evT_both {W : Nat → Int32} {a b : Tx} : evT W (Tx.both a b) = oT false (evT W a) (evT W b) := rfl
theorem evT_alt {W : Nat → Int32} {a b : Tx} : evT W (Tx.alt a b) = oT true (evT W a) (evT W b) := rfl
def dp1 : Jvm.Term → Nat
  | .length t => dp1 t + 1 | .elem (.arg _) t => dp1 t | .add a b => max (dp1 a) (dp1 b) | .sub a b => max (dp1 a) (dp1 b) | _ => 0
def dpT (t : Tx) : Nat := dp1 t
theorem dpT_par {t : Tx} : dpT (Tx.par t) = dpT t + 1 := rfl
theorem dpT_nots {k : Nat} {t : Tx} : dpT (Tx.nots k t) = dpT t := rfl
theorem dpT_both {a b : Tx} : dpT (Tx.both a b) = max (dpT a) (dpT b) := rfl
theorem dpT_alt {a b : Tx} : dpT (Tx.alt a b) = max (dpT a) (dpT b) := rfl
def ok1 : Jvm.Term → Prop
  | .mul a b => dp a ≤ 9 ∧ dp b ≤ 9 | .div a b => dp a ≤ 9 ∧ dp b ≤ 9 | .rem a b => dp a ≤ 9 ∧ dp b ≤ 9
  | .length t => ok1 t | .elem (.arg _) t => ok1 t | .add a b => ok1 a ∧ ok1 b | .sub a b => ok1 a ∧ ok1 b | _ => True
def okT (t : Tx) : Prop := ok1 t
theorem okT_cmp {op : Nat} (h : op = 11 ∨ op = 12 ∨ op = 13) {a b : Ex} : okT (Tx.cmp op a b) ↔ dp a ≤ 9 ∧ dp b ≤ 9 := by
  rcases h with rfl | rfl | rfl <;> exact Iff.rfl
theorem okT_par {t : Tx} : okT (Tx.par t) ↔ okT t := Iff.rfl
theorem okT_nots {k : Nat} {t : Tx} : okT (Tx.nots k t) ↔ okT t := Iff.rfl
theorem okT_both {a b : Tx} : okT (Tx.both a b) ↔ okT a ∧ okT b := Iff.rfl
theorem okT_alt {a b : Tx} : okT (Tx.alt a b) ↔ okT a ∧ okT b := Iff.rfl
def ctk (op : Nat) : Nat := if op = 11 then 160 else if op = 12 then 162 else 161
def AtX (T V : Nat → Int32) (o : Bool) (op : Nat) (a b : Ex) (L i k : Nat) : Prop := L = 3 ∧ (op = 11 ∨ op = 12 ∨ op = 13) ∧ ∃ j, At T V o a 0 i j ∧ T j = nI (ctk op) ∧ At T V o b 0 (j + 1) k
def At1 (T V : Nat → Int32) (o : Bool) : Jvm.Term → Nat → Nat → Nat → Prop
  | .mul a b, L, i, k => AtX T V o 11 a b L i k
  | .div a b, L, i, k => AtX T V o 12 a b L i k
  | .rem a b, L, i, k => AtX T V o 13 a b L i k
  | .length t, L, i, k => L = 3 ∧ ∃ j, T i = 140 ∧ At1 T V o t 0 (i + 1) j ∧ T j = 141 ∧ k = j + 1
  | .elem (.arg m) t, L, i, k => L ≤ 2 ∧ (∀ x, x < m → T (i + x) = 7) ∧ At1 T V o t 3 (i + m) k
  | .add a b, L, i, k => L ≤ 1 ∧ ∃ j, At1 T V o a 1 i j ∧ T j = 6 ∧ At1 T V o b 2 (j + 1) k
  | .sub a b, L, i, k => L = 0 ∧ ∃ j, At1 T V o a 0 i j ∧ T j = 5 ∧ At1 T V o b 1 (j + 1) k
  | _, _, _, _ => False
def AtT (T V : Nat → Int32) (o : Bool) (t : Tx) (L i j : Nat) : Prop := At1 T V o t L i j
theorem AtT_cmp {T V : Nat → Int32} {o : Bool} {op : Nat} (h : op = 11 ∨ op = 12 ∨ op = 13) {a b : Ex} {L i k : Nat} : AtT T V o (Tx.cmp op a b) L i k ↔ (L = 3 ∧ (op = 11 ∨ op = 12 ∨ op = 13) ∧ ∃ j, At T V o a 0 i j ∧ T j = nI (ctk op) ∧ At T V o b 0 (j + 1) k) := by
  rcases h with rfl | rfl | rfl <;> exact Iff.rfl
theorem AtT_par {T V : Nat → Int32} {o : Bool} {t : Tx} {L i k : Nat} : AtT T V o (Tx.par t) L i k ↔ (L = 3 ∧ ∃ j, T i = 140 ∧ AtT T V o t 0 (i + 1) j ∧ T j = 141 ∧ k = j + 1) := Iff.rfl
theorem AtT_nots {T V : Nat → Int32} {o : Bool} {m : Nat} {t : Tx} {L i k : Nat} : AtT T V o (Tx.nots m t) L i k ↔ (L ≤ 2 ∧ (∀ x, x < m → T (i + x) = 7) ∧ AtT T V o t 3 (i + m) k) := Iff.rfl
theorem AtT_both {T V : Nat → Int32} {o : Bool} {a b : Tx} {L i k : Nat} : AtT T V o (Tx.both a b) L i k ↔ (L ≤ 1 ∧ ∃ j, AtT T V o a 1 i j ∧ T j = 6 ∧ AtT T V o b 2 (j + 1) k) := Iff.rfl
theorem AtT_alt {T V : Nat → Int32} {o : Bool} {a b : Tx} {L i k : Nat} : AtT T V o (Tx.alt a b) L i k ↔ (L = 0 ∧ ∃ j, AtT T V o a 0 i j ∧ T j = 5 ∧ AtT T V o b 1 (j + 1) k) := Iff.rfl
theorem AtT_oth {T V : Nat → Int32} {o : Bool} {t : Tx} (h : ¬ Tx.is t) {L i j : Nat} : ¬ AtT T V o t L i j := by
  intro h1
  cases t with
  | elem k t => cases k <;> first | exact h trivial | exact h1
  | _ => first | exact h trivial | exact h1
theorem AtT.lt {T V : Nat → Int32} {o : Bool} : ∀ {t : Tx} {L i j : Nat}, AtT T V o t L i j → i < j := by
  intro t
  induction t using Tx.ind with
  | cmp op a b ho => intro L i k h; obtain ⟨_, _, j, h1, _, h2⟩ := (AtT_cmp ho).1 h; have := h1.lt; have := h2.lt; omega
  | par t ih => intro L i k h; obtain ⟨_, j, _, h2, _, h3⟩ := AtT_par.1 h; have := ih h2; omega
  | nots m t ih => intro L i k h; obtain ⟨_, _, h2⟩ := AtT_nots.1 h; have := ih h2; omega
  | both a b iha ihb => intro L i k h; obtain ⟨_, j, h1, _, h2⟩ := AtT_both.1 h; have := iha h1; have := ihb h2; omega
  | alt a b iha ihb => intro L i k h; obtain ⟨_, j, h1, _, h2⟩ := AtT_alt.1 h; have := iha h1; have := ihb h2; omega
  | oth t ht => intro L i k h; exact absurd h (AtT_oth ht)
/-- what a part begins with -/
theorem At.first {T V : Nat → Int32} {o : Bool} : ∀ {e : Ex} {L i j : Nat}, At T V o e L i j → T i ≠ 140 ∧ T i ≠ 7 := by
  intro e
  induction e using Ex.ind with
  | num v => intro L i j h; obtain ⟨_, h2, _, rfl⟩ := At_num.1 h; rw [h2]; decide
  | word x =>
    intro L i j h
    simp only [At_word, AtW] at h
    split at h
    · obtain ⟨_, h, _⟩ := h; rw [h]; unfold owc
      split
      · rcases (show x = 0 ∨ x = 1 ∨ x = 2 ∨ x = 3 ∨ x = 4 by omega) with rfl | rfl | rfl | rfl | rfl <;> decide
      · split <;> decide
    · obtain ⟨hx, h, _⟩ := h; rw [h]
      rcases (show x = 0 ∨ x = 1 ∨ x = 2 ∨ x = 3 ∨ x = 4 ∨ x = 5 ∨ x = 6 ∨ x = 7 by omega) with rfl | rfl | rfl | rfl | rfl | rfl | rfl | rfl <;> decide
  | bin op a b ho iha ihb =>
    intro L i k h
    obtain ⟨j, _, h⟩ := (At_bin ho).1 h
    rcases h with ⟨_, _, h1, h2⟩ | ⟨_, _, h1, h2⟩ <;> exact iha h1
  | br a iha => intro L i k h; obtain ⟨j, h2, _⟩ := At_br.1 h; rw [h2]; decide
  | oth e he => intro L i k h; exact absurd h (At_oth he)
def stopS (c : Int32) : Prop := ¬ isMul c ∧ ¬ isAdd c
def Rt (live b : Int32) (x : Option Bool) (v b' : Int32) : Prop := (live = 0 → b' = b) ∧ (b = 1 → b' = 1) ∧ (live = 1 → b = 0 → (x = none ∧ b' = 1) ∨ (x = some (decide (v = 1)) ∧ b' = 0))
section
variable {N : Nat} {μ : sw_m} {T V W : Nat → Int32} {o : Bool} {n : Nat}
def PosM (N d : Nat) (μ : sw_m) (W : Nat → Int32) (t : Tx) (i j : Nat) : Prop := ∀ live b, tv live → tv b → ∃ v b', fMo_positiveOf N (fMo_testOf N d) (st μ (nI i) b) live = some (v, st μ (nI j) b') ∧ tv v ∧ tv b' ∧ Rt live b (evT W t) v b'
def PlainM (N d : Nat) (μ : sw_m) (W : Nat → Int32) (t : Tx) (i j : Nat) : Prop := ∀ live b, tv live → tv b → ∃ v b', fMo_plainOf N (fMo_testOf N d) (st μ (nI i) b) live = some (v, st μ (nI j) b') ∧ tv v ∧ tv b' ∧ Rt live b (evT W t) v b'
def BothM (N d : Nat) (μ : sw_m) (W : Nat → Int32) (t : Tx) (i j : Nat) : Prop := ∀ live b, tv live → tv b → ∃ fu v b', N ≤ fu + (j - i) ∧ fMo_bothOf N (fMo_testOf N d) (st μ (nI i) b) live = fMo_bothOf_6 N (fMo_testOf N d) fu (st μ (nI j) b') live v ∧ tv v ∧ tv b' ∧ Rt live b (evT W t) v b'
def TestM (N d : Nat) (μ : sw_m) (W : Nat → Int32) (t : Tx) (i j : Nat) : Prop := ∀ live b, tv live → tv b → ∃ fu v b', N ≤ fu + (j - i) ∧ fMo_testOf_b N (fMo_testOf N d) (st μ (nI i) b) live = fMo_testOf_b_6 N (fMo_testOf N d) fu (st μ (nI j) b') live v ∧ tv v ∧ tv b' ∧ Rt live b (evT W t) v b'
theorem PlainM.both {d : Nat} {t : Tx} {i j : Nat} (h : PlainM N d μ W t i j) : BothM N d μ W t i j := by
  intro live b hl hb
  obtain ⟨v, b', h1, h2, h3, h4⟩ := h live b hl hb
  exact ⟨N, v, b', by omega, by unfold fMo_bothOf; rw [h1]; rfl, h2, h3, h4⟩
theorem bothEnd (C : Cm N μ T V W o n) {d j fu : Nat} {b live v : Int32} (hv : tv v) (hj : j ≤ 2800) (hm : T j ≠ 6) : fMo_bothOf_6 N (fMo_testOf N d) (fu + 1) (st μ (nI j) b) live v = some (v, st μ (nI j) b) := by
  rw [fMo_bothOf_6, passes0_st C b hj, if_neg hm]
  simp only [Option.bind_some, if_true, tz]
  exact if_pos hv
theorem testEnd (C : Cm N μ T V W o n) {d j fu : Nat} {b live v : Int32} (hv : tv v) (hj : j ≤ 2800) (hm : T j ≠ 5) : fMo_testOf_b_6 N (fMo_testOf N d) (fu + 1) (st μ (nI j) b) live v = some (v, st μ (nI j) b) := by
  rw [fMo_testOf_b_6, passes0_st C b hj, if_neg hm]
  simp only [Option.bind_some, if_true, tz]
  exact if_pos hv
theorem BothM.test (C : Cm N μ T V W o n) (hN : 3000 ≤ N) {d : Nat} {t : Tx} {i j : Nat} (h : BothM N d μ W t i j) (hj : j ≤ 2800) (hm : T j ≠ 6) : TestM N d μ W t i j := by
  intro live b hl hb
  obtain ⟨fu, v, b', h0, h1, h2, h3, h4⟩ := h live b hl hb
  obtain ⟨fu, rfl⟩ : ∃ k, fu = k + 1 := ⟨fu - 1, by omega⟩
  exact ⟨N, v, b', by omega, by unfold fMo_testOf_b; rw [h1, bothEnd C h2 hj hm]; rfl, h2, h3, h4⟩
theorem TestM.ret (C : Cm N μ T V W o n) (hN : 3000 ≤ N) {d : Nat} {t : Tx} {i j : Nat} (h : TestM N d μ W t i j) (hj : j ≤ 2800) (hm : T j ≠ 5) (live b : Int32) (hl : tv live) (hb : tv b) : ∃ v b', fMo_testOf N (d + 1) (st μ (nI i) b) live = some (v, st μ (nI j) b') ∧ tv v ∧ tv b' ∧ Rt live b (evT W t) v b' := by
  obtain ⟨fu, v, b', h0, h1, h2, h3, h4⟩ := h live b hl hb
  obtain ⟨fu, rfl⟩ : ∃ k, fu = k + 1 := ⟨fu - 1, by omega⟩
  exact ⟨v, b', by rw [fMo_testOf, h1, testEnd C h2 hj hm], h2, h3, h4⟩
theorem pos_cmp (C : Cm N μ T V W o n) (hN : 3000 ≤ N) {d i j k op : Nat} {a b : Ex} (hk : k ≤ 2800) (ho : op = 11 ∨ op = 12 ∨ op = 13) (da : dp a ≤ 9) (db : dp b ≤ 9) (ha : At T V o a 0 i j) (hT : T j = nI (ctk op)) (hb : At T V o b 0 (j + 1) k) (hs : stopS (T k)) : PosM N d μ W (.cmp op a b) i k := by
  intro live b0 hl hb0
  have l1 := ha.lt
  have l2 := hb.lt
  obtain ⟨v, b1, h1, h2, h3⟩ := sumM C hN da (by omega) ha (by rw [hT]; rcases ho with rfl | rfl | rfl <;> unfold isMul <;> decide) (by rw [hT]; rcases ho with rfl | rfl | rfl <;> unfold isAdd <;> decide) live b0 hl hb0
  obtain ⟨w, b2, h4, h5, h6⟩ := sumM C hN db hk hb hs.1 hs.2 live b1 hl h2
  unfold fMo_positiveOf
  simp only [fMo_sign, Option.bind_some, show (100 : Int32) + 40 = 140 from rfl, passes0_st C b0 (show i ≤ 2800 by omega), if_neg ha.first.1, if_true, h1, st_22, codeAt_st C b1 (show j ≤ 2800 by omega), nm, st_w22, nI_1, h4, st_24, cmp_ge, cmp_le, cmp_eq, hT]
  rcases hl with rfl | rfl
  · exact ⟨0, b2, by simp, .inl rfl, h5, fun _ => by rw [h6.1 rfl, h3.1 rfl], fun h => h6.2.1 (h3.2.1 h), by simp⟩
  · rw [if_neg (by decide)]
    rcases h5 with rfl | rfl
    · rw [if_pos rfl]
      have key : b0 = 0 → ev W a = some v ∧ ev W b = some w := by
        intro h
        rcases h3.2.2 rfl h with ⟨_, e⟩ | ⟨e1, e2⟩
        · have := h6.2.1 e; simp at this
        · rcases h6.2.2 rfl e2 with ⟨_, e⟩ | ⟨e3, _⟩
          · simp at e
          · exact ⟨e1, e3⟩
      have fin : ∀ r : Int32, tv r → (cmpB op v w = decide (r = 1)) → ∃ v b', some (r, st μ (nI k) 0) = some (v, st μ (nI k) b') ∧ tv v ∧ tv b' ∧ Rt 1 b0 (evT W (.cmp op a b)) v b' := by
        intro r hr hc
        refine ⟨r, 0, rfl, hr, .inl rfl, by simp, fun h => h6.2.1 (h3.2.1 h), fun _ h => .inr ⟨?_, rfl⟩⟩
        obtain ⟨e1, e2⟩ := key h
        simp [evT_cmp ho, binT, e1, e2, hc]
      rcases ho with rfl | rfl | rfl
      · rw [if_pos (by decide)]
        split
        · exact fin 0 (.inl rfl) (by simp [cmpB]; assumption)
        · exact fin 1 (.inr rfl) (by simp [cmpB]; grind)
      · rw [if_neg (by decide), if_pos (by decide)]
        split
        · exact fin 0 (.inl rfl) (by simp [cmpB]; assumption)
        · exact fin 1 (.inr rfl) (by simp [cmpB]; grind)
      · rw [if_neg (by decide), if_neg (by decide)]
        split
        · exact fin 1 (.inr rfl) (by simp [cmpB]; assumption)
        · exact fin 0 (.inl rfl) (by simp [cmpB]; assumption)
    · rw [if_neg (by decide)]
      refine ⟨0, 1, rfl, .inl rfl, .inr rfl, by simp, by simp, fun _ h => .inl ⟨?_, rfl⟩⟩
      rcases h3.2.2 rfl h with ⟨e1, e2⟩ | ⟨e1, e2⟩
      · simp [evT_cmp ho, binT, e1]
      · rcases h6.2.2 rfl e2 with ⟨e3, _⟩ | ⟨_, e⟩
        · simp [evT_cmp ho, binT, e1, e3]
        · simp at e
theorem pos_par (C : Cm N μ T V W o n) (hN : 3000 ≤ N) {d i j : Nat} {t : Tx} (hj : j + 1 ≤ 2800) (hi : i ≤ 2800) (h0 : T i = 140) (h1 : T j = 141) (h : TestM N d μ W t (i + 1) j) : PosM N (d + 1) μ W (.par t) i (j + 1) := by
  intro live b hl hb
  obtain ⟨v, b', h2, h3, h4, h5⟩ := h.ret C hN (by omega) (by rw [h1]; decide) live b hl hb
  refine ⟨v, b', ?_, h3, h4, h5⟩
  unfold fMo_positiveOf
  simp only [fMo_sign, Option.bind_some, show (100 : Int32) + 40 = 140 from rfl, passes0_st C b hi, h0, if_true, show ¬ ((1 : Int32) = 0) by decide, if_false, h2, nm, st_22, st_w22, nI_1, tz]
  exact if_pos h3
theorem AtT.pos7 {t : Tx} {i j : Nat} (h : AtT T V o t 3 i j) : T i ≠ 7 := by
  induction t using Tx.ind with
  | cmp op a b ho => obtain ⟨_, _, j, h1, _⟩ := (AtT_cmp ho).1 h; exact h1.first.2
  | par t _ => obtain ⟨_, j, h, _⟩ := AtT_par.1 h; rw [h]; decide
  | nots m t _ => obtain ⟨h, _⟩ := AtT_nots.1 h; omega
  | both a b _ _ => obtain ⟨h, _⟩ := AtT_both.1 h; omega
  | alt a b _ _ => obtain ⟨h, _⟩ := AtT_alt.1 h; omega
  | oth t ht => exact absurd h (AtT_oth ht)
theorem plain_nots (C : Cm N μ T V W o n) {d : Nat} {t : Tx} {k : Nat} (hk : k ≤ 2800) {p : Nat} (hp : PosM N d μ W t p k) (h7 : T p ≠ 7) (hpk : p < k) : ∀ (m : Nat) (i fu : Nat) (u : Int32), i + m = p → m < fu → tv u → (∀ x, x < m → T (i + x) = 7) → ∀ live b, tv live → tv b → ∃ v b', fMo_plainOf_2 N (fMo_testOf N d) fu (st μ (nI i) b) live u = some (v, st μ (nI k) b') ∧ tv v ∧ tv b' ∧ Rt live b ((evT W t).map (fun r => if (m % 2 = 1) ≠ (u = 1) then !r else r)) v b' := by
  intro m
  induction m with
  | zero =>
    intro i fu u hi hf hu _ live b hl hb
    obtain ⟨fu, rfl⟩ : ∃ k, fu = k + 1 := ⟨fu - 1, by omega⟩
    obtain ⟨v, b', h1, h2, h3, h4⟩ := hp live b hl hb
    have hip : i = p := by omega
    subst hip
    rw [fMo_plainOf_2, passes0_st C b (by omega), if_neg h7]
    simp only [Option.bind_some, if_true, h1]
    have mk : ∀ r : Int32, tv r → (∀ q : Bool, q = decide (v = 1) → (if u = 1 then !q else q) = decide (r = 1)) → ∃ v b'_1, some (r, st μ (nI k) b') = some (v, st μ (nI k) b'_1) ∧ tv v ∧ tv b'_1 ∧ Rt live b ((evT W t).map (fun r => if (0 % 2 = 1) ≠ (u = 1) then !r else r)) v b'_1 := by
      intro r hr hq
      refine ⟨r, b', rfl, hr, h3, h4.1, h4.2.1, fun a1 a2 => ?_⟩
      rcases h4.2.2 a1 a2 with ⟨e1, e2⟩ | ⟨e1, e2⟩
      · exact .inl ⟨by rw [e1]; rfl, e2⟩
      · refine .inr ⟨?_, e2⟩
        rw [e1]
        have := hq _ rfl
        simp only [Option.map_some, Option.some.injEq]
        rw [← this]
        simp
    rcases hu with rfl | rfl <;> rcases h2 with rfl | rfl <;> simp only [if_true, show ¬ ((1 : Int32) = 0) by decide, show ¬ ((0 : Int32) = 1) by decide, if_false]
    · exact mk 0 (.inl rfl) (by simp)
    · exact mk 1 (.inr rfl) (by simp)
    · exact mk 1 (.inr rfl) (by simp)
    · exact mk 0 (.inl rfl) (by simp)
  | succ m ih =>
    intro i fu u hi hf hu h live b hl hb
    obtain ⟨fu, rfl⟩ : ∃ k, fu = k + 1 := ⟨fu - 1, by omega⟩
    rw [fMo_plainOf_2, passes0_st C b (by omega), if_pos (show T i = 7 from h 0 (by omega))]
    simp only [Option.bind_some, show ¬ ((1 : Int32) = 0) by decide, if_false]
    have h' : ∀ x, x < m → T (i + 1 + x) = 7 := fun x hx => by have := h (x + 1) (by omega); rwa [show i + 1 + x = i + (x + 1) by omega]
    have e1 : ((m + 1) % 2 = 1) = ¬ (m % 2 = 1) := by simp; omega
    rcases hu with rfl | rfl
    · rw [if_pos rfl]
      obtain ⟨v, b', h1, h2, h3, h4⟩ := ih (i + 1) fu 1 (by omega) (by omega) (.inr rfl) h' live b hl hb
      refine ⟨v, b', h1, h2, h3, ?_⟩
      rcases Nat.mod_two_eq_zero_or_one m with q | q
      · have q' : (m + 1) % 2 = 1 := by omega
        simpa [q, q'] using h4
      · have q' : (m + 1) % 2 = 0 := by omega
        simpa [q, q'] using h4
    · rw [if_neg (by decide)]
      obtain ⟨v, b', h1, h2, h3, h4⟩ := ih (i + 1) fu 0 (by omega) (by omega) (.inl rfl) h' live b hl hb
      refine ⟨v, b', h1, h2, h3, ?_⟩
      rcases Nat.mod_two_eq_zero_or_one m with q | q
      · have q' : (m + 1) % 2 = 1 := by omega
        simpa [q, q'] using h4
      · have q' : (m + 1) % 2 = 0 := by omega
        simpa [q, q'] using h4
theorem both_and (C : Cm N μ T V W o n) (hN : 3000 ≤ N) {d i j k : Nat} {a b : Tx} (hk : k ≤ 2800) (hij : i < j) (hjk : j < k) (hT : T j = 6) (ha : BothM N d μ W a i j) (hb : PlainM N d μ W b (j + 1) k) : BothM N d μ W (.both a b) i k := by
  intro live b0 hl hb0
  obtain ⟨fu, v, b1, h1, h2, h3, h4, h5⟩ := ha live b0 hl hb0
  obtain ⟨fu, rfl⟩ : ∃ k, fu = k + 1 := ⟨fu - 1, by omega⟩
  rw [fMo_bothOf_6, passes0_st C b1 (by omega), if_pos hT] at h2
  simp only [Option.bind_some, show ¬ ((1 : Int32) = 0) by decide, if_false] at h2
  obtain ⟨lv, hlv, e0, e1, h2⟩ : ∃ lv, tv lv ∧ (live = 0 → lv = 0) ∧ (live = 1 → lv = v) ∧ fMo_bothOf N (fMo_testOf N d) (st μ (nI i) b0) live = fMo_bothOf_29 N (fMo_testOf N d) (fMo_bothOf_6 N (fMo_testOf N d) fu) (st μ (nI (j + 1)) b1) live v lv := by
    rcases hl with rfl | rfl
    · exact ⟨0, .inl rfl, by simp, by simp, by simpa using h2⟩
    · rcases h3 with rfl | rfl
      · exact ⟨0, .inl rfl, by simp, by simp, by simpa using h2⟩
      · exact ⟨1, .inr rfl, by simp, by simp, by simpa using h2⟩
  obtain ⟨w, b2, q1, q2, q3, q4⟩ := hb lv b1 hlv h4
  unfold fMo_bothOf_29 at h2
  rw [q1] at h2
  simp only [Option.bind_some] at h2
  have mk : ∀ r : Int32, tv r → (v = 0 → r = 0) → (v = 1 → r = w) → fMo_bothOf N (fMo_testOf N d) (st μ (nI i) b0) live = fMo_bothOf_6 N (fMo_testOf N d) fu (st μ (nI k) b2) live r → ∃ fu v b', N ≤ fu + (k - i) ∧ fMo_bothOf N (fMo_testOf N d) (st μ (nI i) b0) live = fMo_bothOf_6 N (fMo_testOf N d) fu (st μ (nI k) b') live v ∧ tv v ∧ tv b' ∧ Rt live b0 (evT W (.both a b)) v b' := by
    intro r hr r0 r1 he
    refine ⟨fu, r, b2, by omega, he, hr, q3, fun h => by rw [q4.1 (e0 h), h5.1 h], fun h => q4.2.1 (h5.2.1 h), fun h h0 => ?_⟩
    rcases h5.2.2 h h0 with ⟨x1, x2⟩ | ⟨x1, x2⟩
    · exact .inl ⟨by simp [evT_both, oT, x1], q4.2.1 x2⟩
    · rcases h3 with rfl | rfl
      · refine .inr ⟨by simp [evT_both, oT, x1, r0], ?_⟩
        rw [q4.1 (e1 h), x2]
      · simp only [evT_both, oT, x1]
        rw [r1 rfl]
        rcases q4.2.2 (e1 h) x2 with ⟨y1, y2⟩ | ⟨y1, y2⟩
        · exact .inl ⟨by simpa using y1, y2⟩
        · exact .inr ⟨by simpa using y1, y2⟩
  rcases h3 with rfl | rfl
  · rw [if_pos rfl] at h2; exact mk 0 (.inl rfl) (by simp) (by simp) h2
  · rw [if_neg (by decide)] at h2
    rcases q2 with rfl | rfl
    · rw [if_pos rfl] at h2; exact mk 0 (.inl rfl) (by simp) (by simp) h2
    · rw [if_neg (by decide)] at h2; exact mk 1 (.inr rfl) (by simp) (by simp) h2
theorem test_or (C : Cm N μ T V W o n) (hN : 3000 ≤ N) {d i j k : Nat} {a b : Tx} (hk : k ≤ 2800) (hij : i < j) (hjk : j < k) (hT : T j = 5) (hk6 : T k ≠ 6) (ha : TestM N d μ W a i j) (hb : BothM N d μ W b (j + 1) k) : TestM N d μ W (.alt a b) i k := by
  intro live b0 hl hb0
  obtain ⟨fu, v, b1, h1, h2, h3, h4, h5⟩ := ha live b0 hl hb0
  obtain ⟨fu, rfl⟩ : ∃ k, fu = k + 1 := ⟨fu - 1, by omega⟩
  rw [fMo_testOf_b_6, passes0_st C b1 (by omega), if_pos hT] at h2
  simp only [Option.bind_some, show ¬ ((1 : Int32) = 0) by decide, if_false] at h2
  obtain ⟨lv, hlv, e0, e1, h2⟩ : ∃ lv, tv lv ∧ (live = 0 → lv = 0) ∧ (live = 1 → lv = 1 - v) ∧ fMo_testOf_b N (fMo_testOf N d) (st μ (nI i) b0) live = fMo_testOf_b_28 N (fMo_testOf N d) (fMo_testOf_b_6 N (fMo_testOf N d) fu) (st μ (nI (j + 1)) b1) live v lv := by
    rcases hl with rfl | rfl
    · exact ⟨0, .inl rfl, by simp, by simp, by simpa using h2⟩
    · rcases h3 with rfl | rfl
      · exact ⟨1, .inr rfl, by simp, by simp, by simpa using h2⟩
      · exact ⟨0, .inl rfl, by simp, by simp, by simpa using h2⟩
  obtain ⟨fu2, w, b2, q0, q1, q2, q3, q4⟩ := hb lv b1 hlv h4
  obtain ⟨fu2, rfl⟩ : ∃ k, fu2 = k + 1 := ⟨fu2 - 1, by omega⟩
  rw [bothEnd C q2 hk hk6] at q1
  unfold fMo_testOf_b_28 at h2
  rw [q1] at h2
  simp only [Option.bind_some] at h2
  have mk : ∀ r : Int32, tv r → (v = 1 → r = 1) → (v = 0 → r = w) → fMo_testOf_b N (fMo_testOf N d) (st μ (nI i) b0) live = fMo_testOf_b_6 N (fMo_testOf N d) fu (st μ (nI k) b2) live r → ∃ fu v b', N ≤ fu + (k - i) ∧ fMo_testOf_b N (fMo_testOf N d) (st μ (nI i) b0) live = fMo_testOf_b_6 N (fMo_testOf N d) fu (st μ (nI k) b') live v ∧ tv v ∧ tv b' ∧ Rt live b0 (evT W (.alt a b)) v b' := by
    intro r hr r0 r1 he
    refine ⟨fu, r, b2, by omega, he, hr, q3, fun h => by rw [q4.1 (e0 h), h5.1 h], fun h => q4.2.1 (h5.2.1 h), fun h h0 => ?_⟩
    rcases h5.2.2 h h0 with ⟨x1, x2⟩ | ⟨x1, x2⟩
    · exact .inl ⟨by simp [evT_alt, oT, x1], q4.2.1 x2⟩
    · rcases h3 with rfl | rfl
      · simp only [evT_alt, oT, x1]
        rw [r1 rfl]
        rcases q4.2.2 (e1 h) x2 with ⟨y1, y2⟩ | ⟨y1, y2⟩
        · exact .inl ⟨by simpa using y1, y2⟩
        · exact .inr ⟨by simpa using y1, y2⟩
      · refine .inr ⟨by simp [evT_alt, oT, x1, r0], ?_⟩
        rw [q4.1 (e1 h), x2]
  rcases h3 with rfl | rfl
  · rw [if_pos rfl] at h2
    rcases q2 with rfl | rfl
    · rw [if_pos rfl] at h2; exact mk 0 (.inl rfl) (by simp) (by simp) h2
    · rw [if_neg (by decide)] at h2; exact mk 1 (.inr rfl) (by simp) (by simp) h2
  · rw [if_neg (by decide)] at h2; exact mk 1 (.inr rfl) (by simp) (by simp) h2
theorem evTM (C : Cm N μ T V W o n) (hN : 3000 ≤ N) : ∀ (t : Tx) (d : Nat), dpT t ≤ d → okT t → ∀ i j, j ≤ 2800 → stopS (T j) → (AtT T V o t 3 i j → PosM N d μ W t i j) ∧ (AtT T V o t 2 i j → PlainM N d μ W t i j) ∧ (AtT T V o t 1 i j → BothM N d μ W t i j) ∧ (AtT T V o t 0 i j → T j ≠ 6 → TestM N d μ W t i j) := by
  intro t
  induction t using Tx.ind with
  | cmp op a b ho =>
    intro d _ ok i k hk hs
    have ok := (okT_cmp ho).1 ok
    refine ⟨?_, ?_, ?_, ?_⟩
    · intro h
      obtain ⟨_, h1, j, h2, h3, h4⟩ := (AtT_cmp ho).1 h
      exact pos_cmp C hN hk h1 ok.1 ok.2 h2 h3 h4 hs
    all_goals intro h; have := ((AtT_cmp ho).1 h).1; omega
  | par t ih =>
    intro d hd ok i k hk hs
    rw [dpT_par] at hd
    obtain ⟨d, rfl⟩ : ∃ x, d = x + 1 := ⟨d - 1, by omega⟩
    refine ⟨?_, ?_, ?_, ?_⟩
    · intro h
      obtain ⟨_, j, h1, h2, h3, rfl⟩ := AtT_par.1 h
      have := h2.lt
      exact pos_par C hN hk (by omega) h1 h3 ((ih d (by omega) (okT_par.1 ok) (i + 1) j (by omega) (by rw [h3]; unfold stopS isMul isAdd; decide)).2.2.2 h2 (by rw [h3]; decide))
    all_goals intro h; have := (AtT_par.1 h).1; omega
  | nots m t ih =>
    intro d hd ok i k hk hs
    rw [dpT_nots] at hd
    have hp : ∀ L, AtT T V o (.nots m t) L i k → PlainM N d μ W (.nots m t) i k := by
      intro L h
      obtain ⟨_, h1, h2⟩ := AtT_nots.1 h
      have := h2.lt
      intro live b hl hb
      have := plain_nots C hk ((ih d hd (okT_nots.1 ok) (i + m) k hk hs).1 h2) h2.pos7 (by omega) m i N 0 rfl (by omega) (.inl rfl) h1 live b hl hb
      simpa [fMo_plainOf, evT_nots] using this
    exact ⟨fun h => by have := (AtT_nots.1 h).1; omega, hp 2, fun h => (hp 1 h).both, fun h h6 => (hp 0 h).both.test C hN hk h6⟩
  | both a b iha ihb =>
    intro d hd ok i k hk hs
    rw [dpT_both] at hd
    have ok := okT_both.1 ok
    have hp : ∀ L, AtT T V o (.both a b) L i k → BothM N d μ W (.both a b) i k := by
      intro L h
      obtain ⟨_, j, h1, h2, h3⟩ := AtT_both.1 h
      have := h1.lt; have := h3.lt
      exact both_and C hN hk (by omega) (by omega) h2 ((iha d (by omega) ok.1 i j (by omega) (by rw [h2]; unfold stopS isMul isAdd; decide)).2.2.1 h1) ((ihb d (by omega) ok.2 (j + 1) k hk hs).2.1 h3)
    exact ⟨fun h => by have := (AtT_both.1 h).1; omega, fun h => by have := (AtT_both.1 h).1; omega, hp 1, fun h h6 => (hp 0 h).test C hN hk h6⟩
  | alt a b iha ihb =>
    intro d hd ok i k hk hs
    rw [dpT_alt] at hd
    have ok := okT_alt.1 ok
    refine ⟨fun h => by have := (AtT_alt.1 h).1; omega, fun h => by have := (AtT_alt.1 h).1; omega, fun h => by have := (AtT_alt.1 h).1; omega, ?_⟩
    intro h h6
    obtain ⟨_, j, h1, h2, h3⟩ := AtT_alt.1 h
    have := h1.lt; have := h3.lt
    exact test_or C hN hk (by omega) (by omega) h2 h6 ((iha d (by omega) ok.1 i j (by omega) (by rw [h2]; unfold stopS isMul isAdd; decide)).2.2.2 h1 (by rw [h2]; decide)) ((ihb d (by omega) ok.2 (j + 1) k hk hs).2.2.1 h3)
  | oth t ht => intro d _ _ i j _ _; exact ⟨fun h => absurd h (AtT_oth ht), fun h => absurd h (AtT_oth ht), fun h => absurd h (AtT_oth ht), fun h => absurd h (AtT_oth ht)⟩
theorem testM (C : Cm N μ T V W o n) (hN : 3000 ≤ N) {t : Tx} (hd : dpT t ≤ 9) (ok : okT t) {i j : Nat} (hj : j ≤ 2800) (h : AtT T V o t 0 i j) (hs : stopS (T j)) (h6 : T j ≠ 6) (h5 : T j ≠ 5) (live b : Int32) (hl : tv live) (hb : tv b) : ∃ v b', fMo_testOf N 10 (st μ (nI i) b) live = some (v, st μ (nI j) b') ∧ tv v ∧ tv b' ∧ Rt live b (evT W t) v b' :=
  ((evTM C hN t 9 hd ok i j hj hs).2.2.2 h h6).ret C hN hj h5 live b hl hb
end
