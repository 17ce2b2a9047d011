/-! ===== PURE: numbers, memories ===== -/
theorem lt31 {n m : Nat} (h : n ≤ m) (hm : m < 2147483648 := by decide) : n < 2 ^ 31 := by omega
theorem rd_nI {α β : Type} {n c : Nat} {f : Nat → α} {k : α → Option β} (h : c < n) (hn : n < 2 ^ 31) : rd n (nI c) f k = k (f c) := by
  unfold rd; rw [if_neg (nI_in h hn), nI_clamp (by omega)]
theorem wr_nI {α β : Type} {n c : Nat} {f : Nat → α} {k : α → Option β} (h : c < n) (hn : n < 2 ^ 31) : wr n (nI c) f k = k (f c) := by
  unfold wr; rw [if_neg (nI_in h hn), nI_clamp (by omega)]
theorem cmp_gt {x y : Int64} : (0 < lg_cmp x y) = (y < x) := by
  unfold lg_cmp; split
  · rename_i h; simp; exact h
  · rename_i h; split <;> simp <;> grind
theorem cmp_ge {x y : Int64} : (0 ≤ lg_cmp x y) = (y ≤ x) := by
  unfold lg_cmp; split
  · rename_i h; simp; grind
  · rename_i h; split <;> simp <;> grind
theorem cmp_le {x y : Int64} : (lg_cmp x y ≤ 0) = (x ≤ y) := by
  unfold lg_cmp; split
  · rename_i h; simp; grind
  · rename_i h; split <;> simp <;> grind
theorem cmp_eq {x y : Int64} : (lg_cmp x y = 0) = (x = y) := by
  unfold lg_cmp; split
  · rename_i h; simp; grind
  · rename_i h; split <;> simp <;> grind
/-- the state of the one who goes along a text: where, whether broken -/
def st (μ : sw_m) (i b : Int32) : sw_m := mI (mI μ 84 22 i) 84 24 b
theorem st_22 {μ : sw_m} {i b : Int32} : (st μ i b).1 84 22 = i := by simp [st, mI, sw_u]
theorem st_24 {μ : sw_m} {i b : Int32} : (st μ i b).1 84 24 = b := by simp [st, mI, sw_u]
theorem st_23 {μ : sw_m} {i b : Int32} : (st μ i b).1 84 23 = μ.1 84 23 := by simp [st, mI, sw_u]
theorem st_25 {μ : sw_m} {i b : Int32} : (st μ i b).1 84 25 = μ.1 84 25 := by simp [st, mI, sw_u]
theorem st_86 {μ : sw_m} {i b : Int32} : (st μ i b).1 86 = μ.1 86 := by funext k; simp [st, mI, sw_u]
theorem st_96 {μ : sw_m} {i b : Int32} : (st μ i b).1 96 = μ.1 96 := by funext k; simp [st, mI, sw_u]
theorem st_w22 {μ : sw_m} {i b c : Int32} : mI (st μ i b) 84 22 c = st μ c b := by
  simp only [st, mI, Prod.mk.injEq, and_true]; funext p k; simp only [sw_u]; split <;> split <;> simp_all
theorem st_w24 {μ : sw_m} {i b c : Int32} : mI (st μ i b) 84 24 c = st μ i c := by
  simp only [st, mI, Prod.mk.injEq, and_true]; funext p k; simp only [sw_u]; split
  · rfl
  · rfl
theorem st_self (μ : sw_m) : st μ (μ.1 84 22) (μ.1 84 24) = μ := by
  simp only [st, mI]; refine Prod.ext ?_ rfl; funext p k; simp only [sw_u]; split
  · rename_i h; rw [h.1, h.2]
  · split
    · rename_i h; rw [h.1, h.2]
    · rfl
/-! ===== SUMS and TESTS: laid into terms (number: arg, word: index, brackets: length, + - * / %: add sub mul div rem) ===== -/
def Ex : Type := Jvm.Term
def Ex.num (v : Nat) : Ex := Jvm.Term.arg v
def Ex.word (x : Nat) : Ex := Jvm.Term.index x
def Ex.bin (op : Nat) (a b : Ex) : Ex := if op = 6 then Jvm.Term.add a b else if op = 7 then Jvm.Term.sub a b else if op = 8 then Jvm.Term.mul a b else if op = 9 then Jvm.Term.div a b else Jvm.Term.rem a b
def Ex.br (a : Ex) : Ex := Jvm.Term.length a
def Ex.is : Jvm.Term → Prop
  | .arg _ => True | .index _ => True | .length _ => True | .add _ _ => True | .sub _ _ => True | .mul _ _ => True | .div _ _ => True | .rem _ _ => True | _ => False
theorem Ex.ind {P : Ex → Prop} (num : ∀ v, P (Ex.num v)) (word : ∀ x, P (Ex.word x)) (bin : ∀ op a b, (op = 6 ∨ op = 7 ∨ op = 8 ∨ op = 9 ∨ op = 10) → P a → P b → P (Ex.bin op a b)) (br : ∀ a, P a → P (Ex.br a)) (oth : ∀ e, ¬ Ex.is e → P e) : ∀ e, P e := by
  intro e
  induction e using Jvm.Term.rec with
  | arg v => exact num v
  | index x => exact word x
  | length t ih => exact br t ih
  | add a b ih1 ih2 => exact bin 6 a b (by decide) ih1 ih2
  | sub a b ih1 ih2 => exact bin 7 a b (by decide) ih1 ih2
  | mul a b ih1 ih2 => exact bin 8 a b (by decide) ih1 ih2
  | div a b ih1 ih2 => exact bin 9 a b (by decide) ih1 ih2
  | rem a b ih1 ih2 => exact bin 10 a b (by decide) ih1 ih2
  | _ => exact oth _ (fun h => h)
def lim (c : Int64) : Option Int64 := if 1000000000 < c ∨ c < -1000000000 then none else some c
def cmb (op : Nat) (a b : Int64) : Option Int64 := if op = 6 then lim (a + b) else if op = 7 then lim (a - b) else if op = 8 then lim (a * b) else if b = 0 then none else if op = 9 then lim (a / b) else lim (a - a / b * b)
def bin2 (f : Int64 → Int64 → Option Int64) (x y : Option Int64) : Option Int64 := match x, y with
  | some p, some q => f p q
  | _, _ => none
def ev0 (W : Nat → Int32) : Jvm.Term → Option Int64
  | .arg v => some (nI v).toInt64
  | .index x => some (W x).toInt64
  | .add a b => bin2 (cmb 6) (ev0 W a) (ev0 W b)
  | .sub a b => bin2 (cmb 7) (ev0 W a) (ev0 W b)
  | .mul a b => bin2 (cmb 8) (ev0 W a) (ev0 W b)
  | .div a b => bin2 (cmb 9) (ev0 W a) (ev0 W b)
  | .rem a b => bin2 (cmb 10) (ev0 W a) (ev0 W b)
  | .length a => ev0 W a
  | _ => none
def ev (W : Nat → Int32) (e : Ex) : Option Int64 := ev0 W e
theorem ev_num {W : Nat → Int32} {v : Nat} : ev W (.num v) = some (nI v).toInt64 := rfl
theorem ev_word {W : Nat → Int32} {x : Nat} : ev W (.word x) = some (W x).toInt64 := rfl
theorem ev_br {W : Nat → Int32} {a : Ex} : ev W (.br a) = ev W a := rfl
theorem ev_bin {W : Nat → Int32} {op : Nat} (h : op = 6 ∨ op = 7 ∨ op = 8 ∨ op = 9 ∨ op = 10) {a b : Ex} : ev W (.bin op a b) = bin2 (cmb op) (ev W a) (ev W b) := by
  rcases h with rfl | rfl | rfl | rfl | rfl <;> rfl
/-- how deep brackets go -/
def dp0 : Jvm.Term → Nat
  | .add a b => max (dp0 a) (dp0 b) | .sub a b => max (dp0 a) (dp0 b) | .mul a b => max (dp0 a) (dp0 b) | .div a b => max (dp0 a) (dp0 b) | .rem a b => max (dp0 a) (dp0 b) | .length a => dp0 a + 1 | _ => 0
def dp (e : Ex) : Nat := dp0 e
theorem dp_num {v : Nat} : dp (.num v) = 0 := rfl
theorem dp_word {x : Nat} : dp (.word x) = 0 := rfl
theorem dp_br {a : Ex} : dp (.br a) = dp a + 1 := rfl
theorem dp_bin {op : Nat} (h : op = 6 ∨ op = 7 ∨ op = 8 ∨ op = 9 ∨ op = 10) {a b : Ex} : dp (.bin op a b) = max (dp a) (dp b) := by
  rcases h with rfl | rfl | rfl | rfl | rfl <;> rfl
/-- the reference's number of a law's word, by the class' -/
def lwc (x : Nat) : Nat := [8, 14, 9, 10, 11, 15, 12, 13].getD x 0
def owc (x : Nat) : Nat := if x < 5 then 15 + x else if x < 12 then 14 else 20
def owk (x : Nat) : Nat := if x < 5 then 0 else if x < 12 then x - 5 else x - 12
def otk (op : Nat) : Nat := [143, 145, 142, 147, 137].getD (op - 6) 0
/-- the signs from i to j spell a word -/
def AtW (T V : Nat → Int32) (o : Bool) (x i j : Nat) : Prop := if o then x < 19 ∧ T i = nI (owc x) ∧ (if x < 5 then j = i + 1 else V (i + 1) = nI (owk x) ∧ j = i + 2) else x < 8 ∧ T i = nI (lwc x) ∧ j = i + 1
/-- the signs from i to j spell a sum (2: a part, 1: a term, 0: a sum) -/
def AtA (T : Nat → Int32) (op : Nat) (fa fb : Nat → Nat → Nat → Prop) (L i k : Nat) : Prop := ∃ j, T j = nI (otk op) ∧ (((op = 6 ∨ op = 7) ∧ L = 0 ∧ fa 0 i j ∧ fb 1 (j + 1) k) ∨ ((op = 8 ∨ op = 9 ∨ op = 10) ∧ L ≤ 1 ∧ fa 1 i j ∧ fb 2 (j + 1) k))
def At0 (T V : Nat → Int32) (o : Bool) : Jvm.Term → Nat → Nat → Nat → Prop
  | .arg v, _, i, j => v ≤ 1000 ∧ T i = 50 ∧ V i = nI v ∧ j = i + 1
  | .index x, _, i, j => AtW T V o x i j
  | .add a b, L, i, k => AtA T 6 (At0 T V o a) (At0 T V o b) L i k
  | .sub a b, L, i, k => AtA T 7 (At0 T V o a) (At0 T V o b) L i k
  | .mul a b, L, i, k => AtA T 8 (At0 T V o a) (At0 T V o b) L i k
  | .div a b, L, i, k => AtA T 9 (At0 T V o a) (At0 T V o b) L i k
  | .rem a b, L, i, k => AtA T 10 (At0 T V o a) (At0 T V o b) L i k
  | .length a, _, i, k => ∃ j, T i = 191 ∧ At0 T V o a 0 (i + 1) j ∧ T j = 193 ∧ k = j + 1
  | _, _, _, _ => False
def At (T V : Nat → Int32) (o : Bool) (e : Ex) (L i j : Nat) : Prop := At0 T V o e L i j
section
variable {T V : Nat → Int32} {o : Bool}
theorem At_num {v L i j : Nat} : At T V o (.num v) L i j ↔ (v ≤ 1000 ∧ T i = 50 ∧ V i = nI v ∧ j = i + 1) := Iff.rfl
theorem At_word {x L i j : Nat} : At T V o (.word x) L i j ↔ AtW T V o x i j := Iff.rfl
theorem At_br {a : Ex} {L i k : Nat} : At T V o (.br a) L i k ↔ ∃ j, T i = 191 ∧ At T V o a 0 (i + 1) j ∧ T j = 193 ∧ k = j + 1 := Iff.rfl
theorem At_bin {op : Nat} (h : op = 6 ∨ op = 7 ∨ op = 8 ∨ op = 9 ∨ op = 10) {a b : Ex} {L i k : Nat} : At T V o (.bin op a b) L i k ↔ ∃ j, T j = nI (otk op) ∧ (((op = 6 ∨ op = 7) ∧ L = 0 ∧ At T V o a 0 i j ∧ At T V o b 1 (j + 1) k) ∨ ((op = 8 ∨ op = 9 ∨ op = 10) ∧ L ≤ 1 ∧ At T V o a 1 i j ∧ At T V o b 2 (j + 1) k)) := by
  rcases h with rfl | rfl | rfl | rfl | rfl <;> exact Iff.rfl
theorem At_oth {e : Ex} (h : ¬ Ex.is e) {L i j : Nat} : ¬ At T V o e L i j := by
  intro h1
  cases e with
  | _ => first | exact h trivial | exact h1
theorem At.lt : ∀ {e : Ex} {L i j : Nat}, At T V o e L i j → i < j := by
  intro e
  induction e using Ex.ind with
  | num v => intro L i j h; obtain ⟨_, _, _, rfl⟩ := At_num.1 h; omega
  | word x =>
    intro L i j h
    simp only [At_word, AtW] at h
    split at h
    · obtain ⟨_, _, h⟩ := h; split at h <;> omega
    · omega
  | bin op a b ho iha ihb =>
    intro L i k h
    obtain ⟨j, _, h⟩ := (At_bin ho).1 h
    rcases h with ⟨_, _, h1, h2⟩ | ⟨_, _, h1, h2⟩ <;> have := iha h1 <;> have := ihb h2 <;> omega
  | br a iha => intro L i k h; obtain ⟨j, _, h2, _, h3⟩ := At_br.1 h; have := iha h2; omega
  | oth e he => intro L i k h; exact absurd h (At_oth he)
theorem At.mono : ∀ {e : Ex} {L L' i j : Nat}, L' ≤ L → At T V o e L i j → At T V o e L' i j := by
  intro e
  induction e using Ex.ind with
  | num v => intro L L' i j _ h; exact h
  | word x => intro L L' i j _ h; exact h
  | bin op a b ho iha ihb =>
    intro L L' i k hl h
    obtain ⟨j, h0, h⟩ := (At_bin ho).1 h
    refine (At_bin ho).2 ⟨j, h0, ?_⟩
    rcases h with ⟨h, h3, h1, h2⟩ | ⟨h, h3, h1, h2⟩
    · exact .inl ⟨h, by omega, h1, h2⟩
    · exact .inr ⟨h, by omega, h1, h2⟩
  | br a iha => intro L L' i k _ h; exact h
  | oth e he => intro L L' i k _ h; exact absurd h (At_oth he)
end
