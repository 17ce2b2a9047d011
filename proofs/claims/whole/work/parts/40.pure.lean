/-! ===== PURE: numbers, memories ===== -/
theorem lt31 {n m : Nat} (h : n ≤ m) (hm : m < 2147483648 := by decide) : n < 2 ^ 31 := by omega
theorem rd_nI {α β : Type} {n c : Nat} {f : Nat → α} {k : α → Option β} (h : c < n) (hn : n < 2 ^ 31) : rd n (nI c) f k = k (f c) := by
  unfold rd; rw [if_neg (nI_in h hn), nI_clamp (by omega)]
theorem wr_nI {α β : Type} {n c : Nat} {f : Nat → α} {k : α → Option β} (h : c < n) (hn : n < 2 ^ 31) : wr n (nI c) f k = k (f c) := by
  unfold wr; rw [if_neg (nI_in h hn), nI_clamp (by omega)]
theorem cmp_gt {x y : Int64} : (0 < lg_cmp x y) = (y < x) := by
  unfold lg_cmp; split
  · rename_i h; simp; exact h
  · rename_i h; split <;> simp <;> grind
theorem cmp_ge {x y : Int64} : (0 ≤ lg_cmp x y) = (y ≤ x) := by
  unfold lg_cmp; split
  · rename_i h; simp; grind
  · rename_i h; split <;> simp <;> grind
theorem cmp_le {x y : Int64} : (lg_cmp x y ≤ 0) = (x ≤ y) := by
  unfold lg_cmp; split
  · rename_i h; simp; grind
  · rename_i h; split <;> simp <;> grind
theorem cmp_eq {x y : Int64} : (lg_cmp x y = 0) = (x = y) := by
  unfold lg_cmp; split
  · rename_i h; simp; grind
  · rename_i h; split <;> simp <;> grind
/-- the state of the one who goes along a text: where, whether broken -/
def st (μ : sw_m) (i b : Int32) : sw_m := mI (mI μ 84 22 i) 84 24 b
@[simp] theorem st_22 {μ : sw_m} {i b : Int32} : (st μ i b).1 84 22 = i := by simp [st, mI, sw_u]
@[simp] theorem st_24 {μ : sw_m} {i b : Int32} : (st μ i b).1 84 24 = b := by simp [st, mI, sw_u]
@[simp] theorem st_23 {μ : sw_m} {i b : Int32} : (st μ i b).1 84 23 = μ.1 84 23 := by simp [st, mI, sw_u]
@[simp] theorem st_25 {μ : sw_m} {i b : Int32} : (st μ i b).1 84 25 = μ.1 84 25 := by simp [st, mI, sw_u]
@[simp] theorem st_86 {μ : sw_m} {i b : Int32} : (st μ i b).1 86 = μ.1 86 := by funext k; simp [st, mI, sw_u]
@[simp] theorem st_96 {μ : sw_m} {i b : Int32} : (st μ i b).1 96 = μ.1 96 := by funext k; simp [st, mI, sw_u]
@[simp] theorem st_w22 {μ : sw_m} {i b c : Int32} : mI (st μ i b) 84 22 c = st μ c b := by
  simp only [st, mI, Prod.mk.injEq, and_true]; funext p k; simp only [sw_u]; split <;> split <;> simp_all
@[simp] theorem st_w24 {μ : sw_m} {i b c : Int32} : mI (st μ i b) 84 24 c = st μ i c := by
  simp only [st, mI, Prod.mk.injEq, and_true]; funext p k; simp only [sw_u]; split
  · rfl
  · rfl
theorem st_self (μ : sw_m) : st μ (μ.1 84 22) (μ.1 84 24) = μ := by
  simp only [st, mI]; refine Prod.ext ?_ rfl; funext p k; simp only [sw_u]; split
  · rename_i h; rw [h.1, h.2]
  · split
    · rename_i h; rw [h.1, h.2]
    · rfl
/-! ===== SUMS and TESTS ===== -/
inductive Ex where
  | num (v : Nat) | word (x : Nat) | bin (op : Nat) (a b : Ex) | br (a : Ex)
def lim (c : Int64) : Option Int64 := if 1000000000 < c ∨ c < -1000000000 then none else some c
def cmb (op : Nat) (a b : Int64) : Option Int64 := if op = 6 then lim (a + b) else if op = 7 then lim (a - b) else if op = 8 then lim (a * b) else if b = 0 then none else if op = 9 then lim (a / b) else lim (a - a / b * b)
def bin2 (f : Int64 → Int64 → Option Int64) (x y : Option Int64) : Option Int64 := match x, y with
  | some p, some q => f p q
  | _, _ => none
def ev (W : Nat → Int32) : Ex → Option Int64
  | .num v => some (nI v).toInt64
  | .word x => some (W x).toInt64
  | .bin op a b => bin2 (cmb op) (ev W a) (ev W b)
  | .br a => ev W a
/-- how deep brackets go -/
def dp : Ex → Nat
  | .num _ => 0 | .word _ => 0 | .bin _ a b => max (dp a) (dp b) | .br a => dp a + 1
/-- the reference's number of a law's word, by the class' -/
def lwc (x : Nat) : Nat := [8, 14, 9, 10, 11, 15, 12, 13].getD x 0
def owc (x : Nat) : Nat := if x < 5 then 15 + x else if x < 12 then 14 else 20
def owk (x : Nat) : Nat := if x < 5 then 0 else if x < 12 then x - 5 else x - 12
def otk (op : Nat) : Nat := [143, 145, 142, 147, 137].getD (op - 6) 0
/-- the signs from i to j spell a word -/
def AtW (T V : Nat → Int32) (o : Bool) (x i j : Nat) : Prop := if o then x < 19 ∧ T i = nI (owc x) ∧ (if x < 5 then j = i + 1 else V (i + 1) = nI (owk x) ∧ j = i + 2) else x < 8 ∧ T i = nI (lwc x) ∧ j = i + 1
/-- the signs from i to j spell a sum (2: a part, 1: a term, 0: a sum) -/
def At (T V : Nat → Int32) (o : Bool) : Ex → Nat → Nat → Nat → Prop
  | .num v, _, i, j => v ≤ 1000 ∧ T i = 50 ∧ V i = nI v ∧ j = i + 1
  | .word x, _, i, j => AtW T V o x i j
  | .bin op a b, L, i, k => ∃ j, T j = nI (otk op) ∧ (((op = 6 ∨ op = 7) ∧ L = 0 ∧ At T V o a 0 i j ∧ At T V o b 1 (j + 1) k) ∨ ((op = 8 ∨ op = 9 ∨ op = 10) ∧ L ≤ 1 ∧ At T V o a 1 i j ∧ At T V o b 2 (j + 1) k))
  | .br a, _, i, k => ∃ j, T i = 191 ∧ At T V o a 0 (i + 1) j ∧ T j = 193 ∧ k = j + 1
theorem At.lt {T V : Nat → Int32} {o : Bool} : ∀ {e : Ex} {L i j : Nat}, At T V o e L i j → i < j := by
  intro e
  induction e with
  | num v => intro L i j h; obtain ⟨_, _, _, rfl⟩ := h; omega
  | word x =>
    intro L i j h
    simp only [At, AtW] at h
    split at h
    · obtain ⟨_, _, h⟩ := h; split at h <;> omega
    · omega
  | bin op a b iha ihb =>
    intro L i k h
    obtain ⟨j, _, h⟩ := h
    rcases h with ⟨_, _, h1, h2⟩ | ⟨_, _, h1, h2⟩ <;> have := iha h1 <;> have := ihb h2 <;> omega
  | br a iha => intro L i k h; obtain ⟨j, _, h, _, rfl⟩ := h; have := iha h; omega
theorem At.mono {T V : Nat → Int32} {o : Bool} : ∀ {e : Ex} {L L' i j : Nat}, L' ≤ L → At T V o e L i j → At T V o e L' i j := by
  intro e
  induction e with
  | num v => intro L L' i j _ h; exact h
  | word x => intro L L' i j _ h; exact h
  | bin op a b iha ihb =>
    intro L L' i k hl h
    obtain ⟨j, h0, h⟩ := h
    refine ⟨j, h0, ?_⟩
    rcases h with ⟨h, h3, h1, h2⟩ | ⟨h, h3, h1, h2⟩
    · exact .inl ⟨h, by omega, h1, h2⟩
    · exact .inr ⟨h, by omega, h1, h2⟩
  | br a iha => intro L L' i k _ h; exact h
