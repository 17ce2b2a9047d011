/-! ===== how many rows ===== -/
def sm (f : Ch → Nat) (l : List Ch) : Nat := l.foldl (fun a e => a + f e) 0
theorem sm_cons {f : Ch → Nat} {e : Ch} {l : List Ch} : sm f (e :: l) = f e + sm f l := by
  show l.foldl (fun a e => a + f e) (0 + f e) = _
  rw [fold_add, Nat.zero_add]; rfl
theorem num_cons {Q : Int → Nat → Bool} {l : List Ch} {ls : List (List Ch)} {t : Int} {x : Nat} : num Q (l :: ls) t x = sm (fun e => num Q ls (t + e.2.1) (x + e.2.2)) l := rfl
theorem sm_congr {f h : Ch → Nat} : ∀ {l : List Ch}, (∀ e ∈ l, f e = h e) → sm f l = sm h l := by
  intro l
  induction l with
  | nil => intro _; rfl
  | cons e l ih => intro q; rw [sm_cons, sm_cons, q e (by simp), ih (fun e he => q e (by simp [he]))]
theorem sm_add {f h : Ch → Nat} : ∀ {l : List Ch}, sm (fun e => f e + h e) l = sm f l + sm h l := by
  intro l
  induction l with
  | nil => rfl
  | cons e l ih => rw [sm_cons, sm_cons, sm_cons, ih]; omega
theorem sm_le {f : Ch → Nat} {b : Nat} : ∀ {l : List Ch}, (∀ e ∈ l, f e ≤ b) → sm f l ≤ l.length * b := by
  intro l
  induction l with
  | nil => intro _; exact Nat.zero_le _
  | cons e l ih =>
    intro q
    have h1 := q e (by simp)
    have h2 := ih (fun e he => q e (by simp [he]))
    rw [sm_cons, List.length_cons, Nat.succ_mul]; omega
def bdL (l : List Ch) : Prop := l.length ≤ 7 ∧ ∀ e ∈ l, -297 ≤ e.2.1 ∧ e.2.1 ≤ 297 ∧ e.2.2 ≤ 1
def bd (ls : List (List Ch)) : Prop := ∀ l ∈ ls, bdL l
theorem num_le {Q : Int → Nat → Bool} : ∀ (ls : List (List Ch)) (t : Int) (x : Nat), bd ls → num Q ls t x ≤ 7 ^ ls.length := by
  intro ls
  induction ls with
  | nil => intro t x _; simp only [num]; split <;> decide
  | cons l ls ih =>
    intro t x h
    rw [num_cons, List.length_cons, Nat.pow_succ, Nat.mul_comm]
    refine Nat.le_trans (sm_le (fun e _ => ih _ _ (fun l' hl' => h l' (by simp [hl'])))) (Nat.mul_le_mul_right _ (h l (by simp)).1)
theorem num_congr {Q R : Int → Nat → Bool} : ∀ (ls : List (List Ch)) (t : Int) (x : Nat), bd ls → (∀ t' x', t - 297 * ls.length ≤ t' → t' ≤ t + 297 * ls.length → x ≤ x' → x' ≤ x + ls.length → Q t' x' = R t' x') → num Q ls t x = num R ls t x := by
  intro ls
  induction ls with
  | nil =>
    intro t x _ h
    have : Q t x = R t x := h t x (by simp) (by simp) (Nat.le_refl _) (Nat.le_refl _)
    simp only [num]; rw [this]
  | cons l ls ih =>
    intro t x hb h
    rw [num_cons, num_cons]
    refine sm_congr (fun e he => ih _ _ (fun l' hl' => hb l' (by simp [hl'])) (fun t' x' a b c d => ?_))
    obtain ⟨_, h2⟩ := hb l (by simp)
    have := h2 e he
    have e1 : ((l :: ls).length : Int) = ls.length + 1 := by rw [List.length_cons]; omega
    exact h t' x' (by rw [e1]; omega) (by rw [e1]; omega) (by omega) (by rw [List.length_cons]; omega)
theorem num_shift {Q : Int → Nat → Bool} {s : Int} {y : Nat} : ∀ (ls : List (List Ch)) (t : Int) (x : Nat), num Q ls (t + s) (x + y) = num (fun a b => Q (a + s) (b + y)) ls t x := by
  intro ls
  induction ls with
  | nil => intro t x; rfl
  | cons l ls ih =>
    intro t x
    rw [num_cons, num_cons]
    refine sm_congr (fun e _ => ?_)
    rw [← ih, show t + s + e.2.1 = t + e.2.1 + s by omega, show x + y + e.2.2 = x + e.2.2 + y by omega]
theorem num_add {P Q R : Int → Nat → Bool} (h1 : ∀ t x, ¬ (Q t x = true ∧ R t x = true)) (h2 : ∀ t x, P t x = (Q t x || R t x)) : ∀ (ls : List (List Ch)) (t : Int) (x : Nat), num P ls t x = num Q ls t x + num R ls t x := by
  intro ls
  induction ls with
  | nil =>
    intro t x
    simp only [num]
    have a := h1 t x
    rw [h2]
    cases hq : Q t x <;> cases hr : R t x <;> simp_all
  | cons l ls ih =>
    intro t x
    rw [num_cons, num_cons, num_cons, ← sm_add]
    exact sm_congr (fun e _ => ih _ _)
theorem num_none : ∀ (ls : List (List Ch)) (t : Int) (x : Nat), num (fun _ _ => false) ls t x = 0 := by
  intro ls
  induction ls with
  | nil => intro t x; rfl
  | cons l ls ih => intro t x; rw [num_cons, sm_congr (h := fun _ => 0) (fun e _ => ih _ _)]; have := sm_le (f := fun _ => 0) (b := 0) (l := l) (fun _ _ => Nat.le_refl _); omega
def cum (a : Nat → Nat) : Nat → Nat
  | 0 => a 0
  | j + 1 => cum a j + a (j + 1)
def Qt (y j : Nat) : Int → Nat → Bool := fun t x => decide (x = y ∧ t + 892 = (j : Int))
def Qc (y j : Nat) : Int → Nat → Bool := fun t x => decide (x = y ∧ 0 ≤ t + 892 ∧ t + 892 ≤ (j : Int))
def QB (y B : Nat) : Int → Nat → Bool := fun t x => decide (x = y ∧ t.natAbs ≤ B)
theorem cum_num {y : Nat} {ls : List (List Ch)} {t : Int} {x : Nat} : ∀ J, cum (fun j => num (Qt y j) ls t x) J = num (Qc y J) ls t x := by
  intro J
  induction J with
  | zero =>
    show num (Qt y 0) ls t x = _
    have : Qt y 0 = Qc y 0 := by
      funext a b
      unfold Qt Qc
      rw [decide_eq_decide]
      constructor
      · rintro ⟨h1, h2⟩; exact ⟨h1, by omega, by omega⟩
      · rintro ⟨h1, h2, h3⟩; exact ⟨h1, by omega⟩
    rw [this]
  | succ J ih =>
    show cum _ J + num (Qt y (J + 1)) ls t x = _
    rw [ih]
    refine (num_add (fun a b => ?_) (fun a b => ?_) ls t x).symm
    · unfold Qt Qc
      simp only [decide_eq_true_eq]
      omega
    · unfold Qt Qc
      rw [← Bool.decide_or, decide_eq_decide]
      constructor
      · rintro ⟨h1, h2, h3⟩
        by_cases q : a + 892 ≤ (J : Int)
        · exact .inl ⟨h1, h2, q⟩
        · exact .inr ⟨h1, by omega⟩
      · rintro (⟨h1, h2, h3⟩ | ⟨h1, h2⟩)
        · exact ⟨h1, h2, by omega⟩
        · exact ⟨h1, by omega, by omega⟩
/-- the tails that weigh no more than the bound, by what was tallied -/
theorem tails_num {ls : List (List Ch)} {B y x lo hi : Nat} {t : Int} (hl : ls.length = 3) (hb : bd ls) (hlo : (lo : Int) = max (-(B : Int) - t) (-891) + 891) (hhi : (hi : Int) = min ((B : Int) - t) 891 + 892) (h : lo < hi) : num (Qc y hi) ls 0 0 = num (Qc y lo) ls 0 0 + num (QB (x + y) B) ls t x := by
  have e1 : num (QB (x + y) B) ls t x = num (fun a b => decide (b = y ∧ (lo : Int) < a + 892 ∧ a + 892 ≤ hi)) ls 0 0 := by
    have := num_shift (Q := QB (x + y) B) (s := t) (y := x) ls 0 0
    rw [Int.zero_add, Nat.zero_add] at this
    rw [this]
    refine num_congr ls 0 0 hb (fun t' x' a b c d => ?_)
    rw [hl] at a b d
    unfold QB
    rw [decide_eq_decide]
    constructor
    · rintro ⟨h1, h2⟩; exact ⟨by omega, by omega, by omega⟩
    · rintro ⟨h1, h2, h3⟩; exact ⟨by omega, by omega⟩
  rw [e1]
  refine num_add (fun a b => ?_) (fun a b => ?_) ls 0 0
  · unfold Qc
    simp only [decide_eq_true_eq]
    omega
  · unfold Qc
    rw [← Bool.decide_or, decide_eq_decide]
    constructor
    · rintro ⟨h1, h2, h3⟩
      by_cases q : a + 892 ≤ (lo : Int)
      · exact .inl ⟨h1, h2, q⟩
      · exact .inr ⟨h1, by omega, h3⟩
    · rintro (⟨h1, h2, h3⟩ | ⟨h1, h2, h3⟩)
      · exact ⟨h1, h2, by omega⟩
      · exact ⟨h1, by omega, h3⟩
theorem tails_zero {ls : List (List Ch)} {B y x : Nat} {t : Int} (hl : ls.length = 3) (hb : bd ls) (h : y < x ∨ x + 3 < y ∨ min ((B : Int) - t) 891 + 892 ≤ max (-(B : Int) - t) (-891) + 891) : num (QB y B) ls t x = 0 := by
  rw [num_congr (R := fun _ _ => false) ls t x hb (fun t' x' a b c d => ?_), num_none]
  rw [hl] at a b d
  unfold QB
  rw [decide_eq_false_iff_not]
  rintro ⟨h1, h2⟩
  omega
def sf (f : Nat → List Ch) : Nat → List (List Ch)
  | 0 => []
  | d + 1 => f (6 - d) :: sf f d
theorem sf_len {f : Nat → List Ch} : ∀ d, (sf f d).length = d := by
  intro d
  induction d with
  | zero => rfl
  | succ d ih => show (sf f d).length + 1 = d + 1; rw [ih]
theorem sf_bd {f : Nat → List Ch} (hb : ∀ y, y < 7 → bdL (f y)) : ∀ d, bd (sf f d) := by
  intro d
  induction d with
  | zero => intro l hl; simp [sf] at hl
  | succ d ih =>
    intro l hl
    rcases List.mem_cons.1 (show l ∈ f (6 - d) :: sf f d from hl) with rfl | hl
    · exact hb _ (by omega)
    · exact ih l hl
theorem sf_at {f : Nat → List Ch} {c d : Nat} (h : c + (d + 1) = 7) : sf f (d + 1) = f c :: sf f d := by
  show f (6 - d) :: sf f d = _
  rw [show 6 - d = c by omega]
theorem zI_pos {z : Int} (h : 0 ≤ z) : zI z = nI z.toNat := by rw [← zI_nat, Int.toNat_of_nonneg h]
theorem jmax_z {a b : Int} (h1 : -2147483648 ≤ a) (h2 : a < 2147483648) (h3 : -2147483648 ≤ b) (h4 : b < 2147483648) : jmax (zI a) (zI b) = zI (max a b) := by
  unfold jmax
  split
  · next h => simp only [zI_lt, zI_le, h1, h2, h3, h4] at h; congr 1; omega
  · next h => simp only [zI_lt, zI_le, h1, h2, h3, h4] at h; congr 1; omega
theorem jmin_z {a b : Int} (h1 : -2147483648 ≤ a) (h2 : a < 2147483648) (h3 : -2147483648 ≤ b) (h4 : b < 2147483648) : jmin (zI a) (zI b) = zI (min a b) := by
  unfold jmin
  split
  · next h => simp only [zI_lt, zI_le, h1, h2, h3, h4] at h; congr 1; omega
  · next h => simp only [zI_lt, zI_le, h1, h2, h3, h4] at h; congr 1; omega
