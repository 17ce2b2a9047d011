/-! ===== rows of places, as lists of choices: place, weight, cost ===== -/
abbrev Ch : Type := Nat × Int × Nat
def FAR : Nat := 1000000
def bst (E : Int → Nat) : List (List Ch) → Int → Nat
  | [], t => E t
  | l :: ls, t => l.foldl (fun a e => min a (min FAR (bst E ls (t + e.2.1) + e.2.2))) FAR
def num (Q : Int → Nat → Bool) : List (List Ch) → Int → Nat → Nat
  | [], t, x => if Q t x then 1 else 0
  | l :: ls, t, x => l.foldl (fun a e => a + num Q ls (t + e.2.1) (x + e.2.2)) 0
def fnd (Q : Int → Nat → Bool) : List (List Ch) → Int → Nat → Option (List Nat)
  | [], t, x => if Q t x then some [] else none
  | l :: ls, t, x => l.findSome? (fun e => (fnd Q ls (t + e.2.1) (x + e.2.2)).map (fun r => e.1 :: r))
theorem fold_min {f : Ch → Nat} : ∀ (l : List Ch) (a : Nat), l.foldl (fun a e => min a (f e)) a ≤ a ∧ (∀ e ∈ l, l.foldl (fun a e => min a (f e)) a ≤ f e) ∧ (l.foldl (fun a e => min a (f e)) a = a ∨ ∃ e ∈ l, l.foldl (fun a e => min a (f e)) a = f e) := by
  intro l
  induction l with
  | nil => intro a; exact ⟨Nat.le_refl _, fun e he => by simp at he, .inl rfl⟩
  | cons x l ih =>
    intro a
    obtain ⟨h1, h2, h3⟩ := ih (min a (f x))
    simp only [List.foldl_cons]
    refine ⟨by omega, fun e he => ?_, ?_⟩
    · rcases List.mem_cons.1 he with rfl | he
      · omega
      · exact h2 e he
    · rcases h3 with h3 | ⟨e, he, h3⟩
      · by_cases q : a ≤ f x
        · left; rw [h3]; omega
        · right; exact ⟨x, by simp, by rw [h3]; omega⟩
      · right; exact ⟨e, by simp [he], h3⟩
theorem bst_le {E : Int → Nat} (hE : ∀ t, E t ≤ FAR) : ∀ ls t, bst E ls t ≤ FAR := by
  intro ls
  cases ls with
  | nil => intro t; exact hE t
  | cons l ls => intro t; exact (fold_min l FAR).1
theorem bst_mem {E : Int → Nat} {l : List Ch} {ls : List (List Ch)} {t : Int} {e : Ch} (he : e ∈ l) : bst E (l :: ls) t ≤ min FAR (bst E ls (t + e.2.1) + e.2.2) := (fold_min (f := fun e => min FAR (bst E ls (t + e.2.1) + e.2.2)) l FAR).2.1 e he
theorem bst_ex {E : Int → Nat} {l : List Ch} {ls : List (List Ch)} {t : Int} (h : bst E (l :: ls) t < FAR) : ∃ e ∈ l, bst E (l :: ls) t = min FAR (bst E ls (t + e.2.1) + e.2.2) := by
  rcases (fold_min (f := fun e => min FAR (bst E ls (t + e.2.1) + e.2.2)) l FAR).2.2 with q | q
  · have : bst E (l :: ls) t = FAR := q
    omega
  · exact q
def Qm (E : Int → Nat) (m : Nat) : Int → Nat → Bool := fun t x => decide (E t + x = m)
theorem Qm_t {E : Int → Nat} {m x : Nat} {t : Int} : Qm E m t x = true ↔ E t + x = m := by unfold Qm; exact decide_eq_true_iff
/-- no row comes to so little -/
theorem fnd_none {E : Int → Nat} {m : Nat} : ∀ (ls : List (List Ch)) (t : Int) (x : Nat), m < bst E ls t + x → fnd (Qm E m) ls t x = none := by
  intro ls
  induction ls with
  | nil => intro t x h; simp only [fnd]; rw [if_neg (fun q => by have := Qm_t.1 q; simp only [bst] at h; omega)]
  | cons l ls ih =>
    intro t x h
    simp only [fnd]
    rw [List.findSome?_eq_none_iff]
    intro e he
    have := bst_mem (E := E) (ls := ls) (t := t) he
    rw [ih (t + e.2.1) (x + e.2.2) (by omega)]; rfl
/-- where the reference goes: the first choice by which the best comes -/
def pk (E : Int → Nat) (l : List Ch) (ls : List (List Ch)) (t : Int) : Option Ch := l.find? (fun e => decide (min FAR (bst E ls (t + e.2.1) + e.2.2) = bst E (l :: ls) t))
def wkL (E : Int → Nat) : List (List Ch) → Int → List Nat
  | [], _ => []
  | l :: ls, t => match pk E l ls t with
    | some e => e.1 :: wkL E ls (t + e.2.1)
    | none => []
theorem find_split {α : Type} {p : α → Bool} : ∀ {l : List α} {e : α}, l.find? p = some e → ∃ a b, l = a ++ e :: b ∧ p e = true ∧ ∀ x ∈ a, p x = false := by
  intro l
  induction l with
  | nil => intro e h; simp at h
  | cons x l ih =>
    intro e h
    by_cases hx : p x = true
    · rw [List.find?_cons_of_pos hx] at h
      cases h
      exact ⟨[], l, rfl, hx, by simp⟩
    · rw [List.find?_cons_of_neg hx] at h
      obtain ⟨a, b, h1, h2, h3⟩ := ih h
      refine ⟨x :: a, b, by rw [h1]; rfl, h2, fun y hy => ?_⟩
      rcases List.mem_cons.1 hy with rfl | hy
      · simpa using hx
      · exact h3 y hy
theorem pk_some {E : Int → Nat} {l : List Ch} {ls : List (List Ch)} {t : Int} (h : bst E (l :: ls) t < FAR) : ∃ e, pk E l ls t = some e := by
  obtain ⟨e, he, h1⟩ := bst_ex h
  cases hp : pk E l ls t with
  | some e => exact ⟨e, rfl⟩
  | none =>
    unfold pk at hp
    rw [List.find?_eq_none] at hp
    exact absurd (by simp [h1] : decide (min FAR (bst E ls (t + e.2.1) + e.2.2) = bst E (l :: ls) t) = true) (hp e he)
theorem fnd_some {E : Int → Nat} {m : Nat} : ∀ (ls : List (List Ch)) (t : Int) (x : Nat), bst E ls t + x = m → bst E ls t < FAR → fnd (Qm E m) ls t x = some (wkL E ls t) := by
  intro ls
  induction ls with
  | nil => intro t x h _; simp only [fnd, wkL]; rw [if_pos ((Qm_t (E := E)).2 (show E t + x = m from h))]
  | cons l ls ih =>
    intro t x h hF
    obtain ⟨e, he⟩ := pk_some hF
    simp only [fnd, wkL, he]
    obtain ⟨a, b, h1, h2, h3⟩ := find_split (show l.find? _ = some e from he)
    have h2' : min FAR (bst E ls (t + e.2.1) + e.2.2) = bst E (l :: ls) t := by simpa using h2
    have hin : ∀ y ∈ a, (fnd (Qm E m) ls (t + y.2.1) (x + y.2.2)).map (fun r => y.1 :: r) = none := by
      intro y hy
      have hyl : y ∈ l := by rw [h1]; simp [hy]
      have q1 := bst_mem (E := E) (ls := ls) (t := t) hyl
      have q2 : ¬ min FAR (bst E ls (t + y.2.1) + y.2.2) = bst E (l :: ls) t := by simpa using h3 y hy
      rw [fnd_none ls (t + y.2.1) (x + y.2.2) (by omega)]; rfl
    have hfa : a.findSome? (fun e => (fnd (Qm E m) ls (t + e.2.1) (x + e.2.2)).map (fun r => e.1 :: r)) = none := List.findSome?_eq_none_iff.2 hin
    rw [h1, List.findSome?_append, hfa, Option.none_or, List.findSome?_cons, ih (t + e.2.1) (x + e.2.2) (by omega) (by omega)]
    rfl
theorem fold_add {f : Ch → Nat} : ∀ (l : List Ch) (a : Nat), l.foldl (fun a e => a + f e) a = a + l.foldl (fun a e => a + f e) 0 := by
  intro l
  induction l with
  | nil => intro a; rfl
  | cons x l ih => intro a; simp only [List.foldl_cons]; rw [ih (a + f x), ih (0 + f x)]; omega
theorem fold_add0 {f : Ch → Nat} : ∀ (l : List Ch), l.foldl (fun a e => a + f e) 0 = 0 ↔ ∀ e ∈ l, f e = 0 := by
  intro l
  induction l with
  | nil => simp
  | cons x l ih =>
    simp only [List.foldl_cons]
    rw [fold_add]
    constructor
    · intro h e he
      rcases List.mem_cons.1 he with rfl | he
      · omega
      · exact ih.1 (by omega) e he
    · intro h
      have h1 := h x (by simp)
      have h2 := ih.2 (fun e he => h e (by simp [he]))
      omega
theorem num_fnd {Q : Int → Nat → Bool} : ∀ (ls : List (List Ch)) (t : Int) (x : Nat), num Q ls t x = 0 ↔ fnd Q ls t x = none := by
  intro ls
  induction ls with
  | nil => intro t x; simp only [num, fnd]; split <;> simp
  | cons l ls ih =>
    intro t x
    simp only [num, fnd]
    rw [fold_add0, List.findSome?_eq_none_iff]
    constructor
    · intro h e he; rw [(ih _ _).1 (h e he)]; rfl
    · intro h e he
      have := h e he
      rw [ih]
      cases hf : fnd Q ls (t + e.2.1) (x + e.2.2) with
      | none => rfl
      | some r => rw [hf] at this; simp at this
/-- no choice costs anything -/
def free (ls : List (List Ch)) : Prop := ∀ l ∈ ls, ∀ e ∈ l, e.2.2 = 0
theorem fnd_le {m : Nat} {E : Int → Nat} : ∀ (ls : List (List Ch)) (t : Int), free ls → m ≤ bst E ls t → m < FAR → fnd (fun t x => decide (x = 0 ∧ E t ≤ m)) ls t 0 = fnd (Qm E m) ls t 0 := by
  intro ls
  induction ls with
  | nil =>
    intro t _ h _
    simp only [fnd]
    simp only [bst] at h
    by_cases q : E t = m
    · rw [if_pos (by simp; omega), if_pos (Qm_t.2 (by omega))]
    · rw [if_neg (by simp; omega), if_neg (fun q' => by have := Qm_t.1 q'; omega)]
  | cons l ls ih =>
    intro t hf h hm
    simp only [fnd]
    have : ∀ e ∈ l, (fnd (fun t x => decide (x = 0 ∧ E t ≤ m)) ls (t + e.2.1) (0 + e.2.2)).map (fun r => e.1 :: r) = (fnd (Qm E m) ls (t + e.2.1) (0 + e.2.2)).map (fun r => e.1 :: r) := by
      intro e he
      have hc := hf l (by simp) e he
      have q1 := bst_mem (E := E) (ls := ls) (t := t) he
      rw [hc, ih (t + e.2.1) (fun l' hl' => hf l' (by simp [hl'])) (by omega) hm]
    clear h
    induction l with
    | nil => rfl
    | cons e l ih2 =>
      rw [List.findSome?_cons, List.findSome?_cons, this e (by simp)]
      split
      · rfl
      · exact ih2 (fun l' hl' e' he' => by
          rcases List.mem_cons.1 hl' with rfl | hl'
          · exact hf (e :: l') (by simp) e' (by simp [he'])
          · exact hf l' (by simp [hl']) e' he') (fun e' he' => this e' (by simp [he']))
/-- is there a row within so much -/
theorem fnd_within {E : Int → Nat} (hE : ∀ t, E t < FAR) {B : Nat} (hB : B < FAR) : ∀ (ls : List (List Ch)) (t : Int), free ls → (fnd (fun t x => decide (x = 0 ∧ E t ≤ B)) ls t 0 ≠ none ↔ bst E ls t ≤ B) := by
  intro ls
  induction ls with
  | nil =>
    intro t _
    simp only [fnd, bst]
    by_cases q : E t ≤ B
    · rw [if_pos (by simp; omega)]; simp [q]
    · rw [if_neg (by simp; omega)]; simp [q]
  | cons l ls ih =>
    intro t hf
    have hf' : free ls := fun l' hl' => hf l' (by simp [hl'])
    simp only [fnd]
    rw [ne_eq, List.findSome?_eq_none_iff]
    constructor
    · intro h
      refine Classical.byContradiction (fun hb => h (fun e he => ?_))
      have hc := hf l (by simp) e he
      have q1 := bst_mem (E := E) (ls := ls) (t := t) he
      have : ¬ bst E ls (t + e.2.1) ≤ B := by omega
      have q2 : fnd (fun t x => decide (x = 0 ∧ E t ≤ B)) ls (t + e.2.1) 0 = none := Classical.byContradiction (fun q => this ((ih (t + e.2.1) hf').1 q))
      rw [hc, q2]; rfl
    · intro h hn
      obtain ⟨e, he, h1⟩ := bst_ex (E := E) (l := l) (ls := ls) (t := t) (by omega)
      have hc := hf l (by simp) e he
      have := hn e he
      rw [hc] at this
      have q2 : fnd (fun t x => decide (x = 0 ∧ E t ≤ B)) ls (t + e.2.1) 0 = none := by
        cases hq : fnd (fun t x => decide (x = 0 ∧ E t ≤ B)) ls (t + e.2.1) 0 with
        | none => rfl
        | some r => rw [Nat.zero_add, hq] at this; simp at this
      exact (ih (t + e.2.1) hf').2 (by omega) q2
theorem wkL_len {E : Int → Nat} : ∀ (ls : List (List Ch)) (t : Int), bst E ls t < FAR → (wkL E ls t).length = ls.length := by
  intro ls
  induction ls with
  | nil => intro t _; rfl
  | cons l ls ih =>
    intro t h
    obtain ⟨e, he⟩ := pk_some h
    have h2 : min FAR (bst E ls (t + e.2.1) + e.2.2) = bst E (l :: ls) t := by
      have := List.find?_some (show l.find? _ = some e from he)
      simpa using this
    simp only [wkL, he, List.length_cons]
    rw [ih (t + e.2.1) (by omega)]
