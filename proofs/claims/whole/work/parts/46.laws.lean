/-! ===== laws: what a law tells, as the reference finds it ===== -/
def Cl : Type := Nat × Option Ex × Option Ex × Nat × Option Tx
def Cl.v (c : Cl) : Nat := c.1
def Cl.a (c : Cl) : Option Ex := c.2.1
def Cl.b (c : Cl) : Option Ex := c.2.2.1
def Cl.n (c : Cl) : Nat := c.2.2.2.1
def Cl.t (c : Cl) : Option Tx := c.2.2.2.2
def holdsO (W : Nat → Int32) (t : Option Tx) : Bool := match t with | none => true | some t => decide (evT W t = some true)
def valC (W : Nat → Int32) (c : Cl) : Option Int64 := match c.a with | none => some 1 | some e => ev W e
def holdsC (W : Nat → Int32) (c : Cl) : Bool := holdsO W c.t
def clmp (high : Int32) (x : Int64) : Int64 := if 0 ≤ x then (if x ≤ high.toInt64 then x else high.toInt64) else 0
def stepC (v : Nat) (high : Int32) (W : Nat → Int32) (c : Cl) (told : Int64) : Int64 := if c.v = v then (if holdsC W c then (match valC W c with | some x => clmp high x | none => told) else told) else told
def tellF (v : Nat) (high : Int32) (W : Nat → Int32) : List Cl → Int64 → Int64
  | [], told => told
  | c :: cs, told => tellF v high W cs (stepC v high W c told)
def AtI (T V : Nat → Int32) (o : Bool) (t : Option Tx) (i j : Nat) : Prop := match t with
  | none => j = i ∧ T i ≠ 4
  | some t => T i = 4 ∧ AtT T V o t 0 (i + 1) j ∧ dpT t ≤ 9 ∧ okT t
def AtC (T V : Nat → Int32) (c : Cl) (i j : Nat) : Prop := T i = nI (c.v + 1) ∧ c.v ≤ 2 ∧ match c.a with
  | some e => c.v < 2 ∧ dp e ≤ 9 ∧ ∃ k, At T V false e 0 (i + 1) k ∧ AtI T V false c.t k j ∧ stopS (T k)
  | none => c.v = 2 ∧ AtI T V false c.t (i + 1) j
def AtL (T V : Nat → Int32) (n : Nat) : List Cl → Nat → Prop
  | [], i => i = n + 1
  | c :: cs, i => ∃ j, AtC T V c i j ∧ (T j = 159 ∨ j = n) ∧ j ≤ n ∧ AtL T V n cs (j + 1)
theorem AtI.le {T V : Nat → Int32} {o : Bool} {t : Option Tx} {i j : Nat} (h : AtI T V o t i j) : i ≤ j := by
  cases t with
  | none => have := h.1; omega
  | some t => have := h.2.1.lt; omega
theorem AtC.lt {T V : Nat → Int32} {c : Cl} {i j : Nat} (h : AtC T V c i j) : i < j := by
  obtain ⟨_, _, h⟩ := h
  split at h
  · obtain ⟨_, _, k, h1, h2, _⟩ := h; have := h1.lt; have := h2.le; omega
  · have := h.2.le; omega
theorem AtL.len {T V : Nat → Int32} {n : Nat} : ∀ {cs : List Cl} {i : Nat}, AtL T V n cs i → cs.length + i ≤ n + 1 := by
  intro cs
  induction cs with
  | nil => intro i h; simp only [AtL] at h; simp; omega
  | cons c cs ih => intro i h; obtain ⟨j, h1, _, _, h2⟩ := h; have := h1.lt; have := ih h2; simp; omega
theorem stop_end {T : Nat → Int32} {j n : Nat} (h0 : T n = 0) (h : T j = 159 ∨ j = n) : stopS (T j) ∧ T j ≠ 6 ∧ T j ≠ 5 ∧ T j ≠ 4 := by
  rcases h with h | rfl
  · rw [h]; unfold stopS isMul isAdd; decide
  · rw [h0]; unfold stopS isMul isAdd; decide
section
variable {N : Nat} {μ : sw_m} {T V W : Nat → Int32} {o : Bool} {n : Nat}
/-- the clause's if is gone along -/
theorem if_along (C : Cm N μ T V W o n) (hN : 3000 ≤ N) {t : Option Tx} {i j : Nat} (h : AtI T V o t i j) (hj : j ≤ 2800) (hs : stopS (T j) ∧ T j ≠ 6 ∧ T j ≠ 5) {β : Type} (k : Int32 → sw_m → Option β) (live : Int32) (hl : tv live) :
    ∃ s b', tv s ∧ tv b' ∧ ((fMo_passes0 N (st μ (nI i) 0) (4 : Int32)).bind fun ⟨v23, μ22⟩ => (if v23 = 0 then k 1 μ22 else (fMo_testOf N 10 μ22 live).bind fun ⟨v34, μ33⟩ => (if v34 = 0 then k 0 μ33 else k 1 μ33))) = k s (st μ (nI j) b') ∧ (live = 1 → ((s = 1 ∧ b' = 0) ↔ holdsO W t = true)) := by
  rw [passes0_st C 0 (by have := h.le; omega)]
  cases t with
  | none =>
    obtain ⟨rfl, h4⟩ := h
    refine ⟨1, 0, .inr rfl, .inl rfl, ?_, by simp [holdsO]⟩
    simp [h4]
  | some t =>
    obtain ⟨h4, h1, h2, h3⟩ := h
    obtain ⟨v, b', e1, e2, e3, e4⟩ := testM C hN h2 h3 hj h1 hs.1 hs.2.1 hs.2.2 live 0 hl (.inl rfl)
    simp only [h4, if_true, Option.bind_some, show ¬ ((1 : Int32) = 0) by decide, if_false, e1]
    refine ⟨v, b', e2, e3, ?_, ?_⟩
    · rcases e2 with rfl | rfl
      · simp
      · simp
    · intro hl1
      rcases e4.2.2 hl1 rfl with ⟨x1, x2⟩ | ⟨x1, x2⟩
      · simp [x1, x2, holdsO]
      · rw [x2, holdsO, x1]
        rcases e2 with rfl | rfl <;> simp
theorem tells_loop (C : Cm N μ T V W false n) (hN : 3000 ≤ N) {v : Nat} (hv : v ≤ 2) {high : Int32} : ∀ (cs : List Cl) (i fu : Nat) (told : Int64) (b : Int32), AtL T V n cs i → cs.length < fu → ∃ b', fMo_tells_69 N fu (st μ (nI i) b) (nI (v + 1)) high told = some ((tellF v high W cs told).toInt32, st μ (nI (n + 1)) b') := by
  have hn := C.fn
  intro cs
  induction cs with
  | nil =>
    intro i fu told b h hf
    obtain ⟨fu, rfl⟩ : ∃ k, fu = k + 1 := ⟨fu - 1, by simp at hf; omega⟩
    simp only [AtL] at h
    subst h
    refine ⟨b, ?_⟩
    rw [fMo_tells_69]
    simp only [st_23, st_22, C.fe]
    rw [if_pos (nI_le (by omega) (by omega))]
    rfl
  | cons c cs ih =>
    intro i fu told b h hf
    obtain ⟨fu, rfl⟩ : ∃ k, fu = k + 1 := ⟨fu - 1, by simp at hf; omega⟩
    obtain ⟨j, h1, h2, h3, h4⟩ := h
    have l1 := h1.lt
    have hs := stop_end (C.ft0 n (by omega)) h2
    have fin : ∀ (k : Nat) (s0 : Int64) (b1 : Int32), AtI T V false c.t k j → tv b1 → (b1 = 0 → valC W c = some s0) → (b1 = 1 → valC W c = none) → ∃ b', fMo_tells_120 N (fMo_tells_69 N fu) (st μ (nI k) b1) (nI (v + 1)) high told (nI (c.v + 1)) s0 = some ((tellF v high W (c :: cs) told).toInt32, st μ (nI (n + 1)) b') := by
      intro k s0 b1 hk hb1 g0 g1
      unfold fMo_tells_120
      simp only [nm, st_24, st_w24]
      obtain ⟨s, b2, q1, q2, q3, q4⟩ := if_along C hN hk (by omega) ⟨hs.1, hs.2.1, hs.2.2.1⟩ (fun s μ => fMo_tells_154 N (fMo_tells_69 N fu) μ (nI (v + 1)) high told (nI (c.v + 1)) s0 b1 s) 1 (.inr rfl)
      have q4 : (s = 1 ∧ b2 = 0) ↔ holdsC W c = true := q4 rfl
      rw [q3]
      unfold fMo_tells_154
      simp only [nm, st_22, st_w22, st_24, nI_1, cmp_ge, cmp_le]
      have key : ∀ told', told' = stepC v high W c told → ∃ b', fMo_tells_69 N fu (st μ (nI (j + 1)) b2) (nI (v + 1)) high told' = some ((tellF v high W (c :: cs) told).toInt32, st μ (nI (n + 1)) b') := by
        intro told' ht
        subst ht
        exact ih (j + 1) fu _ b2 h4 (by simp at hf; omega)
      by_cases e : c.v = v
      · rw [if_pos (by rw [e])]
        by_cases hh : holdsC W c = true
        · obtain ⟨rfl, rfl⟩ := q4.2 hh
          rw [if_neg (by decide), if_pos rfl]
          rcases hb1 with rfl | rfl
          · rw [if_pos rfl]
            have hx := g0 rfl
            by_cases c1 : 0 ≤ s0
            · rw [if_pos c1]
              by_cases c2 : s0 ≤ high.toInt64
              · rw [if_pos c2]; exact key _ (by simp [stepC, e, hh, hx, clmp, c1, c2])
              · rw [if_neg c2]; exact key _ (by simp [stepC, e, hh, hx, clmp, c1, c2])
            · rw [if_neg c1]; exact key _ (by simp [stepC, e, hh, hx, clmp, c1])
          · rw [if_neg (by decide)]
            exact key _ (by simp [stepC, e, hh, g1 rfl])
        · have k2 := key told (by simp [stepC, hh])
          by_cases c1 : s = 0
          · rw [if_pos c1]; exact k2
          · rw [if_neg c1]
            by_cases c2 : b2 = 0
            · exact absurd (q4.1 ⟨by rcases q1 with h | h; exact absurd h c1; exact h, c2⟩) hh
            · rw [if_neg c2]; exact k2
      · rw [if_neg (fun h => e (by have := (nI_eq (a := c.v + 1) (b := v + 1) (by have := h1.2.1; omega) (by omega)).1 h; omega))]
        exact key told (by simp [stepC, e])
    rw [fMo_tells_69]
    simp only [st_23, st_22, C.fe, codeAt_st C b (show i ≤ 2800 by omega), Option.bind_some, nm, st_w24, st_w22, nI_1, h1.1]
    rw [if_neg (nI_ge (show i < n by omega) (by omega))]
    obtain ⟨_, hcv, h1⟩ := h1
    split at h1
    · rename_i e he
      obtain ⟨g1, g2, k, g3, g4, g5⟩ := h1
      have := g3.lt
      have := g4.le
      rw [if_neg (fun h => by have := (nI_eq (a := c.v + 1) (b := 3) (by omega) (by omega)).1 h; omega)]
      obtain ⟨x, b1, r1, r2, r3⟩ := sumM C hN g2 (by omega) g3 g5.1 g5.2 1 0 (.inr rfl) (.inl rfl)
      rw [r1]
      refine fin k x b1 g4 r2 (fun h => ?_) (fun h => ?_)
      · rcases r3.2.2 rfl rfl with ⟨_, y⟩ | ⟨y, _⟩
        · rw [h] at y; simp at y
        · simp [valC, he, y]
      · rcases r3.2.2 rfl rfl with ⟨y, _⟩ | ⟨_, y⟩
        · simp [valC, he, y]
        · rw [h] at y; simp at y
    · rename_i he
      rw [if_pos (by rw [h1.1]; rfl)]
      exact fin (i + 1) 1 0 h1.2 (.inl rfl) (fun _ => by simp [valC, he]) (by simp)
end
