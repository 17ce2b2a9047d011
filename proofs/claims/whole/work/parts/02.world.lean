/-! ===== THE MEMORY: places, what they hold; the heap's picture of it ===== -/
/-- the class' cells: whole numbers, long ones, references (as places) -/
abbrev sw_g : Type := (Nat → Nat → Int32) × (Nat → Nat → Int64) × (Nat → Nat → Option Nat)
/-- the reference's cells -/
abbrev sw_m : Type := (Nat → Nat → Int32) × (Nat → Nat → Int64)
/-- the shape: how many places, their kinds, lengths, addresses, raw cells -/
abbrev sw_x : Type := Nat × (Nat → Nat) × (Nat → Nat) × (Nat → Nat) × (Nat → va_E)
/-- the tables' numbers: classes and slots, array classes; where the texts, their rows, the one static row lie -/
abbrev sw_C : Type := va_G × (Nat → ClassId) × (Nat → Nat) × (Nat → Nat) × Nat
def sw_u {α : Type} (f : Nat → Nat → α) (p k : Nat) (v : α) : Nat → Nat → α := fun q j => if q = p ∧ j = k then v else f q j
theorem sw_u_ne {α : Type} {f : Nat → Nat → α} {p k : Nat} {v : α} {q : Nat} (h : q ≠ p) : sw_u f p k v q = f q := by funext j; simp [sw_u, h]
theorem sw_u_at {α : Type} {f : Nat → Nat → α} {p k : Nat} {v : α} : sw_u f p k v p = fun j => if j = k then v else f p j := by funext j; simp [sw_u]
def gI (g : sw_g) (p k : Nat) (v : Int32) : sw_g := (sw_u g.1 p k v, g.2)
def gL (g : sw_g) (p k : Nat) (v : Int64) : sw_g := (g.1, sw_u g.2.1 p k v, g.2.2)
def gR (g : sw_g) (p k : Nat) (v : Option Nat) : sw_g := (g.1, g.2.1, sw_u g.2.2 p k v)
def mI (μ : sw_m) (p k : Nat) (v : Int32) : sw_m := (sw_u μ.1 p k v, μ.2)
def mL (μ : sw_m) (p k : Nat) (v : Int64) : sw_m := (μ.1, sw_u μ.2 p k v)
/-! the mirrors' words -/
def nm {α β : Type} (v : α) (k : α → Option β) : Option β := k v
def rd {α β : Type} (n : Nat) (i : Int32) (f : Nat → α) (k : α → Option β) : Option β := if i < 0 ∨ n ≤ i.toNatClampNeg then none else k (f i.toNatClampNeg)
def wr {α β : Type} (n : Nat) (i : Int32) (f : Nat → α) (k : α → Option β) : Option β := if i < 0 ∨ n ≤ i.toNatClampNeg then none else k (f i.toNatClampNeg)
def nz {β : Type} (y : Int32) (k : Option β) : Option β := if y = 0 then none else k
def nzl {β : Type} (y : Int64) (k : Option β) : Option β := if y = 0 then none else k
/-- a truth value -/
def tz {β : Type} (y : Int32) (k : Option β) : Option β := if y = 0 ∨ y = 1 then k else none
theorem ob {α β : Type} {o : Option α} {k : α → Option β} {res : β} (h : o.bind k = some res) : ∃ a, o = some a ∧ k a = some res := by
  cases o with
  | none => cases h
  | some a => exact ⟨a, rfl, h⟩
theorem ob_rd {α β : Type} {n : Nat} {i : Int32} {f : Nat → α} {k : α → Option β} {res : β} (h : rd n i f k = some res) : vp_in i n ∧ k (f i.toNatClampNeg) = some res := by
  unfold rd at h
  split at h
  · cases h
  · rename_i hn; exact ⟨hn, h⟩
theorem ob_wr {α β : Type} {n : Nat} {i : Int32} {f : Nat → α} {k : α → Option β} {res : β} (h : wr n i f k = some res) : vp_in i n ∧ k (f i.toNatClampNeg) = some res := by
  unfold wr at h
  split at h
  · cases h
  · rename_i hn; exact ⟨hn, h⟩
theorem ob_nz {β : Type} {y : Int32} {k : Option β} {res : β} (h : nz y k = some res) : (¬ y = 0) ∧ k = some res := by
  unfold nz at h
  split at h
  · cases h
  · rename_i hn; exact ⟨hn, h⟩
theorem ob_nzl {β : Type} {y : Int64} {k : Option β} {res : β} (h : nzl y k = some res) : (¬ y = 0) ∧ k = some res := by
  unfold nzl at h
  split at h
  · cases h
  · rename_i hn; exact ⟨hn, h⟩
theorem ob_tz {β : Type} {y : Int32} {k : Option β} {res : β} (h : tz y k = some res) : (y = 0 ∨ y = 1) ∧ k = some res := by
  unfold tz at h
  split at h
  · rename_i hn; exact ⟨hn, h⟩
  · cases h
theorem tz_narrow {v : Int32} (h : v = 0 ∨ v = 1) : narrow .boolean (.int v) = .int v := by rcases h with rfl | rfl <;> rfl
theorem tz_fits {v : Int32} (h : v = 0 ∨ v = 1) : fits .boolean (.int v) = true := by rcases h with rfl | rfl <;> rfl
theorem sw_it {α : Type} {P : Prop} [Decidable P] {a b : Option α} {res : α} (h : P) (e : (if P then a else b) = some res) : a = some res := by rw [if_pos h] at e; exact e
theorem sw_if {α : Type} {P : Prop} [Decidable P] {a b : Option α} {res : α} (h : ¬ P) (e : (if P then a else b) = some res) : b = some res := by rw [if_neg h] at e; exact e
def f_Hi (ξ : sw_x) (r : Nat → Int32) (q : Nat) : List Value := [.int (r 0), .int (r 1), .ref (ξ.2.2.2.1 (q + 1))]
def f_Ju (ξ : sw_x) (r : Nat → Int32) (q : Nat) : List Value := [.ref (ξ.2.2.2.1 (q + 1)), .ref (ξ.2.2.2.1 (q + 3))]
def f_Pl (ξ : sw_x) (r : Nat → Int32) (q : Nat) : List Value := [.int (r 0), .ref (ξ.2.2.2.1 (q + 1)), .ref (ξ.2.2.2.1 (q + 2)), .ref (ξ.2.2.2.1 (q + 3)), .ref (ξ.2.2.2.1 (q + 4)), .int (r 5), .ref (ξ.2.2.2.1 (q + 5)), .ref (ξ.2.2.2.1 (q + 6)), .ref (ξ.2.2.2.1 (q + 7)), .int (r 9), .ref (ξ.2.2.2.1 (q + 8)), .int (r 11)]
def f_Re (ξ : sw_x) (r : Nat → Int32) (q : Nat) : List Value := [.int (r 0), .ref (ξ.2.2.2.1 (q + 1)), .int (r 2), .ref (ξ.2.2.2.1 (q + 2)), .int (r 4), .int (r 5), .int (r 6), .int (r 7), .int (r 8)]
def f_Rk (ξ : sw_x) (r : Nat → Int32) (q : Nat) : List Value := [.int (r 0), .ref (ξ.2.2.2.1 (q + 1))]
def f_Ro (ξ : sw_x) (r : Nat → Int32) (q : Nat) : List Value := [.ref (ξ.2.2.2.1 (q + 1)), .ref (ξ.2.2.2.1 (q + 2)), .ref (ξ.2.2.2.1 (q + 3)), .ref (ξ.2.2.2.1 (q + 11)), .ref (ξ.2.2.2.1 (q + 19)), .ref (ξ.2.2.2.1 (q + 27)), .int (r 6), .int (r 7)]
def f_Te (ξ : sw_x) (r : Nat → Int32) (q : Nat) : List Value := [.int (r 0), .ref (ξ.2.2.2.1 (q + 1)), .ref (ξ.2.2.2.1 (q + 2)), .ref (ξ.2.2.2.1 (q + 3)), .ref (ξ.2.2.2.1 (q + 4)), .ref (ξ.2.2.2.1 (q + 5)), .int (r 6), .ref (ξ.2.2.2.1 (q + 6))]
def f_Sx (ξ : sw_x) (r : Nat → Int32) (q : Nat) : List Value := [.ref (ξ.2.2.2.1 (q + 1)), .ref (ξ.2.2.2.1 (q + 10)), .ref (ξ.2.2.2.1 (q + 19)), .ref (ξ.2.2.2.1 (q + 28)), .ref (ξ.2.2.2.1 (q + 29)), .ref (ξ.2.2.2.1 (q + 31)), .ref (ξ.2.2.2.1 (q + 33)), .ref (ξ.2.2.2.1 (q + 42)), .ref (ξ.2.2.2.1 (q + 46)), .ref (ξ.2.2.2.1 (q + 48)), .ref (ξ.2.2.2.1 (q + 49)), .ref (ξ.2.2.2.1 (q + 81)), .ref (ξ.2.2.2.1 (q + 82)), .ref (ξ.2.2.2.1 (q + 83)), .int (r 14), .int (r 15), .int (r 16)]
def f_Mo (ξ : sw_x) (r : Nat → Int32) (q : Nat) : List Value := [.int (r 0), .ref (ξ.2.2.2.1 (q + 1)), .ref (ξ.2.2.2.1 (q + 2)), .ref (ξ.2.2.2.1 (q + 3)), .ref (ξ.2.2.2.1 (q + 4)), .ref (ξ.2.2.2.1 (q + 5)), .int (r 6), .ref (ξ.2.2.2.1 (q + 6)), .int (r 8), .int (r 9), .int (r 10), .ref (ξ.2.2.2.1 (q + 7)), .ref (ξ.2.2.2.1 (q + 8)), .int (r 13), .int (r 14), .ref (ξ.2.2.2.1 (q + 9)), .ref (ξ.2.2.2.1 (q + 10)), .ref (ξ.2.2.2.1 (q + 11)), .int (r 18), .int (r 19), .int (r 20), .int (r 21), .int (r 22), .int (r 23), .int (r 24), .int (r 25), .ref (ξ.2.2.2.1 (q + 12)), .int (r 27), .int (r 28), .int (r 29), .ref (ξ.2.2.2.1 (q + 13)), .ref (ξ.2.2.2.1 (q + 14)), .ref (ξ.2.2.2.1 (q + 15)), .int (r 33), .ref (ξ.2.2.2.1 (q + 16)), .ref (ξ.2.2.2.1 (q + 17)), .ref (ξ.2.2.2.1 (q + 18)), .int (r 37), .ref (ξ.2.2.2.1 (q + 19)), .ref (ξ.2.2.2.1 (q + 20)), .ref (ξ.2.2.2.1 (q + 21)), .ref (ξ.2.2.2.1 (q + 22)), .ref (ξ.2.2.2.1 (q + 23)), .int (r 43), .int (r 44), .int (r 45), .int (r 46), .int (r 47), .int (r 48), .ref (ξ.2.2.2.1 (q + 24)), .ref (ξ.2.2.2.1 (q + 25)), .int (r 51), .int (r 52)]
def sw_cell (Γ : sw_C) (ξ : sw_x) (ri : Nat → Int32) (rl : Nat → Int64) (rr : Nat → Option Nat) (mi : Nat → Int32) (ml : Nat → Int64) (q : Nat) : va_E := match ξ.2.1 q with
  | 1 => .inr (0, f_Hi ξ ri q)
  | 2 => .inr (1, f_Ju ξ ri q)
  | 3 => .inr (2, f_Pl ξ ri q)
  | 4 => .inr (3, f_Re ξ ri q)
  | 5 => .inr (4, f_Rk ξ ri q)
  | 6 => .inr (5, f_Ro ξ ri q)
  | 7 => .inr (6, f_Te ξ ri q)
  | 8 => .inr (7, f_Sx ξ ri q)
  | 9 => .inr (8, f_Mo ξ mi q)
  | 10 => .inl (Γ.2.1 0, ξ.2.2.1 q, .inl ri)
  | 11 => .inl (Γ.2.1 3, ξ.2.2.1 q, .inr (.inl rl))
  | 12 => .inl (Γ.2.1 4, ξ.2.2.1 q, .inr (.inr (.inr (.inr (fun k => (rr k).map ξ.2.2.2.1)))))
  | 13 => .inl (Γ.2.1 5, ξ.2.2.1 q, .inr (.inr (.inr (.inr (fun k => (rr k).map ξ.2.2.2.1)))))
  | 14 => .inl (Γ.2.1 6, ξ.2.2.1 q, .inr (.inr (.inr (.inr (fun k => if k < ξ.2.2.1 q then some (ξ.2.2.2.1 (q + 1 + k)) else none)))))
  | 20 => .inl (Γ.2.1 0, ξ.2.2.1 q, .inl mi)
  | 21 => .inl (Γ.2.1 1, ξ.2.2.1 q, .inl mi)
  | 22 => .inl (Γ.2.1 2, ξ.2.2.1 q, .inl mi)
  | 23 => .inl (Γ.2.1 3, ξ.2.2.1 q, .inr (.inl ml))
  | _ => ξ.2.2.2.2 q
def sw_E (Γ : sw_C) (ξ : sw_x) (g : sw_g) (μ : sw_m) (q : Nat) : va_E := sw_cell Γ ξ (g.1 q) (g.2.1 q) (g.2.2 q) (μ.1 q) (μ.2 q) q
def sw_wl (Γ : sw_C) (ξ : sw_x) (g : sw_g) (μ : sw_m) : va_W := (List.range ξ.1).map (fun q => (ξ.2.2.2.1 q, sw_E Γ ξ g μ q))
abbrev sw_tys (Γ : sw_C) : List (ClassId × FieldType) := [(Γ.2.1 0, .int), (Γ.2.1 1, .byte), (Γ.2.1 2, .boolean), (Γ.2.1 3, .long), (Γ.2.1 4, .object R_Te), (Γ.2.1 5, .object R_Pl), (Γ.2.1 6, .array .int)]
def sw_lt (q : Nat) : Nat := [8, 3, 10, 10, 10, 10, 10, 10, 10, 12, 3, 10, 10, 10, 10, 10, 10, 10, 12, 3, 10, 10, 10, 10, 10, 10, 10, 12, 13, 1, 10, 1, 10, 4, 10, 7, 10, 10, 10, 10, 10, 10, 2, 5, 11, 10, 5, 11, 10, 6, 10, 10, 14, 10, 10, 10, 10, 10, 10, 10, 14, 10, 10, 10, 10, 10, 10, 10, 14, 10, 10, 10, 10, 10, 10, 10, 14, 10, 10, 10, 10, 10, 10, 10, 9, 20, 20, 20, 22, 20, 21, 21, 20, 20, 20, 20, 20, 20, 20, 20, 20, 22, 20, 20, 20, 22, 20, 23, 23, 20].getD q 0
def sw_ll (q : Nat) : Nat := [0, 0, 7, 7, 7, 4, 6, 6, 6, 6, 0, 7, 7, 7, 4, 6, 6, 6, 6, 0, 7, 7, 7, 4, 6, 6, 6, 6, 2, 0, 256, 0, 256, 0, 400, 0, 12, 12, 12, 12, 12, 512, 0, 0, 40, 8, 0, 40, 19, 0, 7, 7, 7, 7, 7, 7, 7, 7, 7, 7, 7, 7, 7, 7, 7, 7, 7, 7, 7, 7, 7, 7, 7, 7, 7, 7, 4, 1784, 1784, 1784, 1784, 128, 128, 5, 0, 7, 5654, 11308, 2, 30, 124, 400, 5, 401, 401, 401, 8, 7, 256, 256, 49, 49, 33608, 128, 128, 128, 3, 21, 2, 15].getD q 0
def sw_is (ξ : sw_x) (q t n : Nat) : Prop := q < ξ.1 ∧ ξ.2.1 q = t ∧ ξ.2.2.1 q = n
def sw_ik (ξ : sw_x) (q t : Nat) : Prop := q < ξ.1 ∧ ξ.2.1 q = t
/-- the layout: what stands from the start on, the planks and texts that came, what rows of references hold -/
def sw_wf (ξ : sw_x) (R : Nat → Nat → Option Nat) : Prop := 110 ≤ ξ.1 ∧ (∀ q, q < 110 → ξ.2.1 q = sw_lt q ∧ ξ.2.2.1 q = sw_ll q)
  ∧ (∀ q, sw_ik ξ q 3 → sw_is ξ (q + 1) 10 7 ∧ sw_is ξ (q + 2) 10 7 ∧ sw_is ξ (q + 3) 10 7 ∧ sw_is ξ (q + 4) 10 4 ∧ sw_is ξ (q + 5) 10 6 ∧ sw_is ξ (q + 6) 10 6 ∧ sw_is ξ (q + 7) 10 6 ∧ sw_is ξ (q + 8) 12 6)
  ∧ (∀ q, sw_ik ξ q 7 → sw_is ξ (q + 1) 10 12 ∧ sw_is ξ (q + 2) 10 12 ∧ sw_is ξ (q + 3) 10 12 ∧ sw_is ξ (q + 4) 10 12 ∧ sw_is ξ (q + 5) 10 12 ∧ sw_is ξ (q + 6) 10 (ξ.2.2.1 (q + 6)))
  ∧ (∀ q k t, sw_ik ξ q 12 → R q k = some t → sw_ik ξ t 7) ∧ (∀ q k t, sw_ik ξ q 13 → R q k = some t → sw_ik ξ t 3)
theorem wf_is {ξ : sw_x} {R : Nat → Nat → Option Nat} (hf : sw_wf ξ R) (q : Nat) (hq : q < 110) : sw_is ξ q (sw_lt q) (sw_ll q) := ⟨Nat.lt_of_lt_of_le hq hf.1, hf.2.1 q hq⟩
theorem wf_ik {ξ : sw_x} {R : Nat → Nat → Option Nat} (hf : sw_wf ξ R) (q : Nat) (hq : q < 110) : sw_ik ξ q (sw_lt q) := ⟨Nat.lt_of_lt_of_le hq hf.1, (hf.2.1 q hq).1⟩
theorem is_0 {ξ : sw_x} {R : Nat → Nat → Option Nat} (hf : sw_wf ξ R) : sw_ik ξ 0 8 := wf_ik hf 0 (by decide)
theorem is_1 {ξ : sw_x} {R : Nat → Nat → Option Nat} (hf : sw_wf ξ R) : sw_ik ξ 1 3 := wf_ik hf 1 (by decide)
theorem is_2 {ξ : sw_x} {R : Nat → Nat → Option Nat} (hf : sw_wf ξ R) : sw_is ξ 2 10 7 := wf_is hf 2 (by decide)
theorem is_3 {ξ : sw_x} {R : Nat → Nat → Option Nat} (hf : sw_wf ξ R) : sw_is ξ 3 10 7 := wf_is hf 3 (by decide)
theorem is_4 {ξ : sw_x} {R : Nat → Nat → Option Nat} (hf : sw_wf ξ R) : sw_is ξ 4 10 7 := wf_is hf 4 (by decide)
theorem is_5 {ξ : sw_x} {R : Nat → Nat → Option Nat} (hf : sw_wf ξ R) : sw_is ξ 5 10 4 := wf_is hf 5 (by decide)
theorem is_6 {ξ : sw_x} {R : Nat → Nat → Option Nat} (hf : sw_wf ξ R) : sw_is ξ 6 10 6 := wf_is hf 6 (by decide)
theorem is_7 {ξ : sw_x} {R : Nat → Nat → Option Nat} (hf : sw_wf ξ R) : sw_is ξ 7 10 6 := wf_is hf 7 (by decide)
theorem is_8 {ξ : sw_x} {R : Nat → Nat → Option Nat} (hf : sw_wf ξ R) : sw_is ξ 8 10 6 := wf_is hf 8 (by decide)
theorem is_9 {ξ : sw_x} {R : Nat → Nat → Option Nat} (hf : sw_wf ξ R) : sw_is ξ 9 12 6 := wf_is hf 9 (by decide)
theorem is_10 {ξ : sw_x} {R : Nat → Nat → Option Nat} (hf : sw_wf ξ R) : sw_ik ξ 10 3 := wf_ik hf 10 (by decide)
theorem is_11 {ξ : sw_x} {R : Nat → Nat → Option Nat} (hf : sw_wf ξ R) : sw_is ξ 11 10 7 := wf_is hf 11 (by decide)
theorem is_12 {ξ : sw_x} {R : Nat → Nat → Option Nat} (hf : sw_wf ξ R) : sw_is ξ 12 10 7 := wf_is hf 12 (by decide)
theorem is_13 {ξ : sw_x} {R : Nat → Nat → Option Nat} (hf : sw_wf ξ R) : sw_is ξ 13 10 7 := wf_is hf 13 (by decide)
theorem is_14 {ξ : sw_x} {R : Nat → Nat → Option Nat} (hf : sw_wf ξ R) : sw_is ξ 14 10 4 := wf_is hf 14 (by decide)
theorem is_15 {ξ : sw_x} {R : Nat → Nat → Option Nat} (hf : sw_wf ξ R) : sw_is ξ 15 10 6 := wf_is hf 15 (by decide)
theorem is_16 {ξ : sw_x} {R : Nat → Nat → Option Nat} (hf : sw_wf ξ R) : sw_is ξ 16 10 6 := wf_is hf 16 (by decide)
theorem is_17 {ξ : sw_x} {R : Nat → Nat → Option Nat} (hf : sw_wf ξ R) : sw_is ξ 17 10 6 := wf_is hf 17 (by decide)
theorem is_18 {ξ : sw_x} {R : Nat → Nat → Option Nat} (hf : sw_wf ξ R) : sw_is ξ 18 12 6 := wf_is hf 18 (by decide)
theorem is_19 {ξ : sw_x} {R : Nat → Nat → Option Nat} (hf : sw_wf ξ R) : sw_ik ξ 19 3 := wf_ik hf 19 (by decide)
theorem is_20 {ξ : sw_x} {R : Nat → Nat → Option Nat} (hf : sw_wf ξ R) : sw_is ξ 20 10 7 := wf_is hf 20 (by decide)
theorem is_21 {ξ : sw_x} {R : Nat → Nat → Option Nat} (hf : sw_wf ξ R) : sw_is ξ 21 10 7 := wf_is hf 21 (by decide)
theorem is_22 {ξ : sw_x} {R : Nat → Nat → Option Nat} (hf : sw_wf ξ R) : sw_is ξ 22 10 7 := wf_is hf 22 (by decide)
theorem is_23 {ξ : sw_x} {R : Nat → Nat → Option Nat} (hf : sw_wf ξ R) : sw_is ξ 23 10 4 := wf_is hf 23 (by decide)
theorem is_24 {ξ : sw_x} {R : Nat → Nat → Option Nat} (hf : sw_wf ξ R) : sw_is ξ 24 10 6 := wf_is hf 24 (by decide)
theorem is_25 {ξ : sw_x} {R : Nat → Nat → Option Nat} (hf : sw_wf ξ R) : sw_is ξ 25 10 6 := wf_is hf 25 (by decide)
theorem is_26 {ξ : sw_x} {R : Nat → Nat → Option Nat} (hf : sw_wf ξ R) : sw_is ξ 26 10 6 := wf_is hf 26 (by decide)
theorem is_27 {ξ : sw_x} {R : Nat → Nat → Option Nat} (hf : sw_wf ξ R) : sw_is ξ 27 12 6 := wf_is hf 27 (by decide)
theorem is_28 {ξ : sw_x} {R : Nat → Nat → Option Nat} (hf : sw_wf ξ R) : sw_is ξ 28 13 2 := wf_is hf 28 (by decide)
theorem is_29 {ξ : sw_x} {R : Nat → Nat → Option Nat} (hf : sw_wf ξ R) : sw_ik ξ 29 1 := wf_ik hf 29 (by decide)
theorem is_30 {ξ : sw_x} {R : Nat → Nat → Option Nat} (hf : sw_wf ξ R) : sw_is ξ 30 10 256 := wf_is hf 30 (by decide)
theorem is_31 {ξ : sw_x} {R : Nat → Nat → Option Nat} (hf : sw_wf ξ R) : sw_ik ξ 31 1 := wf_ik hf 31 (by decide)
theorem is_32 {ξ : sw_x} {R : Nat → Nat → Option Nat} (hf : sw_wf ξ R) : sw_is ξ 32 10 256 := wf_is hf 32 (by decide)
theorem is_33 {ξ : sw_x} {R : Nat → Nat → Option Nat} (hf : sw_wf ξ R) : sw_ik ξ 33 4 := wf_ik hf 33 (by decide)
theorem is_34 {ξ : sw_x} {R : Nat → Nat → Option Nat} (hf : sw_wf ξ R) : sw_is ξ 34 10 400 := wf_is hf 34 (by decide)
theorem is_35 {ξ : sw_x} {R : Nat → Nat → Option Nat} (hf : sw_wf ξ R) : sw_ik ξ 35 7 := wf_ik hf 35 (by decide)
theorem is_36 {ξ : sw_x} {R : Nat → Nat → Option Nat} (hf : sw_wf ξ R) : sw_is ξ 36 10 12 := wf_is hf 36 (by decide)
theorem is_37 {ξ : sw_x} {R : Nat → Nat → Option Nat} (hf : sw_wf ξ R) : sw_is ξ 37 10 12 := wf_is hf 37 (by decide)
theorem is_38 {ξ : sw_x} {R : Nat → Nat → Option Nat} (hf : sw_wf ξ R) : sw_is ξ 38 10 12 := wf_is hf 38 (by decide)
theorem is_39 {ξ : sw_x} {R : Nat → Nat → Option Nat} (hf : sw_wf ξ R) : sw_is ξ 39 10 12 := wf_is hf 39 (by decide)
theorem is_40 {ξ : sw_x} {R : Nat → Nat → Option Nat} (hf : sw_wf ξ R) : sw_is ξ 40 10 12 := wf_is hf 40 (by decide)
theorem is_41 {ξ : sw_x} {R : Nat → Nat → Option Nat} (hf : sw_wf ξ R) : sw_is ξ 41 10 512 := wf_is hf 41 (by decide)
theorem is_42 {ξ : sw_x} {R : Nat → Nat → Option Nat} (hf : sw_wf ξ R) : sw_ik ξ 42 2 := wf_ik hf 42 (by decide)
theorem is_43 {ξ : sw_x} {R : Nat → Nat → Option Nat} (hf : sw_wf ξ R) : sw_ik ξ 43 5 := wf_ik hf 43 (by decide)
theorem is_44 {ξ : sw_x} {R : Nat → Nat → Option Nat} (hf : sw_wf ξ R) : sw_is ξ 44 11 40 := wf_is hf 44 (by decide)
theorem is_45 {ξ : sw_x} {R : Nat → Nat → Option Nat} (hf : sw_wf ξ R) : sw_is ξ 45 10 8 := wf_is hf 45 (by decide)
theorem is_46 {ξ : sw_x} {R : Nat → Nat → Option Nat} (hf : sw_wf ξ R) : sw_ik ξ 46 5 := wf_ik hf 46 (by decide)
theorem is_47 {ξ : sw_x} {R : Nat → Nat → Option Nat} (hf : sw_wf ξ R) : sw_is ξ 47 11 40 := wf_is hf 47 (by decide)
theorem is_48 {ξ : sw_x} {R : Nat → Nat → Option Nat} (hf : sw_wf ξ R) : sw_is ξ 48 10 19 := wf_is hf 48 (by decide)
theorem is_49 {ξ : sw_x} {R : Nat → Nat → Option Nat} (hf : sw_wf ξ R) : sw_ik ξ 49 6 := wf_ik hf 49 (by decide)
theorem is_50 {ξ : sw_x} {R : Nat → Nat → Option Nat} (hf : sw_wf ξ R) : sw_is ξ 50 10 7 := wf_is hf 50 (by decide)
theorem is_51 {ξ : sw_x} {R : Nat → Nat → Option Nat} (hf : sw_wf ξ R) : sw_is ξ 51 10 7 := wf_is hf 51 (by decide)
theorem is_52 {ξ : sw_x} {R : Nat → Nat → Option Nat} (hf : sw_wf ξ R) : sw_is ξ 52 14 7 := wf_is hf 52 (by decide)
theorem is_53 {ξ : sw_x} {R : Nat → Nat → Option Nat} (hf : sw_wf ξ R) : sw_is ξ 53 10 7 := wf_is hf 53 (by decide)
theorem is_54 {ξ : sw_x} {R : Nat → Nat → Option Nat} (hf : sw_wf ξ R) : sw_is ξ 54 10 7 := wf_is hf 54 (by decide)
theorem is_55 {ξ : sw_x} {R : Nat → Nat → Option Nat} (hf : sw_wf ξ R) : sw_is ξ 55 10 7 := wf_is hf 55 (by decide)
theorem is_56 {ξ : sw_x} {R : Nat → Nat → Option Nat} (hf : sw_wf ξ R) : sw_is ξ 56 10 7 := wf_is hf 56 (by decide)
theorem is_57 {ξ : sw_x} {R : Nat → Nat → Option Nat} (hf : sw_wf ξ R) : sw_is ξ 57 10 7 := wf_is hf 57 (by decide)
theorem is_58 {ξ : sw_x} {R : Nat → Nat → Option Nat} (hf : sw_wf ξ R) : sw_is ξ 58 10 7 := wf_is hf 58 (by decide)
theorem is_59 {ξ : sw_x} {R : Nat → Nat → Option Nat} (hf : sw_wf ξ R) : sw_is ξ 59 10 7 := wf_is hf 59 (by decide)
theorem is_60 {ξ : sw_x} {R : Nat → Nat → Option Nat} (hf : sw_wf ξ R) : sw_is ξ 60 14 7 := wf_is hf 60 (by decide)
theorem is_61 {ξ : sw_x} {R : Nat → Nat → Option Nat} (hf : sw_wf ξ R) : sw_is ξ 61 10 7 := wf_is hf 61 (by decide)
theorem is_62 {ξ : sw_x} {R : Nat → Nat → Option Nat} (hf : sw_wf ξ R) : sw_is ξ 62 10 7 := wf_is hf 62 (by decide)
theorem is_63 {ξ : sw_x} {R : Nat → Nat → Option Nat} (hf : sw_wf ξ R) : sw_is ξ 63 10 7 := wf_is hf 63 (by decide)
theorem is_64 {ξ : sw_x} {R : Nat → Nat → Option Nat} (hf : sw_wf ξ R) : sw_is ξ 64 10 7 := wf_is hf 64 (by decide)
theorem is_65 {ξ : sw_x} {R : Nat → Nat → Option Nat} (hf : sw_wf ξ R) : sw_is ξ 65 10 7 := wf_is hf 65 (by decide)
theorem is_66 {ξ : sw_x} {R : Nat → Nat → Option Nat} (hf : sw_wf ξ R) : sw_is ξ 66 10 7 := wf_is hf 66 (by decide)
theorem is_67 {ξ : sw_x} {R : Nat → Nat → Option Nat} (hf : sw_wf ξ R) : sw_is ξ 67 10 7 := wf_is hf 67 (by decide)
theorem is_68 {ξ : sw_x} {R : Nat → Nat → Option Nat} (hf : sw_wf ξ R) : sw_is ξ 68 14 7 := wf_is hf 68 (by decide)
theorem is_69 {ξ : sw_x} {R : Nat → Nat → Option Nat} (hf : sw_wf ξ R) : sw_is ξ 69 10 7 := wf_is hf 69 (by decide)
theorem is_70 {ξ : sw_x} {R : Nat → Nat → Option Nat} (hf : sw_wf ξ R) : sw_is ξ 70 10 7 := wf_is hf 70 (by decide)
theorem is_71 {ξ : sw_x} {R : Nat → Nat → Option Nat} (hf : sw_wf ξ R) : sw_is ξ 71 10 7 := wf_is hf 71 (by decide)
theorem is_72 {ξ : sw_x} {R : Nat → Nat → Option Nat} (hf : sw_wf ξ R) : sw_is ξ 72 10 7 := wf_is hf 72 (by decide)
theorem is_73 {ξ : sw_x} {R : Nat → Nat → Option Nat} (hf : sw_wf ξ R) : sw_is ξ 73 10 7 := wf_is hf 73 (by decide)
theorem is_74 {ξ : sw_x} {R : Nat → Nat → Option Nat} (hf : sw_wf ξ R) : sw_is ξ 74 10 7 := wf_is hf 74 (by decide)
theorem is_75 {ξ : sw_x} {R : Nat → Nat → Option Nat} (hf : sw_wf ξ R) : sw_is ξ 75 10 7 := wf_is hf 75 (by decide)
theorem is_76 {ξ : sw_x} {R : Nat → Nat → Option Nat} (hf : sw_wf ξ R) : sw_is ξ 76 14 4 := wf_is hf 76 (by decide)
theorem is_77 {ξ : sw_x} {R : Nat → Nat → Option Nat} (hf : sw_wf ξ R) : sw_is ξ 77 10 1784 := wf_is hf 77 (by decide)
theorem is_78 {ξ : sw_x} {R : Nat → Nat → Option Nat} (hf : sw_wf ξ R) : sw_is ξ 78 10 1784 := wf_is hf 78 (by decide)
theorem is_79 {ξ : sw_x} {R : Nat → Nat → Option Nat} (hf : sw_wf ξ R) : sw_is ξ 79 10 1784 := wf_is hf 79 (by decide)
theorem is_80 {ξ : sw_x} {R : Nat → Nat → Option Nat} (hf : sw_wf ξ R) : sw_is ξ 80 10 1784 := wf_is hf 80 (by decide)
theorem is_81 {ξ : sw_x} {R : Nat → Nat → Option Nat} (hf : sw_wf ξ R) : sw_is ξ 81 10 128 := wf_is hf 81 (by decide)
theorem is_82 {ξ : sw_x} {R : Nat → Nat → Option Nat} (hf : sw_wf ξ R) : sw_is ξ 82 10 128 := wf_is hf 82 (by decide)
theorem is_83 {ξ : sw_x} {R : Nat → Nat → Option Nat} (hf : sw_wf ξ R) : sw_is ξ 83 10 5 := wf_is hf 83 (by decide)
theorem is_84 {ξ : sw_x} {R : Nat → Nat → Option Nat} (hf : sw_wf ξ R) : sw_ik ξ 84 9 := wf_ik hf 84 (by decide)
theorem is_85 {ξ : sw_x} {R : Nat → Nat → Option Nat} (hf : sw_wf ξ R) : sw_is ξ 85 20 7 := wf_is hf 85 (by decide)
theorem is_86 {ξ : sw_x} {R : Nat → Nat → Option Nat} (hf : sw_wf ξ R) : sw_is ξ 86 20 5654 := wf_is hf 86 (by decide)
theorem is_87 {ξ : sw_x} {R : Nat → Nat → Option Nat} (hf : sw_wf ξ R) : sw_is ξ 87 20 11308 := wf_is hf 87 (by decide)
theorem is_88 {ξ : sw_x} {R : Nat → Nat → Option Nat} (hf : sw_wf ξ R) : sw_is ξ 88 22 2 := wf_is hf 88 (by decide)
theorem is_89 {ξ : sw_x} {R : Nat → Nat → Option Nat} (hf : sw_wf ξ R) : sw_is ξ 89 20 30 := wf_is hf 89 (by decide)
theorem is_90 {ξ : sw_x} {R : Nat → Nat → Option Nat} (hf : sw_wf ξ R) : sw_is ξ 90 21 124 := wf_is hf 90 (by decide)
theorem is_91 {ξ : sw_x} {R : Nat → Nat → Option Nat} (hf : sw_wf ξ R) : sw_is ξ 91 21 400 := wf_is hf 91 (by decide)
theorem is_92 {ξ : sw_x} {R : Nat → Nat → Option Nat} (hf : sw_wf ξ R) : sw_is ξ 92 20 5 := wf_is hf 92 (by decide)
theorem is_93 {ξ : sw_x} {R : Nat → Nat → Option Nat} (hf : sw_wf ξ R) : sw_is ξ 93 20 401 := wf_is hf 93 (by decide)
theorem is_94 {ξ : sw_x} {R : Nat → Nat → Option Nat} (hf : sw_wf ξ R) : sw_is ξ 94 20 401 := wf_is hf 94 (by decide)
theorem is_95 {ξ : sw_x} {R : Nat → Nat → Option Nat} (hf : sw_wf ξ R) : sw_is ξ 95 20 401 := wf_is hf 95 (by decide)
theorem is_96 {ξ : sw_x} {R : Nat → Nat → Option Nat} (hf : sw_wf ξ R) : sw_is ξ 96 20 8 := wf_is hf 96 (by decide)
theorem is_97 {ξ : sw_x} {R : Nat → Nat → Option Nat} (hf : sw_wf ξ R) : sw_is ξ 97 20 7 := wf_is hf 97 (by decide)
theorem is_98 {ξ : sw_x} {R : Nat → Nat → Option Nat} (hf : sw_wf ξ R) : sw_is ξ 98 20 256 := wf_is hf 98 (by decide)
theorem is_99 {ξ : sw_x} {R : Nat → Nat → Option Nat} (hf : sw_wf ξ R) : sw_is ξ 99 20 256 := wf_is hf 99 (by decide)
theorem is_100 {ξ : sw_x} {R : Nat → Nat → Option Nat} (hf : sw_wf ξ R) : sw_is ξ 100 20 49 := wf_is hf 100 (by decide)
theorem is_101 {ξ : sw_x} {R : Nat → Nat → Option Nat} (hf : sw_wf ξ R) : sw_is ξ 101 22 49 := wf_is hf 101 (by decide)
theorem is_102 {ξ : sw_x} {R : Nat → Nat → Option Nat} (hf : sw_wf ξ R) : sw_is ξ 102 20 33608 := wf_is hf 102 (by decide)
theorem is_103 {ξ : sw_x} {R : Nat → Nat → Option Nat} (hf : sw_wf ξ R) : sw_is ξ 103 20 128 := wf_is hf 103 (by decide)
theorem is_104 {ξ : sw_x} {R : Nat → Nat → Option Nat} (hf : sw_wf ξ R) : sw_is ξ 104 20 128 := wf_is hf 104 (by decide)
theorem is_105 {ξ : sw_x} {R : Nat → Nat → Option Nat} (hf : sw_wf ξ R) : sw_is ξ 105 22 128 := wf_is hf 105 (by decide)
theorem is_106 {ξ : sw_x} {R : Nat → Nat → Option Nat} (hf : sw_wf ξ R) : sw_is ξ 106 20 3 := wf_is hf 106 (by decide)
theorem is_107 {ξ : sw_x} {R : Nat → Nat → Option Nat} (hf : sw_wf ξ R) : sw_is ξ 107 23 21 := wf_is hf 107 (by decide)
theorem is_108 {ξ : sw_x} {R : Nat → Nat → Option Nat} (hf : sw_wf ξ R) : sw_is ξ 108 23 2 := wf_is hf 108 (by decide)
theorem is_109 {ξ : sw_x} {R : Nat → Nat → Option Nat} (hf : sw_wf ξ R) : sw_is ξ 109 20 15 := wf_is hf 109 (by decide)
theorem is_Pl_heavy {ξ : sw_x} {R : Nat → Nat → Option Nat} (hf : sw_wf ξ R) {q : Nat} (h : sw_ik ξ q 3) : sw_is ξ (q + 1) 10 7 := (hf.2.2.1 q h).1
theorem is_Pl_kind {ξ : sw_x} {R : Nat → Nat → Option Nat} (hf : sw_wf ξ R) {q : Nat} (h : sw_ik ξ q 3) : sw_is ξ (q + 2) 10 7 := (hf.2.2.1 q h).2.1
theorem is_Pl_place {ξ : sw_x} {R : Nat → Nat → Option Nat} (hf : sw_wf ξ R) {q : Nat} (h : sw_ik ξ q 3) : sw_is ξ (q + 3) 10 7 := (hf.2.2.1 q h).2.2.1
theorem is_Pl_term {ξ : sw_x} {R : Nat → Nat → Option Nat} (hf : sw_wf ξ R) {q : Nat} (h : sw_ik ξ q 3) : sw_is ξ (q + 4) 10 4 := (hf.2.2.1 q h).2.2.2.1
theorem is_Pl_left {ξ : sw_x} {R : Nat → Nat → Option Nat} (hf : sw_wf ξ R) {q : Nat} (h : sw_ik ξ q 3) : sw_is ξ (q + 5) 10 6 := (hf.2.2.1 q h).2.2.2.2.1
theorem is_Pl_right {ξ : sw_x} {R : Nat → Nat → Option Nat} (hf : sw_wf ξ R) {q : Nat} (h : sw_ik ξ q 3) : sw_is ξ (q + 6) 10 6 := (hf.2.2.1 q h).2.2.2.2.2.1
theorem is_Pl_came {ξ : sw_x} {R : Nat → Nat → Option Nat} (hf : sw_wf ξ R) {q : Nat} (h : sw_ik ξ q 3) : sw_is ξ (q + 7) 10 6 := (hf.2.2.1 q h).2.2.2.2.2.2.1
theorem is_Pl_texts {ξ : sw_x} {R : Nat → Nat → Option Nat} (hf : sw_wf ξ R) {q : Nat} (h : sw_ik ξ q 3) : sw_is ξ (q + 8) 12 6 := (hf.2.2.1 q h).2.2.2.2.2.2.2
theorem is_Te_verb {ξ : sw_x} {R : Nat → Nat → Option Nat} (hf : sw_wf ξ R) {q : Nat} (h : sw_ik ξ q 7) : sw_is ξ (q + 1) 10 12 := (hf.2.2.2.1 q h).1
theorem is_Te_first {ξ : sw_x} {R : Nat → Nat → Option Nat} (hf : sw_wf ξ R) {q : Nat} (h : sw_ik ξ q 7) : sw_is ξ (q + 2) 10 12 := (hf.2.2.2.1 q h).2.1
theorem is_Te_second {ξ : sw_x} {R : Nat → Nat → Option Nat} (hf : sw_wf ξ R) {q : Nat} (h : sw_ik ξ q 7) : sw_is ξ (q + 3) 10 12 := (hf.2.2.2.1 q h).2.2.1
theorem is_Te_times {ξ : sw_x} {R : Nat → Nat → Option Nat} (hf : sw_wf ξ R) {q : Nat} (h : sw_ik ξ q 7) : sw_is ξ (q + 4) 10 12 := (hf.2.2.2.1 q h).2.2.2.1
theorem is_Te_test {ξ : sw_x} {R : Nat → Nat → Option Nat} (hf : sw_wf ξ R) {q : Nat} (h : sw_ik ξ q 7) : sw_is ξ (q + 5) 10 12 := (hf.2.2.2.1 q h).2.2.2.2.1
theorem is_Te_code {ξ : sw_x} {R : Nat → Nat → Option Nat} (hf : sw_wf ξ R) {q : Nat} (h : sw_ik ξ q 7) : sw_is ξ (q + 6) 10 (ξ.2.2.1 (q + 6)) := (hf.2.2.2.1 q h).2.2.2.2.2
theorem e_Hi {Γ : sw_C} {ξ : sw_x} {g : sw_g} {μ : sw_m} {q : Nat} (h : sw_ik ξ q 1) : sw_E Γ ξ g μ q = .inr (0, f_Hi ξ (g.1 q) q) := by unfold sw_E sw_cell; rw [h.2]; rfl
theorem e_Ju {Γ : sw_C} {ξ : sw_x} {g : sw_g} {μ : sw_m} {q : Nat} (h : sw_ik ξ q 2) : sw_E Γ ξ g μ q = .inr (1, f_Ju ξ (g.1 q) q) := by unfold sw_E sw_cell; rw [h.2]; rfl
theorem e_Pl {Γ : sw_C} {ξ : sw_x} {g : sw_g} {μ : sw_m} {q : Nat} (h : sw_ik ξ q 3) : sw_E Γ ξ g μ q = .inr (2, f_Pl ξ (g.1 q) q) := by unfold sw_E sw_cell; rw [h.2]; rfl
theorem e_Re {Γ : sw_C} {ξ : sw_x} {g : sw_g} {μ : sw_m} {q : Nat} (h : sw_ik ξ q 4) : sw_E Γ ξ g μ q = .inr (3, f_Re ξ (g.1 q) q) := by unfold sw_E sw_cell; rw [h.2]; rfl
theorem e_Rk {Γ : sw_C} {ξ : sw_x} {g : sw_g} {μ : sw_m} {q : Nat} (h : sw_ik ξ q 5) : sw_E Γ ξ g μ q = .inr (4, f_Rk ξ (g.1 q) q) := by unfold sw_E sw_cell; rw [h.2]; rfl
theorem e_Ro {Γ : sw_C} {ξ : sw_x} {g : sw_g} {μ : sw_m} {q : Nat} (h : sw_ik ξ q 6) : sw_E Γ ξ g μ q = .inr (5, f_Ro ξ (g.1 q) q) := by unfold sw_E sw_cell; rw [h.2]; rfl
theorem e_Te {Γ : sw_C} {ξ : sw_x} {g : sw_g} {μ : sw_m} {q : Nat} (h : sw_ik ξ q 7) : sw_E Γ ξ g μ q = .inr (6, f_Te ξ (g.1 q) q) := by unfold sw_E sw_cell; rw [h.2]; rfl
theorem e_Sx {Γ : sw_C} {ξ : sw_x} {g : sw_g} {μ : sw_m} {q : Nat} (h : sw_ik ξ q 8) : sw_E Γ ξ g μ q = .inr (7, f_Sx ξ (g.1 q) q) := by unfold sw_E sw_cell; rw [h.2]; rfl
theorem e_Mo {Γ : sw_C} {ξ : sw_x} {g : sw_g} {μ : sw_m} {q : Nat} (h : sw_ik ξ q 9) : sw_E Γ ξ g μ q = .inr (8, f_Mo ξ (μ.1 q) q) := by unfold sw_E sw_cell; rw [h.2]; rfl
theorem e_10 {Γ : sw_C} {ξ : sw_x} {g : sw_g} {μ : sw_m} {q n : Nat} (h : sw_is ξ q 10 n) : sw_E Γ ξ g μ q = .inl (Γ.2.1 0, n, .inl (g.1 q)) := by unfold sw_E sw_cell; rw [h.2.1, h.2.2]; rfl
theorem e_11 {Γ : sw_C} {ξ : sw_x} {g : sw_g} {μ : sw_m} {q n : Nat} (h : sw_is ξ q 11 n) : sw_E Γ ξ g μ q = .inl (Γ.2.1 3, n, .inr (.inl (g.2.1 q))) := by unfold sw_E sw_cell; rw [h.2.1, h.2.2]; rfl
theorem e_12 {Γ : sw_C} {ξ : sw_x} {g : sw_g} {μ : sw_m} {q n : Nat} (h : sw_is ξ q 12 n) : sw_E Γ ξ g μ q = .inl (Γ.2.1 4, n, .inr (.inr (.inr (.inr (fun k => (g.2.2 q k).map ξ.2.2.2.1))))) := by unfold sw_E sw_cell; rw [h.2.1, h.2.2]; rfl
theorem e_13 {Γ : sw_C} {ξ : sw_x} {g : sw_g} {μ : sw_m} {q n : Nat} (h : sw_is ξ q 13 n) : sw_E Γ ξ g μ q = .inl (Γ.2.1 5, n, .inr (.inr (.inr (.inr (fun k => (g.2.2 q k).map ξ.2.2.2.1))))) := by unfold sw_E sw_cell; rw [h.2.1, h.2.2]; rfl
theorem e_14 {Γ : sw_C} {ξ : sw_x} {g : sw_g} {μ : sw_m} {q n : Nat} (h : sw_is ξ q 14 n) : sw_E Γ ξ g μ q = .inl (Γ.2.1 6, n, .inr (.inr (.inr (.inr (fun k => if k < n then some (ξ.2.2.2.1 (q + 1 + k)) else none))))) := by unfold sw_E sw_cell; rw [h.2.1, h.2.2]; rfl
theorem e_20 {Γ : sw_C} {ξ : sw_x} {g : sw_g} {μ : sw_m} {q n : Nat} (h : sw_is ξ q 20 n) : sw_E Γ ξ g μ q = .inl (Γ.2.1 0, n, .inl (μ.1 q)) := by unfold sw_E sw_cell; rw [h.2.1, h.2.2]; rfl
theorem e_21 {Γ : sw_C} {ξ : sw_x} {g : sw_g} {μ : sw_m} {q n : Nat} (h : sw_is ξ q 21 n) : sw_E Γ ξ g μ q = .inl (Γ.2.1 1, n, .inl (μ.1 q)) := by unfold sw_E sw_cell; rw [h.2.1, h.2.2]; rfl
theorem e_22 {Γ : sw_C} {ξ : sw_x} {g : sw_g} {μ : sw_m} {q n : Nat} (h : sw_is ξ q 22 n) : sw_E Γ ξ g μ q = .inl (Γ.2.1 2, n, .inl (μ.1 q)) := by unfold sw_E sw_cell; rw [h.2.1, h.2.2]; rfl
theorem e_23 {Γ : sw_C} {ξ : sw_x} {g : sw_g} {μ : sw_m} {q n : Nat} (h : sw_is ξ q 23 n) : sw_E Γ ξ g μ q = .inl (Γ.2.1 3, n, .inr (.inl (μ.2 q))) := by unfold sw_E sw_cell; rw [h.2.1, h.2.2]; rfl
