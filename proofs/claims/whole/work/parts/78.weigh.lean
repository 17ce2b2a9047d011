/-! ===== weigh ===== -/
def sU (f : Nat → Nat) : Nat → Nat
  | 0 => 0
  | m + 1 => sU f m + f m
theorem sU_cong {f h : Nat → Nat} : ∀ m, (∀ i, i < m → f i = h i) → sU f m = sU h m := by
  intro m
  induction m with
  | zero => intro _; rfl
  | succ m ih => intro q; show sU f m + f m = sU h m + h m; rw [ih (fun i hi => q i (by omega)), q m (by omega)]
theorem sU_add {f h : Nat → Nat} : ∀ m, sU (fun i => f i + h i) m = sU f m + sU h m := by
  intro m
  induction m with
  | zero => rfl
  | succ m ih => show sU (fun i => f i + h i) m + (f m + h m) = (sU f m + f m) + (sU h m + h m); rw [ih]; omega
theorem sU_le {f : Nat → Nat} (h : ∀ i, f i ≤ 1) : ∀ m, sU f m ≤ m := by
  intro m
  induction m with
  | zero => exact Nat.le_refl _
  | succ m ih => show sU f m + f m ≤ m + 1; have := h m; omega
def b1 (b : Bool) : Nat := if b then 1 else 0
theorem b1_le (b : Bool) : b1 b ≤ 1 := by cases b <;> decide
def pc15 (b : Nat) : Nat := sU (fun c => b / 2 ^ c % 2) 15
/-! the machine's way of counting bits, in whole numbers -/
def bcN (b : Nat) : Nat := (fun x1 => (fun x2 => (fun x3 => (fun x4 => (x4 + x4 / 65536) &&& 63) (x3 + x3 / 256)) ((x2 + x2 / 16) &&& 252645135)) ((x1 &&& 858993459) + (x1 / 4 &&& 858993459))) (b - (b / 2 &&& 1431655765))
def pcF (b : Nat) : Nat := b % 2 + b / 2 % 2 + b / 4 % 2 + b / 8 % 2 + b / 16 % 2 + b / 32 % 2 + b / 64 % 2 + b / 128 % 2 + b / 256 % 2 + b / 512 % 2 + b / 1024 % 2 + b / 2048 % 2 + b / 4096 % 2 + b / 8192 % 2 + b / 16384 % 2
theorem bc_0 : ∀ i, i < 8 → ∀ j, j < 32 → ∀ l, l < 32 → bcN (1024 * (i + 0) + 32 * j + l) = pcF (1024 * (i + 0) + 32 * j + l) := by decide +kernel
theorem bc_1 : ∀ i, i < 8 → ∀ j, j < 32 → ∀ l, l < 32 → bcN (1024 * (i + 8) + 32 * j + l) = pcF (1024 * (i + 8) + 32 * j + l) := by decide +kernel
theorem bc_2 : ∀ i, i < 8 → ∀ j, j < 32 → ∀ l, l < 32 → bcN (1024 * (i + 16) + 32 * j + l) = pcF (1024 * (i + 16) + 32 * j + l) := by decide +kernel
theorem bc_3 : ∀ i, i < 8 → ∀ j, j < 32 → ∀ l, l < 32 → bcN (1024 * (i + 24) + 32 * j + l) = pcF (1024 * (i + 24) + 32 * j + l) := by decide +kernel
theorem bc_eq {b : Nat} (h : b < 32768) : bcN b = pc15 b := by
  have e : pc15 b = pcF b := by
    simp only [pc15, sU, pcF, Nat.reducePow, Nat.div_one]; omega
  rw [e]
  have q : b = 1024 * (b / 1024) + 32 * (b / 32 % 32) + b % 32 := by omega
  generalize hi : b / 1024 = i at q
  generalize hj : b / 32 % 32 = j at q
  generalize hl : b % 32 = l at q
  have hj' : j < 32 := by omega
  have hl' : l < 32 := by omega
  rw [q]
  rcases (show i < 8 ∨ (8 ≤ i ∧ i < 16) ∨ (16 ≤ i ∧ i < 24) ∨ (24 ≤ i ∧ i < 32) by omega) with x | x | x | x
  · exact bc_0 i x j hj' l hl'
  · have := bc_1 (i - 8) (by omega) j hj' l hl'; rwa [show i - 8 + 8 = i by omega] at this
  · have := bc_2 (i - 16) (by omega) j hj' l hl'; rwa [show i - 16 + 16 = i by omega] at this
  · have := bc_3 (i - 24) (by omega) j hj' l hl'; rwa [show i - 24 + 24 = i by omega] at this
theorem bitCount_15 {b : Nat} (h : b < 32768) : fIn_bitCount (nI b) = some (nI (pc15 b)) := by
  rw [← bc_eq h, fIn_bitCount]
  simp only [nm]
  have a1 : b / 2 &&& 1431655765 ≤ b := Nat.le_trans Nat.and_le_left (Nat.div_le_self _ _)
  rw [pk_ushrN (by omega) 1 1 (by decide), show nI (b / 2 ^ 1) &&& (1431655765 : Int32) = nI (b / 2 &&& 1431655765) from nI_land _ _, pk_sub a1]
  generalize hx1 : b - (b / 2 &&& 1431655765) = x1
  have l1 : x1 < 32768 := by omega
  rw [pk_ushrN (by omega) 2 2 (by decide), show nI (x1 / 2 ^ 2) &&& (858993459 : Int32) = nI (x1 / 4 &&& 858993459) from nI_land _ _, show nI x1 &&& (858993459 : Int32) = nI (x1 &&& 858993459) from nI_land _ _, nI_add]
  generalize hx2 : (x1 &&& 858993459) + (x1 / 4 &&& 858993459) = x2
  have l2 : x2 < 65536 := by
    have y1 : x1 &&& 858993459 ≤ x1 := Nat.and_le_left
    have y2 : x1 / 4 &&& 858993459 ≤ x1 / 4 := Nat.and_le_left
    omega
  rw [pk_ushrN (by omega) 4 4 (by decide), nI_add, show nI (x2 + x2 / 2 ^ 4) &&& (252645135 : Int32) = nI ((x2 + x2 / 16) &&& 252645135) from nI_land _ _]
  generalize hx3 : (x2 + x2 / 16) &&& 252645135 = x3
  have l3 : x3 < 131072 := by
    have y1 : (x2 + x2 / 16) &&& 252645135 ≤ x2 + x2 / 16 := Nat.and_le_left
    omega
  rw [pk_ushrN (by omega) 8 8 (by decide), nI_add, pk_ushrN (by omega) 16 16 (by decide), nI_add, show nI (x3 + x3 / 2 ^ 8 + (x3 + x3 / 2 ^ 8) / 2 ^ 16) &&& (63 : Int32) = nI ((x3 + x3 / 256 + (x3 + x3 / 256) / 65536) &&& 63) from nI_land _ _]
  unfold bcN
  rw [hx1]
  show _ = some (nI ((fun x2 => (fun x3 => (fun x4 => (x4 + x4 / 65536) &&& 63) (x3 + x3 / 256)) ((x2 + x2 / 16) &&& 252645135)) ((x1 &&& 858993459) + (x1 / 4 &&& 858993459))))
  rw [hx2]
  show _ = some (nI ((fun x3 => (fun x4 => (x4 + x4 / 65536) &&& 63) (x3 + x3 / 256)) ((x2 + x2 / 16) &&& 252645135)))
  rw [hx3]
theorem cbP_bit {so : Nat → Bool} : ∀ m c, c < m → cbP so m / 2 ^ c % 2 = b1 (so c) := by
  intro m
  induction m with
  | zero => intro c h; omega
  | succ m ih =>
    intro c hc
    have hlt := cbP_lt (so := so) m
    rw [show cbP so (m + 1) = cbP so m + (if so m then 2 ^ m else 0) from rfl]
    by_cases hcm : c = m
    · subst hcm
      by_cases h : so c = true
      · rw [if_pos h, Nat.add_div_right _ (Nat.two_pow_pos c), Nat.div_eq_of_lt hlt, h]; rfl
      · rw [if_neg h, Nat.add_zero, Nat.div_eq_of_lt hlt]; simp at h; rw [h]; rfl
    · rw [← ih c (by omega)]
      by_cases h : so m = true
      · rw [if_pos h]
        obtain ⟨e, rfl⟩ : ∃ e, m = c + 1 + e := ⟨m - (c + 1), by omega⟩
        rw [show 2 ^ (c + 1 + e) = 2 ^ c * (2 * 2 ^ e) by rw [Nat.pow_add, Nat.pow_succ, Nat.mul_assoc], Nat.add_mul_div_left _ _ (Nat.two_pow_pos c), Nat.add_mul_mod_self_left]
      · rw [if_neg h, Nat.add_zero]
theorem sh_sm : ∀ c, c < 15 → ((nI c &&& 31 : Int32).toBitVec.smod 32).toNat = c := by decide +kernel
theorem bit_at {s c : Nat} (hs : s < 32768) (hc : c < 15) : (nI s >>> (nI c &&& 31)) &&& (1 : Int32) = nI (s / 2 ^ c % 2) := by
  rw [pk_shrN (by omega) _ c (sh_sm c hc), pk_andN (Nat.lt_of_le_of_lt (Nat.div_le_self _ _) (by omega)) 1 (by decide)]
theorem isIn_15 {s c : Nat} (hs : s < 32768) (hc : c < 15) : fMo_isIn (nI s) (nI c) = some (if s / 2 ^ c % 2 = 1 then 1 else 0) := by
  rw [fMo_isIn, bit_at hs hc]
  by_cases h : s / 2 ^ c % 2 = 1
  · rw [h, if_pos rfl, if_pos (show nI 1 = 1 from rfl)]
  · rw [if_neg h, if_neg (fun q => h ((eqL 1 1 rfl (by omega) (by decide)).1 q))]
/-- by how much it is heavier on the left if this one is so -/
def mZ (s is : Nat) : Int := if is < 14 ∧ s / 2 ^ (is / 2) % 2 = 1 then (if is % 2 = 0 then 1 else -1) else 0
theorem mB_z {s is : Nat} : mB s is = zI (mZ s is) := by unfold mB mZ; split <;> (try split) <;> rfl
def eZ (l r is : Nat) : Int := mZ l is - mZ r is
theorem df_z {k : Nat → Int32} {n l r is : Nat} {d : Int} (h : hS k n l 7 - hS k n r 7 = zI d) : dfK k n l r is = zI (d + eZ l r is) := by
  unfold dfK eZ
  rw [mB_z, mB_z]
  have : ∀ a b x y : Int32, (a + x) - (b + y) = (a - b) + (x - y) := by
    intro a b x y
    rw [← zI_of a, ← zI_of b, ← zI_of x, ← zI_of y]; simp only [zI_add, zI_sub]; congr 1; omega
  rw [this, h, zI_sub, zI_add]
theorem eZ_3 {l r is : Nat} (hd : l &&& r = 0) : eZ l r is = 0 ∨ eZ l r is = 1 ∨ eZ l r is = -1 := by
  unfold eZ mZ
  by_cases h1 : is < 14 ∧ l / 2 ^ (is / 2) % 2 = 1
  · rw [if_pos h1, if_neg (show ¬ (is < 14 ∧ r / 2 ^ (is / 2) % 2 = 1) from fun q => disj hd h1.2 q.2)]; split <;> simp
  · rw [if_neg h1]
    split
    · split <;> simp
    · simp
/-- how many of those that can be would make it so much more on the left -/
def cU (so : Nat → Bool) (l r : Nat) (e : Int) : Nat → Nat := fun is => b1 (so is && decide (eZ l r is = e))
theorem cU_3 {so : Nat → Bool} {l r : Nat} (hd : l &&& r = 0) (is : Nat) : b1 (so is) = cU so l r 1 is + cU so l r (-1) is + cU so l r 0 is := by
  unfold cU
  rcases eZ_3 (is := is) hd with h | h | h <;> rw [h] <;> cases so is <;> decide
theorem pair14 (f : Nat → Nat) : sU f 15 = sU (fun c => f (2 * c) + f (2 * c + 1)) 7 + f 14 := by
  simp only [sU, Nat.reduceMul, Nat.reduceAdd]; omega
/-- the count by claims, as the class has it -/
theorem up_eq {so : Nat → Bool} {l r : Nat} (hl : l < 128) (hd : l &&& r = 0) : sU (cU so l r 1) 15 = sU (fun c => b1 (so (2 * c)) * (l / 2 ^ c % 2) + b1 (so (2 * c + 1)) * (r / 2 ^ c % 2)) 7 := by
  rw [pair14]
  have h14 : cU so l r 1 14 = 0 := by unfold cU eZ mZ; rw [if_neg (by omega), if_neg (by omega)]; simp [b1]
  rw [h14, Nat.add_zero]
  refine sU_cong 7 (fun c hc => ?_)
  unfold cU eZ mZ
  rw [show 2 * c / 2 = c by omega, show 2 * c % 2 = 0 by omega, show (2 * c + 1) / 2 = c by omega, show (2 * c + 1) % 2 = 1 by omega]
  have c1 : 2 * c < 14 := by omega
  have c2 : 2 * c + 1 < 14 := by omega
  simp only [c1, c2, true_and, if_true]
  have hl2 : l / 2 ^ c % 2 = 0 ∨ l / 2 ^ c % 2 = 1 := by omega
  have hr2 : r / 2 ^ c % 2 = 0 ∨ r / 2 ^ c % 2 = 1 := by omega
  rcases hl2 with h1 | h1
  · rcases hr2 with h2 | h2
    · rw [h1, h2]; simp [b1]
    · rw [h1, h2]; cases so (2 * c) <;> cases so (2 * c + 1) <;> simp [b1]
  · have h2 := disj hd h1
    have h2 : r / 2 ^ c % 2 = 0 := by omega
    rw [h1, h2]; cases so (2 * c) <;> cases so (2 * c + 1) <;> simp [b1]
theorem down_eq {so : Nat → Bool} {l r : Nat} (hl : l < 128) (hd : l &&& r = 0) : sU (cU so l r (-1)) 15 = sU (fun c => b1 (so (2 * c + 1)) * (l / 2 ^ c % 2) + b1 (so (2 * c)) * (r / 2 ^ c % 2)) 7 := by
  rw [pair14]
  have h14 : cU so l r (-1) 14 = 0 := by unfold cU eZ mZ; rw [if_neg (by omega), if_neg (by omega)]; simp [b1]
  rw [h14, Nat.add_zero]
  refine sU_cong 7 (fun c hc => ?_)
  unfold cU eZ mZ
  rw [show 2 * c / 2 = c by omega, show 2 * c % 2 = 0 by omega, show (2 * c + 1) / 2 = c by omega, show (2 * c + 1) % 2 = 1 by omega]
  have c1 : 2 * c < 14 := by omega
  have c2 : 2 * c + 1 < 14 := by omega
  simp only [c1, c2, true_and, if_true]
  have hl2 : l / 2 ^ c % 2 = 0 ∨ l / 2 ^ c % 2 = 1 := by omega
  have hr2 : r / 2 ^ c % 2 = 0 ∨ r / 2 ^ c % 2 = 1 := by omega
  rcases hl2 with h1 | h1
  · rcases hr2 with h2 | h2
    · rw [h1, h2]; simp [b1]
    · rw [h1, h2]; cases so (2 * c) <;> cases so (2 * c + 1) <;> simp [b1]
  · have h2 := disj hd h1
    have h2 : r / 2 ^ c % 2 = 0 := by omega
    rw [h1, h2]; cases so (2 * c) <;> cases so (2 * c + 1) <;> simp [b1]
/-- the most that come alike -/
def mostN (d : Int) (up down leave : Nat) : Nat := if d = 0 then max leave (max up down) else if d = 1 then max (leave + up) down else if d = -1 then max (leave + down) up else leave + up + down
theorem jmax_n {a b : Nat} (ha : a < 2 ^ 31) (hb : b < 2 ^ 31) : jmax (nI a) (nI b) = nI (max a b) := by
  unfold jmax
  by_cases h : a < b
  · rw [if_pos (nI_lt h hb), Nat.max_eq_right (by omega)]
  · rw [if_neg (nI_nlt (by omega) ha), Nat.max_eq_left (by omega)]
theorem xmost_eq {d : Int} (h1 : -210 ≤ d) (h2 : d ≤ 210) {u v l : Nat} (hu : u ≤ 15) (hv : v ≤ 15) (hl : l ≤ 15) : fSx_mostAlike (zI d) (nI u) (nI v) (nI l) = some (nI (mostN d u v l)) := by
  rw [fSx_mostAlike]
  unfold mostN
  by_cases d1 : d = -1
  · subst d1; rw [if_pos (show zI (-1) = -1 from rfl), if_neg (show ¬ ((-1 : Int) = 0) by decide), if_neg (show ¬ ((-1 : Int) = 1) by decide), if_pos (show (-1 : Int) = -1 from rfl), nI_add, jmax_n (by omega) (by omega)]
  · rw [if_neg (show ¬ zI d = -1 from fun q => d1 ((zI_eq (b := -1) (by omega) (by omega) (by omega) (by omega)).1 q))]
    by_cases d0 : d = 0
    · subst d0; rw [if_pos (show zI 0 = 0 from rfl), if_pos (show (0 : Int) = 0 from rfl), jmax_n (a := u) (by omega) (by omega), jmax_n (by omega) (by omega)]
    · rw [if_neg (show ¬ zI d = 0 from fun q => d0 ((zI_eq (b := 0) (by omega) (by omega) (by omega) (by omega)).1 q)), if_neg d0]
      by_cases d2 : d = 1
      · subst d2; rw [if_pos (show zI 1 = 1 from rfl), if_pos (show (1 : Int) = 1 from rfl), nI_add, jmax_n (by omega) (by omega)]
      · rw [if_neg (show ¬ zI d = 1 from fun q => d2 ((zI_eq (b := 1) (by omega) (by omega) (by omega) (by omega)).1 q)), if_neg d2, if_neg d1, nI_add, nI_add]
theorem cmp_z {z : Int} (h1 : -2000 ≤ z) (h2 : z ≤ 2000) : cmpI (zI z) = if z = 0 then 0 else if z < 0 then nI 2 else nI 1 := by
  unfold cmpI
  by_cases h : z = 0
  · subst h; rfl
  · rw [if_neg (show ¬ zI z = 0 from fun q => h ((zI_eq (b := 0) (by omega) (by omega) (by omega) (by omega)).1 q)), if_neg h]
    by_cases h0 : z < 0
    · rw [if_pos (show zI z ≤ 0 from (zI_le (b := 0) (by omega) (by omega) (by omega) (by omega)).2 (by omega)), if_pos h0]; rfl
    · rw [if_neg (show ¬ zI z ≤ 0 from fun q => h0 (by have := (zI_le (b := 0) (by omega) (by omega) (by omega) (by omega)).1 q; omega)), if_neg h0]; rfl
/-- which of three things comes -/
def cv (d : Int) (l r is : Nat) : Nat := if d + eZ l r is = 0 then 0 else if d + eZ l r is < 0 then 2 else 1
def cV (so : Nat → Bool) (d : Int) (l r v : Nat) : Nat → Nat := fun is => b1 (so is && decide (cv d l r is = v))
theorem most_eq {so : Nat → Bool} {d : Int} {l r : Nat} (hd : l &&& r = 0) : max (max (sU (cV so d l r 0) 15) (sU (cV so d l r 1) 15)) (sU (cV so d l r 2) 15) = mostN d (sU (cU so l r 1) 15) (sU (cU so l r (-1)) 15) (sU (cU so l r 0) 15) := by
  have go : ∀ (v : Nat) (f : Nat → Nat), (∀ is, cV so d l r v is = f is) → sU (cV so d l r v) 15 = sU f 15 := fun v f h => sU_cong 15 (fun i _ => h i)
  have add2 : ∀ a b : Int, sU (fun is => cU so l r a is + cU so l r b is) 15 = sU (cU so l r a) 15 + sU (cU so l r b) 15 := fun a b => sU_add 15
  have z0 : sU (fun _ => 0) 15 = 0 := by decide
  have pt : ∀ is, (eZ l r is = 0 ∧ cU so l r 1 is = 0 ∧ cU so l r (-1) is = 0 ∧ cU so l r 0 is = b1 (so is)) ∨ (eZ l r is = 1 ∧ cU so l r 1 is = b1 (so is) ∧ cU so l r (-1) is = 0 ∧ cU so l r 0 is = 0) ∨ (eZ l r is = -1 ∧ cU so l r 1 is = 0 ∧ cU so l r (-1) is = b1 (so is) ∧ cU so l r 0 is = 0) := by
    intro is
    rcases eZ_3 (is := is) hd with h | h | h
    · refine .inl ⟨h, ?_, ?_, ?_⟩ <;> unfold cU <;> rw [h] <;> cases so is <;> decide
    · refine .inr (.inl ⟨h, ?_, ?_, ?_⟩) <;> unfold cU <;> rw [h] <;> cases so is <;> decide
    · refine .inr (.inr ⟨h, ?_, ?_, ?_⟩) <;> unfold cU <;> rw [h] <;> cases so is <;> decide
  have pv : ∀ v is x, cv d l r is = x → cV so d l r v is = if x = v then b1 (so is) else 0 := by
    intro v is x hx
    unfold cV; rw [hx]
    by_cases h : x = v
    · rw [if_pos h]; simp [h]
    · rw [if_neg h]; simp [h, b1]
  unfold mostN
  by_cases d0 : d = 0
  · subst d0
    rw [if_pos rfl]
    have c : ∀ is, cv 0 l r is = if eZ l r is = 0 then 0 else if eZ l r is < 0 then 2 else 1 := fun is => by unfold cv; rw [Int.zero_add]
    rw [go 0 (cU so l r 0) (fun is => ?_), go 1 (cU so l r 1) (fun is => ?_), go 2 (cU so l r (-1)) (fun is => ?_)]
    · omega
    all_goals
      rw [pv _ is _ (c is)]
      rcases pt is with ⟨h, p1, p2, p3⟩ | ⟨h, p1, p2, p3⟩ | ⟨h, p1, p2, p3⟩ <;> simp [h, p1, p2, p3]
  · rw [if_neg d0]
    by_cases d1 : d = 1
    · subst d1
      rw [if_pos rfl]
      rw [go 0 (cU so l r (-1)) (fun is => ?_), go 1 (fun is => cU so l r 0 is + cU so l r 1 is) (fun is => ?_), go 2 (fun _ => 0) (fun is => ?_), add2, z0]
      · omega
      all_goals
        rw [pv _ is _ rfl]
        unfold cv
        rcases pt is with ⟨h, p1, p2, p3⟩ | ⟨h, p1, p2, p3⟩ | ⟨h, p1, p2, p3⟩ <;> simp [h, p1, p2, p3]
    · rw [if_neg d1]
      by_cases d2 : d = -1
      · subst d2
        rw [if_pos rfl]
        rw [go 0 (cU so l r 1) (fun is => ?_), go 1 (fun _ => 0) (fun is => ?_), go 2 (fun is => cU so l r 0 is + cU so l r (-1) is) (fun is => ?_), add2, z0]
        · omega
        all_goals
          rw [pv _ is _ rfl]
          unfold cv
          rcases pt is with ⟨h, p1, p2, p3⟩ | ⟨h, p1, p2, p3⟩ | ⟨h, p1, p2, p3⟩ <;> simp [h, p1, p2, p3]
      · rw [if_neg d2]
        have tot : sU (fun is => b1 (so is)) 15 = sU (cU so l r 1) 15 + sU (cU so l r (-1)) 15 + sU (cU so l r 0) 15 := by
          rw [← sU_add, ← sU_add]; exact sU_cong 15 (fun is _ => cU_3 hd is)
        by_cases dp : 0 < d
        · have c : ∀ is, cv d l r is = 1 := by
            intro is; unfold cv
            rcases eZ_3 (is := is) hd with h | h | h <;> rw [h, if_neg (by omega), if_neg (by omega)]
          rw [go 0 (fun _ => 0) (fun is => by rw [pv 0 is 1 (c is), if_neg (by decide)]), go 1 (fun is => b1 (so is)) (fun is => by rw [pv 1 is 1 (c is), if_pos rfl]), go 2 (fun _ => 0) (fun is => by rw [pv 2 is 1 (c is), if_neg (by decide)]), z0, tot]; omega
        · have c : ∀ is, cv d l r is = 2 := by
            intro is; unfold cv
            rcases eZ_3 (is := is) hd with h | h | h <;> rw [h, if_neg (by omega), if_pos (by omega)]
          rw [go 0 (fun _ => 0) (fun is => by rw [pv 0 is 2 (c is), if_neg (by decide)]), go 1 (fun _ => 0) (fun is => by rw [pv 1 is 2 (c is), if_neg (by decide)]), go 2 (fun is => b1 (so is)) (fun is => by rw [pv 2 is 2 (c is), if_pos rfl]), z0, tot]; omega
