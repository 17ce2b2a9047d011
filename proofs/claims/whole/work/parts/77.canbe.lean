/-! ===== canBe ===== -/
def cmpI (x : Int32) : Int32 := if x = 0 then 0 else if x ≤ 0 then 2 else 1
def mB (s is : Nat) : Int32 := if is < 14 ∧ s / 2 ^ (is / 2) % 2 = 1 then (if is % 2 = 0 then 1 else -1) else 0
def dfK (k : Nat → Int32) (n l r is : Nat) : Int32 := (hS k n l 7 + mB l is) - (hS k n r 7 + mB r is)
def allU (f : Nat → Bool) : Nat → Bool
  | 0 => true
  | m + 1 => allU f m && f m
theorem allU_no {f : Nat → Bool} {i : Nat} (h : f i = false) : ∀ m, i < m → allU f m = false := by
  intro m
  induction m with
  | zero => intro h'; omega
  | succ m ih =>
    intro h'
    show (allU f m && f m) = false
    by_cases hm : i = m
    · subst hm; rw [h, Bool.and_false]
    · rw [ih (by omega), Bool.false_and]
def soF (k : Nat → Int32) (n is i : Nat) : Bool := decide (cmpI (dfK k n (k (22 + 3 * i)).toNatClampNeg (k (23 + 3 * i)).toNatClampNeg is) = k (24 + 3 * i))
def soB (k : Nat → Int32) (n w is : Nat) : Bool := (decide (is = 14) || decide (is / 2 < n)) && allU (soF k n is) w
def cbP (so : Nat → Bool) : Nat → Nat
  | 0 => 0
  | m + 1 => cbP so m + (if so m then 2 ^ m else 0)
theorem cbP_lt {so : Nat → Bool} : ∀ m, cbP so m < 2 ^ m := by
  intro m
  induction m with
  | zero => exact Nat.one_pos
  | succ m ih =>
    rw [show cbP so (m + 1) = cbP so m + (if so m then 2 ^ m else 0) from rfl, Nat.pow_succ]
    split <;> omega
theorem orL {e p j : Nat} (hp : p < 2 ^ j) (hj : j < 14) : (2 ^ 14 * e + p) ||| 2 ^ j = 2 ^ 14 * e + (p + 2 ^ j) := by
  have h14 : 2 ^ (j + 1) ≤ 2 ^ 14 := Nat.pow_le_pow_right (by decide) (by omega)
  rw [Nat.pow_succ] at h14
  rw [Nat.two_pow_add_eq_or_of_lt (show p < 2 ^ 14 by omega), Nat.or_assoc, show p ||| 2 ^ j = p + 2 ^ j by rw [Nat.or_comm]; have := Nat.two_pow_add_eq_or_of_lt hp 1; rw [Nat.mul_one] at this; rw [← this, Nat.add_comm], ← Nat.two_pow_add_eq_or_of_lt (show p + 2 ^ j < 2 ^ 14 by omega)]
theorem orP {p j : Nat} (hp : p < 2 ^ j) : p ||| 2 ^ j = p + 2 ^ j := by
  rw [Nat.or_comm]; have := Nat.two_pow_add_eq_or_of_lt hp 1; rw [Nat.mul_one] at this; rw [← this, Nat.add_comm]
theorem and_bit : ∀ c, c < 7 → ∀ l, l < 128 → (nI l &&& nI (2 ^ c) = 0 ↔ ¬ l / 2 ^ c % 2 = 1) := by decide +kernel
theorem disj {l r c : Nat} (h : l &&& r = 0) (h1 : l / 2 ^ c % 2 = 1) : ¬ r / 2 ^ c % 2 = 1 := by
  intro h2
  have e1 : l.testBit c = true := by rw [Nat.testBit_eq_decide_div_mod_eq, h1]; rfl
  have e2 : r.testBit c = true := by rw [Nat.testBit_eq_decide_div_mod_eq, h2]; rfl
  have e3 := Nat.testBit_and l r c
  rw [h, e1, e2, Nat.zero_testBit] at e3
  exact absurd e3 (by decide)
theorem ringA (a b y : Int32) : a - b + y = (a + y) - (b + 0) := by
  rw [← zI_of a, ← zI_of b, ← zI_of y, show (0 : Int32) = zI 0 from rfl]; simp only [zI_add, zI_sub]; congr 1; omega
theorem ringB (a b y : Int32) : a - b - y = (a + 0) - (b + y) := by
  rw [← zI_of a, ← zI_of b, ← zI_of y, show (0 : Int32) = zI 0 from rfl]; simp only [zI_add, zI_sub]; congr 1; omega
theorem ringC (a b : Int32) : a - b = (a + 0) - (b + 0) := by rw [Int32.add_zero, Int32.add_zero]
/-- what the class asks, beside what the reference does -/
def cor (b : Nat) (y : Int32) (is : Nat) : Prop := (b = 0 ∧ y = 0 ∧ is = 14) ∨ (∃ c, c < 7 ∧ b = 2 ^ c ∧ ((y = 1 ∧ is = 2 * c) ∨ (y = -1 ∧ is = 2 * c + 1)))
theorem fit_df {k : Nat → Int32} {n l r b is : Nat} {y : Int32} (hl : l < 128) (hr : r < 128) (hd : l &&& r = 0) (hc : cor b y is) {α : Type} (F : Int32 → α) : (if nI l &&& nI b = 0 then (if nI r &&& nI b = 0 then F (hS k n l 7 - hS k n r 7) else F (hS k n l 7 - hS k n r 7 - y)) else F (hS k n l 7 - hS k n r 7 + y)) = F (dfK k n l r is) := by
  rcases hc with ⟨rfl, rfl, rfl⟩ | ⟨c, hc, rfl, hy⟩
  · rw [nI_land, Nat.and_zero, if_pos (show nI 0 = 0 from rfl), nI_land, Nat.and_zero, if_pos (show nI 0 = 0 from rfl)]
    unfold dfK mB
    rw [if_neg (by omega), if_neg (by omega), ← ringC]
  · have hm : ∀ s, mB s is = if s / 2 ^ c % 2 = 1 then y else 0 := by
      intro s; unfold mB
      rcases hy with ⟨rfl, rfl⟩ | ⟨rfl, rfl⟩
      · rw [show 2 * c / 2 = c by omega, show 2 * c % 2 = 0 by omega, if_pos rfl]
        by_cases q : s / 2 ^ c % 2 = 1
        · rw [if_pos ⟨by omega, q⟩, if_pos q]
        · rw [if_neg (fun x => q x.2), if_neg q]
      · rw [show (2 * c + 1) / 2 = c by omega, show (2 * c + 1) % 2 = 1 by omega, if_neg (show ¬ ((1 : Nat) = 0) by decide)]
        by_cases q : s / 2 ^ c % 2 = 1
        · rw [if_pos ⟨by omega, q⟩, if_pos q]
        · rw [if_neg (fun x => q x.2), if_neg q]
    unfold dfK
    rw [hm, hm]
    by_cases q1 : l / 2 ^ c % 2 = 1
    · rw [if_neg (fun x => (and_bit c hc l hl).1 x q1), if_pos q1, if_neg (disj hd q1), ← ringA]
    · rw [if_pos ((and_bit c hc l hl).2 q1), if_neg q1]
      by_cases q2 : r / 2 ^ c % 2 = 1
      · rw [if_neg (fun x => (and_bit c hc r hr).1 x q2), if_pos q2, ← ringB]
      · rw [if_pos ((and_bit c hc r hr).2 q2), if_neg q2, ← ringC]
section
variable {N : Nat} {ln : Nat → Nat} {M : Nat} {Lw : Nat → List Cl} {n w L : Nat}
theorem mheavyBy_eq (hN : 3000 ≤ N) {μ : sw_m} (K : KI (μ.1 86) Lw n w L) {s is : Nat} (hs : s < 128) (hi : is ≤ 14) : fMo_heavyBy N μ (nI s) (nI is) = some (hS (μ.1 86) n s 7 + mB s is, μ) := by
  rw [fMo_heavyBy]
  by_cases h14 : is = 14
  · subst h14
    rw [if_pos (by decide), fMo_heavyBy_27, mheavy_eq hN K hs, Option.bind_some]
    unfold mB; rw [if_neg (by omega)]
  · rw [if_neg (show ¬ (14 : Int32) ≤ nI is from nI_ge (b := 14) (by omega) (by decide)), show nI is / (2 : Int32) = nI (is / 2) from pk_div (by omega) (by decide) (by decide), isIn_eq (is / 2) (by omega) s hs, Option.bind_some]
    by_cases hb : s / 2 ^ (is / 2) % 2 = 1
    · simp only [hb, if_true, n10, if_false]
      rw [show nI is - nI (is / 2) * (2 : Int32) = nI (is % 2) by rw [← show nI is / (2 : Int32) = nI (is / 2) from pk_div (by omega) (by decide) (by decide)]; exact pk_rem (by omega) (by decide) (by decide), fMo_heavyBy_27, mheavy_eq hN K hs, Option.bind_some]
      unfold mB
      rw [if_pos ⟨by omega, hb⟩]
      rcases (show is % 2 = 0 ∨ is % 2 = 1 by omega) with q | q
      · rw [q, if_pos rfl]; rfl
      · rw [q, if_neg (by decide)]; rfl
    · simp only [hb, if_false, if_true]
      rw [fMo_heavyBy_27, mheavy_eq hN K hs, Option.bind_some]
      unfold mB
      rw [if_neg (fun q => hb q.2)]
theorem mcomes_eq (hN : 3000 ≤ N) {μ : sw_m} (K : KI (μ.1 86) Lw n w L) {l r is : Nat} (hl : l < 128) (hr : r < 128) (hi : is ≤ 14) : fMo_comesOf N μ (nI l) (nI r) (nI is) = some (cmpI (dfK (μ.1 86) n l r is), μ) := by
  rw [fMo_comesOf, mheavyBy_eq hN K hl hi, Option.bind_some]
  simp only []
  rw [mheavyBy_eq hN K hr hi, Option.bind_some]
  simp only [nm]
  unfold cmpI dfK
  split
  · rfl
  · split <;> rfl
theorem so_24 (hN : 3000 ≤ N) {μ : sw_m} (K : KI (μ.1 86) Lw n w L) {is : Nat} (hi : is ≤ 14) : ∀ (d i fu : Nat), i + d = w → d + 1 < fu → allU (soF (μ.1 86) n is) i = true → fMo_isSo_24 N fu μ (nI is) 1 (nI i) = some (if allU (soF (μ.1 86) n is) w then 1 else 0, μ) := by
  have hw6 := K.w6
  intro d
  induction d with
  | zero =>
    intro i fu h hfu ha
    obtain ⟨fu, rfl⟩ : ∃ z, fu = z + 1 := ⟨fu - 1, by omega⟩
    obtain rfl : i = w := by omega
    rw [fMo_isSo_24, rd_K 44 44 5654 (by decide) (by decide), K.hw, if_pos (nI_le (Nat.le_refl _) (by omega)), ha]
    rfl
  | succ d ih =>
    intro i fu h hfu ha
    obtain ⟨fu, rfl⟩ : ∃ z, fu = z + 1 := ⟨fu - 1, by omega⟩
    obtain ⟨l, r, c, l1, r1, c1, l2, r2, d2, c2⟩ := K.wo i (by omega)
    rw [fMo_isSo_24, rd_K 44 44 5654 (by decide) (by decide), K.hw, if_neg (nI_ge (by omega) (by omega)), if_neg n10]
    simp only [nm]
    rw [show (22 : Int32) + (3 : Int32) * nI i = nI (22 + 3 * i) by rw [show (3 : Int32) * nI i = nI (3 * i) from nI_mul 3 i]; exact nI_add 22 (3 * i), rd_nI (by omega) (by decide), nI_1, rd_nI (by omega) (by decide), l1, show 22 + 3 * i + 1 = 23 + 3 * i by omega, r1, mcomes_eq hN K l2 r2 hi, Option.bind_some]
    simp only []
    rw [show nI (22 + 3 * i) + (2 : Int32) = nI (24 + 3 * i) by rw [show nI (22 + 3 * i) + (2 : Int32) = nI (22 + 3 * i + 2) from nI_add _ 2]; congr 1; omega, rd_nI (by omega) (by decide), nI_1]
    have hf : soF (μ.1 86) n is i = decide (cmpI (dfK (μ.1 86) n l r is) = μ.1 86 (24 + 3 * i)) := by
      unfold soF; rw [l1, r1, nI_clamp (by omega), nI_clamp (by omega)]
    by_cases he : cmpI (dfK (μ.1 86) n l r is) = μ.1 86 (24 + 3 * i)
    · rw [if_pos he]
      exact ih (i + 1) fu (by omega) (by omega) (by show (allU _ i && _) = true; rw [ha, hf]; simp [he])
    · rw [if_neg he]
      have hno : allU (soF (μ.1 86) n is) w = false := allU_no (i := i) (by rw [hf]; simp [he]) w (by omega)
      rw [hno]
      obtain ⟨fu, rfl⟩ : ∃ z, fu = z + 1 := ⟨fu - 1, by omega⟩
      rw [fMo_isSo_24, rd_K 44 44 5654 (by decide) (by decide), K.hw]
      split
      · rfl
      · rw [if_pos rfl]; rfl
theorem so_eq (hN : 3000 ≤ N) {μ : sw_m} (K : KI (μ.1 86) Lw n w L) {is : Nat} (hi : is ≤ 14) : fMo_isSo N μ (nI is) = some (if soB (μ.1 86) n w is then 1 else 0, μ) := by
  have hn7 := K.n7
  have hw6 := K.w6
  have e1 := so_24 hN K hi w 0 N (by omega) (by omega) rfl
  rw [fMo_isSo]
  unfold soB
  by_cases h14 : is = 14
  · subst h14
    rw [if_pos (show nI 14 = 14 from rfl), show (14 : Nat) = 14 from rfl]
    rw [show fMo_isSo_24 N N μ (nI 14) 1 0 = _ from e1]
    simp
  · rw [if_neg (show ¬ nI is = 14 from fun q => h14 ((eqL 14 14 rfl (by omega) (by decide)).1 q)), many_eq K, Option.bind_some]
    simp only []
    rw [show nI is / (2 : Int32) = nI (is / 2) from pk_div (by omega) (by decide) (by decide)]
    by_cases hn : is / 2 < n
    · rw [if_neg (nI_ge hn (by omega)), show fMo_isSo_24 N N μ (nI is) 1 0 = _ from e1]
      simp [hn]
    · rw [if_pos (nI_le (by omega) (by omega))]
      obtain ⟨m, rfl⟩ : ∃ m, N = m + 1 := ⟨N - 1, by omega⟩
      rw [fMo_isSo_24, rd_K 44 44 5654 (by decide) (by decide), K.hw]
      simp only [h14, hn, decide_false, Bool.or_false, Bool.false_and]
      split
      · rfl
      · rw [if_pos trivial]; rfl
theorem mcanBe_4 (hN : 3000 ≤ N) {μ : sw_m} (K : KI (μ.1 86) Lw n w L) : ∀ (d is fu : Nat), is + d = 15 → d < fu → fMo_canBe_4 N fu μ (nI (cbP (soB (μ.1 86) n w) is)) (nI is) = some (nI (cbP (soB (μ.1 86) n w) 15), μ) := by
  intro d
  induction d with
  | zero =>
    intro is fu h hfu
    obtain ⟨fu, rfl⟩ : ∃ z, fu = z + 1 := ⟨fu - 1, by omega⟩
    obtain rfl : is = 15 := by omega
    rw [fMo_canBe_4, if_pos (by decide)]
  | succ d ih =>
    intro is fu h hfu
    obtain ⟨fu, rfl⟩ : ∃ z, fu = z + 1 := ⟨fu - 1, by omega⟩
    rw [fMo_canBe_4, if_neg (show ¬ (14 : Int32) < nI is from nI_nlt (a := 14) (by omega) (by decide)), so_eq hN K (by omega), Option.bind_some]
    have hlt := cbP_lt (so := soB (μ.1 86) n w) is
    rw [← ih (is + 1) fu (by omega) (by omega)]
    by_cases hs : soB (μ.1 86) n w is = true
    · simp only [hs, if_true, n10, if_false, nm, nI_1]
      rw [sh_1 is (by omega), nI_lor, orP hlt, show cbP (soB (μ.1 86) n w) (is + 1) = cbP (soB (μ.1 86) n w) is + 2 ^ is by show cbP _ is + _ = _; rw [if_pos hs]]
    · simp only [hs, if_false, if_true, nm, nI_1, Int32.or_zero, Bool.false_eq_true]
      rw [show cbP (soB (μ.1 86) n w) (is + 1) = cbP (soB (μ.1 86) n w) is by show cbP _ is + _ = _; rw [if_neg hs]; rfl]
theorem mcanBe_eq (hN : 3000 ≤ N) {μ : sw_m} (K : KI (μ.1 86) Lw n w L) : fMo_canBe N μ = some (nI (cbP (soB (μ.1 86) n w) 15), μ) := mcanBe_4 hN K 15 0 N rfl (by omega)
theorem fits_2 {k : Nat → Int32} {g : sw_g} (K : KI k Lw n w L) (P : PQ ln M g 1 k Lw L) (hs : ∀ s, s < 128 → g.1 81 s = hS k n s 7) {b is : Nat} {y : Int32} (hc : cor b y is) : ∀ (d i fu : Nat), i + d = w → d < fu → allU (soF k n is) i = true → fSx_fits_2 N ln fu g (nI b) y (nI i) = some (if allU (soF k n is) w then 1 else 0, g) := by
  have hw6 := K.w6
  intro d
  induction d with
  | zero =>
    intro i fu h hfu ha
    obtain ⟨fu, rfl⟩ : ∃ z, fu = z + 1 := ⟨fu - 1, by omega⟩
    obtain rfl : i = w := by omega
    rw [fSx_fits_2, show g.1 1 5 = nI i by rw [show g.1 1 5 = _ from P.2.2.2.1, K.hw], if_pos (nI_le (Nat.le_refl _) (by omega)), ha]
    rfl
  | succ d ih =>
    intro i fu h hfu ha
    obtain ⟨fu, rfl⟩ : ∃ z, fu = z + 1 := ⟨fu - 1, by omega⟩
    obtain ⟨l, r, c, l1, r1, c1, l2, r2, d2, c2⟩ := K.wo i (by omega)
    obtain ⟨p1, p2, p3⟩ := P.2.2.2.2.1 i (by omega)
    have g6 : g.1 6 i = nI l := by rw [show g.1 6 i = _ from p1, l1]
    have g7 : g.1 7 i = nI r := by rw [show g.1 7 i = _ from p2, r1]
    rw [fSx_fits_2, show g.1 1 5 = nI w by rw [show g.1 1 5 = _ from P.2.2.2.1, K.hw], if_neg (nI_ge (by omega) (by omega)), rd_nI (by omega) (by decide), g6, rd_nI (by omega) (by decide), rd_nI (by omega) (by decide), g7, rd_nI (by omega) (by decide), hs l l2, hs r r2]
    simp only [nm]
    rw [rd_nI (by omega) (by decide), rd_nI (by omega) (by decide), g6, g7, fit_df l2 r2 d2 hc (F := fun x => fSx_fits_87 N ln (fSx_fits_2 N ln fu) g (nI b) y (nI i) x)]
    have hf : soF k n is i = decide (cmpI (dfK k n l r is) = k (24 + 3 * i)) := by
      unfold soF; rw [l1, r1, nI_clamp (by omega), nI_clamp (by omega)]
    have h87 : fSx_fits_87 N ln (fSx_fits_2 N ln fu) g (nI b) y (nI i) (dfK k n l r is) = fSx_fits_106 N ln (fSx_fits_2 N ln fu) g (nI b) y (nI i) (cmpI (dfK k n l r is)) := by
      rw [fSx_fits_87]; unfold cmpI
      split
      · rfl
      · split <;> rfl
    rw [h87, fSx_fits_106, rd_nI (by omega) (by decide), show g.1 8 i = _ from p3]
    by_cases he : cmpI (dfK k n l r is) = k (24 + 3 * i)
    · rw [if_pos he]
      simp only [nm, nI_1]
      exact ih (i + 1) fu (by omega) (by omega) (by show (allU _ i && _) = true; rw [ha, hf]; simp [he])
    · rw [if_neg he, allU_no (i := i) (by rw [hf]; simp [he]) w (by omega)]
      rfl
theorem fits_eq (hN : 3000 ≤ N) {k : Nat → Int32} {g : sw_g} (K : KI k Lw n w L) (P : PQ ln M g 1 k Lw L) (hs : ∀ s, s < 128 → g.1 81 s = hS k n s 7) {b is : Nat} {y : Int32} (hc : cor b y is) (hn : is = 14 ∨ is / 2 < n) : fSx_fits N ln g (nI b) y = some (if soB k n w is then 1 else 0, g) := by
  have e := fits_2 (N := N) K P hs hc w 0 N (by omega) (by have := K.w6; omega) rfl
  rw [fSx_fits, show fSx_fits_2 N ln N g (nI b) y 0 = _ from e]
  unfold soB
  have : (decide (is = 14) || decide (is / 2 < n)) = true := by rcases hn with h | h <;> simp [h]
  rw [this, Bool.true_and]
theorem canBe_23 (hN : 3000 ≤ N) {k : Nat → Int32} {g : sw_g} (K : KI k Lw n w L) (P : PQ ln M g 1 k Lw L) (hs : ∀ s, s < 128 → g.1 81 s = hS k n s 7) {e : Nat} : ∀ (d c fu : Nat), c + d = n → d < fu → fSx_canBe_23 N ln fu g (nI (2 ^ 14 * e + cbP (soB k n w) (2 * c))) (nI c) = some (nI (2 ^ 14 * e + cbP (soB k n w) (2 * n)), g) := by
  have hn7 := K.n7
  intro d
  induction d with
  | zero =>
    intro c fu h hfu
    obtain ⟨fu, rfl⟩ : ∃ z, fu = z + 1 := ⟨fu - 1, by omega⟩
    obtain rfl : c = n := by omega
    rw [fSx_canBe_23, show g.1 1 0 = nI c by rw [show g.1 1 0 = _ from P.1, K.hn], if_pos (nI_le (Nat.le_refl _) (by omega))]
  | succ d ih =>
    intro c fu h hfu
    obtain ⟨fu, rfl⟩ : ∃ z, fu = z + 1 := ⟨fu - 1, by omega⟩
    have hlt := cbP_lt (so := soB k n w) (2 * c)
    have hlt1 := cbP_lt (so := soB k n w) (2 * c + 1)
    rw [fSx_canBe_23, show g.1 1 0 = nI n by rw [show g.1 1 0 = _ from P.1, K.hn], if_neg (nI_ge (by omega) (by omega)), sh_1 c (by omega), fits_eq hN K P hs (.inr ⟨c, by omega, rfl, .inl ⟨rfl, rfl⟩⟩) (.inr (by omega)), Option.bind_some]
    have step : fSx_canBe_53 N ln (fSx_canBe_23 N ln fu) g (nI (2 ^ 14 * e + cbP (soB k n w) (2 * c + 1))) (nI c) = some (nI (2 ^ 14 * e + cbP (soB k n w) (2 * n)), g) := by
      rw [fSx_canBe_53, sh_1 c (by omega), fits_eq hN K P hs (.inr ⟨c, by omega, rfl, .inr ⟨rfl, rfl⟩⟩) (.inr (by omega)), Option.bind_some]
      have := ih (c + 1) fu (by omega) (by omega)
      rw [← this, show 2 * (c + 1) = 2 * c + 1 + 1 by omega]
      by_cases h1 : soB k n w (2 * c + 1) = true
      · simp only [h1, if_true, n10, if_false, nm, nI_1]
        rw [show (2 : Int32) * nI c + 1 = nI (2 * c + 1) by rw [show (2 : Int32) * nI c = nI (2 * c) from nI_mul 2 c, nI_1], sh_1 _ (by omega), nI_lor, orL hlt1 (by omega), show cbP (soB k n w) (2 * c + 1 + 1) = cbP (soB k n w) (2 * c + 1) + 2 ^ (2 * c + 1) by show cbP _ (2 * c + 1) + _ = _; rw [if_pos h1]]
      · simp only [h1, if_false, if_true, nm, nI_1, Bool.false_eq_true]
        rw [show cbP (soB k n w) (2 * c + 1 + 1) = cbP (soB k n w) (2 * c + 1) by show cbP _ (2 * c + 1) + _ = _; rw [if_neg h1]; rfl]
    rw [← step]
    by_cases h1 : soB k n w (2 * c) = true
    · simp only [h1, if_true, n10, if_false, nm]
      rw [show (2 : Int32) * nI c = nI (2 * c) from nI_mul 2 c, sh_1 _ (by omega), nI_lor, orL hlt (by omega), show cbP (soB k n w) (2 * c + 1) = cbP (soB k n w) (2 * c) + 2 ^ (2 * c) by show cbP _ (2 * c) + _ = _; rw [if_pos h1]]
    · simp only [h1, if_false, if_true, Bool.false_eq_true]
      rw [show cbP (soB k n w) (2 * c + 1) = cbP (soB k n w) (2 * c) by show cbP _ (2 * c) + _ = _; rw [if_neg h1]; rfl]
theorem cbP_n {k : Nat → Int32} : ∀ d, 2 * n + d ≤ 14 → cbP (soB k n w) (2 * n + d) = cbP (soB k n w) (2 * n) := by
  intro d
  induction d with
  | zero => intro _; rfl
  | succ d ih =>
    intro h
    have : soB k n w (2 * n + d) = false := by
      unfold soB
      rw [show decide (2 * n + d = 14) = false from decide_eq_false (by omega), show decide ((2 * n + d) / 2 < n) = false from decide_eq_false (by omega)]; rfl
    rw [show cbP (soB k n w) (2 * n + (d + 1)) = cbP (soB k n w) (2 * n + d) + (if soB k n w (2 * n + d) then 2 ^ (2 * n + d) else 0) from rfl, this, ih (by omega)]; rfl
theorem xcanBe_eq (hN : 3000 ≤ N) {k : Nat → Int32} {g : sw_g} (K : KI k Lw n w L) (P : PQ ln M g 1 k Lw L) (h81 : g.1 81 0 = 0) : ∃ g', fSx_canBe N ln g = some (nI (cbP (soB k n w) 15), g') ∧ G81 g g' ∧ (∀ s, s < 128 → g'.1 81 s = hS k n s 7) := by
  have hn7 := K.n7
  obtain ⟨g1, e1, e2, e3⟩ := sumHeavies_eq hN K P h81
  have P1 := P.g81 e3 (by decide)
  refine ⟨g1, ?_, e3, e2⟩
  rw [fSx_canBe, e1, Option.bind_some, show fSx_fits N ln g1 (0 : Int32) 0 = _ from fits_eq (b := 0) hN K P1 e2 (.inl ⟨rfl, rfl, rfl⟩) (.inl rfl), Option.bind_some]
  have h14 : cbP (soB k n w) 14 = cbP (soB k n w) (2 * n) := by
    have := cbP_n (k := k) (n := n) (w := w) (14 - 2 * n) (by omega)
    rwa [show 2 * n + (14 - 2 * n) = 14 by omega] at this
  by_cases hs : soB k n w 14 = true
  · simp only [hs, if_true, n10, if_false]
    have := canBe_23 hN K P1 e2 (e := 1) n 0 N (by omega) (by omega)
    rw [show fSx_canBe_23 N ln N g1 16384 0 = _ from this]
    congr 2
    rw [show cbP (soB k n w) 15 = cbP (soB k n w) 14 + (if soB k n w 14 then 2 ^ 14 else 0) from rfl, h14, if_pos hs, Nat.add_comm]
  · simp only [hs, if_false, if_true, Bool.false_eq_true]
    have := canBe_23 hN K P1 e2 (e := 0) n 0 N (by omega) (by omega)
    rw [show fSx_canBe_23 N ln N g1 0 0 = _ from this]
    congr 2
    rw [show cbP (soB k n w) 15 = cbP (soB k n w) 14 + (if soB k n w 14 then 2 ^ 14 else 0) from rfl, h14, if_neg hs, Nat.mul_zero, Nat.zero_add, Nat.add_zero]
theorem canBe_CR (hN : 3000 ≤ N) {g : sw_g} {μ : sw_m} (h : RR ln M g μ) : CR ln M (fSx_canBe N ln g) (fMo_canBe N μ) := by
  have h0 := h
  obtain ⟨Lw, n, w, L, K, P, h1, h2, h3, h4, h5⟩ := h
  obtain ⟨g1, e1, e2, e3⟩ := xcanBe_eq hN K P h5.2.2
  rw [e1, mcanBe_eq hN K]
  exact h0.ask ⟨g1, rfl, e2.GU⟩ ⟨μ, rfl, MS.refl⟩
end
