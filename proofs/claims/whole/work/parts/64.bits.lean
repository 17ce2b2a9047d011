/-! ===== sets of claims as bits; counts ===== -/
theorem nI_land (a b : Nat) : nI a &&& nI b = nI (a &&& b) := Int32.toBitVec_inj.1 (by show BitVec.ofNat 32 a &&& BitVec.ofNat 32 b = BitVec.ofNat 32 (a &&& b); rw [BitVec.ofNat_and])
theorem nI_lor (a b : Nat) : nI a ||| nI b = nI (a ||| b) := Int32.toBitVec_inj.1 (by show BitVec.ofNat 32 a ||| BitVec.ofNat 32 b = BitVec.ofNat 32 (a ||| b); rw [BitVec.ofNat_or])
theorem nI_xor (a b : Nat) : nI a ^^^ nI b = nI (a ^^^ b) := Int32.toBitVec_inj.1 (by show BitVec.ofNat 32 a ^^^ BitVec.ofNat 32 b = BitVec.ofNat 32 (a ^^^ b); rw [BitVec.ofNat_xor])
theorem sh_1 : ∀ c, c < 16 → (1 : Int32) <<< (nI c &&& 31) = nI (2 ^ c) := by decide +kernel
theorem or_b : ∀ c, c < 7 → ∀ m, m < 128 → m < 2 ^ c → m ||| 2 ^ c = m + 2 ^ c := by decide +kernel
theorem isIn_eq : ∀ c, c < 7 → ∀ s, s < 128 → fMo_isIn (nI s) (nI c) = some (if s / 2 ^ c % 2 = 1 then 1 else 0) := by decide +kernel
def pcn (b : Nat) : Nat := b % 2 + b / 2 % 2 + b / 4 % 2 + b / 8 % 2 + b / 16 % 2 + b / 32 % 2 + b / 64 % 2
theorem bitCount_eq : ∀ b, b < 128 → fIn_bitCount (nI b) = some (nI (pcn b)) := by decide +kernel
theorem pcn_add : ∀ c, c < 7 → ∀ m, m < 128 → m < 2 ^ c → pcn (m + 2 ^ c) = pcn m + 1 := by decide +kernel
theorem all_eq : ∀ n, n ≤ 7 → ((1 : Int32) <<< (nI n &&& 31)) - 1 = nI (2 ^ n - 1) := by decide +kernel
theorem pow_le7 {c n : Nat} (h : c ≤ n) : 2 ^ c ≤ 2 ^ n := Nat.pow_le_pow_right (by decide) h
/-- who is on, as bits; how many -/
def onB (k : Nat → Int32) (n : Nat) : Nat → Nat
  | 0 => 0
  | c + 1 => onB k n c + (if c < n ∧ k (7 + c) ≠ -1 then 2 ^ c else 0)
theorem onB_lt {k : Nat → Int32} {n : Nat} : ∀ c, onB k n c < 2 ^ c := by
  intro c
  induction c with
  | zero => exact Nat.one_pos
  | succ c ih =>
    show onB k n c + _ < 2 ^ (c + 1)
    rw [Nat.pow_succ]
    split <;> omega
theorem onB_n {k : Nat → Int32} {n : Nat} : ∀ d, onB k n (n + d) = onB k n n := by
  intro d
  induction d with
  | zero => rfl
  | succ d ih => rw [show onB k n (n + (d + 1)) = onB k n (n + d) + (if n + d < n ∧ k (7 + (n + d)) ≠ -1 then 2 ^ (n + d) else 0) from rfl, if_neg (by omega), ih]; rfl
theorem onB_7 {k : Nat → Int32} {n : Nat} (h : n ≤ 7) : onB k n n = onB k n 7 := by
  have := onB_n (k := k) (n := n) (7 - n)
  rw [show n + (7 - n) = 7 by omega] at this
  exact this.symm
theorem onB_bit {k : Nat → Int32} {n : Nat} : ∀ m c, c < m → (onB k n m / 2 ^ c % 2 = 1 ↔ c < n ∧ k (7 + c) ≠ -1) := by
  intro m
  induction m with
  | zero => intro c h; omega
  | succ m ih =>
    intro c hc
    have hlt := onB_lt (k := k) (n := n) m
    show (onB k n m + (if m < n ∧ k (7 + m) ≠ -1 then 2 ^ m else 0)) / 2 ^ c % 2 = 1 ↔ _
    by_cases hcm : c = m
    · subst hcm
      by_cases h : c < n ∧ k (7 + c) ≠ -1
      · rw [if_pos h, Nat.add_div_right _ (Nat.two_pow_pos c), Nat.div_eq_of_lt hlt]
        simp [h]
      · rw [if_neg h, Nat.add_zero, Nat.div_eq_of_lt hlt]
        constructor
        · intro h'; omega
        · intro h'; exact absurd h' h
    · rw [← ih c (by omega)]
      by_cases h : m < n ∧ k (7 + m) ≠ -1
      · rw [if_pos h]
        obtain ⟨e, rfl⟩ : ∃ e, m = c + 1 + e := ⟨m - (c + 1), by omega⟩
        rw [show 2 ^ (c + 1 + e) = 2 ^ c * (2 * 2 ^ e) by rw [Nat.pow_add, Nat.pow_succ, Nat.mul_assoc], Nat.add_mul_div_left _ _ (Nat.two_pow_pos c), Nat.add_mul_mod_self_left]
      · rw [if_neg h, Nat.add_zero]
def onC (k : Nat → Int32) (n : Nat) : Nat → Nat
  | 0 => 0
  | c + 1 => onC k n c + (if c < n ∧ k (7 + c) ≠ -1 then 1 else 0)
theorem onC_le {k : Nat → Int32} {n : Nat} : ∀ c, onC k n c ≤ c := by
  intro c
  induction c with
  | zero => exact Nat.le_refl _
  | succ c ih => show onC k n c + _ ≤ _; split <;> omega
theorem onC_n {k : Nat → Int32} {n : Nat} : ∀ d, onC k n (n + d) = onC k n n := by
  intro d
  induction d with
  | zero => rfl
  | succ d ih => rw [show onC k n (n + (d + 1)) = onC k n (n + d) + (if n + d < n ∧ k (7 + (n + d)) ≠ -1 then 1 else 0) from rfl, if_neg (by omega), ih]; rfl
theorem pcn_on {k : Nat → Int32} {n : Nat} : ∀ c, c ≤ 7 → pcn (onB k n c) = onC k n c := by
  intro c
  induction c with
  | zero => intro _; simp [onB, onC, pcn]
  | succ c ih =>
    intro hc
    have hlt := onB_lt (k := k) (n := n) c
    have := pow_le7 (show c ≤ 7 by omega)
    show pcn (onB k n c + _) = onC k n c + _
    by_cases h : c < n ∧ k (7 + c) ≠ -1
    · rw [if_pos h, if_pos h, pcn_add c (by omega) _ (by omega) hlt, ih (by omega)]
    · rw [if_neg h, if_neg h, Nat.add_zero, ih (by omega)]; rfl
section
variable {N : Nat} {ln : Nat → Nat} {M : Nat} {g : sw_g} {μ : sw_m} {q : Nat} {k : Nat → Int32} {Lw : Nat → List Cl} {n w L : Nat}
theorem onBits_4 (P : PQ ln M g q k Lw L) (K : KI k Lw n w L) : ∀ (d c fu : Nat), c + d = 7 → d < fu → fPl_onBits_4 N ln q fu g (nI (onB k n c)) (nI c) = some (nI (onB k n 7), g) := by
  intro d
  induction d with
  | zero =>
    intro c fu hc hfu
    obtain ⟨fu, rfl⟩ : ∃ z, fu = z + 1 := ⟨fu - 1, by omega⟩
    obtain rfl : c = 7 := by omega
    rw [fPl_onBits_4, if_pos (by decide)]
  | succ d ih =>
    intro c fu hc hfu
    obtain ⟨fu, rfl⟩ : ∃ z, fu = z + 1 := ⟨fu - 1, by omega⟩
    have hc7 : c < 7 := by omega
    have hlt := onB_lt (k := k) (n := n) c
    have h2 := pow_le7 (show c ≤ 7 by omega)
    rw [fPl_onBits_4, if_neg (show ¬ (7 : Int32) ≤ nI c from nI_ge (b := 7) hc7 (by decide)), isOn_c P K hc7, Option.bind_some]
    by_cases h : c < n ∧ k (7 + c) ≠ -1
    · rw [if_pos h]
      simp only [show ¬ ((1 : Int32) = 0) by decide, if_false, nm, nI_1]
      rw [sh_1 c (by omega), nI_lor, or_b c hc7 _ (by omega) hlt]
      have := ih (c + 1) fu (by omega) (by omega)
      rwa [show onB k n (c + 1) = onB k n c + 2 ^ c by show onB k n c + _ = _; rw [if_pos h]] at this
    · rw [if_neg h]
      simp only [if_true, nm, nI_1]
      have := ih (c + 1) fu (by omega) (by omega)
      rwa [show onB k n (c + 1) = onB k n c by show onB k n c + _ = _; rw [if_neg h]; rfl] at this
theorem onBits_eq (hN : 3000 ≤ N) (P : PQ ln M g q k Lw L) (K : KI k Lw n w L) : fPl_onBits N ln g q = some (nI (onB k n 7), g) := onBits_4 P K 7 0 N rfl (by omega)
theorem monNow_4 (K : KI (μ.1 86) Lw n w L) : ∀ (d c fu : Nat), c + d = n → d < fu → fMo_onNow_4 N fu μ (nI (onB (μ.1 86) n c)) (nI c) = some (nI (onB (μ.1 86) n n), μ) := by
  intro d
  have hn7 := K.n7
  induction d with
  | zero =>
    intro c fu hc hfu
    obtain ⟨fu, rfl⟩ : ∃ z, fu = z + 1 := ⟨fu - 1, by omega⟩
    obtain rfl : c = n := by omega
    rw [fMo_onNow_4, many_eq K, Option.bind_some]
    simp only []
    rw [if_pos (nI_le (Nat.le_refl _) (by omega))]
  | succ d ih =>
    intro c fu hc hfu
    obtain ⟨fu, rfl⟩ : ∃ z, fu = z + 1 := ⟨fu - 1, by omega⟩
    have hc7 : c < 7 := by omega
    have hlt := onB_lt (k := μ.1 86) (n := n) c
    have h2 := pow_le7 (show c ≤ 7 by omega)
    rw [fMo_onNow_4, many_eq K, Option.bind_some]
    simp only []
    rw [if_neg (nI_ge (by omega) (by omega)), misOn_eq hc7, Option.bind_some]
    by_cases h : μ.1 86 (7 + c) = -1
    · simp only [h, if_true, nm, nI_1, Int32.or_zero]
      have := ih (c + 1) fu (by omega) (by omega)
      rwa [show onB (μ.1 86) n (c + 1) = onB (μ.1 86) n c by show onB (μ.1 86) n c + _ = _; rw [if_neg (by simp [h])]; rfl] at this
    · simp only [h, if_false, show ¬ ((1 : Int32) = 0) by decide, nm, nI_1]
      rw [sh_1 c (by omega), nI_lor, or_b c hc7 _ (by omega) hlt]
      have := ih (c + 1) fu (by omega) (by omega)
      rwa [show onB (μ.1 86) n (c + 1) = onB (μ.1 86) n c + 2 ^ c by show onB (μ.1 86) n c + _ = _; rw [if_pos ⟨by omega, h⟩]] at this
theorem monNow_eq (hN : 3000 ≤ N) (K : KI (μ.1 86) Lw n w L) : fMo_onNow N μ = some (nI (onB (μ.1 86) n 7), μ) := by
  have hn7 := K.n7
  rw [← onB_7 hn7]
  exact monNow_4 K n 0 N (by omega) (by omega)
theorem monMany_4 (K : KI (μ.1 86) Lw n w L) : ∀ (d c fu : Nat), c + d = n → d < fu → fMo_onMany_4 N fu μ (nI (onC (μ.1 86) n c)) (nI c) = some (nI (onC (μ.1 86) n n), μ) := by
  intro d
  have hn7 := K.n7
  induction d with
  | zero =>
    intro c fu hc hfu
    obtain ⟨fu, rfl⟩ : ∃ z, fu = z + 1 := ⟨fu - 1, by omega⟩
    obtain rfl : c = n := by omega
    rw [fMo_onMany_4, many_eq K, Option.bind_some]
    simp only []
    rw [if_pos (nI_le (Nat.le_refl _) (by omega))]
  | succ d ih =>
    intro c fu hc hfu
    obtain ⟨fu, rfl⟩ : ∃ z, fu = z + 1 := ⟨fu - 1, by omega⟩
    have hc7 : c < 7 := by omega
    rw [fMo_onMany_4, many_eq K, Option.bind_some]
    simp only []
    rw [if_neg (nI_ge (by omega) (by omega)), misOn_eq hc7, Option.bind_some]
    by_cases h : μ.1 86 (7 + c) = -1
    · simp only [h, if_true, nm, nI_1, Int32.add_zero]
      have := ih (c + 1) fu (by omega) (by omega)
      rwa [show onC (μ.1 86) n (c + 1) = onC (μ.1 86) n c by show onC (μ.1 86) n c + _ = _; rw [if_neg (by simp [h])]; rfl] at this
    · simp only [h, if_false, show ¬ ((1 : Int32) = 0) by decide, nm, nI_1]
      have := ih (c + 1) fu (by omega) (by omega)
      rwa [show onC (μ.1 86) n (c + 1) = onC (μ.1 86) n c + 1 by show onC (μ.1 86) n c + _ = _; rw [if_pos ⟨by omega, h⟩]] at this
theorem monMany_eq (hN : 3000 ≤ N) (K : KI (μ.1 86) Lw n w L) : fMo_onMany N μ = some (nI (pcn (onB (μ.1 86) n 7)), μ) := by
  have hn7 := K.n7
  have h1 : onC (μ.1 86) n n = pcn (onB (μ.1 86) n 7) := by rw [← onB_7 hn7, pcn_on n hn7]
  rw [← h1]
  exact monMany_4 K n 0 N (by omega) (by omega)
/-! how heavy some are together -/
def hS (k : Nat → Int32) (n s : Nat) : Nat → Int32
  | 0 => 0
  | c + 1 => hS k n s c + (if c < n ∧ s / 2 ^ c % 2 = 1 then k c else 0)
theorem hS_n {k : Nat → Int32} {n s : Nat} : ∀ d, hS k n s (n + d) = hS k n s n := by
  intro d
  induction d with
  | zero => rfl
  | succ d ih => rw [show hS k n s (n + (d + 1)) = hS k n s (n + d) + (if n + d < n ∧ s / 2 ^ (n + d) % 2 = 1 then k (n + d) else 0) from rfl, if_neg (by omega), ih, Int32.add_zero]
theorem hS_7 {k : Nat → Int32} {n s : Nat} (h : n ≤ 7) : hS k n s n = hS k n s 7 := by
  have := hS_n (k := k) (n := n) (s := s) (7 - n)
  rw [show n + (7 - n) = 7 by omega] at this
  exact this.symm
theorem mheavy_4 (K : KI (μ.1 86) Lw n w L) {s : Nat} (hs : s < 128) : ∀ (d c fu : Nat), c + d = n → d < fu → fMo_heavyOf_4 N fu μ (nI s) (hS (μ.1 86) n s c) (nI c) = some (hS (μ.1 86) n s n, μ) := by
  intro d
  have hn7 := K.n7
  induction d with
  | zero =>
    intro c fu hc hfu
    obtain ⟨fu, rfl⟩ : ∃ z, fu = z + 1 := ⟨fu - 1, by omega⟩
    obtain rfl : c = n := by omega
    rw [fMo_heavyOf_4, many_eq K, Option.bind_some]
    simp only []
    rw [if_pos (nI_le (Nat.le_refl _) (by omega))]
  | succ d ih =>
    intro c fu hc hfu
    obtain ⟨fu, rfl⟩ : ∃ z, fu = z + 1 := ⟨fu - 1, by omega⟩
    have hc7 : c < 7 := by omega
    rw [fMo_heavyOf_4, many_eq K, Option.bind_some]
    simp only []
    rw [if_neg (nI_ge (by omega) (by omega)), isIn_eq c hc7 s hs, Option.bind_some]
    by_cases h : s / 2 ^ c % 2 = 1
    · simp only [h, if_true, show ¬ ((1 : Int32) = 0) by decide, if_false, nm, nI_1]
      rw [show (0 : Int32) + nI c = nI (0 + c) from nI_add 0 c, Nat.zero_add, rd_nI (by omega) (by decide)]
      have := ih (c + 1) fu (by omega) (by omega)
      rwa [show hS (μ.1 86) n s (c + 1) = hS (μ.1 86) n s c + μ.1 86 c by show hS (μ.1 86) n s c + _ = _; rw [if_pos ⟨by omega, h⟩]] at this
    · simp only [h, if_false, if_true, nm, nI_1, Int32.add_zero]
      have := ih (c + 1) fu (by omega) (by omega)
      rwa [show hS (μ.1 86) n s (c + 1) = hS (μ.1 86) n s c by show hS (μ.1 86) n s c + _ = _; rw [if_neg (fun q => h q.2), Int32.add_zero]] at this
theorem mheavy_eq (hN : 3000 ≤ N) (K : KI (μ.1 86) Lw n w L) {s : Nat} (hs : s < 128) : fMo_heavyOf N μ (nI s) = some (hS (μ.1 86) n s 7, μ) := by
  have hn7 := K.n7
  rw [← hS_7 hn7]
  exact mheavy_4 K hs n 0 N (by omega) (by omega)
theorem every_eq (K : KI (μ.1 86) Lw n w L) : fMo_everything μ = some (nI (2 ^ n - 1), μ) := by
  rw [fMo_everything, many_eq K, Option.bind_some]
  simp only []
  rw [all_eq n K.n7]
theorem all_bit : ∀ n, n ≤ 7 → ∀ c, c < 7 → c < n → (2 ^ n - 1) / 2 ^ c % 2 = 1 := by decide +kernel
theorem xheavyAll_4 (P : PQ ln M g q k Lw L) (K : KI k Lw n w L) : ∀ (d c fu : Nat), c + d = 7 → d < fu → fPl_heavyOfAll_4 N ln q fu g (hS k n (2 ^ n - 1) c) (nI c) = some (hS k n (2 ^ n - 1) 7, g) := by
  intro d
  induction d with
  | zero =>
    intro c fu hc hfu
    obtain ⟨fu, rfl⟩ : ∃ z, fu = z + 1 := ⟨fu - 1, by omega⟩
    obtain rfl : c = 7 := by omega
    rw [fPl_heavyOfAll_4, if_pos (by decide)]
  | succ d ih =>
    intro c fu hc hfu
    obtain ⟨fu, rfl⟩ : ∃ z, fu = z + 1 := ⟨fu - 1, by omega⟩
    have hc7 : c < 7 := by omega
    rw [fPl_heavyOfAll_4, if_neg (show ¬ (7 : Int32) ≤ nI c from nI_ge (b := 7) hc7 (by decide)), hasClaim_c P K hc7, Option.bind_some]
    by_cases h : c < n
    · simp only [h, if_true, show ¬ ((1 : Int32) = 0) by decide, if_false, nm, nI_1]
      rw [rd_nI hc7 (by decide), (P.2.1 c hc7).1]
      have := ih (c + 1) fu (by omega) (by omega)
      rwa [show hS k n (2 ^ n - 1) (c + 1) = hS k n (2 ^ n - 1) c + k c by show hS k n (2 ^ n - 1) c + _ = _; rw [if_pos ⟨h, all_bit n K.n7 c hc7 h⟩]] at this
    · simp only [h, if_false, if_true, nm, nI_1, Int32.add_zero]
      have := ih (c + 1) fu (by omega) (by omega)
      rwa [show hS k n (2 ^ n - 1) (c + 1) = hS k n (2 ^ n - 1) c by show hS k n (2 ^ n - 1) c + _ = _; rw [if_neg (fun q => h q.1), Int32.add_zero]] at this
theorem xheavyAll_eq (hN : 3000 ≤ N) (P : PQ ln M g q k Lw L) (K : KI k Lw n w L) : fPl_heavyOfAll N ln g q = some (hS k n (2 ^ n - 1) 7, g) := xheavyAll_4 P K 7 0 N rfl (by omega)
end
