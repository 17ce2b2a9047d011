/-! ===== off, byTurns ===== -/
/-- how many orders there are, by those with one less -/
def oS (A T : Nat → Int32) (sl : Int32) (b : Nat) : Nat → Int32
  | 0 => 0
  | c + 1 => oS A T sl b c + (if okO T sl b c then A (b - 2 ^ c) else 0)
theorem okO_bit {T : Nat → Int32} {sl : Int32} {b c : Nat} (h : okO T sl b c = true) : b / 2 ^ c % 2 = 1 := by
  unfold okO at h; simp at h; exact h.1
theorem okO_cong {T T' : Nat → Int32} {sl : Int32} {b c : Nat} (hT : ∀ s, s < b → T s = T' s) : okO T sl b c = okO T' sl b c := by
  unfold okO
  by_cases h : b / 2 ^ c % 2 = 1
  · have : 0 < b := by
      rcases Nat.eq_zero_or_pos b with q | q
      · subst q; simp at h
      · exact q
    have h2 := Nat.two_pow_pos c
    rw [hT (b - 2 ^ c) (by omega)]
  · simp [h]
theorem oS_cong {A A' T T' : Nat → Int32} {sl : Int32} {b : Nat} (hA : ∀ s, s < b → A s = A' s) (hT : ∀ s, s < b → T s = T' s) : ∀ c, oS A T sl b c = oS A' T' sl b c := by
  intro c
  induction c with
  | zero => rfl
  | succ c ih =>
    rw [show oS A T sl b (c + 1) = oS A T sl b c + (if okO T sl b c then A (b - 2 ^ c) else 0) from rfl, show oS A' T' sl b (c + 1) = oS A' T' sl b c + (if okO T' sl b c then A' (b - 2 ^ c) else 0) from rfl, ih, okO_cong hT]
    by_cases h : okO T' sl b c = true
    · have hb := okO_bit h
      have h2 := Nat.two_pow_pos c
      have : 0 < b := by
        rcases Nat.eq_zero_or_pos b with q | q
        · subst q; simp at hb
        · exact q
      rw [if_pos h, if_pos h, hA _ (by omega)]
    · rw [if_neg h, if_neg h]
theorem oS_n {A T : Nat → Int32} {sl : Int32} {b n : Nat} (hb : b < 2 ^ n) : ∀ d, oS A T sl b (n + d) = oS A T sl b n := by
  intro d
  induction d with
  | zero => rfl
  | succ d ih =>
    rw [show oS A T sl b (n + (d + 1)) = oS A T sl b (n + d) + (if okO T sl b (n + d) then A (b - 2 ^ (n + d)) else 0) from rfl, if_neg (fun q => no_bit hb (by omega) (okO_bit q)), Int32.add_zero, ih]
/-- counts are no more than so many -/
theorem oS_rng {A T : Nat → Int32} {sl : Int32} {b q : Nat} (hb : b < 128) (hq : pcn b = q + 1) (hA : ∀ c, c < 7 → b / 2 ^ c % 2 = 1 → ∃ a, a ≤ 7 ^ q ∧ A (b - 2 ^ c) = nI a) : ∀ c, c ≤ 7 → ∃ a, a ≤ c * 7 ^ q ∧ oS A T sl b c = nI a := by
  intro c
  induction c with
  | zero => intro _; exact ⟨0, Nat.zero_le _, rfl⟩
  | succ c ih =>
    intro hc
    obtain ⟨a, a1, a2⟩ := ih (by omega)
    rw [show oS A T sl b (c + 1) = oS A T sl b c + (if okO T sl b c then A (b - 2 ^ c) else 0) from rfl, a2, Nat.succ_mul]
    by_cases h : okO T sl b c = true
    · obtain ⟨x, x1, x2⟩ := hA c (by omega) (okO_bit h)
      rw [if_pos h, x2, nI_add]; exact ⟨a + x, by omega, rfl⟩
    · rw [if_neg h, Int32.add_zero]; exact ⟨a, Nat.le_trans a1 (Nat.le_add_right _ _), rfl⟩
theorem pcn_7 : ∀ b, b < 128 → pcn b ≤ 7 ∧ (pcn b = 0 ↔ b = 0) := by decide +kernel
theorem pow7 {q : Nat} (h : q ≤ 7) : 7 ^ q ≤ 823543 := Nat.le_trans (Nat.pow_le_pow_right (by decide) h) (by decide)
/-- all counts that stand are small -/
def small7 (A : Nat → Int32) (b : Nat) : Prop := ∀ s, s < b → ∃ a, a ≤ 7 ^ pcn s ∧ A s = nI a
section
variable {N : Nat} {ln : Nat → Nat} {M : Nat} {k : Nat → Int32} {Lw : Nat → List Cl} {n w L : Nat}
theorem PQ.g82 {g : sw_g} (P : PQ ln M g 1 k Lw L) {j : Nat} {v : Int32} : PQ ln M (gI g 82 j v) 1 k Lw L := P.ga (GA.put (lo := 82) (hi := 82) (by decide) (by decide)) (by decide) (by decide)
theorem fo_19 {k9 : sw_g → Int32 → Int32 → Option sw_g} {g : sw_g} (P : PQ ln M g 1 k Lw L) {on b : Nat} (hb : b < 128) : ∀ (d c fu : Nat), c + d = 7 → d < fu → fSx_findOrders_19 N ln k9 fu g (nI on) (nI b) (oS (g.1 82) (g.1 81) (k 42) b c) (nI c) = k9 (gI g 82 b (oS (g.1 82) (g.1 81) (k 42) b 7)) (nI on) (nI (b + 1)) := by
  intro d
  induction d with
  | zero =>
    intro c fu h hfu
    obtain ⟨fu, rfl⟩ : ∃ z, fu = z + 1 := ⟨fu - 1, by omega⟩
    obtain rfl : c = 7 := by omega
    rw [fSx_findOrders_19, if_pos (by decide), wr_nI hb (by decide)]
    simp only [nm, nI_1]
  | succ d ih =>
    intro c fu h hfu
    obtain ⟨fu, rfl⟩ : ∃ z, fu = z + 1 := ⟨fu - 1, by omega⟩
    have hc7 : c < 7 := by omega
    rw [fSx_findOrders_19, if_neg (show ¬ (7 : Int32) ≤ nI c from nI_ge (b := 7) hc7 (by decide)), canTake_eq P hb hc7, Option.bind_some]
    rw [← ih (c + 1) fu (by omega) (by omega), show oS (g.1 82) (g.1 81) (k 42) b (c + 1) = oS (g.1 82) (g.1 81) (k 42) b c + (if okO (g.1 81) (k 42) b c then g.1 82 (b - 2 ^ c) else 0) from rfl]
    by_cases ho : okO (g.1 81) (k 42) b c = true
    · obtain ⟨s1, s2, s3, s4, s5⟩ := sub_bit c hc7 b hb (okO_bit ho)
      simp only [ho, if_true, n10, if_false]
      rw [sh_1 c (by omega), pk_sub s1, rd_nI (by omega) (by decide)]
      simp only [nm, nI_1]
    · simp only [ho, if_false, if_true, nm, nI_1, Int32.add_zero, Bool.false_eq_true]
theorem lo_33 {k11 : sw_m → Int32 → Int32 → Option sw_m} {on b : Nat} (hb : b < 128) (hbn : b < 2 ^ n) {i0' : Int32} {A T : Nat → Int32} {sl : Int32} : ∀ (d c fu : Nat) (μ : sw_m), c + d = n → d < fu → KI (μ.1 86) Lw n w L → μ.1 86 42 = sl → (∀ s, s < b → μ.1 104 s = A s) → (∀ s, s < b → μ.1 103 s = T s) → μ.1 104 b = i0' + oS A T sl b c → ∃ μ', fMo_laysOff_33 N k11 fu μ (nI on) (nI b) (nI c) = k11 μ' (nI on) (nI (b + 1)) ∧ μ'.1 104 b = i0' + oS A T sl b n ∧ (∀ p j, ¬ (p = 104 ∧ j = b) → μ'.1 p j = μ.1 p j) := by
  intro d
  induction d with
  | zero =>
    intro c fu μ h hfu K hsl hA hT h104
    obtain ⟨fu, rfl⟩ : ∃ z, fu = z + 1 := ⟨fu - 1, by omega⟩
    obtain rfl : c = n := by omega
    have := K.n7
    rw [fMo_laysOff_33, many_eq K, Option.bind_some]
    simp only []
    rw [if_pos (nI_le (Nat.le_refl _) (by omega))]
    simp only [nm, nI_1]
    exact ⟨μ, rfl, h104, fun _ _ _ => rfl⟩
  | succ d ih =>
    intro c fu μ h hfu K hsl hA hT h104
    obtain ⟨fu, rfl⟩ : ∃ z, fu = z + 1 := ⟨fu - 1, by omega⟩
    have hn7 := K.n7
    have hc7 : c < 7 := by omega
    rw [fMo_laysOff_33, many_eq K, Option.bind_some]
    simp only []
    rw [if_neg (nI_ge (by omega) (by omega)), rd_nI hb (by decide), canOff_eq hb hc7, Option.bind_some, h104, hsl, okO_cong hT]
    have fin : ∀ v, v = i0' + oS A T sl b (c + 1) → ∃ μ', fMo_laysOff_33 N k11 fu (mI μ 104 b v) (nI on) (nI b) (nI (c + 1)) = k11 μ' (nI on) (nI (b + 1)) ∧ μ'.1 104 b = i0' + oS A T sl b n ∧ (∀ p j, ¬ (p = 104 ∧ j = b) → μ'.1 p j = μ.1 p j) := by
      intro v hv
      have ek : (mI μ 104 b v).1 86 = μ.1 86 := by funext j; rw [mI_at, if_neg (by omega)]
      obtain ⟨μ', q1, q2, q3⟩ := ih (c + 1) fu (mI μ 104 b v) (by omega) (by omega) (by rw [ek]; exact K) (by rw [ek]; exact hsl) (fun s hs => by rw [mI_at, if_neg (by omega)]; exact hA s hs) (fun s hs => by rw [mI_at, if_neg (by omega)]; exact hT s hs) (by rw [mI_at, if_pos ⟨rfl, rfl⟩, hv])
      exact ⟨μ', q1, q2, fun p j hp => by rw [q3 p j hp, mI_at, if_neg hp]⟩
    by_cases ho : okO T sl b c = true
    · obtain ⟨s1, s2, s3, s4, s5⟩ := sub_bit c hc7 b hb (okO_bit ho)
      simp only [ho, if_true, n10, if_false]
      rw [sh_1 c (by omega), nI_xor, s2, rd_nI (by omega) (by decide), wr_nI hb (by decide), hA _ s4]
      simp only [nm, nI_1]
      exact fin _ (by rw [show oS A T sl b (c + 1) = oS A T sl b c + (if okO T sl b c then A (b - 2 ^ c) else 0) from rfl, if_pos ho, Int32.add_assoc])
    · simp only [ho, if_false, if_true, Bool.false_eq_true]
      rw [wr_nI hb (by decide)]
      simp only [nm, nI_1]
      exact fin _ (by rw [show oS A T sl b (c + 1) = oS A T sl b c + (if okO T sl b c then A (b - 2 ^ c) else 0) from rfl, if_neg ho, Int32.add_assoc])
/-- both find all counts -/
theorem orders_loop (hN : 3000 ≤ N) {on : Nat} (hon : on < 128) (hon' : on < 2 ^ n) : ∀ (d b fu fm : Nat) (g : sw_g) (μ : sw_m), b + d = on + 1 → 1 ≤ b → d < fu → d < fm → μ.1 86 = k → KI k Lw n w L → PQ ln M g 1 k Lw L → (∀ s, s ≤ on → g.1 81 s = μ.1 103 s) → (∀ s, s < b → g.1 82 s = μ.1 104 s) → small7 (g.1 82) b → ∃ g' μ', fSx_findOrders_9 N ln fu g (nI on) (nI b) = some g' ∧ fMo_laysOff_11 N fm μ (nI on) (nI b) = some μ' ∧ (∀ s, s ≤ on → g'.1 82 s = μ'.1 104 s) ∧ small7 (g'.1 82) (on + 1) ∧ (∀ s, 1 ≤ b → b ≤ s → s ≤ on → g'.1 82 s = oS (g'.1 82) (g'.1 81) (k 42) s 7) ∧ (∀ s, s < b → g'.1 82 s = g.1 82 s) ∧ (∀ p, p ≠ 82 → g'.1 p = g.1 p) ∧ g'.2 = g.2 ∧ (∀ p j, p ≠ 104 → μ'.1 p j = μ.1 p j) := by
  intro d
  induction d with
  | zero =>
    intro b fu fm g μ h h1 hfu hfm hk K P hT hA hS
    obtain ⟨fu, rfl⟩ : ∃ z, fu = z + 1 := ⟨fu - 1, by omega⟩
    obtain ⟨fm, rfl⟩ : ∃ z, fm = z + 1 := ⟨fm - 1, by omega⟩
    rw [fSx_findOrders_9, if_pos (nI_lt (by omega) (by omega)), fMo_laysOff_11, if_pos (nI_lt (by omega) (by omega))]
    exact ⟨g, μ, rfl, rfl, fun s hs => hA s (by omega), by rw [show on + 1 = b by omega]; exact hS, fun s _ a b => by omega, fun _ _ => rfl, fun _ _ => rfl, rfl, fun _ _ _ => rfl⟩
  | succ d ih =>
    intro b fu fm g μ h h1 hfu hfm hk K P hT hA hS
    obtain ⟨fu, rfl⟩ : ∃ z, fu = z + 1 := ⟨fu - 1, by omega⟩
    obtain ⟨fm, rfl⟩ : ∃ z, fm = z + 1 := ⟨fm - 1, by omega⟩
    have hn7 := K.n7
    have hb : b < 128 := by omega
    rw [fSx_findOrders_9, if_neg (nI_nlt (by omega) (by omega)), fMo_laysOff_11, if_neg (nI_nlt (by omega) (by omega)), if_neg (nI_ne0 (by omega) (by omega)), wr_nI hb (by decide)]
    have e1 := fo_19 (N := N) (k9 := fSx_findOrders_9 N ln fu) P (on := on) hb 7 0 N rfl (by omega)
    rw [show fSx_findOrders_19 N ln (fSx_findOrders_9 N ln fu) N g (nI on) (nI b) 0 0 = _ from e1]
    have ek : (mI μ 104 b 0).1 86 = k := by rw [← hk]; funext j; rw [mI_at, if_neg (by omega)]
    obtain ⟨μ1, q1, q2, q3⟩ := lo_33 (N := N) (Lw := Lw) (n := n) (w := w) (L := L) (k11 := fMo_laysOff_11 N fm) (on := on) hb (by omega) (i0' := 0) (A := g.1 82) (T := g.1 81) (sl := k 42) n 0 N (mI μ 104 b 0) (by omega) (by omega) (by rw [ek]; exact K) (by rw [ek]) (fun s hs => by rw [mI_at, if_neg (by omega), hA s hs]) (fun s hs => by rw [mI_at, if_neg (by omega), hT s (by omega)]) (by rw [mI_at, if_pos ⟨rfl, rfl⟩]; rfl)
    rw [show fMo_laysOff_33 N (fMo_laysOff_11 N fm) N (mI μ 104 b 0) (nI on) (nI b) 0 = _ from q1]
    have hv : μ1.1 104 b = oS (g.1 82) (g.1 81) (k 42) b 7 := by
      rw [q2, Int32.zero_add]
      have := oS_n (A := g.1 82) (T := g.1 81) (sl := k 42) (show b < 2 ^ n by omega) (7 - n)
      rw [show n + (7 - n) = 7 by omega] at this
      exact this.symm
    generalize hg : gI g 82 b (oS (g.1 82) (g.1 81) (k 42) b 7) = g1
    have g82 : ∀ j, g1.1 82 j = if j = b then oS (g.1 82) (g.1 81) (k 42) b 7 else g.1 82 j := by
      intro j; subst hg; rw [gI_at]; simp
    have go : ∀ p, p ≠ 82 → g1.1 p = g.1 p := by intro p hp; subst hg; funext j; rw [gI_at, if_neg (by omega)]
    have m1 : ∀ p j, ¬ (p = 104 ∧ j = b) → μ1.1 p j = μ.1 p j := fun p j hp => by rw [q3 p j hp, mI_at, if_neg hp]
    obtain ⟨q, hq⟩ : ∃ q, pcn b = q + 1 := ⟨pcn b - 1, by have := (pcn_7 b hb).2; omega⟩
    have hsm : ∃ a, a ≤ 7 ^ pcn b ∧ oS (g.1 82) (g.1 81) (k 42) b 7 = nI a := by
      obtain ⟨a, a1, a2⟩ := oS_rng (T := g.1 81) (sl := k 42) hb hq (fun c hc hbit => by
        obtain ⟨s1, s2, s3, s4, s5⟩ := sub_bit c hc b hb hbit
        obtain ⟨x, x1, x2⟩ := hS (b - 2 ^ c) s4
        exact ⟨x, by rw [show q = pcn (b - 2 ^ c) by omega]; exact x1, x2⟩) 7 (by decide)
      exact ⟨a, by rw [hq, Nat.pow_succ, Nat.mul_comm]; exact a1, a2⟩
    obtain ⟨g', μ', r1, r2, r3, r4, r5, r6, r7, r8, r9⟩ := ih (b + 1) fu fm g1 μ1 (by omega) (by omega) (by omega) (by omega) (by rw [← hk]; exact funext fun j => m1 86 j (by omega)) K (by subst hg; exact P.g82) (fun s hs => by rw [go 81 (by decide), m1 103 s (by omega)]; exact hT s hs) (fun s hs => by
        rw [g82]
        by_cases hsb : s = b
        · subst hsb; rw [if_pos rfl, hv]
        · rw [if_neg hsb, m1 104 s (by omega)]; exact hA s (by omega)) (fun s hs => by
        rw [g82]
        by_cases hsb : s = b
        · subst hsb; rw [if_pos rfl]; exact hsm
        · rw [if_neg hsb]; exact hS s (by omega))
    refine ⟨g', μ', r1, r2, r3, r4, fun s _ a c => ?_, fun s hs => by rw [r6 s (by omega), g82, if_neg (by omega)], fun p hp => by rw [r7 p hp, go p hp], by rw [r8]; subst hg; rfl, fun p j hp => by rw [r9 p j hp, m1 p j (by omega)]⟩
    by_cases hsb : s = b
    · subst hsb
      rw [r6 s (by omega), g82, if_pos rfl]
      exact oS_cong (fun x hx => by rw [r6 x (by omega), g82, if_neg (by omega)]) (fun x hx => by rw [r7 81 (by decide), go 81 (by decide)]) 7
    · exact r5 s (by omega) (by omega) c
end
