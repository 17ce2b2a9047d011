/-! ===== the reference splits the tape ===== -/
def Tok (B : Nat → Nat) (t p s e : Nat) : Prop := p ≤ s ∧ s < e ∧ e ≤ t ∧ (∀ k, p ≤ k → k < s → B k = 32) ∧ B s ≠ 32 ∧ (srt (B s) = 0 → e = s + 1) ∧ (srt (B s) ≠ 0 → (∀ k, s ≤ k → k < e → srt (B k) = srt (B s)) ∧ (e < t → srt (B e) ≠ srt (B s)))
theorem srt_cases (b : Nat) : srt b = 0 ∨ srt b = 1 ∨ srt b = 2 := by
  unfold srt; split
  · exact .inr (.inl rfl)
  · split
    · exact .inr (.inr rfl)
    · exact .inl rfl
theorem srt1 {b : Nat} (h : srt b = 1) : 97 ≤ b ∧ b ≤ 122 := by
  unfold srt at h; split at h
  · assumption
  · split at h <;> simp at h
theorem srt2 {b : Nat} (h : srt b = 2) : 48 ≤ b ∧ b ≤ 57 := by
  unfold srt at h; split at h
  · simp at h
  · split at h
    · assumption
    · simp at h
theorem nI_mul (a b : Nat) : nI a * nI b = nI (a * b) := (Int32.ofNat_mul a b).symm
theorem mI_at {μ : sw_m} {p k : Nat} {v : Int32} {q j : Nat} : (mI μ p k v).1 q j = if q = p ∧ j = k then v else μ.1 q j := rfl
theorem mI_2 {μ : sw_m} {p k : Nat} {v : Int32} : (mI μ p k v).2 = μ.2 := rfl
def Fr (i : Nat) (μ μ' : sw_m) : Prop := μ'.2 = μ.2 ∧ ∀ p j, (p = 84 → j ≠ 18) → ((p = 93 ∨ p = 94 ∨ p = 95) → j < i) → μ'.1 p j = μ.1 p j
section
variable {N : Nat} {B : Nat → Nat} {t : Nat}
theorem lp43 {k7 : sw_m → Int32 → Int32 → Option sw_m} {μ : sw_m} {u2 u3 : Int32} (ht : t ≤ 400) (hB : ∀ k, B k < 256) (tp : ∀ j, j < t → μ.1 91 j = sx (B j)) : ∀ (d x fu : Nat), x + d = t → d < fu → ∃ e, x ≤ e ∧ e ≤ t ∧ (∀ k, x ≤ k → k < e → srt (B k) = 1) ∧ (e < t → srt (B e) ≠ 1) ∧ fMo_splits_43 N k7 fu μ (nI t) u2 u3 (nI x) = fMo_splits_68 N k7 μ (nI t) u2 u3 (nI e) := by
  intro d
  induction d with
  | zero =>
    intro x fu h1 h2
    obtain ⟨fu, rfl⟩ : ∃ x, fu = x + 1 := ⟨fu - 1, by omega⟩
    exact ⟨x, Nat.le_refl _, by omega, fun k a b => by omega, fun h => by omega, by rw [fMo_splits_43, if_pos (nI_le (by omega) (by omega))]⟩
  | succ d ih =>
    intro x fu h1 h2
    obtain ⟨fu, rfl⟩ : ∃ x, fu = x + 1 := ⟨fu - 1, by omega⟩
    have e0 : fMo_splits_43 N k7 (fu + 1) μ (nI t) u2 u3 (nI x) = (if srt (B x) = 1 then fMo_splits_43 N k7 fu μ (nI t) u2 u3 (nI (x + 1)) else fMo_splits_68 N k7 μ (nI t) u2 u3 (nI x)) := by
      rw [fMo_splits_43, if_neg (nI_ge (by omega) (by omega)), rd_nI (by omega) (by decide), tp x (by omega), sx_small _ (hB x)]
      simp only [Option.bind_some, nm, nI_1]
      by_cases h : srt (B x) = 1 <;> simp [h]
    rw [e0]
    by_cases h : srt (B x) = 1
    · rw [if_pos h]
      obtain ⟨e, a1, a2, a3, a4, a5⟩ := ih (x + 1) fu (by omega) (by omega)
      refine ⟨e, by omega, a2, fun k b1 b2 => ?_, a4, a5⟩
      by_cases hk : k = x
      · rw [hk]; exact h
      · exact a3 k (by omega) b2
    · rw [if_neg h]
      exact ⟨x, Nat.le_refl _, by omega, fun k a b => by omega, fun _ => h, rfl⟩
theorem lp75 {k7 : sw_m → Int32 → Int32 → Option sw_m} {μ : sw_m} {u2 u3 : Int32} (ht : t ≤ 400) (hB : ∀ k, B k < 256) (tp : ∀ j, j < t → μ.1 91 j = sx (B j)) : ∀ (d x fu : Nat), x + d = t → d < fu → ∃ e, x ≤ e ∧ e ≤ t ∧ (∀ k, x ≤ k → k < e → srt (B k) = 2) ∧ (e < t → srt (B e) ≠ 2) ∧ fMo_splits_75 N k7 fu μ (nI t) u2 u3 (nI x) = fMo_splits_100 N k7 μ (nI t) u2 u3 (nI e) := by
  intro d
  induction d with
  | zero =>
    intro x fu h1 h2
    obtain ⟨fu, rfl⟩ : ∃ x, fu = x + 1 := ⟨fu - 1, by omega⟩
    exact ⟨x, Nat.le_refl _, by omega, fun k a b => by omega, fun h => by omega, by rw [fMo_splits_75, if_pos (nI_le (by omega) (by omega))]⟩
  | succ d ih =>
    intro x fu h1 h2
    obtain ⟨fu, rfl⟩ : ∃ x, fu = x + 1 := ⟨fu - 1, by omega⟩
    have e0 : fMo_splits_75 N k7 (fu + 1) μ (nI t) u2 u3 (nI x) = (if srt (B x) = 2 then fMo_splits_75 N k7 fu μ (nI t) u2 u3 (nI (x + 1)) else fMo_splits_100 N k7 μ (nI t) u2 u3 (nI x)) := by
      rw [fMo_splits_75, if_neg (nI_ge (by omega) (by omega)), rd_nI (by omega) (by decide), tp x (by omega), sx_digit _ (hB x)]
      simp only [Option.bind_some, nm, nI_1]
      by_cases h : srt (B x) = 2 <;> simp [h]
    rw [e0]
    by_cases h : srt (B x) = 2
    · rw [if_pos h]
      obtain ⟨e, a1, a2, a3, a4, a5⟩ := ih (x + 1) fu (by omega) (by omega)
      refine ⟨e, by omega, a2, fun k b1 b2 => ?_, a4, a5⟩
      by_cases hk : k = x
      · rw [hk]; exact h
      · exact a3 k (by omega) b2
    · rw [if_neg h]
      exact ⟨x, Nat.le_refl _, by omega, fun k a b => by omega, fun _ => h, rfl⟩
/-- a token's end is found -/
theorem tokEnd {k7 : sw_m → Int32 → Int32 → Option sw_m} {μ : sw_m} (hN : 3000 ≤ N) (ht : t ≤ 400) (hB : ∀ k, B k < 256) (tp : ∀ j, j < t → μ.1 91 j = sx (B j)) {p k : Nat} (hk : k < t) (hp : p ≤ k) (hb : ∀ x, p ≤ x → x < k → B x = 32) (h32 : B k ≠ 32) : ∃ e, Tok B t p k e ∧ ((fMo_isSmall (sx (B k))).bind fun v8 => (if v8 = 0 then fMo_splits_68 N k7 μ (nI t) (nI k) (sx (B k)) (nI (k + 1)) else fMo_splits_43 N k7 N μ (nI t) (nI k) (sx (B k)) (nI (k + 1)))) = fMo_splits_100 N k7 μ (nI t) (nI k) (sx (B k)) (nI e) := by
  rw [sx_small _ (hB k), Option.bind_some]
  rcases srt_cases (B k) with h | h | h
  · refine ⟨k + 1, ⟨hp, by omega, by omega, hb, h32, fun _ => rfl, fun h' => absurd h h'⟩, ?_⟩
    rw [if_neg (show ¬ srt (B k) = 1 by omega), if_pos rfl]
    unfold fMo_splits_68
    rw [sx_digit _ (hB k), if_neg (by omega)]
    rfl
  · obtain ⟨e, a1, a2, a3, a4, a5⟩ := lp43 (N := N) (k7 := k7) (μ := μ) (u2 := nI k) (u3 := sx (B k)) ht hB tp (t - (k + 1)) (k + 1) N (by omega) (by omega)
    refine ⟨e, ⟨hp, by omega, a2, hb, h32, fun h' => by omega, fun _ => ⟨fun x b1 b2 => ?_, fun b => by rw [h]; exact a4 b⟩⟩, ?_⟩
    · by_cases hx : x = k
      · rw [hx]
      · rw [a3 x (by omega) b2, h]
    rw [if_pos h, if_neg (by decide), a5]
    unfold fMo_splits_68
    rw [sx_digit _ (hB k), if_neg (by omega)]
    rfl
  · obtain ⟨e, a1, a2, a3, a4, a5⟩ := lp75 (N := N) (k7 := k7) (μ := μ) (u2 := nI k) (u3 := sx (B k)) ht hB tp (t - (k + 1)) (k + 1) N (by omega) (by omega)
    refine ⟨e, ⟨hp, by omega, a2, hb, h32, fun h' => by omega, fun _ => ⟨fun x b1 b2 => ?_, fun b => by rw [h]; exact a4 b⟩⟩, ?_⟩
    · by_cases hx : x = k
      · rw [hx]
      · rw [a3 x (by omega) b2, h]
    rw [if_neg (show ¬ srt (B k) = 1 by omega), if_pos rfl]
    unfold fMo_splits_68
    rw [sx_digit _ (hB k), if_pos h, Option.bind_some, if_neg (by decide), a5]
/-- the digits are read -/
theorem lp169 {k7 : sw_m → Int32 → Int32 → Option sw_m} (ht : t ≤ 400) (hB : ∀ k, B k < 256) {i k e : Nat} (hi : i ≤ 400) (he : e ≤ t) (hke : k ≤ e) (hd : ∀ x, k ≤ x → x < e → srt (B x) = 2) (hk2 : srt (B k) = 2) : ∀ (d c fu : Nat) (μ : sw_m), c + d = e - k → d < fu → μ.1 84 18 = nI i → μ.1 94 i = nI (numR B k c) → (∀ j, j < t → μ.1 91 j = sx (B j)) → ∃ μ', fMo_splits_169 N k7 fu μ (nI t) (sx (B k)) (nI e) (nI (k + c)) = fMo_splits_247 N k7 μ' (nI t) (nI e) ∧ μ'.1 94 i = nI (numR B k (e - k)) ∧ (∀ p j, ¬ (p = 94 ∧ j = i) → μ'.1 p j = μ.1 p j) ∧ μ'.2 = μ.2 := by
  intro d
  induction d with
  | zero =>
    intro c fu μ h1 h2 h3 h4 tp
    obtain ⟨fu, rfl⟩ : ∃ x, fu = x + 1 := ⟨fu - 1, by omega⟩
    exact ⟨μ, by rw [fMo_splits_169, if_pos (nI_le (by omega) (by omega))], by rw [h4, show c = e - k by omega], fun _ _ _ => rfl, rfl⟩
  | succ d ih =>
    intro c fu μ h1 h2 h3 h4 tp
    obtain ⟨fu, rfl⟩ : ∃ x, fu = x + 1 := ⟨fu - 1, by omega⟩
    have hv := numR_le B k hB c
    have hsd := srt2 (hd (k + c) (by omega) (by omega))
    have hc1 : sx (B (k + c)) = nI (B (k + c)) := sx_low (by omega)
    have step : ∃ μ1, fMo_splits_169 N k7 (fu + 1) μ (nI t) (sx (B k)) (nI e) (nI (k + c)) = fMo_splits_169 N k7 fu μ1 (nI t) (sx (B k)) (nI e) (nI (k + (c + 1))) ∧ μ1.1 94 i = nI (numR B k (c + 1)) ∧ (∀ p j, ¬ (p = 94 ∧ j = i) → μ1.1 p j = μ.1 p j) ∧ μ1.2 = μ.2 := by
      rw [fMo_splits_169, if_neg (nI_ge (by omega) (by omega)), sx_digit _ (hB k), if_pos hk2, Option.bind_some, if_neg (by decide), h3, rd_nI (by omega) (by decide), h4]
      by_cases hm : 1000000 < numR B k c
      · rw [if_neg (show ¬ nI (numR B k c) ≤ (1000000 : Int32) from nI_ge (a := 1000000) hm (by omega)), rd_nI (by omega) (by decide), h4, wr_nI (by omega) (by decide)]
        refine ⟨mI μ 94 i (nI (numR B k c)), by simp only [nm, nI_1, Nat.add_assoc], by rw [mI_at, if_pos ⟨rfl, rfl⟩, numR, if_pos hm], fun p j h => by rw [mI_at, if_neg h], rfl⟩
      · rw [if_pos (show nI (numR B k c) ≤ (1000000 : Int32) from nI_le (b := 1000000) (by omega) (by decide)), rd_nI (by omega) (by decide), h4, rd_nI (by omega) (by decide), tp _ (by omega), hc1, wr_nI (by omega) (by decide)]
        refine ⟨mI μ 94 i (nI (10 * numR B k c + (B (k + c) - 48))), ?_, by rw [mI_at, if_pos ⟨rfl, rfl⟩, numR, if_neg hm], fun p j h => by rw [mI_at, if_neg h], rfl⟩
        have ea : (10 : Int32) * nI (numR B k c) + nI (B (k + c)) - 48 = nI (10 * numR B k c + (B (k + c) - 48)) := by
          have e1 : nI (B (k + c)) = nI (B (k + c) - 48) + 48 := by rw [show (48 : Int32) = nI 48 from rfl, nI_add]; congr 1; omega
          rw [show (10 : Int32) = nI 10 from rfl, nI_mul, e1, ← nI_add]
          lia
        rw [ea]
        simp only [nm, nI_1, Nat.add_assoc]
    obtain ⟨μ1, s1, s2, s3, s4⟩ := step
    obtain ⟨μ', r1, r2, r3, r4⟩ := ih (c + 1) fu μ1 (by omega) (by omega) (by rw [s3 84 18 (by omega), h3]) s2 (fun j hj => by rw [s3 91 j (by omega)]; exact tp j hj)
    exact ⟨μ', by rw [s1, r1], r2, fun p j h => by rw [r3 p j h, s3 p j h], by rw [r4, s4]⟩
/-- a token is laid down -/
theorem tokLay {k7 : sw_m → Int32 → Int32 → Option sw_m} {μ : sw_m} (hN : 3000 ≤ N) (ht : t ≤ 400) (hB : ∀ k, B k < 256) (tp : ∀ j, j < t → μ.1 91 j = sx (B j)) (hw : ∀ j, j < 124 → μ.1 90 j = nI ((wfl w26).getD j 0)) {p k e i : Nat} (hT : Tok B t p k e) (hi : i ≤ 400) (h18 : μ.1 84 18 = nI i) : ∃ μ', fMo_splits_100 N k7 μ (nI t) (nI k) (sx (B k)) (nI e) = k7 μ' (nI t) (nI e) ∧ μ'.1 84 18 = nI (i + 1) ∧ μ'.1 95 i = nI k ∧ μ'.1 93 i = nI (cdt B k e) ∧ μ'.1 94 i = nI (vlt B k e) ∧ Fr i μ μ' ∧ (∀ p j, p = 93 ∨ p = 94 ∨ p = 95 → j ≠ i → μ'.1 p j = μ.1 p j) := by
  obtain ⟨t1, t2, t3, t4, t5, t6, t7⟩ := hT
  unfold fMo_splits_100
  rw [h18, wr_nI (by omega) (by decide)]
  have a1 : (mI μ 95 i (nI k)).1 84 18 = nI i := by rw [mI_at, if_neg (by omega), h18]
  rw [a1, wr_nI (by omega) (by decide)]
  have a2 : (mI (mI μ 95 i (nI k)) 94 i 0).1 84 18 = nI i := by rw [mI_at, if_neg (by omega), a1]
  have fin : ∀ (μ1 : sw_m), μ1.1 84 18 = nI i → μ1.1 95 i = nI k → μ1.1 93 i = nI (cdt B k e) → μ1.1 94 i = nI (vlt B k e) → (∀ p j, ¬ ((p = 93 ∨ p = 94 ∨ p = 95) ∧ j = i) → μ1.1 p j = μ.1 p j) → μ1.2 = μ.2 → ∃ μ', fMo_splits_247 N k7 μ1 (nI t) (nI e) = k7 μ' (nI t) (nI e) ∧ μ'.1 84 18 = nI (i + 1) ∧ μ'.1 95 i = nI k ∧ μ'.1 93 i = nI (cdt B k e) ∧ μ'.1 94 i = nI (vlt B k e) ∧ Fr i μ μ' ∧ (∀ p j, p = 93 ∨ p = 94 ∨ p = 95 → j ≠ i → μ'.1 p j = μ.1 p j) := by
    intro μ1 b1 b2 b3 b4 b5 b6
    refine ⟨mI μ1 84 18 (nI (i + 1)), ?_, ?_, ?_, ?_, ?_, ⟨b6, fun p j c1 c2 => ?_⟩, fun p j c1 c2 => ?_⟩
    · unfold fMo_splits_247; rw [b1, nI_1]; rfl
    · rw [mI_at, if_pos ⟨rfl, rfl⟩]
    · rw [mI_at, if_neg (by omega), b2]
    · rw [mI_at, if_neg (by omega), b3]
    · rw [mI_at, if_neg (by omega), b4]
    · rw [mI_at, if_neg (by omega)]
      exact b5 p j (fun h => by have := c2 h.1; omega)
    · rw [mI_at, if_neg (by omega)]
      exact b5 p j (fun h => c2 h.2)
  have hcd : ∀ (μ2 : sw_m) (cc : Nat), (fMo_splits_169 N k7 N (mI μ2 93 i (nI cc)) (nI t) (sx (B k)) (nI e) (nI k) = fMo_splits_169 N k7 N (mI μ2 93 i (nI cc)) (nI t) (sx (B k)) (nI e) (nI (k + 0))) := fun _ _ => rfl
  obtain ⟨M, hM⟩ : ∃ x, N = x + 1 := ⟨N - 1, by omega⟩
  have skip : ∀ (μ2 : sw_m), srt (B k) ≠ 2 → fMo_splits_169 N k7 N μ2 (nI t) (sx (B k)) (nI e) (nI k) = fMo_splits_247 N k7 μ2 (nI t) (nI e) := by
    intro μ2 h2
    rw [hM, fMo_splits_169, if_neg (nI_ge t2 (by omega)), sx_digit _ (hB k), if_neg h2]
    rfl
  rw [sx_small _ (hB k), Option.bind_some]
  rcases srt_cases (B k) with h | h | h
  · rw [if_neg (show ¬ srt (B k) = 1 by omega), if_pos rfl, sx_digit _ (hB k), if_neg (show ¬ srt (B k) = 2 by omega), Option.bind_some, if_pos rfl, a2, wr_nI (by omega) (by decide), sx_255 _ (hB k), show (100 : Int32) + nI (B k) = nI (100 + B k) from nI_add 100 _, skip _ (by omega)]
    refine fin _ ?_ ?_ ?_ ?_ ?_ rfl
    · rw [mI_at, if_neg (by omega), a2]
    · simp [mI_at]
    · rw [mI_at, if_pos ⟨rfl, rfl⟩, cdt, if_neg (by omega), if_neg (by omega)]
    · rw [vlt, if_neg (by omega)]; simp [mI_at]; rfl
    · intro p j hpj
      rw [mI_at, if_neg (by omega), mI_at, if_neg (by omega), mI_at, if_neg (by omega)]
  · rw [if_pos h, if_neg (by decide)]
    have hs := (t7 (by omega)).1
    have ht2 : ∀ j, k ≤ j → j < e → (mI (mI μ 95 i (nI k)) 94 i 0).1 91 j = nI (B j) := by
      intro j b1 b2
      rw [mI_at, if_neg (by omega), mI_at, if_neg (by omega), tp j (by omega), sx_low]
      have := srt1 ((hs j b1 b2).trans h); omega
    have hw2 : ∀ j, j < 124 → (mI (mI μ 95 i (nI k)) 94 i 0).1 90 j = nI ((wfl w26).getD j 0) := by
      intro j b1
      rw [mI_at, if_neg (by omega), mI_at, if_neg (by omega)]; exact hw j b1
    rw [wordOf_eq hN (by omega) (by omega) ht2 hB hw2, Option.bind_some]
    show ∃ μ', (wr 401 _ (fun j => mI (mI (mI μ 95 i (nI k)) 94 i 0) 93 j (nI (wof (bys B k e)))) fun μ33 => fMo_splits_169 N k7 N μ33 (nI t) (sx (B k)) (nI e) (nI k)) = _ ∧ _
    rw [a2, wr_nI (by omega) (by decide), skip _ (by omega)]
    refine fin _ ?_ ?_ ?_ ?_ ?_ rfl
    · rw [mI_at, if_neg (by omega), a2]
    · simp [mI_at]
    · rw [mI_at, if_pos ⟨rfl, rfl⟩, cdt, if_pos h]
    · rw [vlt, if_neg (by omega)]; simp [mI_at]; rfl
    · intro p j hpj
      rw [mI_at, if_neg (by omega), mI_at, if_neg (by omega), mI_at, if_neg (by omega)]
  · rw [if_neg (show ¬ srt (B k) = 1 by omega), if_pos rfl, sx_digit _ (hB k), if_pos h, Option.bind_some, if_neg (by decide), a2, wr_nI (by omega) (by decide)]
    have hs := (t7 (by omega)).1
    obtain ⟨μ', r1, r2, r3, r4⟩ := lp169 (N := N) (k7 := k7) ht hB (i := i) (k := k) (e := e) hi t3 (by omega) (fun x b1 b2 => (hs x b1 b2).trans h) h (e - k) 0 N (mI (mI (mI μ 95 i (nI k)) 94 i 0) 93 i 50) (by omega) (by omega) (by rw [mI_at, if_neg (by omega), a2]) (by simp [mI_at]; rfl) (fun j hj => by rw [mI_at, if_neg (by omega), mI_at, if_neg (by omega), mI_at, if_neg (by omega)]; exact tp j hj)
    rw [Nat.add_zero] at r1
    rw [r1]
    refine fin μ' ?_ ?_ ?_ ?_ ?_ ?_
    · rw [r3 _ _ (by omega), mI_at, if_neg (by omega), a2]
    · rw [r3 _ _ (by omega)]; simp [mI_at]
    · rw [r3 _ _ (by omega), mI_at, if_pos ⟨rfl, rfl⟩, cdt, if_neg (by omega), if_pos h]; rfl
    · rw [r2, vlt, if_pos h]
    · intro p j hpj
      rw [r3 _ _ (by omega), mI_at, if_neg (by omega), mI_at, if_neg (by omega), mI_at, if_neg (by omega)]
    · rw [r4]; rfl
theorem splits7 (hN : 3000 ≤ N) (ht : t ≤ 400) (hB : ∀ k, B k < 256) : ∀ (d k : Nat), k + d = t → ∀ (i p fu : Nat) (μ : sw_m), p ≤ k → (∀ x, p ≤ x → x < k → B x = 32) → i ≤ p → d < fu → μ.1 84 18 = nI i → (∀ j, j < t → μ.1 91 j = sx (B j)) → (∀ j, j < 124 → μ.1 90 j = nI ((wfl w26).getD j 0)) → ∃ (m : Nat) (S P : Nat → Nat) (μ' : sw_m), P i = p ∧ i ≤ m ∧ m ≤ t ∧ (∀ j, i ≤ j → j < m → Tok B t (P j) (S j) (P (j + 1))) ∧ P m ≤ t ∧ S m = t ∧ (∀ x, P m ≤ x → x < t → B x = 32) ∧ fMo_splits_7 N fu μ (nI t) (nI k) = some μ' ∧ μ'.1 84 18 = nI m ∧ (∀ j, i ≤ j → j < m → μ'.1 95 j = nI (S j) ∧ μ'.1 93 j = nI (cdt B (S j) (P (j + 1))) ∧ μ'.1 94 j = nI (vlt B (S j) (P (j + 1)))) ∧ μ'.1 95 m = nI t ∧ μ'.1 93 m = 0 ∧ μ'.1 94 m = 0 ∧ Fr i μ μ' := by
  intro d
  induction d using Nat.strongRecOn with
  | _ d ih =>
    intro k hk i p fu μ hp hb hip hfu h18 tp hw
    obtain ⟨fu, rfl⟩ : ∃ x, fu = x + 1 := ⟨fu - 1, by omega⟩
    rw [fMo_splits_7]
    by_cases hkt : k < t
    · rw [if_neg (nI_ge hkt (by omega)), rd_nI (by omega) (by decide), tp k hkt]
      by_cases h32 : B k = 32
      · rw [if_pos ((sx_32 _ (hB k)).2 h32), nm, nI_1]
        exact ih (d - 1) (by omega) (k + 1) (by omega) i p fu μ (by omega) (fun x b1 b2 => by
          by_cases hx : x = k
          · rw [hx]; exact h32
          · exact hb x b1 (by omega)) hip (by omega) h18 tp hw
      · rw [if_neg (fun h => h32 ((sx_32 _ (hB k)).1 h)), nm, nI_1]
        obtain ⟨e, hT, he⟩ := tokEnd (k7 := fMo_splits_7 N fu) hN ht hB tp hkt hp hb h32
        rw [he]
        obtain ⟨μ1, c1, c2, c3, c4, c5, c6, c7⟩ := tokLay (k7 := fMo_splits_7 N fu) hN ht hB tp hw hT (i := i) (by omega) h18
        rw [c1]
        have q1 := hT.2.1
        have q2 := hT.2.2.1
        obtain ⟨m, S, P, μ', d1, d2, d3, d4, d5, d6, d7, d8, d9, d10, d11, d12, d13, d14⟩ := ih (t - e) (by omega) e (by omega) (i + 1) e fu μ1 (Nat.le_refl _) (fun x b1 b2 => by omega) (by omega) (by omega) c2 (fun j hj => by rw [c6.2 91 j (by omega) (by omega)]; exact tp j hj) (fun j hj => by rw [c6.2 90 j (by omega) (by omega)]; exact hw j hj)
        refine ⟨m, fun j => if j = i then k else S j, fun j => if j ≤ i then p else P j, μ', by simp, by omega, d3, ?_, ?_, ?_, ?_, d8, d9, ?_, d11, d12, d13, ?_⟩
        · intro j b1 b2
          by_cases hj : j = i
          · subst hj
            simp only [if_true, Nat.le_refl, show ¬ (j + 1 ≤ j) by omega, if_false, d1]; exact hT
          · simp only [hj, if_false, show ¬ (j ≤ i) by omega, show ¬ (j + 1 ≤ i) by omega]; exact d4 j (by omega) b2
        · simp only [show ¬ (m ≤ i) by omega, if_false]; exact d5
        · simp only [show ¬ (m = i) by omega, if_false]; exact d6
        · simp only [show ¬ (m ≤ i) by omega, if_false]; exact d7
        · intro j b1 b2
          by_cases hj : j = i
          · subst hj
            simp only [if_true, show ¬ (j + 1 ≤ j) by omega, if_false, d1]
            exact ⟨by rw [d14.2 95 j (by omega) (by omega), c3], by rw [d14.2 93 j (by omega) (by omega), c4], by rw [d14.2 94 j (by omega) (by omega), c5]⟩
          · simp only [hj, if_false, show ¬ (j + 1 ≤ i) by omega]; exact d10 j (by omega) b2
        · refine ⟨d14.1.trans c6.1, fun p' j b1 b2 => ?_⟩
          rw [d14.2 p' j b1 (fun h => by have := b2 h; omega), c6.2 p' j b1 b2]
    · obtain rfl : k = t := by omega
      rw [if_pos (nI_le (Nat.le_refl _) (by omega)), h18, wr_nI (by omega) (by decide)]
      have a1 : (mI μ 95 i (nI k)).1 84 18 = nI i := by rw [mI_at, if_neg (by omega), h18]
      rw [a1, wr_nI (by omega) (by decide)]
      have a2 : (mI (mI μ 95 i (nI k)) 93 i 0).1 84 18 = nI i := by rw [mI_at, if_neg (by omega), a1]
      rw [a2, wr_nI (by omega) (by decide)]
      refine ⟨i, fun _ => k, fun _ => p, mI (mI (mI μ 95 i (nI k)) 93 i 0) 94 i 0, rfl, Nat.le_refl _, by omega, fun j b1 b2 => by omega, by omega, rfl, fun x b1 b2 => hb x b1 b2, rfl, by rw [mI_at, if_neg (by omega), a2], fun j b1 b2 => by omega, by simp [mI_at], by simp [mI_at], by simp [mI_at], rfl, fun p' j b1 b2 => ?_⟩
      rw [mI_at, if_neg (by omega), mI_at, if_neg (by omega), mI_at, if_neg (by omega)]
/-- the tape's tokens -/
def Tks (B : Nat → Nat) (t m : Nat) (S P : Nat → Nat) : Prop := P 0 = 0 ∧ m ≤ t ∧ (∀ j, j < m → Tok B t (P j) (S j) (P (j + 1))) ∧ P m ≤ t ∧ S m = t ∧ P (m + 1) = t ∧ (∀ x, P m ≤ x → x < t → B x = 32)
def cds (B : Nat → Nat) (m : Nat) (S P : Nat → Nat) (j : Nat) : Nat := if j < m then cdt B (S j) (P (j + 1)) else 0
def vls (B : Nat → Nat) (m : Nat) (S P : Nat → Nat) (j : Nat) : Nat := if j < m then vlt B (S j) (P (j + 1)) else 0
theorem splits_eq (hN : 3000 ≤ N) {μ : sw_m} (ht : t ≤ 400) (hB : ∀ k, B k < 256) (tp : ∀ j, j < t → μ.1 91 j = sx (B j)) (hw : ∀ j, j < 124 → μ.1 90 j = nI ((wfl w26).getD j 0)) : ∃ (m : Nat) (S P : Nat → Nat) (μ' : sw_m), Tks B t m S P ∧ fMo_splits N μ (nI t) = some μ' ∧ μ'.1 84 18 = nI m ∧ (∀ j, j ≤ m → μ'.1 95 j = nI (S j) ∧ μ'.1 93 j = nI (cds B m S P j) ∧ μ'.1 94 j = nI (vls B m S P j)) ∧ Fr 0 μ μ' := by
  unfold fMo_splits
  obtain ⟨m, S, P, μ', d1, d2, d3, d4, d5, d6, d7, d8, d9, d10, d11, d12, d13, d14⟩ := splits7 hN ht hB t 0 (by omega) 0 0 N (mI μ 84 18 0) (Nat.le_refl _) (fun x b1 b2 => by omega) (Nat.le_refl _) (by omega) (by simp [mI_at]; rfl) (fun j hj => by rw [mI_at, if_neg (by omega)]; exact tp j hj) (fun j hj => by rw [mI_at, if_neg (by omega)]; exact hw j hj)
  refine ⟨m, S, fun j => if j ≤ m then P j else t, μ', ⟨by simp [d1], d3, fun j hj => ?_, by simpa using d5, d6, by simp only [show ¬ (m + 1 ≤ m) by omega, if_false], by simpa using d7⟩, d8, d9, fun j hj => ?_, d14.1, fun p j b1 b2 => ?_⟩
  · simp only [show j ≤ m by omega, show j + 1 ≤ m by omega, if_true]; exact d4 j (by omega) hj
  · by_cases h : j < m
    · simp only [cds, vls, h, if_true, show j + 1 ≤ m by omega]; exact d10 j (by omega) h
    · obtain rfl : j = m := by omega
      simp only [cds, vls, Nat.lt_irrefl, if_false]
      exact ⟨by rw [d11, d6], d12, d13⟩
  · rw [d14.2 p j b1 b2, mI_at, if_neg (fun h => b1 h.1 h.2)]
end
