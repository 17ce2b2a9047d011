/-! ===== few ===== -/
theorem gL_at {g : sw_g} {p k : Nat} {v : Int64} {q j : Nat} : (gL g p k v).2.1 q j = if q = p ∧ j = k then v else g.2.1 q j := rfl
theorem mL_at {μ : sw_m} {p k : Nat} {v : Int64} {q j : Nat} : (mL μ p k v).2 q j = if q = p ∧ j = k then v else μ.2 q j := rfl
def nxF (P : Nat → Int64) (A B : Int64) (i : Nat) : Int64 := if i = 0 then P 0 * A / 10 else P i * A / 10 + P (i - 1) * B / 10
section
variable {N : Nat} {ln ln' : Nat → Nat} {M : Nat} {qn : Nat} {k : Nat} {v : Int32}
theorem few_61 {k50 : sw_g → Int32 → Int32 → Int32 → Int32 → Option (Int64 × sw_g)} {u1 u2 u5 : Int32} : ∀ (j fu : Nat) (g : sw_g), j < 20 → j < fu → ∃ g', fSx_few_t_61t N ln qn k50 fu g u1 u2 v u5 (nI j) = k50 g' u1 u2 v (u5 + 1) ∧ (∀ i, i ≤ j → g'.2.1 qn i = nxF (g.2.1 qn) (10 - v).toInt64 v.toInt64 i) ∧ (∀ i, j < i → g'.2.1 qn i = g.2.1 qn i) ∧ g'.1 = g.1 ∧ g'.2.2 = g.2.2 := by
  intro j
  induction j with
  | zero =>
    intro fu g hj hfu
    obtain ⟨fu, rfl⟩ : ∃ z, fu = z + 1 := ⟨fu - 1, by omega⟩
    rw [fSx_few_t_61t, if_pos (by decide), rd_K 0 0 20 (by decide) (by decide), wr_K 0 0 20 (by decide) (by decide)]
    simp only [nm]
    refine ⟨_, rfl, fun i hi => ?_, fun i hi => ?_, rfl, rfl⟩
    · obtain rfl : i = 0 := by omega
      rw [gL_at, if_pos ⟨rfl, rfl⟩]; rfl
    · rw [gL_at, if_neg (by omega)]
  | succ j ih =>
    intro fu g hj hfu
    obtain ⟨fu, rfl⟩ : ∃ z, fu = z + 1 := ⟨fu - 1, by omega⟩
    have hs : nI (j + 1) - 1 = nI j := by rw [← nI_1, Int32.add_sub_cancel]
    have hs' : nI (j + 1) + (-1) = nI j := by rw [← hs]; exact (Int32.sub_eq_add_neg _ _).symm
    rw [fSx_few_t_61t, if_neg (show ¬ nI (j + 1) ≤ 0 from nI_ge (a := j + 1) (b := 0) |> fun _ => by intro q; exact absurd q (by rw [Int32.le_iff_toInt_le, nI_toInt (by omega)]; show ¬ _ ≤ (0 : Int); omega)), rd_nI (by omega) (by decide), hs, rd_nI (by omega) (by decide), wr_nI (by omega) (by decide), nm, hs']
    obtain ⟨g', q1, q2, q3, q4, q5⟩ := ih fu (gL g qn (j + 1) (g.2.1 qn (j + 1) * (10 - v).toInt64 / 10 + g.2.1 qn j * v.toInt64 / 10)) (by omega) (by omega)
    refine ⟨g', q1, fun i hi => ?_, fun i hi => ?_, q4, q5⟩
    · by_cases hij : i = j + 1
      · subst hij
        rw [q3 (j + 1) (by omega), gL_at, if_pos ⟨rfl, rfl⟩]; unfold nxF; rw [if_neg (by omega)]; rfl
      · rw [q2 i (by omega)]
        unfold nxF
        by_cases h0 : i = 0
        · rw [if_pos h0, if_pos h0, gL_at, if_neg (fun q => by omega)]
        · rw [if_neg h0, if_neg h0, gL_at, if_neg (fun q => hij q.2), gL_at, if_neg (fun q => by omega)]
    · rw [q3 i (by omega), gL_at, if_neg (by omega)]
theorem few_67 {k57 : sw_m → Int32 → Int32 → Int32 → Option (Int64 × sw_m)} {u1 u2 u3 : Int32} : ∀ (c fu : Nat) (μ : sw_m), c ≤ 20 → c < fu → μ.1 86 40 = v → ∃ μ', fMo_few_67 N k57 fu μ u1 u2 u3 (zI ((c : Int) - 1)) = k57 μ' u1 u2 (u3 + 1) ∧ (∀ i, i < c → μ'.2 107 i = nxF (μ.2 107) (10 - v).toInt64 v.toInt64 i) ∧ (0 < c → μ'.2 107 c = μ.2 107 c + μ.2 107 (c - 1) * v.toInt64 / 10) ∧ (∀ i, c < i → μ'.2 107 i = μ.2 107 i) ∧ (c = 0 → μ'.2 107 0 = μ.2 107 0) ∧ μ'.1 = μ.1 := by
  intro c
  induction c with
  | zero =>
    intro fu μ hc hfu hv
    obtain ⟨fu, rfl⟩ : ∃ z, fu = z + 1 := ⟨fu - 1, by omega⟩
    rw [fMo_few_67, if_pos (by decide)]
    exact ⟨μ, rfl, fun i hi => by omega, fun h => by omega, fun _ _ => rfl, fun _ => rfl, rfl⟩
  | succ c ih =>
    intro fu μ hc hfu hv
    obtain ⟨fu, rfl⟩ : ∃ z, fu = z + 1 := ⟨fu - 1, by omega⟩
    rw [fMo_few_67, show (((c + 1 : Nat) : Int) - 1) = (c : Int) by omega, zI_nat, if_neg (nI_pos (by omega)), nm, nI_1, rd_nI (by omega) (by decide), rd_nI (by omega) (by decide), rd_K 40 40 5654 (by decide) (by decide), wr_nI (by omega) (by decide), rd_nI (by omega) (by decide), rd_K 40 40 5654 (by decide) (by decide), wr_nI (by omega) (by decide), nm, hv]
    rw [show (mL μ 107 (c + 1) (μ.2 107 (c + 1) + μ.2 107 c * v.toInt64 / 10)).1 86 40 = v from hv]
    rw [show nI c + (-1 : Int32) = zI ((c : Int) - 1) by rw [← zI_nat, show (-1 : Int32) = zI (-1) from rfl, zI_add]; rfl]
    rw [show (mL μ 107 (c + 1) (μ.2 107 (c + 1) + μ.2 107 c * v.toInt64 / 10)).2 107 c = μ.2 107 c by rw [mL_at, if_neg (by omega)]]
    generalize hμ2 : mL (mL μ 107 (c + 1) (μ.2 107 (c + 1) + μ.2 107 c * v.toInt64 / 10)) 107 c (μ.2 107 c * (10 - v).toInt64 / 10) = μ2
    have f2 : ∀ i, μ2.2 107 i = if i = c then μ.2 107 c * (10 - v).toInt64 / 10 else if i = c + 1 then μ.2 107 (c + 1) + μ.2 107 c * v.toInt64 / 10 else μ.2 107 i := by
      intro i
      subst hμ2
      rw [mL_at]
      by_cases h1 : i = c
      · rw [if_pos ⟨rfl, h1⟩, if_pos h1]
      · rw [if_neg (fun q => h1 q.2), if_neg h1, mL_at]
        by_cases h2 : i = c + 1
        · rw [if_pos ⟨rfl, h2⟩, if_pos h2]
        · rw [if_neg (fun q => h2 q.2), if_neg h2]
    have f1 : μ2.1 = μ.1 := by subst hμ2; rfl
    obtain ⟨μ', q1, q2, q3, q4, q5, q6⟩ := ih fu μ2 (by omega) (by omega) (by rw [f1]; exact hv)
    refine ⟨μ', q1, fun i hi => ?_, fun _ => ?_, fun i hi => ?_, fun h => by omega, q6.trans f1⟩
    · by_cases hic : i = c
      · subst hic
        by_cases h0 : i = 0
        · subst h0
          rw [q5 rfl, f2, if_pos rfl]; rfl
        · rw [q3 (by omega), f2, if_pos rfl, f2, if_neg (by omega), if_neg (by omega)]
          unfold nxF; rw [if_neg h0]
      · rw [q2 i (by omega)]
        unfold nxF
        by_cases h0 : i = 0
        · subst h0
          rw [if_pos rfl, if_pos rfl, f2, if_neg (by omega), if_neg (by omega)]
        · rw [if_neg h0, if_neg h0, f2, if_neg (by omega), if_neg (by omega), f2, if_neg (by omega), if_neg (by omega)]
    · rw [q4 (c + 1) (by omega), f2, if_neg (by omega), if_pos rfl]; rfl
    · rw [q4 i (by omega), f2, if_neg (by omega), if_neg (by omega)]
theorem few_sum {g : sw_g} {μ : sw_m} (hk : k ≤ 20) (he : ∀ i, i < k → g.2.1 qn i = μ.2 107 i) : ∀ (d i fu fm : Nat) (u : Int64), i + d = k → d < fu → d < fm → ∃ r, fSx_few_t_135t N ln qn fu g (nI k) u (nI i) = some (r, g) ∧ fMo_few_151 N fm μ (nI k) u (nI i) = some (r, μ) := by
  intro d
  induction d with
  | zero =>
    intro i fu fm u hi hfu hfm
    obtain ⟨fu, rfl⟩ : ∃ z, fu = z + 1 := ⟨fu - 1, by omega⟩
    obtain ⟨fm, rfl⟩ : ∃ z, fm = z + 1 := ⟨fm - 1, by omega⟩
    rw [fSx_few_t_135t, fMo_few_151, if_pos (nI_le (by omega) (by omega)), if_pos (nI_le (by omega) (by omega))]
    exact ⟨u, rfl, rfl⟩
  | succ d ih =>
    intro i fu fm u hi hfu hfm
    obtain ⟨fu, rfl⟩ : ∃ z, fu = z + 1 := ⟨fu - 1, by omega⟩
    obtain ⟨fm, rfl⟩ : ∃ z, fm = z + 1 := ⟨fm - 1, by omega⟩
    rw [fSx_few_t_135t, fMo_few_151, if_neg (nI_ge (by omega) (by omega)), if_neg (nI_ge (by omega) (by omega)), rd_nI (by omega) (by decide), rd_nI (by omega) (by decide), he i (by omega)]
    simp only [nm, nI_1]
    exact ih (i + 1) fu fm _ (by omega) (by omega) (by omega)
theorem few_birds (hN : 3000 ≤ N) (h1 : 1 ≤ k) (hk : k ≤ 20) {T : Nat} (hT : T ≤ 99) : ∀ (d i fu fm : Nat) (g : sw_g) (μ : sw_m), i + d = T → d < fu → d < fm → μ.1 86 40 = v → (∀ i, i < k → g.2.1 qn i = μ.2 107 i) → ∃ r g' μ', fSx_few_t_50t N ln qn fu g (nI k) (nI T) v (nI i) = some (r, g') ∧ fMo_few_57 N fm μ (nI k) (nI T) (nI i) = some (r, μ') ∧ g'.1 = g.1 ∧ g'.2.2 = g.2.2 ∧ μ'.1 = μ.1 := by
  have hs : nI k - 1 = nI (k - 1) := by
    obtain ⟨c, rfl⟩ : ∃ c, k = c + 1 := ⟨k - 1, by omega⟩
    rw [← nI_1, Int32.add_sub_cancel]; rfl
  intro d
  induction d with
  | zero =>
    intro i fu fm g μ hi hfu hfm hv he
    obtain ⟨fu, rfl⟩ : ∃ z, fu = z + 1 := ⟨fu - 1, by omega⟩
    obtain ⟨fm, rfl⟩ : ∃ z, fm = z + 1 := ⟨fm - 1, by omega⟩
    obtain ⟨r, a, b⟩ := few_sum (N := N) (ln := ln) hk he k 0 N N 0 (by omega) (by omega) (by omega)
    rw [fSx_few_t_50t, fMo_few_57, if_pos (nI_le (by omega) (by omega)), if_pos (nI_le (by omega) (by omega))]
    exact ⟨r, g, μ, a, b, rfl, rfl, rfl⟩
  | succ d ih =>
    intro i fu fm g μ hi hfu hfm hv he
    obtain ⟨fu, rfl⟩ : ∃ z, fu = z + 1 := ⟨fu - 1, by omega⟩
    obtain ⟨fm, rfl⟩ : ∃ z, fm = z + 1 := ⟨fm - 1, by omega⟩
    obtain ⟨g1, a1, a2, a3, a4, a5⟩ := few_61 (N := N) (ln := ln) (qn := qn) (v := v) (k50 := fSx_few_t_50t N ln qn fu) (u1 := nI k) (u2 := nI T) (u5 := nI i) (k - 1) N g (by omega) (by omega)
    obtain ⟨μ1, b1, b2, _, _, _, b6⟩ := few_67 (N := N) (v := v) (k57 := fMo_few_57 N fm) (u1 := nI k) (u2 := nI T) (u3 := nI i) k N μ hk (by omega) hv
    rw [fSx_few_t_50t, fMo_few_57, if_neg (nI_ge (by omega) (by omega)), if_neg (nI_ge (by omega) (by omega)), nm, nm, hs, a1, nI_1]
    rw [show nI (k - 1) = zI ((k : Int) - 1) by rw [← zI_nat]; congr 1; omega, b1, nI_1]
    obtain ⟨r, g2, μ2, c1, c2, c3, c4, c5⟩ := ih (i + 1) fu fm g1 μ1 (by omega) (by omega) (by omega) (by rw [b6]; exact hv) (fun x hx => by
      rw [a2 x (by omega), b2 x hx]
      unfold nxF
      by_cases h0 : x = 0
      · rw [if_pos h0, if_pos h0, he 0 (by omega)]
      · rw [if_neg h0, if_neg h0, he x hx, he (x - 1) (by omega)])
    exact ⟨r, g2, μ2, c1, c2, c3.trans a4, c4.trans a5, c5.trans b6⟩
theorem few_26 {u1 u2 : Int32} : ∀ (d i fu : Nat) (μ : sw_m), i + d = 21 → d < fu → ∃ μ', fMo_few_26 N fu μ u1 u2 (nI i) = fMo_few_57 N N μ' u1 u2 0 ∧ (∀ x, i ≤ x → x ≤ 20 → μ'.2 107 x = if x = 0 then 1000000000000 else 0) ∧ (∀ x, x < i → μ'.2 107 x = μ.2 107 x) ∧ μ'.1 = μ.1 := by
  intro d
  induction d with
  | zero =>
    intro i fu μ hi hfu
    obtain ⟨fu, rfl⟩ : ∃ z, fu = z + 1 := ⟨fu - 1, by omega⟩
    obtain rfl : i = 21 := by omega
    rw [fMo_few_26, if_pos (by decide)]
    exact ⟨μ, rfl, fun x a b => by omega, fun _ _ => rfl, rfl⟩
  | succ d ih =>
    intro i fu μ hi hfu
    obtain ⟨fu, rfl⟩ : ∃ z, fu = z + 1 := ⟨fu - 1, by omega⟩
    rw [fMo_few_26, if_neg (show ¬ (20 : Int32) < nI i from nI_nlt (a := 20) (by omega) (by decide))]
    by_cases h0 : i = 0
    · subst h0
      rw [if_pos (show nI 0 = 0 from rfl), wr_nI (by omega) (by decide), nm, nI_1]
      obtain ⟨μ', q1, q2, q3, q4⟩ := ih (0 + 1) fu (mL μ 107 0 1000000000000) (by omega) (by omega)
      refine ⟨μ', q1, fun x a b => ?_, fun x hx => by omega, q4⟩
      by_cases hx : x = 0
      · subst hx; rw [q3 0 (by omega), mL_at, if_pos ⟨rfl, rfl⟩, if_pos rfl]
      · exact q2 x (by omega) b
    · rw [if_neg (show ¬ nI i = 0 from fun q => h0 ((nI_eq (b := 0) (by omega) (by decide)).1 q)), wr_nI (by omega) (by decide), nm, nI_1]
      obtain ⟨μ', q1, q2, q3, q4⟩ := ih (i + 1) fu (mL μ 107 i 0) (by omega) (by omega)
      refine ⟨μ', q1, fun x a b => ?_, fun x hx => ?_, q4⟩
      · by_cases hx : x = i
        · subst hx; rw [q3 x (by omega), mL_at, if_pos ⟨rfl, rfl⟩, if_neg h0]
        · exact q2 x (by omega) b
      · rw [q3 x (by omega), mL_at, if_neg (by omega)]
theorem RR.long {g g' : sw_g} {μ μ' : sw_m} (h : RR ln M g μ) (a : g'.1 = g.1) (b : g'.2.2 = g.2.2) (c : μ'.1 = μ.1) : RR ln M g' μ' := by
  obtain ⟨Lw, n, w, L, K, P, h1, h2, h3, h4, h5⟩ := h
  have gs : ∀ p, g'.1 p = g.1 p := fun p => by rw [a]
  refine ⟨Lw, n, w, L, by rw [c]; exact K, ?_, h1.frame (gs 29) (gs 30) (by rw [c]) (by rw [c]), h2.frame (by rw [gs 33]) (gs 34) (by rw [c]) (by rw [c]) (by rw [c]), ?_, h4.frame (by rw [gs 19]) (gs 20) (gs 22) (by rw [c]) (by rw [c]), h5.frame (fun p _ => gs p) (fun p _ => by rw [b]) (by rw [c]) (by rw [c])⟩
  · rw [c]; exact P.frame (fun p _ _ => gs p) (fun p _ _ => gs p) (by rw [b]) (by rw [b])
  · unfold RM; rw [a, c]; exact h3
theorem few_new (hN : 3000 ≤ N) {g : sw_g} {μ : sw_m} (h : RR ln M g μ) (hM0 : 110 ≤ M) (hl : ∀ p, p < M → ln' p = ln p) {a b : Int32} (c1 : ¬ a < 1) (c2 : ¬ 20 < a) (c3 : ¬ b < 0) (c4 : b ≤ 99) : ∃ v g' μ', fSx_few_t_29t N ln' M (gZ g M) a b = some (v, g') ∧ fMo_few N μ a b = some (v, μ') ∧ RR ln' (M + 1) g' μ' := by
  have h' := h.grow (g' := gZ g M) hM0 (show M ≤ M + 1 by omega) hl (fun p hp => by show (if p < M then g.1 p else fun _ => 0) = _; rw [if_pos hp]) (fun p hp => by show (if p < M then g.2.2 p else fun _ => none) = _; rw [if_pos hp])
  have h0 := h'
  obtain ⟨Lw, n, w, L, K, P, h1, h2, h3, h4, h5⟩ := h'
  obtain ⟨k, hk, rfl⟩ := nI_of (show ¬ a < 0 from fun q => c1 (by rw [Int32.lt_iff_toInt_lt] at q ⊢; have : (0 : Int32).toInt = 0 := rfl; have : (1 : Int32).toInt = 1 := rfl; omega))
  obtain ⟨T, hT, rfl⟩ := nI_of c3
  have k1 : 1 ≤ k := Nat.le_of_not_lt (fun q => c1 (nI_lt (b := 1) q (by decide)))
  have k20 : k ≤ 20 := Nat.le_of_not_lt (fun q => c2 (nI_lt (a := 20) q hk))
  have T99 : T ≤ 99 := Nat.le_of_not_lt (fun q => (nI_ge (a := T) (b := 99) |> fun _ => by rw [Int32.le_iff_toInt_le, nI_toInt hT] at c4; have : (99 : Int32).toInt = 99 := rfl; omega))
  obtain ⟨μ1, m1, m2, _, m4⟩ := few_26 (N := N) (u1 := nI k) (u2 := nI T) 21 0 N μ rfl (by omega)
  obtain ⟨r, g2, μ2, r1, r2, r3, r4, r5⟩ := few_birds (N := N) (ln := ln') (qn := M) (v := μ.1 86 40) hN k1 k20 T99 T 0 N N (gL (gZ g M) M 0 1000000000000) μ1 (by omega) (by omega) (by omega) (by rw [m4]) (fun i hi => by
    rw [m2 i (Nat.zero_le _) (by omega), gL_at]
    by_cases h0 : i = 0
    · rw [if_pos ⟨rfl, h0⟩, if_pos h0]
    · rw [if_neg (fun q => h0 q.2), if_neg h0]
      show (if M < M then g.2.1 M else fun _ => 0) i = 0
      rw [if_neg (Nat.lt_irrefl _)])
  refine ⟨r, g2, μ2, ?_, ?_, h0.long r3 r4 (r5.trans m4)⟩
  · rw [fSx_few_t_29t, wr_K 0 0 20 (by decide) (by decide), rd_K 1 1 4 (by decide) (by decide), show (gL (gZ g M) M 0 1000000000000).1 5 1 = _ from P.2.2.1.2.1]
    exact r1
  · rw [fMo_few, fMo_lies, if_neg c1, if_neg c2, Option.bind_some, if_neg n10, fMo_lies, if_neg c3, if_neg (show ¬ (99 : Int32) < nI T from nI_nlt (a := 99) T99 (by decide)), Option.bind_some, if_neg n10]
    exact (show fMo_few_26 N N μ (nI k) (nI T) 0 = _ from m1).trans r2
theorem few_old {g : sw_g} {μ : sw_m} {a b : Int32} (h : ¬ (¬ a < 1 ∧ ¬ 20 < a ∧ ¬ b < 0 ∧ b ≤ 99)) : fSx_few_o ln g a b = some (-1, g) ∧ fMo_few N μ a b = some (-1, μ) := by
  rw [fSx_few_o, fMo_few, fMo_lies]
  by_cases c1 : a < 1
  · rw [if_pos c1, if_pos c1]; exact ⟨rfl, rfl⟩
  rw [if_neg c1, if_neg c1]
  by_cases c2 : (20 : Int32) < a
  · rw [if_pos c2, if_pos c2]; exact ⟨rfl, rfl⟩
  rw [if_neg c2, if_neg c2, Option.bind_some, if_neg n10, fMo_lies]
  by_cases c3 : b < 0
  · rw [if_pos c3, if_pos c3]; exact ⟨rfl, rfl⟩
  rw [if_neg c3, if_neg c3]
  by_cases c4 : b ≤ (99 : Int32)
  · exact absurd ⟨c1, c2, c3, c4⟩ h
  · have : (99 : Int32) < b := by rw [Int32.lt_iff_toInt_lt]; rw [Int32.le_iff_toInt_le] at c4; omega
    rw [if_neg c4, if_pos this]; exact ⟨rfl, rfl⟩
end
