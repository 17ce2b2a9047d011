/-! ===== pulls; alone ===== -/
def plK (k : Nat → Int32) (law : Option (List Cl)) (c p : Nat) : Int32 := cntK k law c (nI p) * (nI p - 3)
theorem plK_rng {k : Nat → Int32} {law : Option (List Cl)} {Lw : Nat → List Cl} {n w L : Nat} (K : KI k Lw n w L) {c p : Nat} (hc : c < n) (hp : p < 7) : ∃ z : Int, -297 ≤ z ∧ z ≤ 297 ∧ plK k law c p = zI z := by
  obtain ⟨⟨a, a1, a2, a3⟩, b⟩ := K.co.1 c hc
  obtain ⟨x, x1, x2⟩ := cnt_rng (law := law) (p := nI p) a1 a3
  unfold plK
  rw [x2, ← zI_nat, ← zI_nat p, show (3 : Int32) = zI 3 from rfl, zI_sub, zI_mul]
  refine ⟨(x : Int) * ((p : Int) - 3), ?_, ?_, rfl⟩
  · have : (x : Int) * (-3) ≤ x * ((p : Int) - 3) := Int.mul_le_mul_of_nonneg_left (by omega) (by omega)
    omega
  · have : (x : Int) * ((p : Int) - 3) ≤ x * 3 := Int.mul_le_mul_of_nonneg_left (by omega) (by omega)
    omega
def brI (k : Nat → Int32) (law : Option (List Cl)) (c p : Nat) : Int32 := if barK k law c (nI p) then 1 else 0
theorem nar_b (b : Bool) : vp_nar .boolean (if b then 1 else 0) = if b then 1 else 0 := by cases b <;> rfl
/-- only pulls, bars and the cells of the one who goes along may change -/
def MU (μ μ' : sw_m) : Prop := ∀ p j, p ≠ 96 → p ≠ 100 → p ≠ 101 → (p = 84 → j < 22 ∨ 25 < j) → μ'.1 p j = μ.1 p j
theorem MU.MS {μ μ' : sw_m} (h : MU μ μ') : MS μ μ' := fun p j a b c => h p j (by omega) (by omega) (by omega) (by omega)
theorem MU.k {μ μ' : sw_m} (h : MU μ μ') : μ'.1 86 = μ.1 86 := funext fun j => h 86 j (by decide) (by decide) (by decide) (by omega)
section
variable {N : Nat} {Lw : Nat → List Cl} {n w L : Nat}
theorem lp_12 (hN : 3000 ≤ N) {k2 : sw_m → Int32 → Option sw_m} {c : Nat} (hc : c < n) : ∀ (d p fu : Nat) (μ : sw_m), p + d = 7 → d < fu → KI (μ.1 86) Lw n w L → ∃ μ', fMo_laysPulls_12 N k2 fu μ (nI c) (nI p) = k2 μ' (nI (c + 1)) ∧ (∀ x, p ≤ x → x < 7 → μ'.1 100 (7 * c + x) = plK (μ.1 86) (lawAt Lw (μ.1 86 46)) c x ∧ μ'.1 101 (7 * c + x) = brI (μ.1 86) (lawAt Lw (μ.1 86 46)) c x) ∧ (∀ j, j < 7 * c + p ∨ 7 * c + 7 ≤ j → μ'.1 100 j = μ.1 100 j ∧ μ'.1 101 j = μ.1 101 j) ∧ MU μ μ' := by
  intro d
  induction d with
  | zero =>
    intro p fu μ hp hfu K
    obtain ⟨fu, rfl⟩ : ∃ z, fu = z + 1 := ⟨fu - 1, by omega⟩
    obtain rfl : p = 7 := by omega
    rw [fMo_laysPulls_12, if_pos (by decide)]
    simp only [nm, nI_1]
    exact ⟨μ, rfl, fun x a b => by omega, fun _ _ => ⟨rfl, rfl⟩, fun _ _ _ _ _ _ => rfl⟩
  | succ d ih =>
    intro p fu μ hp hfu K
    obtain ⟨fu, rfl⟩ : ∃ z, fu = z + 1 := ⟨fu - 1, by omega⟩
    have hn7 := K.n7
    obtain ⟨μ1, e1, f1⟩ := mcount_eq hN K (c := c) (by omega) (nI p)
    rw [fMo_laysPulls_12, if_neg (show ¬ (7 : Int32) ≤ nI p from nI_ge (b := 7) (by omega) (by decide)), e1, Option.bind_some]
    simp only [fMo_armOf, Option.bind_some]
    rw [show (7 : Int32) * nI c = nI (7 * c) from nI_mul 7 c, nI_add, wr_nI (by omega) (by decide)]
    generalize hμ2 : mI μ1 100 (7 * c + p) (cntK (μ.1 86) (lawAt Lw (μ.1 86 46)) c (nI p) * (nI p - 3)) = μ2
    have f2 : ∀ x j, x ≠ 100 → μ2.1 x j = μ1.1 x j := by intro x j hx; subst hμ2; rw [mI_at, if_neg (by omega)]
    have k2' : μ2.1 86 = μ.1 86 := by rw [← f1.k]; exact funext fun j => f2 86 j (by decide)
    have K2 : KI (μ2.1 86) Lw n w L := by rw [k2']; exact K
    obtain ⟨μ3, e3, f3⟩ := mbar_eq hN K2 (c := c) (by omega) (nI p)
    rw [k2'] at e3
    rw [e3, Option.bind_some]
    simp only []
    rw [wr_nI (by omega) (by decide), nar_b]
    simp only [nm, nI_1]
    generalize hμ4 : mI μ3 101 (7 * c + p) (if barK (μ.1 86) (lawAt Lw (μ.1 86 46)) c (nI p) = true then 1 else 0) = μ4
    have f4 : ∀ x j, x ≠ 101 → μ4.1 x j = μ3.1 x j := by intro x j hx; subst hμ4; rw [mI_at, if_neg (by omega)]
    have k4 : μ4.1 86 = μ.1 86 := by rw [← k2', ← f3.k]; exact funext fun j => f4 86 j (by decide)
    obtain ⟨μ', q1, q2, q3, q4⟩ := ih (p + 1) fu μ4 (by omega) (by omega) (by rw [k4]; exact K)
    rw [k4] at q2
    have h100 : ∀ j, μ4.1 100 j = if j = 7 * c + p then plK (μ.1 86) (lawAt Lw (μ.1 86 46)) c p else μ.1 100 j := by
      intro j
      rw [f4 100 j (by decide), f3.2 100 j (by decide) (by omega)]
      subst hμ2
      rw [mI_at]
      by_cases hj : j = 7 * c + p
      · rw [if_pos ⟨rfl, hj⟩, if_pos hj]; rfl
      · rw [if_neg (fun q => hj q.2), if_neg hj, f1.2 100 j (by decide) (by omega)]
    have h101 : ∀ j, μ4.1 101 j = if j = 7 * c + p then brI (μ.1 86) (lawAt Lw (μ.1 86 46)) c p else μ.1 101 j := by
      intro j
      subst hμ4
      rw [mI_at]
      by_cases hj : j = 7 * c + p
      · rw [if_pos ⟨rfl, hj⟩, if_pos hj]; rfl
      · rw [if_neg (fun q => hj q.2), if_neg hj, f3.2 101 j (by decide) (by omega), f2 101 j (by decide), f1.2 101 j (by decide) (by omega)]
    refine ⟨μ', q1, fun x a b => ?_, fun j hj => ?_, fun x j a b c d => ?_⟩
    · by_cases hx : x = p
      · subst hx
        rw [(q3 _ (by omega)).1, (q3 _ (by omega)).2, h100, h101, if_pos rfl, if_pos rfl]
        exact ⟨rfl, rfl⟩
      · exact q2 x (by omega) b
    · rw [(q3 j (by omega)).1, (q3 j (by omega)).2, h100, h101, if_neg (by omega), if_neg (by omega)]
      exact ⟨rfl, rfl⟩
    · rw [q4 x j a b c d, f4 x j c, f3.2 x j a d, f2 x j b, f1.2 x j a d]
theorem lp_2 (hN : 3000 ≤ N) : ∀ (d c fu : Nat) (μ : sw_m), c + d = n → d < fu → KI (μ.1 86) Lw n w L → ∃ μ', fMo_laysPulls_2 N fu μ (nI c) = some μ' ∧ (∀ y x, c ≤ y → y < n → x < 7 → μ'.1 100 (7 * y + x) = plK (μ.1 86) (lawAt Lw (μ.1 86 46)) y x ∧ μ'.1 101 (7 * y + x) = brI (μ.1 86) (lawAt Lw (μ.1 86 46)) y x) ∧ (∀ j, j < 7 * c → μ'.1 100 j = μ.1 100 j ∧ μ'.1 101 j = μ.1 101 j) ∧ MU μ μ' := by
  intro d
  induction d with
  | zero =>
    intro c fu μ hc hfu K
    obtain ⟨fu, rfl⟩ : ∃ z, fu = z + 1 := ⟨fu - 1, by omega⟩
    obtain rfl : c = n := by omega
    have := K.n7
    rw [fMo_laysPulls_2, many_eq K, Option.bind_some]
    simp only []
    rw [if_pos (nI_le (Nat.le_refl _) (by omega))]
    exact ⟨μ, rfl, fun y x a b => by omega, fun _ _ => ⟨rfl, rfl⟩, fun _ _ _ _ _ _ => rfl⟩
  | succ d ih =>
    intro c fu μ hc hfu K
    obtain ⟨fu, rfl⟩ : ∃ z, fu = z + 1 := ⟨fu - 1, by omega⟩
    have := K.n7
    rw [fMo_laysPulls_2, many_eq K, Option.bind_some]
    simp only []
    rw [if_neg (nI_ge (by omega) (by omega))]
    obtain ⟨μ1, e1, e2, e3, e4⟩ := lp_12 (k2 := fMo_laysPulls_2 N fu) hN (c := c) (by omega) 7 0 N μ rfl (by omega) K
    obtain ⟨μ2, q1, q2, q3, q4⟩ := ih (c + 1) fu μ1 (by omega) (by omega) (by rw [e4.k]; exact K)
    rw [e4.k] at q2
    refine ⟨μ2, e1.trans q1, fun y x a b hx => ?_, fun j hj => ?_, fun x j a b c d => by rw [q4 x j a b c d, e4 x j a b c d]⟩
    · by_cases hy : y = c
      · subst hy
        rw [(q3 _ (by omega)).1, (q3 _ (by omega)).2]
        exact e2 x (Nat.zero_le _) hx
      · exact q2 y x (by omega) b hx
    · rw [(q3 _ (by omega)).1, (q3 _ (by omega)).2]
      exact e3 j (by omega)
theorem pulls_eq (hN : 3000 ≤ N) {μ : sw_m} (K : KI (μ.1 86) Lw n w L) : ∃ μ', fMo_laysPulls N μ = some μ' ∧ (∀ c p, c < n → p < 7 → μ'.1 100 (7 * c + p) = plK (μ.1 86) (lawAt Lw (μ.1 86 46)) c p ∧ μ'.1 101 (7 * c + p) = brI (μ.1 86) (lawAt Lw (μ.1 86 46)) c p) ∧ MU μ μ' := by
  have := K.n7
  obtain ⟨μ', e1, e2, e3, e4⟩ := lp_2 hN n 0 N μ (by omega) (by omega) K
  exact ⟨μ', e1, fun c p a b => e2 c p (Nat.zero_le _) a b, e4⟩
end
def anyU (f : Nat → Bool) : Nat → Bool
  | 0 => false
  | p + 1 => anyU f p || f p
theorem anyU_hit {f : Nat → Bool} {p : Nat} (h : f p = true) : ∀ m, p < m → anyU f m = true := by
  intro m
  induction m with
  | zero => intro h'; omega
  | succ m ih =>
    intro h'
    show (anyU f m || f m) = true
    by_cases hm : p = m
    · subst hm; rw [h, Bool.or_true]
    · rw [ih (by omega), Bool.true_or]
theorem or_b2 : ∀ c, c < 7 → ∀ m, m < 128 → m < 2 ^ c → (m + 2 ^ c) ||| 2 ^ c = m + 2 ^ c := by decide +kernel
/-- a claim that brings level, put at a place -/
def okA (k : Nat → Int32) (law : Option (List Cl)) (now : Int32) (c p : Nat) : Bool := !(barK k law c (nI p)) && !(decide (k 42 < jabs (now + plK k law c p)))
def alB (k : Nat → Int32) (law : Option (List Cl)) (now : Int32) : Nat → Nat
  | 0 => 0
  | c + 1 => alB k law now c + (if k (7 + c) = -1 ∧ anyU (okA k law now c) 7 = true then 2 ^ c else 0)
theorem alB_lt {k : Nat → Int32} {law : Option (List Cl)} {now : Int32} : ∀ c, alB k law now c < 2 ^ c := by
  intro c
  induction c with
  | zero => exact Nat.one_pos
  | succ c ih =>
    rw [show alB k law now (c + 1) = alB k law now c + (if k (7 + c) = -1 ∧ anyU (okA k law now c) 7 = true then 2 ^ c else 0) from rfl, Nat.pow_succ]
    split <;> omega
section
variable {N : Nat} {ln : Nat → Nat} {M : Nat} {k : Nat → Int32} {Lw : Nat → List Cl} {n w L : Nat}
theorem levelsAlone_2 (hN : 3000 ≤ N) (K : KI k Lw n w L) {c : Nat} (hc : c < n) {now : Int32} : ∀ (d p fu : Nat) (g : sw_g), p + d = 7 → d < fu → PQ ln M g 1 k Lw L → anyU (okA k (lawAt Lw (k 46)) now c) p = false → ∃ g', fSx_levelsAlone_2 N ln fu g (nI c) now (nI p) = some (if anyU (okA k (lawAt Lw (k 46)) now c) 7 then 1 else 0, g') ∧ GA 43 45 g g' := by
  intro d
  have hn7 := K.n7
  induction d with
  | zero =>
    intro p fu g hp hfu P ha
    obtain ⟨fu, rfl⟩ : ∃ z, fu = z + 1 := ⟨fu - 1, by omega⟩
    obtain rfl : p = 7 := by omega
    rw [fSx_levelsAlone_2, if_pos (by decide), ha]
    exact ⟨g, rfl, GA.refl⟩
  | succ d ih =>
    intro p fu g hp hfu P ha
    obtain ⟨fu, rfl⟩ : ∃ z, fu = z + 1 := ⟨fu - 1, by omega⟩
    obtain ⟨g1, e1, f1⟩ := weightAt_eq hN P K (c := c) (by omega) (nI p)
    have P1 := P.ga f1 (by decide) (by decide)
    rw [fSx_levelsAlone_2, if_neg (show ¬ (7 : Int32) ≤ nI p from nI_ge (b := 7) (by omega) (by decide)), e1, Option.bind_some]
    simp only []
    rw [xlevel_eq P1, Option.bind_some]
    have hs : ∀ b, okA k (lawAt Lw (k 46)) now c p = b → anyU (okA k (lawAt Lw (k 46)) now c) (p + 1) = b := by
      intro b hb; show (anyU _ p || _) = b; rw [ha, hb, Bool.false_or]
    by_cases hl : k 42 < jabs (now + cntK k (lawAt Lw (k 46)) c (nI p) * (nI p - 3))
    · simp only [hl, if_true, nm, nI_1]
      have ho : okA k (lawAt Lw (k 46)) now c p = false := by
        unfold okA plK; simp [hl]
      obtain ⟨g', q1, q2⟩ := ih (p + 1) fu g1 (by omega) (by omega) P1 (hs _ ho)
      exact ⟨g', q1, f1.trans q2⟩
    · simp only [hl, if_false, n10]
      obtain ⟨g2, e2, f2⟩ := barsAt_eq hN P1 K (by decide) (c := c) (by omega) (nI p)
      rw [e2, Option.bind_some]
      by_cases hb : barK k (lawAt Lw (k 46)) c (nI p) = true
      · simp only [hb, if_true, n10, if_false, nm, nI_1]
        have ho : okA k (lawAt Lw (k 46)) now c p = false := by unfold okA; simp [hb]
        obtain ⟨g', q1, q2⟩ := ih (p + 1) fu g2 (by omega) (by omega) (P1.ga f2 (by decide) (by decide)) (hs _ ho)
        exact ⟨g', q1, (f1.trans f2).trans q2⟩
      · simp only [hb, if_false, if_true]
        have ho : okA k (lawAt Lw (k 46)) now c p = true := by unfold okA plK; simp [hb, hl]
        refine ⟨g2, ?_, f1.trans f2⟩
        rw [anyU_hit ho 7 (by omega)]; rfl
theorem alone_9 (hN : 3000 ≤ N) (K : KI k Lw n w L) {now : Int32} : ∀ (d c fu : Nat) (g : sw_g), c + d = n → d < fu → PQ ln M g 1 k Lw L → ∃ g', fSx_alone_9 N ln fu g (nI (alB k (lawAt Lw (k 46)) now c)) now (nI c) = some (nI (alB k (lawAt Lw (k 46)) now n), g') ∧ GA 43 45 g g' := by
  intro d
  have hn7 := K.n7
  induction d with
  | zero =>
    intro c fu g hc hfu P
    obtain ⟨fu, rfl⟩ : ∃ z, fu = z + 1 := ⟨fu - 1, by omega⟩
    obtain rfl : c = n := by omega
    rw [fSx_alone_9, show g.1 1 0 = nI c by rw [show g.1 1 0 = _ from P.1, K.hn], if_pos (nI_le (Nat.le_refl _) (by omega))]
    exact ⟨g, rfl, GA.refl⟩
  | succ d ih =>
    intro c fu g hc hfu P
    obtain ⟨fu, rfl⟩ : ∃ z, fu = z + 1 := ⟨fu - 1, by omega⟩
    have hlt := alB_lt (k := k) (law := lawAt Lw (k 46)) (now := now) c
    have h2 := pow_le7 (show c ≤ 7 by omega)
    rw [fSx_alone_9, show g.1 1 0 = nI n by rw [show g.1 1 0 = _ from P.1, K.hn], if_neg (nI_ge (by omega) (by omega)), isOn_c P K (by omega), Option.bind_some]
    by_cases ho : k (7 + c) = -1
    · simp only [ho, ne_eq, not_true_eq_false, and_false, if_false, if_true]
      obtain ⟨g1, e1, f1⟩ := levelsAlone_2 (now := now) hN K (c := c) (by omega) 7 0 N g rfl (by omega) P rfl
      rw [show fSx_levelsAlone N ln g (nI c) now = _ from e1, Option.bind_some]
      have P1 := P.ga f1 (by decide) (by decide)
      obtain ⟨g', q1, q2⟩ := ih (c + 1) fu g1 (by omega) (by omega) P1
      refine ⟨g', ?_, f1.trans q2⟩
      rw [← q1]
      by_cases ha : anyU (okA k (lawAt Lw (k 46)) now c) 7 = true
      · simp only [ha, if_true, n10, if_false, nm, nI_1]
        rw [sh_1 c (by omega), nI_lor, or_b c (by omega) _ (by omega) hlt, show alB k (lawAt Lw (k 46)) now (c + 1) = alB k (lawAt Lw (k 46)) now c + 2 ^ c by show alB k (lawAt Lw (k 46)) now c + _ = _; rw [if_pos ⟨ho, ha⟩]]
      · simp only [ha, if_false, if_true, nm, nI_1]
        rw [show alB k (lawAt Lw (k 46)) now (c + 1) = alB k (lawAt Lw (k 46)) now c by show alB k (lawAt Lw (k 46)) now c + _ = _; rw [if_neg (fun q => ha q.2)]; rfl]
        rfl
    · simp only [ho, show c < n by omega, ne_eq, not_false_eq_true, and_self, if_true, n10, if_false, nm, nI_1]
      have := ih (c + 1) fu g (by omega) (by omega) P
      rwa [show alB k (lawAt Lw (k 46)) now (c + 1) = alB k (lawAt Lw (k 46)) now c by show alB k (lawAt Lw (k 46)) now c + _ = _; rw [if_neg (fun q => ho q.1)]; rfl] at this
theorem malone_24 {μ : sw_m} (K : KI (μ.1 86) Lw n w L) {law : Option (List Cl)} (hp : ∀ c p, c < n → p < 7 → μ.1 100 (7 * c + p) = plK (μ.1 86) law c p ∧ μ.1 101 (7 * c + p) = brI (μ.1 86) law c p) {c : Nat} (hc : c < n) {now : Int32} {k13 : sw_m → Int32 → Int32 → Int32 → Option (Int32 × sw_m)} {m : Nat} (hm : m < 2 ^ c) : ∀ (d p fu : Nat), p + d = 7 → d < fu → fMo_alone_24 N k13 fu μ now (nI (m + if μ.1 86 (7 + c) = -1 ∧ anyU (okA (μ.1 86) law now c) p = true then 2 ^ c else 0)) (nI c) (nI p) = k13 μ now (nI (m + if μ.1 86 (7 + c) = -1 ∧ anyU (okA (μ.1 86) law now c) 7 = true then 2 ^ c else 0)) (nI (c + 1)) := by
  intro d
  have hn7 := K.n7
  have h2 := pow_le7 (show c ≤ 7 by omega)
  induction d with
  | zero =>
    intro p fu hp7 hfu
    obtain ⟨fu, rfl⟩ : ∃ z, fu = z + 1 := ⟨fu - 1, by omega⟩
    obtain rfl : p = 7 := by omega
    rw [fMo_alone_24, if_pos (by decide)]
    simp only [nm, nI_1]
  | succ d ih =>
    intro p fu hp7 hfu
    obtain ⟨fu, rfl⟩ : ∃ z, fu = z + 1 := ⟨fu - 1, by omega⟩
    obtain ⟨x1, x2⟩ := hp c p hc (by omega)
    rw [fMo_alone_24, if_neg (show ¬ (7 : Int32) ≤ nI p from nI_ge (b := 7) (by omega) (by decide)), misOn_eq (by omega), Option.bind_some]
    rw [← ih (p + 1) fu (by omega) (by omega)]
    by_cases ho : μ.1 86 (7 + c) = -1
    · simp only [ho, if_true, true_and]
      rw [show (7 : Int32) * nI c = nI (7 * c) from nI_mul 7 c, nI_add, rd_nI (by omega) (by decide), rd_nI (by omega) (by decide), x1, x2, mlevel_eq]
      by_cases hb : barK (μ.1 86) law c (nI p) = true
      · have hok : okA (μ.1 86) law now c p = false := by unfold okA; simp [hb]
        simp only [brI, hb, if_true, n10, if_false, nm, nI_1, Int32.or_zero]
        rw [show anyU (okA (μ.1 86) law now c) (p + 1) = anyU (okA (μ.1 86) law now c) p by show (anyU _ p || _) = _; rw [hok, Bool.or_false]]
      · simp only [brI, hb, if_false, if_true, Option.bind_some, Bool.false_eq_true]
        by_cases hl : μ.1 86 42 < jabs (now + plK (μ.1 86) law c p)
        · have hok : okA (μ.1 86) law now c p = false := by unfold okA; simp [hl]
          simp only [hl, if_true, nm, nI_1, Int32.or_zero]
          rw [show anyU (okA (μ.1 86) law now c) (p + 1) = anyU (okA (μ.1 86) law now c) p by show (anyU _ p || _) = _; rw [hok, Bool.or_false]]
        · have hok : okA (μ.1 86) law now c p = true := by unfold okA; simp [hl, hb]
          simp only [hl, if_false, n10, nm, nI_1]
          rw [sh_1 c (by omega), nI_lor, show anyU (okA (μ.1 86) law now c) (p + 1) = true by show (anyU _ p || _) = _; rw [hok, Bool.or_true]]
          by_cases ha : anyU (okA (μ.1 86) law now c) p = true
          · simp only [ha, if_true]; rw [or_b2 c (by omega) m (by omega) hm]
          · simp only [ha, if_false, if_true, Nat.add_zero, Bool.false_eq_true]; rw [or_b c (by omega) m (by omega) hm]
    · simp only [ho, if_false, n10, nm, nI_1, Int32.or_zero, false_and]
theorem malone_13 (hN : 3000 ≤ N) {μ : sw_m} (K : KI (μ.1 86) Lw n w L) {law : Option (List Cl)} (hp : ∀ c p, c < n → p < 7 → μ.1 100 (7 * c + p) = plK (μ.1 86) law c p ∧ μ.1 101 (7 * c + p) = brI (μ.1 86) law c p) {now : Int32} : ∀ (d c fu : Nat), c + d = n → d < fu → fMo_alone_13 N fu μ now (nI (alB (μ.1 86) law now c)) (nI c) = some (nI (alB (μ.1 86) law now n), μ) := by
  intro d
  have hn7 := K.n7
  induction d with
  | zero =>
    intro c fu hc hfu
    obtain ⟨fu, rfl⟩ : ∃ z, fu = z + 1 := ⟨fu - 1, by omega⟩
    obtain rfl : c = n := by omega
    rw [fMo_alone_13, many_eq K, Option.bind_some]
    simp only []
    rw [if_pos (nI_le (Nat.le_refl _) (by omega))]
  | succ d ih =>
    intro c fu hc hfu
    obtain ⟨fu, rfl⟩ : ∃ z, fu = z + 1 := ⟨fu - 1, by omega⟩
    rw [fMo_alone_13, many_eq K, Option.bind_some]
    simp only []
    rw [if_neg (nI_ge (by omega) (by omega))]
    have e := malone_24 (N := N) K hp (c := c) (by omega) (now := now) (k13 := fMo_alone_13 N fu) (alB_lt (k := μ.1 86) (law := law) (now := now) c) 7 0 N rfl (by omega)
    simp only [anyU, and_false, if_false, Nat.add_zero, Bool.false_eq_true] at e
    rw [show (0 : Int32) = nI 0 from rfl, e]
    exact ih (c + 1) fu (by omega) (by omega)
theorem alone_CR (hN : 3000 ≤ N) {g : sw_g} {μ : sw_m} (h : RR ln M g μ) : CR ln M (fSx_alone N ln g) (fMo_alone N μ) := by
  have h0 := h
  obtain ⟨Lw, n, w, L, K, P, hr⟩ := h
  have hn7 := K.n7
  obtain ⟨g1, e1, f1⟩ := xtilt_eq hN P K
  obtain ⟨g2, e2, f2⟩ := alone_9 (now := tiltK (μ.1 86) (lawAt Lw (μ.1 86 46)) n) hN K n 0 N g1 (by omega) (by omega) (P.ga f1 (by decide) (by decide))
  obtain ⟨μ1, q1, q2, q3⟩ := pulls_eq hN K
  have K1 : KI (μ1.1 86) Lw n w L := by rw [q3.k]; exact K
  obtain ⟨μ2, r1, r2⟩ := mtilt_eq hN K1
  have k2 : μ2.1 86 = μ.1 86 := by rw [r2.k, q3.k]
  have K2 : KI (μ2.1 86) Lw n w L := by rw [k2]; exact K
  have hp : ∀ c p, c < n → p < 7 → μ2.1 100 (7 * c + p) = plK (μ2.1 86) (lawAt Lw (μ.1 86 46)) c p ∧ μ2.1 101 (7 * c + p) = brI (μ2.1 86) (lawAt Lw (μ.1 86 46)) c p := by
    intro c p a b; rw [k2, r2.2 100 _ (by decide) (by omega), r2.2 101 _ (by decide) (by omega)]; exact q2 c p a b
  have e3 := malone_13 (N := N) hN K2 hp (now := tiltK (μ.1 86) (lawAt Lw (μ.1 86 46)) n) n 0 N (by omega) (by omega)
  rw [q3.k] at r1
  rw [k2] at e3
  rw [fSx_alone, fMo_alone, e1, q1, Option.bind_some, Option.bind_some, r1, Option.bind_some]
  exact h0.ask ⟨g2, e2, (f1.trans f2).up⟩ ⟨μ2, e3, q3.MS.trans r2.MS⟩
end
