/-! ===== put, take, pad, pass, undo ===== -/
section
variable {N : Nat} {ln : Nat → Nat} {M : Nat} {g : sw_g} {μ : sw_m} {Lw : Nat → List Cl} {n w L : Nat}
/-- the tilt as the reference has it now -/
def tiltM (μ : sw_m) (Lw : Nat → List Cl) (n : Nat) : Int32 := tiltK (μ.1 86) (lawAt Lw (μ.1 86 46)) n
theorem CR.wrap_r {x : Option (Int32 × sw_g)} {y : Option (Int32 × sw_m)} (h : CR ln M x y) : CR ln M x (y.bind fun ⟨a, b⟩ => some (a, b)) := by
  obtain ⟨v, g', μ', rfl, rfl, h⟩ := h
  exact ⟨v, g', μ', rfl, rfl, h⟩
/-- a tilt is no more than so much either way -/
theorem pull_rng {k : Nat → Int32} {law : Option (List Cl)} (K : KI k Lw n w L) {c : Nat} (hc : c < n) : ∃ z : Int, -297 ≤ z ∧ z ≤ 297 ∧ pullK k law c = zI z := by
  obtain ⟨⟨a, a1, a2, a3⟩, b⟩ := K.co.1 c hc
  unfold pullK
  by_cases h : k (7 + c) = -1
  · rw [if_pos h]; exact ⟨0, by decide, by decide, rfl⟩
  · rw [if_neg h]
    obtain ⟨p, p1, p2⟩ := b.resolve_left h
    obtain ⟨x, x1, x2⟩ := cnt_rng (law := law) (p := k (7 + c)) a1 a3
    rw [x2, p1, ← zI_nat, ← zI_nat p, show (3 : Int32) = zI 3 from rfl, zI_sub, zI_mul]
    refine ⟨(x : Int) * ((p : Int) - 3), ?_, ?_, rfl⟩
    · have : (x : Int) * (-3) ≤ x * ((p : Int) - 3) := Int.mul_le_mul_of_nonneg_left (by omega) (by omega)
      omega
    · have : (x : Int) * ((p : Int) - 3) ≤ x * 3 := Int.mul_le_mul_of_nonneg_left (by omega) (by omega)
      omega
theorem tS_rng {k : Nat → Int32} {law : Option (List Cl)} (K : KI k Lw n w L) : ∀ c : Nat, ∃ z : Int, -(297 * c : Int) ≤ z ∧ z ≤ 297 * c ∧ tS k law n c = zI z := by
  intro c
  induction c with
  | zero => exact ⟨0, by decide, by decide, rfl⟩
  | succ c ih =>
    obtain ⟨z, z1, z2, z3⟩ := ih
    rw [show tS k law n (c + 1) = tS k law n c + (if c < n then pullK k law c else 0) from rfl, z3]
    by_cases h : c < n
    · obtain ⟨y, y1, y2, y3⟩ := pull_rng (law := law) K h
      rw [if_pos h, y3, zI_add]
      exact ⟨z + y, by omega, by omega, rfl⟩
    · rw [if_neg h, Int32.add_zero]
      exact ⟨z, by omega, by omega, rfl⟩
theorem tilt_rng {k : Nat → Int32} {law : Option (List Cl)} (K : KI k Lw n w L) : ∃ z : Int, -2079 ≤ z ∧ z ≤ 2079 ∧ tiltK k law n = zI z := by
  obtain ⟨z, z1, z2, z3⟩ := tS_rng (law := law) K 7
  exact ⟨z, by omega, by omega, z3⟩
theorem jabs_z {z : Int} (h1 : -1000000000 ≤ z) (h2 : z ≤ 1000000000) : jabs (zI z) = nI z.natAbs := by
  unfold jabs
  rw [← zI_nat, show (0 : Int32) = zI 0 from rfl]
  by_cases h : 0 ≤ z
  · rw [if_pos ((zI_le (a := 0) (by omega) (by omega) (by omega) (by omega)).2 h)]; congr 1; omega
  · rw [if_neg (fun q => h ((zI_le (a := 0) (by omega) (by omega) (by omega) (by omega)).1 q)), zI_sub]; congr 1; omega
theorem tilt_pos (K : KI (μ.1 86) Lw n w L) : 0 ≤ jabs (tiltM μ Lw n) := by
  obtain ⟨z, z1, z2, z3⟩ := tilt_rng (law := lawAt Lw (μ.1 86 46)) K
  unfold tiltM
  rw [z3, jabs_z (by omega) (by omega)]
  exact nI_pos' (by omega)
/-- both refuse alike -/
def Rf (g : sw_g) (μ : sw_m) (x : Option (Int32 × sw_g)) (y : Option (Int32 × sw_m)) : Prop := ∃ a g' μ', (a = -1 ∨ a = -2 ∨ a = -3) ∧ x = some (a, g') ∧ y = some (a, μ') ∧ GA 43 45 g g' ∧ MT μ μ'
theorem claim_cases (n : Nat) (a : Int32) : (∃ c, c < n ∧ a = nI c) ∨ (∀ c, c < n → a ≠ nI c) := by
  by_cases h : ∃ c, c < n ∧ a = nI c
  · exact .inl h
  · exact .inr (fun c x y => h ⟨c, x, y⟩)
theorem canPut_sim (hN : 3000 ≤ N) {q : Nat} (P : PQ ln M g q (μ.1 86) Lw L) (K : KI (μ.1 86) Lw n w L) (hq : q ≤ 30) {c : Nat} (hc : c < n) (p : Int32) : ∃ r g' μ', (r = 0 ∨ r = 1) ∧ fSx_canPut N ln g q (nI c) p = some (r, g') ∧ fMo_canPut N μ (nI c) p = some (r, μ') ∧ GA 43 45 g g' ∧ MT μ μ' := by
  have hn7 := K.n7
  have c7 : c < 7 := by omega
  rw [fSx_canPut, fMo_canPut, rd_nI c7 (by decide), i7, rd_nI (by omega) (by decide), (P.2.1 c c7).2.2]
  by_cases h : μ.1 86 (7 + c) = p
  · rw [if_pos h, if_pos h]; exact ⟨0, g, μ, .inl rfl, rfl, rfl, GA.refl, MT.refl⟩
  · rw [if_neg h, if_neg h]
    obtain ⟨g', e1, f1⟩ := barsAt_eq hN P K hq c7 p
    obtain ⟨μ', e2, f2⟩ := mbar_eq hN K c7 p
    rw [e1, e2, Option.bind_some, Option.bind_some]
    by_cases hb : barK (μ.1 86) (lawAt Lw (μ.1 86 46)) c p = true
    · simp only [hb, if_true, n10, if_false]; exact ⟨0, g', μ', .inl rfl, rfl, rfl, f1, f2⟩
    · simp only [hb, if_false, if_true]; exact ⟨1, g', μ', .inr rfl, rfl, rfl, f1, f2⟩
theorem puts_sim (hN : 3000 ≤ N) (h : Co ln M g μ Lw n w L) (a b : Int32) : Rf g μ (fSx_puts N ln g a b) (fMo_putsKept N μ a b) ∨ (∃ g' μ', fSx_puts N ln g a b = some (0, g') ∧ fMo_putsKept N μ a b = some (jabs (tiltM μ' Lw n), μ') ∧ Co ln M g' μ' Lw n w L ∧ GP g g' ∧ MP μ μ') := by
  obtain ⟨K, P, H⟩ := h
  have h : Co ln M g μ Lw n w L := ⟨K, P, H⟩
  have hn7 := K.n7
  rw [fSx_puts, fMo_putsKept]
  rcases place_cases b with ⟨p, hp, rfl, e1, e2⟩ | ⟨_, e1, e2⟩
  · rw [e1, e2, Option.bind_some, Option.bind_some, if_neg n10, if_neg n10]
    rcases claim_cases n a with ⟨c, hc, rfl⟩ | hc
    · rw [hasClaim_yes P K hc, misClaim_yes K hc, Option.bind_some, Option.bind_some]
      simp only [n10, if_false]
      obtain ⟨r, g1, μ1, hr, q1, q2, q3, q4⟩ := canPut_sim hN P K (by decide) hc (nI p)
      rw [q1, q2, Option.bind_some, Option.bind_some]
      simp only []
      rcases hr with rfl | rfl
      · rw [if_pos rfl, if_pos rfl]; exact .inl ⟨-3, g1, μ1, by simp, rfl, rfl, q3, q4⟩
      · rw [if_neg n10, if_neg n10]
        have h1 := h.scr q3 q4
        obtain ⟨g2, μ2, w1, w2, w3, w4, w5, w6⟩ := write_sim hN h1 0 (nI p) hc 7 (.inr ⟨rfl, .inr ⟨p, rfl, by omega⟩⟩)
        rw [w1, w2, Option.bind_some, Option.bind_some, wr_nI (by omega) (by decide), i7, wr_nI (by omega) (by decide)]
        obtain ⟨μ3, t1, t2⟩ := mtilt_eq hN w3.1
        rw [t1, Option.bind_some]
        simp only [either_eq, Option.bind_some]
        refine .inr ⟨_, μ3, rfl, ?_, w3.scr GA.refl t2, (GP.of q3).trans w4, ((MP.of q4).trans w5).trans (MP.of t2)⟩
        unfold tiltM; rw [t2.k]
    · rw [hasClaim_no P K hc, misClaim_no K hc, Option.bind_some, Option.bind_some]
      exact .inl ⟨-2, g, μ, by simp, rfl, rfl, GA.refl, MT.refl⟩
  · rw [e1, e2, Option.bind_some, Option.bind_some, if_pos rfl, if_pos rfl]
    exact .inl ⟨-1, g, μ, by simp, rfl, rfl, GA.refl, MT.refl⟩
theorem takes_sim (hN : 3000 ≤ N) (h : Co ln M g μ Lw n w L) (a : Int32) : Rf g μ (fSx_takes ln g a) (fMo_takesKept N μ a) ∨ (∃ g' μ', fSx_takes ln g a = some (0, g') ∧ fMo_takesKept N μ a = some (jabs (tiltM μ' Lw n), μ') ∧ Co ln M g' μ' Lw n w L ∧ GP g g' ∧ MP μ μ') := by
  obtain ⟨K, P, H⟩ := h
  have h : Co ln M g μ Lw n w L := ⟨K, P, H⟩
  have hn7 := K.n7
  rw [fSx_takes, fMo_takesKept]
  rcases claim_cases n a with ⟨c, hc, rfl⟩ | hc
  · rw [hasClaim_yes P K hc, misClaim_yes K hc, Option.bind_some, Option.bind_some]
    simp only [n10, if_false]
    rw [isOn_c P K (by omega), misOn_eq (by omega), Option.bind_some, Option.bind_some]
    by_cases ho : μ.1 86 (7 + c) = -1
    · simp only [ho, ne_eq, not_true_eq_false, and_false, if_false, if_true]
      exact .inl ⟨-3, g, μ, by simp, rfl, rfl, GA.refl, MT.refl⟩
    · simp only [ho, hc, ne_eq, not_false_eq_true, and_self, if_true, n10, if_false]
      obtain ⟨g2, μ2, w1, w2, w3, w4, w5, w6⟩ := write_sim hN h 1 (-1) hc 7 (.inr ⟨rfl, .inl rfl⟩)
      rw [w1, w2, Option.bind_some, Option.bind_some, wr_nI (by omega) (by decide), i7, wr_nI (by omega) (by decide)]
      obtain ⟨μ3, t1, t2⟩ := mtilt_eq hN w3.1
      rw [t1, Option.bind_some]
      simp only [either_eq, Option.bind_some]
      refine .inr ⟨_, μ3, rfl, ?_, w3.scr GA.refl t2, w4, w5.trans (MP.of t2)⟩
      unfold tiltM; rw [t2.k]
  · rw [hasClaim_no P K hc, misClaim_no K hc, Option.bind_some, Option.bind_some]
    exact .inl ⟨-2, g, μ, by simp, rfl, rfl, GA.refl, MT.refl⟩
theorem heavy_cases (a : Int32) : (∃ x, a = nI x ∧ 1 ≤ x ∧ x ≤ 30 ∧ fSx_canBeHeavy a = some 1 ∧ fMo_isHeavy a = some 1) ∨ (fSx_canBeHeavy a = some 0 ∧ fMo_isHeavy a = some 0) := by
  unfold fSx_canBeHeavy fMo_isHeavy fMo_lies
  by_cases h1 : a < 1
  · right; simp only [h1, if_true]; exact ⟨trivial, rfl⟩
  · by_cases h2 : 30 < a
    · right; simp only [h1, h2, if_true, if_false]; exact ⟨trivial, rfl⟩
    · left
      simp only [h1, h2, if_false]
      rw [Int32.lt_iff_toInt_lt] at h1 h2
      have q1 : ¬ a.toInt < 1 := h1
      have q2 : ¬ 30 < a.toInt := h2
      refine ⟨a.toInt.toNat, ?_, by omega, by omega, trivial, rfl⟩
      rw [← zI_nat, show ((a.toInt.toNat : Nat) : Int) = a.toInt by omega, zI_of]
theorem pads_sim (hN : 3000 ≤ N) (h : Co ln M g μ Lw n w L) (a b : Int32) : Rf g μ (fSx_pads ln g a b) (fMo_padsKept N μ a b) ∨ (∃ v g' μ', 0 ≤ v ∧ fSx_pads ln g a b = some (v, g') ∧ fMo_padsKept N μ a b = some (v, μ') ∧ Co ln M g' μ' Lw n w L ∧ GP g g' ∧ MP μ μ') := by
  obtain ⟨K, P, H⟩ := h
  have h : Co ln M g μ Lw n w L := ⟨K, P, H⟩
  have hn7 := K.n7
  rw [fSx_pads, fMo_padsKept]
  rcases heavy_cases b with ⟨x, rfl, x1, x2, e1, e2⟩ | ⟨e1, e2⟩
  · rw [e1, e2, Option.bind_some, Option.bind_some, if_neg n10, if_neg n10]
    rcases claim_cases n a with ⟨c, hc, rfl⟩ | hc
    · have c7 : c < 7 := by omega
      rw [hasClaim_yes P K hc, misClaim_yes K hc, Option.bind_some, Option.bind_some]
      simp only [n10, if_false]
      rw [rd_nI c7 (by decide), i00, rd_nI (by omega) (by decide), show g.1 2 c = _ from (P.2.1 c c7).1]
      by_cases hv : μ.1 86 c = nI x
      · rw [if_pos hv, if_pos hv]; exact .inl ⟨-3, g, μ, by simp, rfl, rfl, GA.refl, MT.refl⟩
      · rw [if_neg hv, if_neg hv]
        obtain ⟨g2, μ2, w1, w2, w3, w4, w5, w6⟩ := write_sim hN h 2 (nI x) hc 0 (.inl ⟨rfl, x, rfl, x1, x2⟩)
        rw [w1, w2, Option.bind_some, Option.bind_some, wr_nI c7 (by decide), wr_nI (by omega) (by decide)]
        rw [Nat.zero_add] at w3 w5
        obtain ⟨⟨y, y1, y2, y3⟩, _⟩ := K.co.1 c hc
        refine .inr ⟨μ.1 86 c, _, _, by rw [y1]; exact nI_pos' (by omega), rfl, rfl, w3, w4, w5⟩
    · rw [hasClaim_no P K hc, misClaim_no K hc, Option.bind_some, Option.bind_some]
      exact .inl ⟨-2, g, μ, by simp, rfl, rfl, GA.refl, MT.refl⟩
  · rw [e1, e2, Option.bind_some, Option.bind_some, if_pos rfl, if_pos rfl]
    exact .inl ⟨-1, g, μ, by simp, rfl, rfl, GA.refl, MT.refl⟩
theorem passes_sim (hN : 3000 ≤ N) (h : Co ln M g μ Lw n w L) : Rf g μ (fSx_passes N ln g) (fMo_passesKept N μ) ∨ (∃ v g' μ', 0 ≤ v ∧ fSx_passes N ln g = some (v, g') ∧ fMo_passesKept N μ = some (v, μ') ∧ Co ln M g' μ' Lw n w L ∧ GP g g' ∧ MP μ μ') := by
  obtain ⟨K, P, H⟩ := h
  have hn7 := K.n7
  obtain ⟨d, d1, d2⟩ := K.co.2
  rw [fSx_passes, fMo_passesKept, rd_K 0 0 4 (by decide) (by decide), rd_K 14 14 5654 (by decide) (by decide), show g.1 5 0 = _ from P.2.2.1.1, d1]
  by_cases h9 : d = 999
  · subst h9
    rw [if_neg (by decide), if_pos (by decide)]
    exact .inl ⟨-3, g, μ, by simp, rfl, rfl, GA.refl, MT.refl⟩
  · rw [if_pos (show nI d < 999 from nI_lt (b := 999) (by omega) (by decide)), if_neg (show ¬ nI d = 999 from fun q => h9 ((eqL 999 999 rfl (by omega) (by decide)).1 q))]
    obtain ⟨g1, μ1, e1, e2, e3, e4, e5, e6⟩ := keep_sim hN K P H 3
    have ek1 : μ1.1 86 = μ.1 86 := funext fun j => e6 86 j (by decide) (by omega)
    have P1 : PQ ln M g1 1 (μ1.1 86) Lw L := by
      rw [ek1]; exact P.frame (fun p a b => e4 p (by omega) (by omega)) (fun p a _ => e4 p (by omega) (by omega)) (by rw [e5]) (by rw [e5])
    have K1 : KI (μ1.1 86) Lw n w L := by rw [ek1]; exact K
    obtain ⟨g2, q1, q2, q3⟩ := passDay_eq hN P1 K1 (by decide)
    obtain ⟨μ2, r1, r2, r3⟩ := mday_eq hN K1
    rw [e1, e2, Option.bind_some, Option.bind_some, q1, r1, Option.bind_some, Option.bind_some]
    refine .inr ⟨_, g2, μ2, ?_, rfl, rfl, ⟨?_, ?_, ?_⟩, ⟨fun p a b c d e f => ?_, ?_⟩, ⟨fun j hj => ?_, fun p j a b c d e => ?_⟩⟩
    · have : ∀ c, dyN (μ1.1 86) (lawAt Lw (μ1.1 86 46)) n c ≤ c := by
        intro c
        induction c with
        | zero => exact Nat.le_refl _
        | succ c ih => show dyN _ _ n c + _ ≤ _; split <;> omega
      exact nI_pos' (by have := this 7; omega)
    · rw [r2]; exact K1.day (by rw [ek1, d1]; exact fun q => h9 ((nI_eq (by omega) (by decide)).1 q))
    · rw [r2]; exact q2
    · exact e3.frame (q3.1 29 (by decide) (by decide) (by decide)) (q3.1 30 (by decide) (by decide) (by decide)) (r3.2 84 33 (by decide) (by decide) (by decide) (by decide)) (funext fun j => r3.2 98 j (by decide) (by decide) (by decide) (by omega))
    · rw [q3.1 p (by omega) (by omega) f, e4 p d e]
    · rw [q3.2.2, e5]
    · rw [r2]; unfold dyK; rw [if_neg (by omega), dk_hi (by omega), ek1]
    · rw [r3.2 p j a c d (fun q => (e q).2), e6 p j b (fun q => (e q).1)]
theorem Co.RR {g' : sw_g} {μ' : sw_m} (h : Co ln M g' μ' Lw n w L) (h0 : RR ln M g μ) (a : GP g g') (b : MP μ μ') : RR ln M g' μ' := by
  obtain ⟨Lw0, n0, w0, L0, K, P, h1, h2, h3, h4, h5⟩ := h0
  exact RR.plank (Lw := Lw) (n := n) (w := w) (L := L) h.1 h.2.1 h.2.2 h2 h3 h4 h5 (fun p x y z t => a.1 p (by omega) (by omega) (by omega) y z (by omega)) (fun p _ => by rw [a.2]) (fun p j x y z t s => b.2 p j x y (by omega) (by omega) (by omega))
theorem Rf.CR {x : Option (Int32 × sw_g)} {y : Option (Int32 × sw_m)} (h : Rf g μ x y) (h0 : RR ln M g μ) : ∃ a g' μ', (a = -1 ∨ a = -2 ∨ a = -3) ∧ x = some (a, g') ∧ y = some (a, μ') ∧ CR ln M (fSx_refuse N ln g' a) (fMo_refuses μ' a) := by
  obtain ⟨a, g', μ', ha, e1, e2, e3, e4⟩ := h
  exact ⟨a, g', μ', ha, e1, e2, refuse_CR (h0.scr e3.up e4.MS) (by rcases ha with rfl | rfl | rfl <;> simp)⟩
theorem neg_cases {a : Int32} (ha : a = -1 ∨ a = -2 ∨ a = -3) : ¬ 0 ≤ a := by rcases ha with rfl | rfl | rfl <;> decide
theorem undo_34 {r : Nat} (hr : r < 16) : ∀ (d j fu : Nat) (μ : sw_m), j + d = 15 → d < fu → ∃ μ', fMo_undo_34 N fu μ (nI (16 * r)) (nI j) = some (μ.1 98 (16 * r + 15), mI μ' 84 0 0) ∧ (∀ i, j ≤ i → i < 15 → μ'.1 86 i = μ.1 98 (16 * r + i)) ∧ (∀ p i, (p = 86 → i < j ∨ 15 ≤ i) → μ'.1 p i = μ.1 p i) := by
  intro d
  induction d with
  | zero =>
    intro j fu μ hj hfu
    obtain ⟨fu, rfl⟩ : ∃ z, fu = z + 1 := ⟨fu - 1, by omega⟩
    obtain rfl : j = 15 := by omega
    rw [fMo_undo_34, if_pos (by decide), show nI (16 * r) + (15 : Int32) = nI (16 * r + 15) from nI_add _ 15, rd_nI (by omega) (by decide)]
    exact ⟨μ, rfl, fun i a b => by omega, fun _ _ _ => rfl⟩
  | succ d ih =>
    intro j fu μ hj hfu
    obtain ⟨fu, rfl⟩ : ∃ z, fu = z + 1 := ⟨fu - 1, by omega⟩
    rw [fMo_undo_34, if_neg (show ¬ (15 : Int32) ≤ nI j from nI_ge (b := 15) (by omega) (by decide)), nI_add, rd_nI (by omega) (by decide), wr_nI (by omega) (by decide)]
    simp only [nm, nI_1]
    obtain ⟨μ', e1, e2, e3⟩ := ih (j + 1) fu (mI μ 86 j (μ.1 98 (16 * r + j))) (by omega) (by omega)
    refine ⟨μ', ?_, fun i a b => ?_, fun p i a => ?_⟩
    · rw [e1, mI_at, if_neg (by omega)]
    · by_cases hij : i = j
      · subst hij; rw [e3 86 i (by omega), mI_at, if_pos ⟨rfl, rfl⟩]
      · rw [e2 i (by omega) b, mI_at, if_neg (by omega)]
    · rw [e3 p i (by omega), mI_at, if_neg (by omega)]
theorem undo_CR (hN : 3000 ≤ N) (h : RR ln M g μ) : CR ln M (fSx_undo N ln g) (fMo_undo N μ) := by
  have h0 := h
  obtain ⟨Lw, n, w, L, K, P, ⟨h, nx, h1, h2, h3, h4, h5, h6⟩, hT, hM, hD, hI⟩ := h
  have hn7 := K.n7
  rw [fSx_undo, fMo_undo, h1, h2]
  by_cases hh : h = 0
  · subst hh
    rw [if_pos (show nI 0 = 0 from rfl), if_pos (show nI 0 = 0 from rfl)]
    exact (refuse_CR h0 (by decide)).wrap
  · obtain ⟨r, rfl⟩ : ∃ r, h = r + 1 := ⟨h - 1, by omega⟩
    rw [if_neg (nI_ne0 (by omega) (by omega)), if_neg (nI_ne0 (by omega) (by omega)), nI_pred]
    simp only [nm]
    rw [show (mI μ 84 33 (nI r)).1 84 33 = nI r by simp [mI_at], show (16 : Int32) * nI r = nI (16 * r) from nI_mul 16 r]
    obtain ⟨μ1, e1, e2, e3⟩ := undo_34 (N := N) (r := r) (by omega) 15 0 N (mI μ 84 33 (nI r)) rfl (by omega)
    obtain ⟨b1, b2⟩ := h6 r (by omega)
    have er : ∀ j, (mI μ 84 33 (nI r)).1 98 j = μ.1 98 j := fun j => by rw [mI_at, if_neg (by omega)]
    -- the class
    generalize hv : (nx + 15) % 16 = v at *
    have hb : ∀ j, j < 16 → g.1 30 (16 * v + j) = μ.1 98 (16 * r + j) := by
      intro j hj
      have := b1 j hj
      rwa [show (nx + 16 - (r + 1) + r) % 16 = v by omega] at this
    have ex : ∃ g', fHi_giveBack ln g 29 1 = some (μ.1 98 (16 * r + 15), g') ∧ g'.1 29 0 = nI r ∧ g'.1 29 1 = nI v ∧ (∀ p, p ≠ 2 → p ≠ 4 → p ≠ 5 → p ≠ 29 → g'.1 p = g.1 p) ∧ (∀ c, c < 7 → g'.1 2 c = μ.1 98 (16 * r + c) ∧ g'.1 4 c = μ.1 98 (16 * r + (7 + c))) ∧ g'.1 5 0 = μ.1 98 (16 * r + 14) ∧ (∀ j, j ≠ 0 → g'.1 5 j = g.1 5 j) ∧ g'.2.2 = g.2.2 := by
      rw [fHi_giveBack, h1, if_neg (nI_ne0 (by omega) (by omega)), nI_pred]
      simp only [nm]
      rw [show (gI g 29 0 (nI r)).1 29 1 = nI nx by rw [gI_at, if_neg (by decide), h4], show nI nx + (16 : Int32) - 1 = nI (nx + 15) by rw [show nI nx + (16 : Int32) = nI (nx + 15 + 1) from nI_add nx 16, nI_pred], show nI (nx + 15) - nI (nx + 15) / (16 : Int32) * (16 : Int32) = nI ((nx + 15) % 16) from pk_rem (by omega) (by decide) (by decide), hv]
      generalize hg2 : gI (gI g 29 0 (nI r)) 29 1 (nI v) = g2
      have q2 : ∀ p, p ≠ 29 → g2.1 p = g.1 p := by intro p hp; subst hg2; funext j; rw [gI_at, if_neg (by omega), gI_at, if_neg (by omega)]
      rw [show g2.1 29 1 = nI v by subst hg2; simp [gI_at], show nI v * (16 : Int32) = nI (v * 16) from nI_mul v 16, cp_nI (y := 0) (z := 7) (a := v * 16) (b := 0) (c := 7) rfl rfl rfl (by omega) (by decide) (by decide) (by decide), show nI (v * 16) + (7 : Int32) = nI (v * 16 + 7) from nI_add _ 7, cp_nI (y := 0) (z := 7) (a := v * 16 + 7) (b := 0) (c := 7) rfl rfl rfl (by omega) (by decide) (by decide) (by decide), show nI (v * 16) + (14 : Int32) = nI (v * 16 + 14) from nI_add _ 14, rd_nI (by omega) (by decide), wr_K 0 0 4 (by decide) (by decide), show nI (v * 16) + (15 : Int32) = nI (v * 16 + 15) from nI_add _ 15, rd_nI (by omega) (by decide)]
      refine ⟨_, congrArg some (Prod.ext ?_ rfl), ?_, ?_, fun p a b c d => ?_, fun c hc => ⟨?_, ?_⟩, ?_, fun j hj => ?_, ?_⟩
      · show _ = μ.1 98 (16 * r + 15)
        simp only [gI_at, gW_at]
        simp
        rw [q2 30 (by decide), show v * 16 + 15 = 16 * v + 15 by omega, hb 15 (by decide)]
      · simp only [gI_at, gW_at]; simp; subst hg2; simp [gI_at]
      · simp only [gI_at, gW_at]; simp; subst hg2; simp [gI_at]
      · funext j; rw [gI_at, if_neg (by omega), gW_at, if_neg (by omega), gW_at, if_neg (by omega), q2 p d]
      · simp only [gI_at, gW_at, cpy_at]
        simp
        rw [if_pos hc, q2 30 (by decide), show v * 16 + c = 16 * v + c by omega, hb c (by omega)]
      · simp only [gI_at, gW_at, cpy_at]
        simp
        rw [if_pos hc, q2 30 (by decide), show v * 16 + 7 + c = 16 * v + (7 + c) by omega, hb (7 + c) (by omega)]
      · simp only [gI_at, gW_at]
        simp
        rw [q2 30 (by decide), show v * 16 + 14 = 16 * v + 14 by omega, hb 14 (by decide)]
      · rw [gI_at, if_neg (by omega), gW_at, if_neg (by omega), gW_at, if_neg (by omega), q2 5 (by decide)]
      · show g2.2.2 = _; subst hg2; rfl
    obtain ⟨g', x1, x2, x3, x4, x5, x6, x7, x8⟩ := ex
    rw [er] at e1
    rw [x1, Option.bind_some, show fMo_undo_34 N N (mI μ 84 33 (nI r)) (nI (16 * r)) 0 = _ from e1]
    refine ⟨_, gI g' 0 14 0, mI μ1 84 0 0, rfl, rfl, RR.told ?_⟩
    have ek : ∀ j, j < 15 → μ1.1 86 j = μ.1 98 (16 * r + j) := fun j hj => by rw [e2 j (by omega) hj, er]
    have ek' : ∀ j, 15 ≤ j → μ1.1 86 j = μ.1 86 j := fun j hj => by rw [e3 86 j (by omega), mI_at, if_neg (by omega)]
    have em : ∀ p j, p ≠ 86 → (p = 84 → j ≠ 33) → μ1.1 p j = μ.1 p j := fun p j a b => by rw [e3 p j (by omega), mI_at, if_neg (by omega)]
    refine RR.plank (g := g) (μ := μ) (Lw := Lw) (n := n) (w := w) (L := L) (n' := n) (w' := w) (L' := L) (Lw' := Lw) (K.mv ek' ⟨fun c hc => ?_, ?_⟩) (P.mv (fun c hc => ?_) (fun c hc => ?_) ?_ x7 ek' (fun p a b c d => x4 p (by omega) (by omega) (by omega) (by omega)) (by decide) x8) ⟨r, v, x2, ?_, by omega, x3, by omega, fun i hi => ?_⟩ hT hM hD hI (fun p a b c d => x4 p (by omega) (by omega) (by omega) b) (fun p _ => by rw [x8]) (fun p j a b c d e => em p j a (by omega))
    · rw [ek c (by omega), ek (7 + c) (by omega)]; exact b2.1 c hc
    · rw [ek 14 (by omega)]; exact b2.2
    · rw [ek c (by omega)]; exact (x5 c hc).1
    · rw [ek (7 + c) (by omega)]; exact (x5 c hc).2
    · rw [ek 14 (by omega)]; exact x6
    · rw [e3 84 33 (by omega), mI_at, if_pos ⟨rfl, rfl⟩]
    · have e98 : ∀ j, μ1.1 98 j = μ.1 98 j := fun j => em 98 j (by decide) (by omega)
      obtain ⟨y1, y2⟩ := h6 i (by omega)
      refine ⟨fun j hj => ?_, ?_⟩
      · rw [x4 30 (by decide) (by decide) (by decide) (by decide), e98, ← y1 j hj, show (v + 16 - r + i) % 16 = (nx + 16 - (r + 1) + i) % 16 by omega]
      · refine ⟨fun c hc => ?_, ?_⟩
        · simp only [e98]; exact y2.1 c hc
        · simp only [e98]; exact y2.2
theorem put_CR (hN : 3000 ≤ N) (h : RR ln M g μ) (a b : Int32) : CR ln M (fSx_put N ln g a b) (fMo_put N μ a b) := by
  have h0 := h
  obtain ⟨Lw, n, w, L, K, P, H, _⟩ := h
  rw [fSx_put, fMo_put]
  rcases puts_sim hN (⟨K, P, H⟩ : Co ln M g μ Lw n w L) a b with q | ⟨g', μ', e1, e2, e3, e4, e5⟩
  · obtain ⟨v, g', μ', hv, e1, e2, e3⟩ := q.CR (N := N) h0
    rw [e1, e2, Option.bind_some, Option.bind_some]
    simp only []
    rw [if_neg (neg_cases hv), fMo_goodOr, if_neg (neg_cases hv)]
    exact e3.wrap.wrap_r
  · rw [e1, e2, Option.bind_some, Option.bind_some]
    simp only []
    obtain ⟨g2, t1, t2⟩ := xtilt_eq hN e3.2.1 e3.1
    rw [if_pos (by decide), t1, Option.bind_some, fMo_goodOr]
    have hp : 0 ≤ jabs (tiltM μ' Lw n) := tilt_pos e3.1
    rw [if_pos hp]
    exact (told_CR ((e3.RR h0 e4 e5).scr t2.up MS.refl) _).wrap.wrap_r
theorem take_CR (hN : 3000 ≤ N) (h : RR ln M g μ) (a : Int32) : CR ln M (fSx_take N ln g a) (fMo_take N μ a) := by
  have h0 := h
  obtain ⟨Lw, n, w, L, K, P, H, _⟩ := h
  rw [fSx_take, fMo_take]
  rcases takes_sim hN (⟨K, P, H⟩ : Co ln M g μ Lw n w L) a with q | ⟨g', μ', e1, e2, e3, e4, e5⟩
  · obtain ⟨v, g', μ', hv, e1, e2, e3⟩ := q.CR (N := N) h0
    rw [e1, e2, Option.bind_some, Option.bind_some]
    simp only []
    rw [if_neg (neg_cases hv), fMo_goodOr, if_neg (neg_cases hv)]
    exact e3.wrap.wrap_r
  · rw [e1, e2, Option.bind_some, Option.bind_some]
    simp only []
    obtain ⟨g2, t1, t2⟩ := xtilt_eq hN e3.2.1 e3.1
    rw [if_pos (by decide), t1, Option.bind_some, fMo_goodOr]
    have hp : 0 ≤ jabs (tiltM μ' Lw n) := tilt_pos e3.1
    rw [if_pos hp]
    exact (told_CR ((e3.RR h0 e4 e5).scr t2.up MS.refl) _).wrap.wrap_r
theorem pad_CR (hN : 3000 ≤ N) (h : RR ln M g μ) (a b : Int32) : CR ln M (fSx_pad N ln g a b) (fMo_pad N μ a b) := by
  have h0 := h
  obtain ⟨Lw, n, w, L, K, P, H, _⟩ := h
  rw [fSx_pad, fMo_pad]
  rcases pads_sim hN (⟨K, P, H⟩ : Co ln M g μ Lw n w L) a b with q | ⟨v, g', μ', e0, e1, e2, e3, e4, e5⟩
  · obtain ⟨v, g', μ', hv, e1, e2, e3⟩ := q.CR (N := N) h0
    rw [e1, e2, Option.bind_some, Option.bind_some]
    simp only []
    rw [if_neg (neg_cases hv), fMo_goodOr, if_neg (neg_cases hv)]
    exact e3.wrap.wrap_r
  · rw [e1, e2, Option.bind_some, Option.bind_some]
    simp only []
    rw [if_pos e0, fMo_goodOr, if_pos e0]
    exact (told_CR (e3.RR h0 e4 e5) _).wrap.wrap_r
theorem pass_CR (hN : 3000 ≤ N) (h : RR ln M g μ) : CR ln M (fSx_pass N ln g) (fMo_pass N μ) := by
  have h0 := h
  obtain ⟨Lw, n, w, L, K, P, H, _⟩ := h
  rw [fSx_pass, fMo_pass]
  rcases passes_sim hN (⟨K, P, H⟩ : Co ln M g μ Lw n w L) with q | ⟨v, g', μ', e0, e1, e2, e3, e4, e5⟩
  · obtain ⟨v, g', μ', hv, e1, e2, e3⟩ := q.CR (N := N) h0
    rw [e1, e2, Option.bind_some, Option.bind_some]
    simp only []
    rw [if_neg (neg_cases hv), fMo_goodOr, if_neg (neg_cases hv)]
    exact e3.wrap.wrap_r
  · rw [e1, e2, Option.bind_some, Option.bind_some]
    simp only []
    rw [if_pos e0, fMo_goodOr, if_pos e0]
    exact (told_CR (e3.RR h0 e4 e5) _).wrap.wrap_r
end
