/-! ===== days ===== -/
def DG (g g' : sw_g) : Prop := (∀ p, (p < 19 ∨ 26 < p) → (p < 43 ∨ 45 < p) → g'.1 p = g.1 p) ∧ g'.2.2 = g.2.2
def DM (μ μ' : sw_m) : Prop := (∀ j, 15 ≤ j → μ'.1 86 j = μ.1 86 j) ∧ (∀ p j, p ≠ 86 → p ≠ 96 → p ≠ 97 → (p = 84 → (j < 22 ∨ 25 < j) ∧ j ≠ 52) → μ'.1 p j = μ.1 p j)
theorem DG.refl {g : sw_g} : DG g g := ⟨fun _ _ _ => rfl, rfl⟩
theorem DM.refl {μ : sw_m} : DM μ μ := ⟨fun _ _ => rfl, fun _ _ _ _ _ _ => rfl⟩
theorem DG.trans {g g1 g2 : sw_g} (a : DG g g1) (b : DG g1 g2) : DG g g2 := ⟨fun p x y => (b.1 p x y).trans (a.1 p x y), b.2.trans a.2⟩
theorem DM.trans {μ μ1 μ2 : sw_m} (a : DM μ μ1) (b : DM μ1 μ2) : DM μ μ2 := ⟨fun j h => (b.1 j h).trans (a.1 j h), fun p j x y z u => (b.2 p j x y z u).trans (a.2 p j x y z u)⟩
theorem GA.DG {g g1 : sw_g} (a : GA 43 45 g g1) : DG g g1 := ⟨fun p _ h => a.1 p h, a.2⟩
theorem MT.DM {μ μ1 : sw_m} (a : MT μ μ1) : DM μ μ1 := ⟨fun j _ => by rw [a.k], fun p j _ h2 _ h4 => a.2 p j h2 (fun e => (h4 e).1)⟩
section
variable {N : Nat} {ln : Nat → Nat} {M : Nat} {Lw : Nat → List Cl} {n w L : Nat}
theorem pap_upd {g : sw_g} {μ : sw_m} (K : KI (μ.1 86) Lw n w L) (P : PQ ln M g 19 (μ.1 86) Lw L) {c : Nat} (hc : c < n) {v : Int32} (hv : v = -1 ∨ ∃ a, v = nI a ∧ a ≤ 6) : KI ((mI μ 86 (7 + c) v).1 86) Lw n w L ∧ PQ ln M (gI g 22 c v) 19 ((mI μ 86 (7 + c) v).1 86) Lw L ∧ DG g (gI g 22 c v) ∧ DM μ (mI μ 86 (7 + c) v) := by
  have hn7 := K.n7
  have hk : ∀ j, j ≠ 7 + c → (mI μ 86 (7 + c) v).1 86 j = μ.1 86 j := fun j hj => by rw [mI_at, if_neg (fun q => hj q.2)]
  have hk1 : (mI μ 86 (7 + c) v).1 86 (7 + c) = v := by rw [mI_at, if_pos ⟨rfl, rfl⟩]
  refine ⟨K.mv (fun j hj => hk j (by omega)) ⟨fun d hd => ?_, by rw [hk 14 (by omega)]; exact K.co.2⟩, P.mv (fun d hd => ?_) (fun d hd => ?_) ?_ (fun j _ => ?_) (fun j hj => hk j (by omega)) (fun p a b x y => ?_) (by decide) rfl, ⟨fun p x y => ?_, rfl⟩, ⟨fun j hj => hk j (by omega), fun p j x _ _ _ => ?_⟩⟩
  · rw [hk d (by omega)]
    refine ⟨(K.co.1 d hd).1, ?_⟩
    by_cases hdc : d = c
    · rw [hdc, hk1]; exact hv
    · rw [hk (7 + d) (by omega)]; exact (K.co.1 d hd).2
  · rw [gI_at, if_neg (by omega), hk d (by omega)]; exact (P.2.1 d hd).1
  · rw [gI_at]
    by_cases hdc : d = c
    · rw [if_pos ⟨rfl, hdc⟩, hdc, hk1]
    · rw [if_neg (fun q => hdc q.2), hk (7 + d) (by omega)]; exact (P.2.1 d hd).2.2
  · rw [gI_at, if_neg (by omega), hk 14 (by omega)]; exact P.2.2.1.1
  · rw [gI_at, if_neg (by omega)]
  · funext j; rw [gI_at, if_neg (by omega)]
  · funext j; rw [gI_at, if_neg (by omega)]
  · rw [mI_at, if_neg (fun q => x q.1)]
theorem draw_sim (hN : 3000 ≤ N) {g : sw_g} {μ : sw_m} (K : KI (μ.1 86) Lw n w L) (P : PQ ln M g 19 (μ.1 86) Lw L) {c pl x : Nat} (hc : c < n) (hp : pl ≤ 6) (hx : x < 3) {k60 : sw_m → Int32 → Int32 → Option (Int32 × sw_m)} {u2 u3 : Int32} : ∃ g' μ', fSx_drawOnPaper N ln g (nI c) (nI pl) (nI x) = some g' ∧ (if (2 : Int32) ≤ nI x then fMo_days_132 N k60 μ u2 u3 (nI c) (nI x) else (fMo_canPut N μ (nI c) (nI pl)).bind fun ⟨v51, μ50⟩ => (if v51 = 0 then fMo_days_132 N k60 μ50 u2 u3 (nI c) (nI x) else wr 5654 ((7 : Int32) + nI c) (fun j => mI μ50 86 j (nI pl)) fun μ52 => fMo_days_132 N k60 μ52 u2 u3 (nI c) (nI x))) = fMo_days_149 N k60 μ' u2 u3 ∧ KI (μ'.1 86) Lw n w L ∧ PQ ln M g' 19 (μ'.1 86) Lw L ∧ DG g g' ∧ DM μ μ' ∧ μ'.1 86 14 = μ.1 86 14 ∧ μ'.1 84 52 = μ.1 84 52 := by
  have hn7 := K.n7
  by_cases h2 : x = 2
  · subst h2
    obtain ⟨a1, a2, a3, a4⟩ := pap_upd K P hc (v := -1) (.inl rfl)
    refine ⟨_, _, ?_, ?_, a1, a2, a3, a4, by rw [mI_at, if_neg (by omega)], by rw [mI_at, if_neg (by omega)]⟩
    · rw [fSx_drawOnPaper, if_pos (show nI 2 = 2 from rfl), wr_nI (by omega) (by decide)]
    · rw [if_pos (by decide), fMo_days_132, if_pos (show nI 2 = 2 from rfl), i7, wr_nI (by omega) (by decide)]
  · have hx2 : ¬ nI x = 2 := fun q => h2 ((nI_eq (b := 2) (by omega) (by decide)).1 q)
    have e132 : ∀ μ', fMo_days_132 N k60 μ' u2 u3 (nI c) (nI x) = fMo_days_149 N k60 μ' u2 u3 := fun μ' => by rw [fMo_days_132, if_neg hx2]
    obtain ⟨r, g1, μ1, hr, e1, e2, f1, f2⟩ := canPut_sim hN (μ := μ) P K (by decide) hc (nI pl)
    rw [fSx_drawOnPaper, if_neg hx2, e1, Option.bind_some, if_neg (show ¬ (2 : Int32) ≤ nI x from nI_ge (b := 2) (by omega) (by decide)), e2, Option.bind_some]
    have K1 : KI (μ1.1 86) Lw n w L := by rw [f2.k]; exact K
    have P1 : PQ ln M g1 19 (μ1.1 86) Lw L := by rw [f2.k]; exact P.ga f1 (by decide) (by decide)
    have m1 : μ1.1 86 14 = μ.1 86 14 := by rw [f2.k]
    have m2 : μ1.1 84 52 = μ.1 84 52 := f2.2 84 52 (by decide) (by omega)
    rcases hr with rfl | rfl
    · simp only [if_true, e132]
      exact ⟨g1, μ1, rfl, rfl, K1, P1, f1.DG, f2.DM, m1, m2⟩
    · simp only [n10, if_false, e132]
      obtain ⟨a1, a2, a3, a4⟩ := pap_upd K1 P1 hc (v := nI pl) (.inr ⟨pl, rfl, hp⟩)
      refine ⟨_, _, ?_, ?_, a1, a2, f1.DG.trans a3, f2.DM.trans a4, by rw [mI_at, if_neg (by omega)]; exact m1, by rw [mI_at, if_neg (by omega)]; exact m2⟩
      · rw [wr_nI (by omega) (by decide)]
      · rw [i7, wr_nI (by omega) (by decide)]
theorem seed_step {s : Nat} (h : s ≤ 1000002) : ∃ s', s' ≤ 1000002 ∧ fSx_nextSeed (nI s) = some (nI s') ∧ ∀ (μ : sw_m) (b : Nat), μ.1 84 52 = nI s → 0 < b → b < 2 ^ 31 → fMo_draws μ (nI b) = some (nI (s' % b), mI μ 84 52 (nI s')) := by
  refine ⟨sed s, ?_, seed_x h, fun μ b hs h1 h2 => draws_m hs h h1 h2⟩
  have := sed_lt s
  omega
theorem dx_step {T i n s s1 s2 s3 dy fu : Nat} {g : sw_g} (hT : T ≤ 60) (hi : i < T) (h23 : g.1 23 0 = nI dy) (h9 : dy < 999) (h0 : 0 < n) (hn : n ≤ 7) (h10 : g.1 1 0 = nI n) (b1 : s1 < 2 ^ 31) (b2 : s2 < 2 ^ 31) (b3 : s3 < 2 ^ 31) (x1 : fSx_nextSeed (nI s) = some (nI s1)) (x2 : fSx_nextSeed (nI s1) = some (nI s2)) (x3 : fSx_nextSeed (nI s2) = some (nI s3)) : fSx_days_61 N ln (fu + 1) g (nI T) (nI s) (nI i) = (fSx_drawOnPaper N ln g (nI (s1 % n)) (nI (s2 % 7)) (nI (s3 % 3))).bind fun g32 => (fJu_passDay N ln g32 19).bind fun ⟨v35, g34⟩ => fSx_days_61 N ln fu g34 (nI T) (nI s3) (nI (i + 1)) := by
  have e7 : nI s2 - nI s2 / (7 : Int32) * (7 : Int32) = nI (s2 % 7) := nI_mod (b := 7) b2 (by decide)
  have e3 : nI s3 - nI s3 / (3 : Int32) * (3 : Int32) = nI (s3 % 3) := nI_mod (b := 3) b3 (by decide)
  have en : nI s1 - nI s1 / nI n * nI n = nI (s1 % n) := nI_mod b1 (by omega)
  have hz : ¬ nI n = 0 := fun q => by have := (nI_eq (b := 0) (by omega) (by decide)).1 q; omega
  rw [fSx_days_61, if_neg (nI_ge (by omega) (by omega)), rd_K 0 0 4 (by decide) (by decide), h23, if_neg (show ¬ (999 : Int32) ≤ nI dy from nI_ge (b := 999) h9 (by decide)), x1, Option.bind_some, h10, nz, if_neg hz, nm, en, x2, Option.bind_some, nm, e7, x3, Option.bind_some, e3]
  simp only [nm, nI_1]
theorem dm_step {T i n s1 s2 s3 dy fu : Nat} {μ : sw_m} (hT : T ≤ 60) (hi : i < T) (h14 : μ.1 86 14 = nI dy) (h9 : dy < 999) (hm : fMo_many μ = some (nI n, μ)) (m1 : fMo_draws μ (nI n) = some (nI (s1 % n), mI μ 84 52 (nI s1))) (m2 : fMo_draws (mI μ 84 52 (nI s1)) (nI 7) = some (nI (s2 % 7), mI (mI μ 84 52 (nI s1)) 84 52 (nI s2))) (m3 : fMo_draws (mI (mI μ 84 52 (nI s1)) 84 52 (nI s2)) (nI 3) = some (nI (s3 % 3), mI (mI (mI μ 84 52 (nI s1)) 84 52 (nI s2)) 84 52 (nI s3))) : fMo_days_60 N (fu + 1) μ (nI T) (nI i) = (if (2 : Int32) ≤ nI (s3 % 3) then fMo_days_132 N (fMo_days_60 N fu) (mI (mI (mI μ 84 52 (nI s1)) 84 52 (nI s2)) 84 52 (nI s3)) (nI T) (nI i) (nI (s1 % n)) (nI (s3 % 3)) else (fMo_canPut N (mI (mI (mI μ 84 52 (nI s1)) 84 52 (nI s2)) 84 52 (nI s3)) (nI (s1 % n)) (nI (s2 % 7))).bind fun ⟨v51, μ50⟩ => (if v51 = 0 then fMo_days_132 N (fMo_days_60 N fu) μ50 (nI T) (nI i) (nI (s1 % n)) (nI (s3 % 3)) else wr 5654 ((7 : Int32) + nI (s1 % n)) (fun j => mI μ50 86 j (nI (s2 % 7))) fun μ52 => fMo_days_132 N (fMo_days_60 N fu) μ52 (nI T) (nI i) (nI (s1 % n)) (nI (s3 % 3)))) := by
  have m2' : fMo_draws (mI μ 84 52 (nI s1)) (7 : Int32) = some (nI (s2 % 7), mI (mI μ 84 52 (nI s1)) 84 52 (nI s2)) := m2
  have m3' : fMo_draws (mI (mI μ 84 52 (nI s1)) 84 52 (nI s2)) (3 : Int32) = some (nI (s3 % 3), mI (mI (mI μ 84 52 (nI s1)) 84 52 (nI s2)) 84 52 (nI s3)) := m3
  rw [fMo_days_60, if_neg (nI_ge (by omega) (by omega)), rd_K 14 14 5654 (by decide) (by decide), h14, if_neg (show ¬ (999 : Int32) ≤ nI dy from nI_ge (b := 999) h9 (by decide)), hm, Option.bind_some]
  simp only []
  rw [m1, Option.bind_some]
  simp only []
  rw [m2', Option.bind_some]
  simp only []
  rw [m3', Option.bind_some]
theorem days_loop (hN : 3000 ≤ N) {T : Nat} (hT : T ≤ 60) (h0 : 0 < n) : ∀ (d i fu fm : Nat) (g : sw_g) (μ : sw_m) (s : Nat), i + d = T → d < fu → d < fm → KI (μ.1 86) Lw n w L → PQ ln M g 19 (μ.1 86) Lw L → μ.1 84 52 = nI s → s ≤ 1000002 → g.1 1 0 = nI n → ∃ g' μ', fSx_days_61 N ln fu g (nI T) (nI s) (nI i) = fSx_days_143 N ln g' ∧ fMo_days_60 N fm μ (nI T) (nI i) = fMo_days_160 N μ' ∧ KI (μ'.1 86) Lw n w L ∧ PQ ln M g' 19 (μ'.1 86) Lw L ∧ DG g g' ∧ DM μ μ' := by
  intro d
  induction d with
  | zero =>
    intro i fu fm g μ s hi hfu hfm K P hs hs' h10
    obtain ⟨fu, rfl⟩ : ∃ z, fu = z + 1 := ⟨fu - 1, by omega⟩
    obtain ⟨fm, rfl⟩ : ∃ z, fm = z + 1 := ⟨fm - 1, by omega⟩
    rw [fSx_days_61, fMo_days_60, if_pos (nI_le (by omega) (by omega)), if_pos (nI_le (by omega) (by omega))]
    exact ⟨g, μ, rfl, rfl, K, P, DG.refl, DM.refl⟩
  | succ d ih =>
    intro i fu fm g μ s hi hfu hfm K P hs hs' h10
    obtain ⟨fu, rfl⟩ : ∃ z, fu = z + 1 := ⟨fu - 1, by omega⟩
    obtain ⟨fm, rfl⟩ : ∃ z, fm = z + 1 := ⟨fm - 1, by omega⟩
    have hn7 := K.n7
    obtain ⟨dy, hdy, hdy'⟩ := K.co.2
    have h23 : g.1 23 0 = nI dy := (show g.1 23 0 = μ.1 86 14 from P.2.2.1.1).trans hdy
    by_cases h9 : 999 ≤ dy
    · have hd : (999 : Int32) ≤ nI dy := nI_le (a := 999) h9 (by omega)
      rw [fSx_days_61, fMo_days_60, if_neg (nI_ge (by omega) (by omega)), if_neg (nI_ge (by omega) (by omega)), rd_K 0 0 4 (by decide) (by decide), rd_K 14 14 5654 (by decide) (by decide), h23, hdy, if_pos hd, if_pos hd]
      exact ⟨g, μ, rfl, rfl, K, P, DG.refl, DM.refl⟩
    · obtain ⟨s1, b1, x1, m1⟩ := seed_step hs'
      obtain ⟨s2, b2, x2, m2⟩ := seed_step b1
      obtain ⟨s3, b3, x3, m3⟩ := seed_step b2
      rw [dx_step hT (by omega) h23 (by omega) h0 hn7 h10 (by omega) (by omega) (by omega) x1 x2 x3, dm_step hT (by omega) hdy (by omega) (many_eq K) (m1 μ n hs h0 (by omega)) (m2 _ 7 (by rw [mI_at, if_pos ⟨rfl, rfl⟩]) (by decide) (by decide)) (m3 _ 3 (by rw [mI_at, if_pos ⟨rfl, rfl⟩]) (by decide) (by decide))]
      generalize hμ3 : mI (mI (mI μ 84 52 (nI s1)) 84 52 (nI s2)) 84 52 (nI s3) = μ3
      have f3 : ∀ p j, (p = 84 → j ≠ 52) → μ3.1 p j = μ.1 p j := by
        intro p j h
        subst hμ3
        rw [mI_at, if_neg (fun q => h q.1 q.2), mI_at, if_neg (fun q => h q.1 q.2), mI_at, if_neg (fun q => h q.1 q.2)]
      have f3' : μ3.1 84 52 = nI s3 := by subst hμ3; rw [mI_at, if_pos ⟨rfl, rfl⟩]
      have k3 : μ3.1 86 = μ.1 86 := funext fun j => f3 86 j (by omega)
      have K3 : KI (μ3.1 86) Lw n w L := by rw [k3]; exact K
      have P3 : PQ ln M g 19 (μ3.1 86) Lw L := by rw [k3]; exact P
      have dm3 : DM μ μ3 := ⟨fun j _ => by rw [k3], fun p j _ _ _ h => f3 p j (fun e => (h e).2)⟩
      obtain ⟨g4, μ4, a1, a2, a3, a4, a5, a6, a7, a8⟩ := draw_sim hN (μ := μ3) K3 P3 (c := s1 % n) (pl := s2 % 7) (x := s3 % 3) (Nat.mod_lt _ h0) (by omega) (by omega) (k60 := fMo_days_60 N fm) (u2 := nI T) (u3 := nI i)
      rw [a1, Option.bind_some, a2]
      obtain ⟨g5, b1', b2', b3'⟩ := passDay_eq hN a4 a3 (by decide)
      obtain ⟨μ5, c1, c2, c3⟩ := mday_eq hN a3
      rw [b1', Option.bind_some, fMo_days_149, c1, Option.bind_some]
      simp only [nm, nI_1]
      have K5 : KI (μ5.1 86) Lw n w L := by
        rw [c2]
        refine a3.day ?_
        rw [a7, k3, hdy]
        intro q
        have := (nI_eq (by omega) (by decide)).1 q
        omega
      have dg5 : DG g4 g5 := ⟨fun p x y => b3'.1 p (by omega) (by omega) y, b3'.2.2⟩
      have dm5 : DM μ4 μ5 := by
        refine ⟨fun j hj => ?_, fun p j x y z u => c3.2 p j x y z (fun e => (u e).1)⟩
        rw [c2]; unfold dyK; rw [if_neg (by omega), dk_hi (by omega)]
      obtain ⟨g6, μ6, r1, r2, r3, r4, r5, r6⟩ := ih (i + 1) fu fm g5 μ5 s3 (by omega) (by omega) (by omega) K5 (by rw [c2]; exact b2') (by rw [c3.2 84 52 (by decide) (by decide) (by decide) (by omega), a8, f3']) (by omega) (by rw [dg5.1 1 (by decide) (by decide), a5.1 1 (by decide) (by decide), h10])
      exact ⟨g6, μ6, r1, r2, r3, r4, (a5.trans dg5).trans r5, ((dm3.trans a6).trans dm5).trans r6⟩
theorem aside_2 {a : Nat} (ha : a ≤ 1) : ∀ (d j fu : Nat) (μ : sw_m), j + d = 15 → d < fu → ∃ μ', fMo_laysAside_2 N fu μ (nI a) (nI j) = some μ' ∧ (∀ i, j ≤ i → i < 15 → μ'.1 89 (15 * a + i) = μ.1 86 i) ∧ (∀ i, i < 15 * a + j ∨ 15 * a + 15 ≤ i → μ'.1 89 i = μ.1 89 i) ∧ (∀ p i, p ≠ 89 → μ'.1 p i = μ.1 p i) := by
  intro d
  induction d with
  | zero =>
    intro j fu μ hj hfu
    obtain ⟨fu, rfl⟩ : ∃ z, fu = z + 1 := ⟨fu - 1, by omega⟩
    obtain rfl : j = 15 := by omega
    rw [fMo_laysAside_2, if_pos (by decide)]
    exact ⟨μ, rfl, fun i x y => by omega, fun _ _ => rfl, fun _ _ _ => rfl⟩
  | succ d ih =>
    intro j fu μ hj hfu
    obtain ⟨fu, rfl⟩ : ∃ z, fu = z + 1 := ⟨fu - 1, by omega⟩
    rw [fMo_laysAside_2, if_neg (show ¬ (15 : Int32) ≤ nI j from nI_ge (b := 15) (by omega) (by decide)), rd_nI (by omega) (by decide), show (15 : Int32) * nI a = nI (15 * a) from nI_mul 15 a, nI_add, wr_nI (by omega) (by decide)]
    simp only [nm, nI_1]
    obtain ⟨μ', q1, q2, q3, q4⟩ := ih (j + 1) fu (mI μ 89 (15 * a + j) (μ.1 86 j)) (by omega) (by omega)
    refine ⟨μ', q1, fun i x y => ?_, fun i hi => ?_, fun p i hp => ?_⟩
    · by_cases hij : i = j
      · subst hij; rw [q3 _ (by omega), mI_at, if_pos ⟨rfl, rfl⟩]
      · rw [q2 i (by omega) y, mI_at, if_neg (by omega)]
    · rw [q3 i (by omega), mI_at, if_neg (by omega)]
    · rw [q4 p i hp, mI_at, if_neg (fun q => hp q.1)]
theorem takes_2 {a : Nat} (ha : a ≤ 1) : ∀ (d j fu : Nat) (μ : sw_m), j + d = 15 → d < fu → ∃ μ', fMo_takesBack_2 N fu μ (nI a) (nI j) = some μ' ∧ (∀ i, j ≤ i → i < 15 → μ'.1 86 i = μ.1 89 (15 * a + i)) ∧ (∀ i, i < j ∨ 15 ≤ i → μ'.1 86 i = μ.1 86 i) ∧ (∀ p i, p ≠ 86 → μ'.1 p i = μ.1 p i) := by
  intro d
  induction d with
  | zero =>
    intro j fu μ hj hfu
    obtain ⟨fu, rfl⟩ : ∃ z, fu = z + 1 := ⟨fu - 1, by omega⟩
    obtain rfl : j = 15 := by omega
    rw [fMo_takesBack_2, if_pos (by decide)]
    exact ⟨μ, rfl, fun i x y => by omega, fun _ _ => rfl, fun _ _ _ => rfl⟩
  | succ d ih =>
    intro j fu μ hj hfu
    obtain ⟨fu, rfl⟩ : ∃ z, fu = z + 1 := ⟨fu - 1, by omega⟩
    rw [fMo_takesBack_2, if_neg (show ¬ (15 : Int32) ≤ nI j from nI_ge (b := 15) (by omega) (by decide)), show (15 : Int32) * nI a = nI (15 * a) from nI_mul 15 a, nI_add, rd_nI (by omega) (by decide), wr_nI (by omega) (by decide)]
    simp only [nm, nI_1]
    obtain ⟨μ', q1, q2, q3, q4⟩ := ih (j + 1) fu (mI μ 86 j (μ.1 89 (15 * a + j))) (by omega) (by omega)
    refine ⟨μ', q1, fun i x y => ?_, fun i hi => ?_, fun p i hp => ?_⟩
    · by_cases hij : i = j
      · subst hij; rw [q3 _ (by omega), mI_at, if_pos ⟨rfl, rfl⟩]
      · rw [q2 i (by omega) y, mI_at, if_neg (by omega)]
    · rw [q3 i (by omega), mI_at, if_neg (by omega)]
    · rw [q4 p i hp, mI_at, if_neg (fun q => hp q.1)]
theorem days_171 (hN : 3000 ≤ N) {v : Int32} : ∀ (d j fu : Nat) (μ : sw_m), j + d = 15 → d < fu → ∃ μ', fMo_days_171 N fu μ v (nI j) = (fMo_good μ' v).bind (fun ⟨v27, μ26⟩ => some (v27, μ26)) ∧ (∀ i, i < 15 → μ'.1 86 i = μ.1 89 i) ∧ (∀ i, 15 ≤ i → μ'.1 86 i = μ.1 86 i) ∧ (∀ i, j ≤ i → i < 15 → μ'.1 109 i = μ.1 86 i) ∧ (∀ i, i < j → μ'.1 109 i = μ.1 109 i) ∧ (∀ p i, p ≠ 86 → p ≠ 109 → μ'.1 p i = μ.1 p i) := by
  intro d
  induction d with
  | zero =>
    intro j fu μ hj hfu
    obtain ⟨fu, rfl⟩ : ∃ z, fu = z + 1 := ⟨fu - 1, by omega⟩
    obtain rfl : j = 15 := by omega
    obtain ⟨μ1, e1, e2, e3, e4⟩ := takes_2 (N := N) (a := 0) (by decide) 15 0 N μ rfl (by omega)
    refine ⟨μ1, ?_, fun i hi => ?_, fun i hi => e3 i (.inr hi), fun i x y => by omega, fun i hi => e4 109 i (by decide), fun p i x y => e4 p i x⟩
    · rw [fMo_days_171, if_pos (by decide), fMo_takesBack, show fMo_takesBack_2 N N μ (0 : Int32) (0 : Int32) = _ from e1, Option.bind_some]
    · rw [e2 i (Nat.zero_le _) hi, Nat.mul_zero, Nat.zero_add]
  | succ d ih =>
    intro j fu μ hj hfu
    obtain ⟨fu, rfl⟩ : ∃ z, fu = z + 1 := ⟨fu - 1, by omega⟩
    rw [fMo_days_171, if_neg (show ¬ (15 : Int32) ≤ nI j from nI_ge (b := 15) (by omega) (by decide)), rd_nI (by omega) (by decide), wr_nI (by omega) (by decide)]
    simp only [nm, nI_1]
    obtain ⟨μ', q1, q2, q3, q4, q5, q6⟩ := ih (j + 1) fu (mI μ 109 j (μ.1 86 j)) (by omega) (by omega)
    refine ⟨μ', q1, fun i hi => ?_, fun i hi => ?_, fun i x y => ?_, fun i hi => ?_, fun p i x y => ?_⟩
    · rw [q2 i hi, mI_at, if_neg (by omega)]
    · rw [q3 i hi, mI_at, if_neg (by omega)]
    · by_cases hij : i = j
      · subst hij; rw [q5 _ (by omega), mI_at, if_pos ⟨rfl, rfl⟩]
      · rw [q4 i (by omega) y, mI_at, if_neg (by omega)]
    · rw [q5 i (by omega), mI_at, if_neg (by omega)]
    · rw [q6 p i x y, mI_at, if_neg (fun q => y q.1)]
theorem days_CR (hN : 3000 ≤ N) {g : sw_g} {μ : sw_m} (h : RR ln M g μ) (a b : Int32) : CR ln M (fSx_days N ln g a b) (fMo_days N μ a b) := by
  have h0 := h
  obtain ⟨Lw, n, w, L, K, P, h1, h2, h3, h4, h5⟩ := h
  have hn7 := K.n7
  have rf : CR ln M (fSx_days_22 N ln g) (fMo_days_20 N μ) := by
    rw [fSx_days_22, fMo_days_20]; exact (refuse_CR h0 (.inl rfl)).wrap
  rw [fSx_days, fMo_days, fMo_lies]
  by_cases c1 : a < 0
  · rw [if_pos c1, if_pos c1, Option.bind_some, if_pos rfl]; exact rf
  rw [if_neg c1, if_neg c1]
  by_cases c2 : (1000000 : Int32) < a
  · rw [if_pos c2, if_pos c2, Option.bind_some, if_pos rfl]; exact rf
  rw [if_neg c2, if_neg c2, Option.bind_some, if_neg n10, fMo_lies]
  by_cases c3 : b < (1 : Int32)
  · rw [if_pos c3, if_pos c3, Option.bind_some, if_pos rfl]; exact rf
  rw [if_neg c3, if_neg c3]
  by_cases c4 : ¬ b ≤ (60 : Int32)
  · have : (60 : Int32) < b := by rw [Int32.lt_iff_toInt_lt]; rw [Int32.le_iff_toInt_le] at c4; omega
    rw [if_neg c4, if_pos this, Option.bind_some, if_pos rfl]; exact rf
  have c4 : b ≤ (60 : Int32) := Classical.not_not.1 c4
  have c4' : ¬ (60 : Int32) < b := by rw [Int32.lt_iff_toInt_lt]; rw [Int32.le_iff_toInt_le] at c4; omega
  rw [if_pos c4, if_neg c4', Option.bind_some, if_neg n10, many_eq K, Option.bind_some, P.1, K.hn]
  simp only []
  by_cases c5 : n = 0
  · subst c5
    rw [if_pos (show nI 0 = 0 from rfl), if_pos (show nI 0 = 0 from rfl)]
    exact (refuse_CR h0 (.inr (.inr (.inl rfl)))).wrap
  have c5' : ¬ nI n = 0 := fun q => c5 ((nI_eq (b := 0) (by omega) (by decide)).1 q)
  rw [if_neg c5', if_neg c5']
  obtain ⟨s, hs, rfl⟩ := nI_of c1
  obtain ⟨T, hT, rfl⟩ := nI_of (show ¬ b < 0 from fun q => c3 (by rw [Int32.lt_iff_toInt_lt] at q ⊢; have : (0 : Int32).toInt = 0 := rfl; have : (1 : Int32).toInt = 1 := rfl; omega))
  have hs' : s ≤ 1000000 := by
    refine Nat.le_of_not_lt (fun q => c2 ?_)
    exact nI_lt (a := 1000000) q hs
  have hT' : T ≤ 60 := by
    refine Nat.le_of_not_lt (fun q => c4' ?_)
    exact nI_lt (a := 60) q hT
  obtain ⟨g1, e1, pe, pf⟩ := become_eq (N := N) (ln := ln) (q0 := 19) (q1 := 1) hN (by decide) g
  have P19 := P.become K.L6 pe pf (by decide) (.inl (by decide))
  simp only [nm]
  generalize hμ1 : mI μ 84 52 (nI s) = μ1
  have k1 : μ1.1 86 = μ.1 86 := by subst hμ1; funext j; rw [mI_at, if_neg (by omega)]
  rw [many_eq (by rw [k1]; exact K), Option.bind_some]
  simp only []
  generalize hμ2 : mI μ1 84 51 (nI n) = μ2
  have f2 : ∀ p j, (p = 84 → j ≠ 51 ∧ j ≠ 52) → μ2.1 p j = μ.1 p j := by
    intro p j hh
    subst hμ2 hμ1
    rw [mI_at, if_neg (fun q => (hh q.1).1 q.2), mI_at, if_neg (fun q => (hh q.1).2 q.2)]
  have f2s : μ2.1 84 52 = nI s := by subst hμ2 hμ1; rw [mI_at, if_neg (by omega), mI_at, if_pos ⟨rfl, rfl⟩]
  have f2n : μ2.1 84 51 = nI n := by subst hμ2; rw [mI_at, if_pos ⟨rfl, rfl⟩]
  obtain ⟨μ3, x1, x2, _, x4⟩ := aside_2 (N := N) (a := 0) (by decide) 15 0 N μ2 rfl (by omega)
  have k3 : μ3.1 86 = μ.1 86 := funext fun j => by rw [x4 86 j (by decide), f2 86 j (by omega)]
  obtain ⟨g4, μ4, r1, r2, r3, r4, r5, r6⟩ := days_loop (N := N) (ln := ln) (M := M) (Lw := Lw) (n := n) (w := w) (L := L) hN hT' (by omega) T 0 N N g1 μ3 s (by omega) (by omega) (by omega) (by rw [k3]; exact K) (by rw [k3]; exact P19) (by rw [x4 84 52 (by decide), f2s]) (by omega) (by rw [pf.1 1 (by decide), P.1, K.hn])
  rw [e1, Option.bind_some, show fSx_days_61 N ln N g1 (nI T) (nI s) (0 : Int32) = _ from r1, fMo_laysAside, show fMo_laysAside_2 N N μ2 (0 : Int32) (0 : Int32) = _ from x1, Option.bind_some, show fMo_days_60 N N μ3 (nI T) (0 : Int32) = _ from r2]
  obtain ⟨t, t1, t2⟩ := textOf_eq r4 r3.hL r3.L6 (a := μ4.1 86 46) r3.fo
  obtain ⟨g5, y1, y2⟩ := tiltBy_eq hN r4 r3 (by decide) t2
  obtain ⟨μ5, z1, z2⟩ := mtilt_eq hN r3
  obtain ⟨μ6, w1, w2, w3, w4, _, w6⟩ := days_171 (N := N) hN (v := jabs (tiltK (μ4.1 86) (lawAt Lw (μ4.1 86 46)) n)) 15 0 N μ5 rfl (by omega)
  have hx : fSx_days_143 N ln g4 = (fSx_told ln g5 (jabs (tiltK (μ4.1 86) (lawAt Lw (μ4.1 86 46)) n))).bind (fun ⟨v15, g14⟩ => some (v15, g14)) := by
    rw [fSx_days_143, show g4.1 19 11 = μ4.1 86 46 from r4.2.2.2.2.2.2.1, t1, Option.bind_some]
    cases t with
    | none => simp only; rw [y1]; rfl
    | some p => simp only; rw [y1]; rfl
  rw [hx, fMo_days_160, z1, Option.bind_some]
  simp only []
  rw [either_eq, Option.bind_some, show fMo_days_171 N N μ5 (jabs (tiltK (μ4.1 86) (lawAt Lw (μ4.1 86 46)) n)) (0 : Int32) = _ from w1]
  have mm : ∀ p j, p ≠ 86 → p ≠ 109 → p ≠ 89 → p ≠ 96 → p ≠ 97 → (p = 84 → (j < 22 ∨ 25 < j) ∧ j ≠ 52 ∧ j ≠ 51) → μ6.1 p j = μ.1 p j := by
    intro p j a1 a2 a3 a4 a5 a6
    rw [w6 p j a1 a2, z2.2 p j a4 (fun e => (a6 e).1), r6.2 p j a1 a4 a5 (fun e => ⟨(a6 e).1, (a6 e).2.1⟩), x4 p j a3, f2 p j (fun e => ⟨(a6 e).2.2, (a6 e).2.1⟩)]
  have m86 : μ6.1 86 = μ.1 86 := by
    funext j
    by_cases hj : j < 15
    · rw [w2 j hj, z2.2 89 j (by decide) (by omega), r6.2 89 j (by decide) (by decide) (by decide) (by omega)]
      have := x2 j (Nat.zero_le _) hj
      rw [Nat.mul_zero, Nat.zero_add] at this
      rw [this, f2 86 j (by omega)]
    · rw [w3 j (by omega), z2.k, r6.1 j (by omega), k3]
  have gg : ∀ p, (p < 19 ∨ 26 < p) → (p < 43 ∨ 45 < p) → g5.1 p = g.1 p := by
    intro p a1 a2
    rw [y2.1 p a2, r5.1 p a1 a2, pf.1 p (by omega)]
  have gr : ∀ p, p ≠ 27 → g5.2.2 p = g.2.2 p := by
    intro p hp
    rw [y2.2, r5.2, pf.2 p (by omega)]
  have P5 : PQ ln M g5 19 (μ4.1 86) Lw L := r4.ga y2 (by decide) (by decide)
  refine (told_CR (?_ : RR ln M g5 μ6) _).wrap
  refine ⟨Lw, n, w, L, by rw [m86]; exact K, ?_, ?_, ?_, ?_, ?_, ?_⟩
  · rw [m86]
    exact P.frame (fun p a1 a2 => gg p (by omega) (by omega)) (fun p a1 _ => gg p (by omega) (by omega)) (gr 9 (by decide)) (gr 28 (by decide))
  · exact h1.frame (gg 29 (by decide) (by decide)) (gg 30 (by decide) (by decide)) (mm 84 33 (by decide) (by decide) (by decide) (by decide) (by decide) (by omega)) (funext fun j => mm 98 j (by decide) (by decide) (by decide) (by decide) (by decide) (by omega))
  · exact h2.frame (by rw [gg 33 (by decide) (by decide)]) (gg 34 (by decide) (by decide)) (mm 84 13 (by decide) (by decide) (by decide) (by decide) (by decide) (by omega)) (funext fun j => mm 91 j (by decide) (by decide) (by decide) (by decide) (by decide) (by omega)) (funext fun j => mm 90 j (by decide) (by decide) (by decide) (by decide) (by decide) (by omega))
  · obtain ⟨a1, a2, a3, a4, a5, a6, a7, a8, a9⟩ := h3
    have m84 : ∀ j, (j < 22 ∨ 25 < j) → j ≠ 52 → j ≠ 51 → μ6.1 84 j = μ.1 84 j := fun j x y z => mm 84 j (by decide) (by decide) (by decide) (by decide) (by decide) (fun _ => ⟨x, y, z⟩)
    have m85 : ∀ j, μ6.1 85 j = μ.1 85 j := fun j => mm 85 j (by decide) (by decide) (by decide) (by decide) (by decide) (by omega)
    unfold RM
    rw [gg 33 (by decide) (by decide), gg 0 (by decide) (by decide), gg 83 (by decide) (by decide), m84 14 (by decide) (by decide) (by decide), m84 43 (by decide) (by decide) (by decide), m84 6 (by decide) (by decide) (by decide), m84 0 (by decide) (by decide) (by decide), m85, m85, m85, m85, m85]
    exact ⟨a1, a2, a3, a4, a5, a6, a7, a8, a9⟩
  · refine .inr ⟨n, hn7, ?_, ?_, fun c hc => ?_⟩
    · rw [P5.1, r3.hn]
    · rw [w6 84 51 (by decide) (by decide), z2.2 84 51 (by decide) (by omega), r6.2 84 51 (by decide) (by decide) (by decide) (by omega), x4 84 51 (by decide), f2n]
    · rw [w4 c (Nat.zero_le _) (by omega), w4 (7 + c) (Nat.zero_le _) (by omega), z2.k]
      exact ⟨(P5.2.1 c hc).1, (P5.2.1 c hc).2.2⟩
  · exact h5.frame (fun p hp => gg p (by omega) (by omega)) (fun p hp => gr p (by omega)) (funext fun j => mm 87 j (by decide) (by decide) (by decide) (by decide) (by decide) (by omega)) (funext fun j => mm 88 j (by decide) (by decide) (by decide) (by decide) (by decide) (by omega))
end
