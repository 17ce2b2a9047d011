/-! ===== orders, whole ===== -/
theorem hist_become {ln : Nat → Nat} {g : sw_g} {q0 q1 : Nat} (hq : q0 + 1 < q1 ∨ q1 + 1 < q0) : ∃ g', fHi_become ln g q0 q1 = some g' ∧ g'.1 q0 0 = g.1 q1 0 ∧ g'.1 q0 1 = g.1 q1 1 ∧ (∀ j, j < 256 → g'.1 (q0 + 1) j = g.1 (q1 + 1) j) ∧ (∀ p, p ≠ q0 → p ≠ q0 + 1 → g'.1 p = g.1 p) ∧ g'.2 = g.2 := by
  rw [fHi_become]
  simp only [nm]
  generalize h1 : gI g q0 0 (g.1 q1 0) = g1
  generalize h2 : gI g1 q0 1 (g1.1 q1 1) = g2
  rw [cp_nI (x := 0) (y := 0) (z := 256) (a := 0) (b := 0) (c := 256) rfl rfl rfl (by decide) (by decide) (by decide) (by decide)]
  generalize h3 : gW g2 (q0 + 1) (va_cpy (g2.1 (q1 + 1)) (g2.1 (q0 + 1)) 0 0 256) = g3
  obtain ⟨a1, b1, c1, d1⟩ := putF h1
  obtain ⟨a2, b2, c2, d2⟩ := putF h2
  obtain ⟨a3, b3, d3⟩ := cpF h3
  refine ⟨g3, rfl, ?_, ?_, fun j hj => ?_, fun p x y => ?_, by rw [d3, d2, d1]⟩
  · rw [a3 q0 (by omega), b2 0 (by decide), c1]
  · rw [a3 q0 (by omega), c2, a1 q1 (by omega)]
  · rw [b3 j hj, a2 (q1 + 1) (by omega), a1 (q1 + 1) (by omega)]
  · rw [a3 p y, a2 p x, a1 p x]
theorem RH.cells {g g' : sw_g} {μ μ' : sw_m} {n : Nat} (hn : n ≤ 7) (h : RH g μ n) (a0 : g'.1 29 0 = g.1 29 0) (a1 : g'.1 29 1 = g.1 29 1) (b : ∀ j, j < 256 → g'.1 30 j = g.1 30 j) (c : μ'.1 84 33 = μ.1 84 33) (d : ∀ x, x < 256 → μ'.1 98 x = μ.1 98 x) : RH g' μ' n := by
  obtain ⟨x, nx, h1, h2, h3, h4, h5, h6⟩ := h
  refine ⟨x, nx, by rw [a0, h1], by rw [c, h2], h3, by rw [a1, h4], h5, fun i hi => ⟨fun j hj => ?_, ?_⟩⟩
  · have := Nat.mod_lt (nx + 16 - x + i) (show 0 < 16 by decide)
    rw [b _ (by omega), d _ (by omega)]; exact (h6 i hi).1 j hj
  · obtain ⟨q1, q2⟩ := (h6 i hi).2
    refine ⟨fun y hy => ?_, ?_⟩
    · show (∃ a, μ'.1 98 (16 * i + y) = nI a ∧ 1 ≤ a ∧ a ≤ 30) ∧ (μ'.1 98 (16 * i + (7 + y)) = -1 ∨ ∃ a, μ'.1 98 (16 * i + (7 + y)) = nI a ∧ a ≤ 6)
      rw [d (16 * i + y) (by omega), d (16 * i + (7 + y)) (by omega)]; exact q1 y hy
    · show ∃ a, μ'.1 98 (16 * i + 14) = nI a ∧ a ≤ 999
      rw [d (16 * i + 14) (by omega)]; exact q2
def o27E (N : Nat) (μ : sw_m) : Option (Int32 × sw_m) := nm (μ.1 84 33) fun x7 => (fMo_lays N μ (6 : Int32)).bind fun μ9 => nm (mI μ9 84 27 (0 : Int32)) fun μ10 => nm (mI μ10 84 28 (-1 : Int32)) fun μ11 => nm (mI μ11 84 44 (2400 : Int32)) fun μ12 => rd 5654 (53 : Int32) (μ12.1 86) fun v13 => nm ((μ12.1 84 44) + v13) fun x14 => fMo_orders_95 N N μ12 x7 x14 (0 : Int32)
def o122E (μ : sw_m) (u1 u3 : Int32) : Option (Int32 × sw_m) := nm (mI μ 84 33 u1) fun μ23 => nm (mI μ23 84 43 u3) fun μ24 => (fMo_refuses μ24 (-3 : Int32)).bind fun ⟨v27, μ26⟩ => some (v27, μ26)
section
variable {N : Nat} {ln : Nat → Nat} {M : Nat}
theorem o27 : ∀ (d j fu : Nat) (μ : sw_m), j + d = 256 → d < fu → ∃ μ', fMo_orders_27 N fu μ (nI j) = o27E N μ' ∧ (∀ x, j ≤ x → x < 256 → μ'.1 99 x = μ.1 98 x) ∧ (∀ x, x < j → μ'.1 99 x = μ.1 99 x) ∧ (∀ p x, p ≠ 99 → μ'.1 p x = μ.1 p x) := by
  intro d
  induction d with
  | zero =>
    intro j fu μ hj hfu
    obtain ⟨fu, rfl⟩ : ∃ z, fu = z + 1 := ⟨fu - 1, by omega⟩
    obtain rfl : j = 256 := by omega
    rw [fMo_orders_27, if_pos (by decide)]
    exact ⟨μ, rfl, fun x a b => by omega, fun _ _ => rfl, fun _ _ _ => rfl⟩
  | succ d ih =>
    intro j fu μ hj hfu
    obtain ⟨fu, rfl⟩ : ∃ z, fu = z + 1 := ⟨fu - 1, by omega⟩
    obtain ⟨μ', r1, r2, r3, r4⟩ := ih (j + 1) fu (mI μ 99 j (μ.1 98 j)) (by omega) (by omega)
    refine ⟨μ', ?_, fun x a b => ?_, fun x hx => ?_, fun p x hp => ?_⟩
    · rw [fMo_orders_27, if_neg (show ¬ (256 : Int32) ≤ nI j from nI_ge (b := 256) (by omega) (by decide)), rd_nI (by omega) (by decide), wr_nI (by omega) (by decide), nm, nI_1, r1]
    · by_cases hx : x = j
      · subst hx; rw [r3 x (by omega), mI_at, if_pos ⟨rfl, rfl⟩]
      · rw [r2 x (by omega) b, mI_at, if_neg (by omega)]
    · rw [r3 x (by omega), mI_at, if_neg (by omega)]
    · rw [r4 p x hp, mI_at, if_neg (fun q => hp q.1)]
theorem o122 {u1 u3 : Int32} : ∀ (d j fu : Nat) (μ : sw_m), j + d = 256 → d < fu → ∃ μ', fMo_orders_122 N fu μ u1 u3 (nI j) = o122E μ' u1 u3 ∧ (∀ x, j ≤ x → x < 256 → μ'.1 98 x = μ.1 99 x) ∧ (∀ x, x < j → μ'.1 98 x = μ.1 98 x) ∧ (∀ p x, p ≠ 98 → μ'.1 p x = μ.1 p x) := by
  intro d
  induction d with
  | zero =>
    intro j fu μ hj hfu
    obtain ⟨fu, rfl⟩ : ∃ z, fu = z + 1 := ⟨fu - 1, by omega⟩
    obtain rfl : j = 256 := by omega
    rw [fMo_orders_122, if_pos (by decide)]
    exact ⟨μ, rfl, fun x a b => by omega, fun _ _ => rfl, fun _ _ _ => rfl⟩
  | succ d ih =>
    intro j fu μ hj hfu
    obtain ⟨fu, rfl⟩ : ∃ z, fu = z + 1 := ⟨fu - 1, by omega⟩
    obtain ⟨μ', r1, r2, r3, r4⟩ := ih (j + 1) fu (mI μ 98 j (μ.1 99 j)) (by omega) (by omega)
    refine ⟨μ', ?_, fun x a b => ?_, fun x hx => ?_, fun p x hp => ?_⟩
    · rw [fMo_orders_122, if_neg (show ¬ (256 : Int32) ≤ nI j from nI_ge (b := 256) (by omega) (by decide)), rd_nI (by omega) (by decide), wr_nI (by omega) (by decide), nm, nI_1, r1]
    · by_cases hx : x = j
      · subst hx; rw [r3 x (by omega), mI_at, if_pos ⟨rfl, rfl⟩]
      · rw [r2 x (by omega) b, mI_at, if_neg (by omega)]
    · rw [r3 x (by omega), mI_at, if_neg (by omega)]
    · rw [r4 p x hp, mI_at, if_neg (fun q => hp q.1)]
theorem lays_6 {m : Nat} {T V : Nat → Int32} {μ : sw_m} (hN : 3000 ≤ N) (hm : m ≤ 400) (h18 : μ.1 84 18 = nI m) (hT : ∀ x, x < m → μ.1 93 x = T x ∧ μ.1 94 x = V x) : ∃ μ', fMo_lays N μ (6 : Int32) = some μ' ∧ μ'.1 86 53 = nI m ∧ (∀ x, x < m → μ'.1 86 (2454 + x) = T x ∧ μ'.1 86 (5254 + x) = V x) ∧ (∀ y, y ≠ 53 → (y < 2454 ∨ (2854 ≤ y ∧ y < 5254)) → μ'.1 86 y = μ.1 86 y) ∧ (∀ p y, p ≠ 86 → μ'.1 p y = μ.1 p y) := by
  obtain ⟨μ', e1, e2, e3, e4⟩ := lays_15 (N := N) (f := 6) (m := m) (T := T) (V := V) (by decide) hm m 0 N (mI μ 86 53 (nI m)) (by omega) (by omega) (by rw [mI_at, if_neg (by omega)]; exact h18) (fun x hx => by rw [mI_at, if_neg (by omega), mI_at, if_neg (by omega)]; exact hT x hx)
  refine ⟨μ', ?_, ?_, fun x hx => ?_, fun y a b => ?_, fun p y hp => ?_⟩
  · rw [fMo_lays, wr_K (47 + 6) 53 5654 (by decide) (by decide), h18]; exact e1
  · rw [e3 53 (by omega), mI_at, if_pos ⟨rfl, rfl⟩]
  · have q := e2 x (Nat.zero_le _) hx
    rw [show 54 + 400 * 6 + x = 2454 + x by omega, show 2854 + 400 * 6 + x = 5254 + x by omega] at q
    exact q
  · rw [e3 y (by omega), mI_at, if_neg (by omega)]
  · rw [e4 p y hp, mI_at, if_neg (fun q => hp q.1)]
theorem orest {g gf : sw_g} {μ μf : sw_m} (h2 : RT g μ) (h3 : RM g μ) (h4 : RD g μ) (h5 : RI ln M g μ) (fg : ∀ p, (p = 19 ∨ p = 20 ∨ p = 22 ∨ p = 33 ∨ p = 34 ∨ p = 81 ∨ p = 83 ∨ 110 ≤ p) → gf.1 p = g.1 p) (f0 : ∀ j, j ≠ 16 → gf.1 0 j = g.1 0 j) (fr : ∀ p, p = 28 ∨ 110 ≤ p → gf.2.2 p = g.2.2 p) (fm : ∀ p j, (p = 84 → j = 0 ∨ j = 6 ∨ j = 13 ∨ j = 14 ∨ j = 51) → (p = 84 ∨ p = 85 ∨ p = 87 ∨ p = 88 ∨ p = 90 ∨ p = 91 ∨ p = 109) → μf.1 p j = μ.1 p j) (h16 : gf.1 0 16 = μf.1 84 43) : RT gf μf ∧ RM gf μf ∧ RD gf μf ∧ RI ln M gf μf := by
  have r : ∀ p, (p = 85 ∨ p = 87 ∨ p = 88 ∨ p = 90 ∨ p = 91 ∨ p = 109) → μf.1 p = μ.1 p := fun p hp => funext fun j => fm p j (by omega) (by omega)
  refine ⟨h2.frame (by rw [fg 33 (by decide)]) (fg 34 (by decide)) (fm 84 13 (by decide) (by decide)) (r 91 (by decide)) (r 90 (by decide)), ?_, h4.frame (by rw [fg 19 (by decide)]) (fg 20 (by decide)) (fg 22 (by decide)) (fm 84 51 (by decide) (by decide)) (r 109 (by decide)), h5.frame (fun p hp => fg p (by omega)) fr (r 87 (by decide)) (r 88 (by decide))⟩
  obtain ⟨a1, a2, a3, a4, a5⟩ := h3
  unfold RM
  rw [fg 33 (by decide), f0 15 (by decide), f0 14 (by decide), fg 83 (by decide), r 85 (by decide), fm 84 14 (by decide) (by decide), fm 84 6 (by decide) (by decide), fm 84 0 (by decide) (by decide)]
  exact ⟨a1, h16, a3, a4, a5⟩
theorem orders_CR (hN : 3000 ≤ N) {g : sw_g} {μ : sw_m} (h : RR ln M g μ) (l1 : 500 ≤ ln 41) (l2 : ln 41 < 2147483648) : CR ln M (fSx_orders N ln g) (fMo_orders N μ) := by
  have hr1 : RR ln M (gI g 0 16 (-1)) (mI μ 84 43 (-1)) := by
    refine h.misc (fun p a b => by funext j; rw [gI_at, if_neg (by omega)]) rfl (fun p j a b => by rw [mI_at, if_neg (by omega)]) ?_
    obtain ⟨Lw, n, w, L, K, P, h1, h2, ⟨a1, a2, a3, a4, a5⟩, h4, h5⟩ := h
    simp only [RM, gI_at, mI_at]
    simp [a1, a3, a4, a5]
  rw [fSx_orders, fMo_orders, nm, nm]
  generalize gI g 0 16 (-1) = g1 at hr1 ⊢
  generalize mI μ 84 43 (-1) = μ1 at hr1 ⊢
  obtain ⟨t, B, t1, t2, t3, t4, t5, t6⟩ : RT g1 μ1 := by
    obtain ⟨_, _, _, _, _, _, _, x, _⟩ := hr1
    exact x
  rcases reads_sim (N := N) (ln := ln) (o := true) hN t1 t2 t3 (fun j hj => (t5 j hj).1) t4 (fun j hj => (t5 j hj).2) t6 with ⟨cs, T, V, m, u, C, g2, μ2, a1, a2, a3, a4, a5, a6, a7, a8, a9, a10, a11, a12, a13, b1, b2, b3, b4, b5, b6⟩ | ⟨φ, g2, μ2, a1, a2, a3, a4, a5, b1, b2, b3, b4⟩
  · have hr : RR ln M g2 μ2 := hr1.read a6.2 (by rw [a6.1]) b2.2 a7 b3 (by rw [a8, b4])
    obtain ⟨Lw, n, w, L, K, P, h1, h2, h3, h4, h5⟩ := hr
    have hL := K.L6
    have hn := K.n7
    rw [show fRe_reads N ln g1 (0 : Int32) = _ from a5, Option.bind_some, show fMo_readsAs N μ1 (1 : Int32) = _ from b1, Option.bind_some]
    simp only []
    rw [if_neg n10, if_neg n10]
    obtain ⟨g3, e1, pe, pf⟩ := become_eq (N := N) (ln := ln) (q0 := 10) (q1 := 1) hN (by decide) g2
    have P10 := P.become hL pe pf (by decide) (.inl (by decide))
    obtain ⟨g4, e2, i1, i2, i3, i4, i5⟩ := hist_become (ln := ln) (g := g3) (q0 := 31) (q1 := 29) (by decide)
    obtain ⟨μ3, x1, x2, _, x4⟩ := aside_2 (N := N) (a := 1) (by decide) 15 0 N μ2 rfl (by omega)
    obtain ⟨μ4, y1, y2, _, y4⟩ := o27 (N := N) 256 0 N μ3 rfl (by omega)
    rw [e1, Option.bind_some, e2, Option.bind_some, wr_K 1 1 19 (by decide) (by decide), wr_K 2 2 19 (by decide) (by decide), fMo_laysAside, show fMo_laysAside_2 N N μ2 (1 : Int32) (0 : Int32) = _ from x1, Option.bind_some, show fMo_orders_27 N N μ3 (0 : Int32) = _ from y1, o27E, nm]
    have m34 : ∀ p j, p ≠ 89 → p ≠ 99 → μ4.1 p j = μ2.1 p j := fun p j a b => by rw [y4 p j b, x4 p j a]
    obtain ⟨μ5, z1, z2, z3, z4, z5⟩ := lays_6 (T := T) (V := V) (μ := μ4) hN a3 (by rw [m34 84 18 (by decide) (by decide)]; exact b5) (fun x hx => by rw [m34 93 x (by decide) (by decide), m34 94 x (by decide) (by decide)]; exact b6 x hx)
    rw [z1, Option.bind_some, nm, nm, nm]
    generalize hμ6 : mI (mI (mI μ5 84 27 0) 84 28 (-1)) 84 44 2400 = μ6
    have f6 : ∀ p j, (p = 84 → j ≠ 27 ∧ j ≠ 28 ∧ j ≠ 44) → μ6.1 p j = μ5.1 p j := by
      intro p j hp; subst hμ6
      rw [mI_at, if_neg (fun q => by have := hp q.1; omega), mI_at, if_neg (fun q => by have := hp q.1; omega), mI_at, if_neg (fun q => by have := hp q.1; omega)]
    have k27 : μ6.1 84 27 = 0 := by subst hμ6; rw [mI_at, if_neg (by omega), mI_at, if_neg (by omega), mI_at, if_pos ⟨rfl, rfl⟩]
    have k28 : μ6.1 84 28 = -1 := by subst hμ6; rw [mI_at, if_neg (by omega), mI_at, if_pos ⟨rfl, rfl⟩]
    have k44 : μ6.1 84 44 = 2400 := by subst hμ6; rw [mI_at, if_pos ⟨rfl, rfl⟩]
    have k6 : μ6.1 86 = μ5.1 86 := funext fun j => f6 86 j (by omega)
    rw [rd_K 53 53 5654 (by decide) (by decide), nm, k6, z2, k44, show (2400 : Int32) + nI m = nI (2400 + m) from nI_add 2400 m, m34 84 33 (by decide) (by decide)]
    generalize hg5 : gI (gI g4 48 1 0) 48 2 (-1) = g5
    have g10 : ∀ p, p ≠ 31 → p ≠ 32 → p ≠ 48 → g5.1 p = g3.1 p := by
      intro p b c d; subst hg5; funext j
      rw [gI_at, if_neg (fun q => d q.1), gI_at, if_neg (fun q => d q.1), i4 p b c]
    have gs : ∀ p, (p < 10 ∨ 17 < p) → p ≠ 31 → p ≠ 32 → p ≠ 48 → g5.1 p = g2.1 p := fun p a b c d => by rw [g10 p b c d, pf.1 p (by omega)]
    have gr5 : g5.2.2 = g3.2.2 := by subst hg5; show g4.2.2 = _; rw [i5]
    have grs : ∀ p, p ≠ 18 → g5.2.2 p = g2.2.2 p := fun p hp => by rw [gr5, pf.2 p hp]
    have g48a : g5.1 48 1 = 0 := by subst hg5; rw [gI_at, if_neg (by omega), gI_at, if_pos ⟨rfl, rfl⟩]
    have g48b : g5.1 48 2 = -1 := by subst hg5; rw [gI_at, if_pos ⟨rfl, rfl⟩]
    have g31 : ∀ p, p = 31 ∨ p = 32 → g5.1 p = g4.1 p := by
      intro p hp; subst hg5; funext j
      rw [gI_at, if_neg (by omega), gI_at, if_neg (by omega)]
    have kk : ∀ y, y ≠ 53 → (y < 2454 ∨ (2854 ≤ y ∧ y < 5254)) → μ6.1 86 y = μ2.1 86 y := fun y a b => by rw [k6, z4 y a b, m34 86 y (by decide) (by decide)]
    have kin : ∀ j, inR j → μ6.1 86 j = μ2.1 86 j := fun j hj => by unfold inR at hj; exact kk j (by omega) (by omega)
    have ms : ∀ p j, p ≠ 86 → p ≠ 89 → p ≠ 99 → (p = 84 → j ≠ 27 ∧ j ≠ 28 ∧ j ≠ 44) → μ6.1 p j = μ2.1 p j := fun p j a b c d => by rw [f6 p j d, z5 p j a, m34 p j b c]
    have hAt : AtLo true (fun k => if k < 2400 + m then μ6.1 86 (54 + k) else 0) (fun k => μ6.1 86 (2854 + k)) (2400 + m) cs 2400 := by
      have q := a2.shift (a := 2400) (T' := fun k => if k < 2400 + m then μ6.1 86 (54 + k) else 0) (V' := fun k => μ6.1 86 (2854 + k)) (fun x _ hx => ?_) ?_
      · rw [Nat.zero_add, show m + 2400 = 2400 + m from Nat.add_comm _ _] at q
        exact q
      · obtain ⟨q1, q2⟩ := z3 x hx
        refine ⟨?_, ?_⟩
        · show (if x + 2400 < 2400 + m then μ6.1 86 (54 + (x + 2400)) else 0) = T x
          rw [if_pos (by omega), show 54 + (x + 2400) = 2454 + x by omega, k6, q1]
        · show μ6.1 86 (2854 + (x + 2400)) = V x
          rw [show 2854 + (x + 2400) = 5254 + x by omega, k6, q2]
      · show (if m + 2400 < 2400 + m then μ6.1 86 (54 + (m + 2400)) else 0) = T m
        rw [if_neg (by omega), a4 m (Nat.le_refl _)]
    have S : OS ln M cs C u (fun k => if k < 2400 + m then μ6.1 86 (54 + k) else 0) (fun k => μ6.1 86 (2854 + k)) (2400 + m) Lw n w L g5 μ6 := by
      refine ⟨⟨K.row kin, ?_, h1.frame (gs 29 (by decide) (by decide) (by decide) (by decide)) (gs 30 (by decide) (by decide) (by decide) (by decide)) (ms 84 33 (by decide) (by decide) (by decide) (by omega)) (funext fun j => ms 98 j (by decide) (by decide) (by decide) (by omega))⟩, ⟨by rw [gs 35 (by decide) (by decide) (by decide) (by decide)]; exact a9, a1, by rw [gs 35 (by decide) (by decide) (by decide) (by decide)]; exact a10, a11, by omega, l2, by rw [gs 41 (by decide) (by decide) (by decide) (by decide)]; exact a12, fun z c hz => (a13 z c hz).mono (fun x x1 x5 => by rw [gs (35 + x) (by omega) (by omega) (by omega) (by omega)]) (Nat.le_refl _) (fun _ _ => rfl)⟩, by rw [g48a, k27], by rw [g48b, k28], by omega, fun k hk => (if_pos hk).symm, fun k hk => if_neg (by omega), fun k hk => rfl⟩
      exact (P.frame (fun p x y => gs p (by omega) (by omega) (by omega) (by omega)) (fun p x _ => gs p (by omega) (by omega) (by omega) (by omega)) (grs 9 (by decide)) (grs 28 (by decide))).row (fun j hj => kk j (by omega) (by omega))
    rcases clauses_sim (N := N) hN (u1 := μ2.1 84 33) cs 0 2400 N N g5 μ6 (fun x => by rw [Nat.zero_add]) (by omega) hAt (by omega) (by omega) S k44 with ⟨z', g6, μ7, q1, q2, q3, q4⟩ | ⟨g6, μ7, q1, q2, q3, q4, q5⟩
    · rw [show fSx_orders_69 N ln N g5 (0 : Int32) = _ from q1, show fMo_orders_95 N N μ6 (μ2.1 84 33) (nI (2400 + m)) (0 : Int32) = _ from q2]
      obtain ⟨μ8, v1, v2, v3, v4⟩ := takes_2 (N := N) (a := 1) (by decide) 15 0 N μ7 rfl (by omega)
      obtain ⟨μ9, w1, w2, _, w4⟩ := o122 (N := N) (u1 := μ2.1 84 33) (u3 := nI z') 256 0 N μ8 rfl (by omega)
      obtain ⟨g8, e3, pe', pf'⟩ := become_eq (N := N) (ln := ln) (q0 := 1) (q1 := 10) hN (by decide) (gI g6 0 16 (nI z'))
      obtain ⟨g9, e4, j1, j2, j3, j4, j5⟩ := hist_become (ln := ln) (g := g8) (q0 := 29) (q1 := 31) (by decide)
      rw [oStop, nm, e3, Option.bind_some, e4, Option.bind_some, fMo_takesBack, show fMo_takesBack_2 N N μ7 (1 : Int32) (0 : Int32) = _ from v1, Option.bind_some, show fMo_orders_122 N N μ8 (μ2.1 84 33) (nI z') (0 : Int32) = _ from w1, o122E, nm, nm]
      refine (refuse_CR (?_ : RR ln M g9 (mI (mI μ9 84 33 (μ2.1 84 33)) 84 43 (nI z'))) (.inr (.inr (.inl rfl)))).wrap
      generalize hμf : mI (mI μ9 84 33 (μ2.1 84 33)) 84 43 (nI z') = μf
      have ff : ∀ p j, (p = 84 → j ≠ 33 ∧ j ≠ 43) → μf.1 p j = μ9.1 p j := by
        intro p j hp; subst hμf
        rw [mI_at, if_neg (fun q => by have := hp q.1; omega), mI_at, if_neg (fun q => by have := hp q.1; omega)]
      have f33 : μf.1 84 33 = μ2.1 84 33 := by subst hμf; rw [mI_at, if_neg (by omega), mI_at, if_pos ⟨rfl, rfl⟩]
      have f43 : μf.1 84 43 = nI z' := by subst hμf; rw [mI_at, if_pos ⟨rfl, rfl⟩]
      have ga : ∀ p, p ≠ 0 → (gI g6 0 16 (nI z')).1 p = g6.1 p := fun p hp => funext fun j => by rw [gI_at, if_neg (fun q => hp q.1)]
      have g8g : ∀ p, p ≠ 0 → 8 < p → g8.1 p = g6.1 p := fun p a b => by rw [pf'.1 p (by omega), ga p a]
      have g9g : ∀ p, 8 < p → (p < 10 ∨ 17 < p) → (p < 29 ∨ 32 < p) → (p < 43 ∨ 48 < p) → g9.1 p = g2.1 p := fun p a b c d => by rw [j4 p (by omega) (by omega), g8g p (by omega) a, q3.1 p (by omega) (by omega) (by omega) (by omega) (by omega) d, gs p b (by omega) (by omega) (by omega)]
      have g90 : ∀ j, g9.1 0 j = if j = 16 then nI z' else g2.1 0 j := by
        intro j
        rw [j4 0 (by decide) (by decide), pf'.1 0 (by decide), gI_at]
        by_cases hj : j = 16
        · rw [if_pos ⟨rfl, hj⟩, if_pos hj]
        · rw [if_neg (fun q => hj q.2), if_neg hj, q3.1 0 (by decide) (by decide) (by decide) (by decide) (by decide) (by decide), gs 0 (by decide) (by decide) (by decide) (by decide)]
      have g9r : ∀ p, p ≠ 9 → p ≠ 18 → g9.2.2 p = g2.2.2 p := fun p a b => by
        rw [j5, pf'.2 p a]
        show g6.2.2 p = _
        rw [q3.2, grs p b]
      have P10' : PQ ln M (gI g6 0 16 (nI z')) 10 (μ2.1 86) Lw L := by
        refine P10.frame (fun p x y => ?_) (fun p x _ => ?_) ?_ ?_
        · rw [ga p (by omega), q3.1 p (by omega) (by omega) (by omega) (by omega) (by omega) (by omega), g10 p (by omega) (by omega) (by omega)]
        · rw [ga p (by omega), q3.1 p (by omega) (by omega) (by omega) (by omega) (by omega) (by omega), g10 p (by omega) (by omega) (by omega)]
        · show g6.2.2 _ = _
          rw [q3.2, gr5]
        · show g6.2.2 _ = _
          rw [q3.2, gr5]
      have P1 := P10'.become hL pe' pf' (by decide) (.inl (by decide))
      have P9 : PQ ln M g9 1 (μ2.1 86) Lw L := P1.frame (fun p x y => j4 p (by omega) (by omega)) (fun p x _ => j4 p (by omega) (by omega)) (by rw [j5]) (by rw [j5])
      have kf : ∀ j, inR j → μf.1 86 j = μ2.1 86 j := by
        intro j hj
        rw [ff 86 j (by omega), w4 86 j (by decide)]
        by_cases h15 : j < 15
        · rw [v2 j (Nat.zero_le _) h15, q4.2 89 _ (by decide) (by decide) (by decide) (by decide) (by omega), f6 89 _ (by omega), z5 89 _ (by decide), y4 89 _ (by decide), x2 j (Nat.zero_le _) h15]
        · rw [v3 j (by omega), q4.1 j (by omega)]
          exact kin j hj
      have mf : ∀ p j, p ≠ 86 → p ≠ 98 → p ≠ 96 → p ≠ 97 → p ≠ 89 → p ≠ 99 → (p = 84 → j ≠ 33 ∧ j ≠ 43 ∧ (j < 22 ∨ 29 < j) ∧ (j < 44 ∨ 48 < j)) → μf.1 p j = μ2.1 p j := by
        intro p j a b c d e f hp
        rw [ff p j (fun q => ⟨(hp q).1, (hp q).2.1⟩), w4 p j b, v4 p j a, q4.2 p j a b c d (fun q => ⟨(hp q).1, (hp q).2.2⟩), ms p j a e f (fun q => by have := hp q; omega)]
      refine ⟨Lw, n, w, L, K.row kf, P9.row (fun j hj => kf j (.inl hj)), h1.cells hn ?_ ?_ (fun j hj => ?_) f33 (fun x hx => ?_), ?_⟩
      · rw [j1, g8g 31 (by decide) (by decide), q3.1 31 (by decide) (by decide) (by decide) (by decide) (by decide) (by decide), g31 31 (.inl rfl), i1, pf.1 29 (by decide)]
      · rw [j2, g8g 31 (by decide) (by decide), q3.1 31 (by decide) (by decide) (by decide) (by decide) (by decide) (by decide), g31 31 (.inl rfl), i2, pf.1 29 (by decide)]
      · rw [show g9.1 30 j = _ from j3 j hj, g8g (31 + 1) (by decide) (by decide), q3.1 (31 + 1) (by decide) (by decide) (by decide) (by decide) (by decide) (by decide), g31 (31 + 1) (.inr rfl), i3 j hj, pf.1 (29 + 1) (by decide)]
      · rw [ff 98 x (by omega), w2 x (Nat.zero_le _) hx, v4 99 x (by decide), q4.2 99 x (by decide) (by decide) (by decide) (by decide) (by omega), f6 99 x (by omega), z5 99 x (by decide), y2 x (Nat.zero_le _) hx, x4 98 x (by decide)]
      · refine orest h2 h3 h4 h5 (fun p hp => g9g p (by omega) (by omega) (by omega) (by omega)) (fun j hj => by rw [g90, if_neg hj]) (fun p hp => g9r p (by omega) (by omega)) (fun p j a b => mf p j (by omega) (by omega) (by omega) (by omega) (by omega) (by omega) (by omega)) (by rw [g90, if_pos rfl, f43])
    · rw [show fSx_orders_69 N ln N g5 (0 : Int32) = _ from q1, show fMo_orders_95 N N μ6 (μ2.1 84 33) (nI (2400 + m)) (0 : Int32) = _ from q2, fSx_orders_150, rd_K 1 1 19 (by decide) (by decide), q3.2.2.1]
      refine (told_CR (?_ : RR ln M g6 μ7) _).wrap
      have gg : ∀ p, p ≠ 2 → p ≠ 4 → p ≠ 5 → p ≠ 29 → p ≠ 30 → (p < 43 ∨ 48 < p) → (p < 10 ∨ 17 < p) → p ≠ 31 → p ≠ 32 → g6.1 p = g2.1 p := fun p a b c d e f x y z => by rw [q4.1 p a b c d e f, gs p x y z (by omega)]
      have mm : ∀ p j, p ≠ 86 → p ≠ 98 → p ≠ 96 → p ≠ 97 → p ≠ 89 → p ≠ 99 → (p = 84 → j ≠ 33 ∧ (j < 22 ∨ 29 < j) ∧ (j < 44 ∨ 48 < j)) → μ7.1 p j = μ2.1 p j := by
        intro p j a b c d e f hp
        rw [q5.2 p j a b c d hp, ms p j a e f (fun q => by have := hp q; omega)]
      refine ⟨Lw, n, w, L, q3.1.1, q3.1.2.1, q3.1.2.2, ?_⟩
      refine orest h2 h3 h4 h5 (fun p hp => gg p (by omega) (by omega) (by omega) (by omega) (by omega) (by omega) (by omega) (by omega) (by omega)) (fun j hj => by rw [gg 0 (by decide) (by decide) (by decide) (by decide) (by decide) (by decide) (by decide) (by decide) (by decide)]) (fun p hp => by rw [q4.2, grs p (by omega)]) (fun p j a b => mm p j (by omega) (by omega) (by omega) (by omega) (by omega) (by omega) (by omega)) ?_
      rw [gg 0 (by decide) (by decide) (by decide) (by decide) (by decide) (by decide) (by decide) (by decide) (by decide), mm 84 43 (by decide) (by decide) (by decide) (by decide) (by decide) (by decide) (by omega)]
      exact h3.2.1
  · have hr : RR ln M g2 μ2 := hr1.read a3.2 (by rw [a3.1]) b2.2 a4 b3 (by rw [a5, b4])
    rw [show fRe_reads N ln g1 (0 : Int32) = _ from a2, Option.bind_some, show fMo_readsAs N μ1 (1 : Int32) = _ from b1, Option.bind_some]
    simp only [if_true]
    exact (refuse_CR hr (.inr (.inr (.inr (.inr rfl))))).wrap
end
