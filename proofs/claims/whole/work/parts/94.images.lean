/-! ===== images ===== -/
theorem TxC.grow {ln ln' : Nat → Nat} {g g' : sw_g} {p : Nat} {cs : List Cl} (h : TxC ln g p cs) (hg : ∀ q, p ≤ q → q ≤ p + 6 → g'.1 q = g.1 q) (hl : ln' (p + 6) = ln (p + 6)) : TxC ln' g' p cs := by
  obtain ⟨h1, h2, u, C, h3, h4, h5, h6, h7, h8⟩ := h.frame (g' := g') hg
  exact ⟨h1, h2, u, C, h3, h4, by rw [hl]; exact h5, by rw [hl]; exact h6, h7, h8⟩
section
variable {N : Nat} {ln ln' : Nat → Nat} {M M' : Nat} {g g' : sw_g} {μ μ' : sw_m}
theorem PQ.grow {q : Nat} {k : Nat → Int32} {Lw : Nat → List Cl} {L : Nat} (P : PQ ln M g q k Lw L) (hq : q + 8 < M) (h28 : 28 < M) (hM : M ≤ M') (hl : ∀ p, p < M → ln' p = ln p) (hg : ∀ p, p < M → g'.1 p = g.1 p) (hr : ∀ p, p < M → g'.2.2 p = g.2.2 p) : PQ ln' M' g' q k Lw L := by
  obtain ⟨a1, a2, a3, a4, a5, a6, a7, a8⟩ := P
  refine ⟨?_, fun c hc => ?_, ?_, ?_, fun i hi => ?_, ?_, ?_, fun f hf => ?_⟩
  · rw [hg q (by omega), a1]
  · rw [hg (q + 1) (by omega), hg (q + 2) (by omega), hg (q + 3) (by omega)]; exact a2 c hc
  · rw [hg (q + 4) (by omega)]; exact a3
  · rw [hg q (by omega), a4]
  · rw [hg (q + 5) (by omega), hg (q + 6) (by omega), hg (q + 7) (by omega)]; exact a5 i hi
  · rw [hg q (by omega), a6]
  · rw [hg q (by omega), a7]
  · obtain ⟨p, b1, b2, b3⟩ := a8 f hf
    have hp := b2.2.1
    exact ⟨p, by rw [hr (q + 8) hq, b1], ⟨b2.1, by omega, fun i y hi hy => b2.2.2 i y hi (by rw [← hr 28 h28]; exact hy)⟩, b3.grow (fun y y1 y2 => hg y (by omega)) (hl _ hp)⟩
theorem RR.grow (h : RR ln M g μ) (hM0 : 110 ≤ M) (hM : M ≤ M') (hl : ∀ p, p < M → ln' p = ln p) (hg : ∀ p, p < M → g'.1 p = g.1 p) (hr : ∀ p, p < M → g'.2.2 p = g.2.2 p) : RR ln' M' g' μ := by
  obtain ⟨Lw, n, w, L, K, P, h1, h2, h3, h4, h5⟩ := h
  have e : ∀ p, p < 110 → g'.1 p = g.1 p := fun p hp => hg p (by omega)
  refine ⟨Lw, n, w, L, K, P.grow (by omega) (by omega) hM hl hg hr, h1.frame (e 29 (by decide)) (e 30 (by decide)) rfl rfl, h2.frame (by rw [e 33 (by decide)]) (e 34 (by decide)) rfl rfl rfl, ?_, h4.frame (by rw [e 19 (by decide)]) (e 20 (by decide)) (e 22 (by decide)) rfl rfl, fun i hi => ?_, fun a b x y => h5.2.1 a b (by rw [← hr 28 (by omega)]; exact x) (by rw [← hr 28 (by omega)]; exact y), by rw [e 81 (by decide)]; exact h5.2.2⟩
  · unfold RM
    rw [e 33 (by decide), e 0 (by decide), e 83 (by decide)]; exact h3
  · rw [hr 28 (by omega)]
    rcases h5.1 i hi with q | ⟨q1, q, Li, n', w', L', q2, q3, q4, q5, q6⟩
    · exact .inl q
    · exact .inr ⟨q1, q, Li, n', w', L', q2, q3, by omega, q5, q6.grow q4 (by omega) hM hl hg hr⟩
/-- the images but one, whose plank stands -/
def RJ (ln : Nat → Nat) (M : Nat) (g : sw_g) (μ : sw_m) (i q : Nat) : Prop := (g.2.2 28 i = some q ∧ 110 ≤ q ∧ q + 8 < M) ∧ (∀ i', i' < 2 → i' ≠ i → (μ.1 88 i' = 0 ∧ g.2.2 28 i' = none) ∨ (μ.1 88 i' = 1 ∧ ∃ q' Li n w L, g.2.2 28 i' = some q' ∧ 110 ≤ q' ∧ q' + 8 < M ∧ KI (kI μ i') Li n w L ∧ PQ ln M g q' (kI μ i') Li L)) ∧ (∀ a b, g.2.2 28 0 = some a → g.2.2 28 1 = some b → a + 8 < b ∨ b + 8 < a) ∧ g.1 81 0 = 0
theorem im_17 {i : Nat} (hi : i < 2) : ∀ (d j fu : Nat) (μ : sw_m), j + d = 5654 → d < fu → ∃ μ', fMo_image_17 N fu μ (nI i) (nI j) = (fMo_good μ' (0 : Int32)).bind (fun ⟨v6, μ5⟩ => some (v6, μ5)) ∧ μ'.1 88 i = 1 ∧ (∀ x, x ≠ i → μ'.1 88 x = μ.1 88 x) ∧ (∀ x, j ≤ x → x < 5654 → μ'.1 87 (5654 * i + x) = μ.1 86 x) ∧ (∀ x, x < 5654 * i + j ∨ 5654 * i + 5654 ≤ x → μ'.1 87 x = μ.1 87 x) ∧ (∀ p x, p ≠ 87 → p ≠ 88 → μ'.1 p x = μ.1 p x) := by
  intro d
  induction d with
  | zero =>
    intro j fu μ hj hfu
    obtain ⟨fu, rfl⟩ : ∃ z, fu = z + 1 := ⟨fu - 1, by omega⟩
    obtain rfl : j = 5654 := by omega
    rw [fMo_image_17, if_pos (by decide), wr_nI hi (by decide)]
    refine ⟨_, rfl, by rw [mI_at, if_pos ⟨rfl, rfl⟩]; rfl, fun x hx => by rw [mI_at, if_neg (fun q => hx q.2)], fun x a b => by omega, fun x _ => by rw [mI_at, if_neg (by omega)], fun p x a b => by rw [mI_at, if_neg (fun q => b q.1)]⟩
  | succ d ih =>
    intro j fu μ hj hfu
    obtain ⟨fu, rfl⟩ : ∃ z, fu = z + 1 := ⟨fu - 1, by omega⟩
    rw [fMo_image_17, if_neg (show ¬ (5654 : Int32) ≤ nI j from nI_ge (b := 5654) (by omega) (by decide)), rd_nI (by omega) (by decide), show (5654 : Int32) * nI i = nI (5654 * i) from nI_mul 5654 i, nI_add, wr_nI (by omega) (by decide)]
    simp only [nm, nI_1]
    obtain ⟨μ', q1, q2, q3, q4, q5, q6⟩ := ih (j + 1) fu (mI μ 87 (5654 * i + j) (μ.1 86 j)) (by omega) (by omega)
    refine ⟨μ', q1, q2, fun x hx => ?_, fun x a b => ?_, fun x hx => ?_, fun p x a b => ?_⟩
    · rw [q3 x hx, mI_at, if_neg (by omega)]
    · by_cases hxj : x = j
      · subst hxj; rw [q5 _ (by omega), mI_at, if_pos ⟨rfl, rfl⟩]
      · rw [q4 x (by omega) b, mI_at, if_neg (by omega)]
    · rw [q5 x (by omega), mI_at, if_neg (by omega)]
    · rw [q6 p x a b, mI_at, if_neg (fun q => a q.1)]
theorem inR_lt {j : Nat} (h : inR j) : j < 5654 := by unfold inR at h; omega
theorem imgCore (hN : 6000 ≤ N) {Lw : Nat → List Cl} {n w L i q : Nat} (hi : i < 2) (K : KI (μ.1 86) Lw n w L) (P : PQ ln M g 1 (μ.1 86) Lw L) (h1 : RH g μ n) (h2 : RT g μ) (h3 : RM g μ) (h4 : RD g μ) (J : RJ ln M g μ i q) : CR ln M (fSx_image_o_41 N ln g q) (fMo_image_17 N N μ (nI i) 0) := by
  obtain ⟨⟨j1, j2, j3⟩, j4, j5, j6⟩ := J
  obtain ⟨g1, e1, pe, pf⟩ := become_eq (N := N) (ln := ln) (q0 := q) (q1 := 1) (by omega) (by omega) g
  have Pq := P.become K.L6 pe pf (by omega) (.inr ⟨i, hi, j1⟩)
  obtain ⟨μ1, m1, m2, m3, m4, m5, m6⟩ := im_17 (N := N) hi 5654 0 N μ rfl (by omega)
  have gs : ∀ p, p < 110 → g1.1 p = g.1 p := fun p hp => pf.1 p (by omega)
  have gt : ∀ p, 110 ≤ p → (∀ i q, i < 2 → g.2.2 28 i = some q → (p < q ∨ q + 8 < p)) → g1.1 p = g.1 p := by
    intro p hp hh
    have := hh i q hi j1
    exact pf.1 p (by omega)
  have r28 : g1.2.2 28 = g.2.2 28 := pf.2 28 (by omega)
  have k1 : μ1.1 86 = μ.1 86 := funext fun j => m6 86 j (by decide) (by decide)
  rw [fSx_image_o_41, e1, Option.bind_some, show fMo_image_17 N N μ (nI i) 0 = _ from m1]
  refine (told_CR (?_ : RR ln M g1 μ1) _).wrap
  refine ⟨Lw, n, w, L, by rw [k1]; exact K, ?_, h1.frame (gs 29 (by decide)) (gs 30 (by decide)) (m6 84 33 (by decide) (by decide)) (funext fun j => m6 98 j (by decide) (by decide)), h2.frame (by rw [gs 33 (by decide)]) (gs 34 (by decide)) (m6 84 13 (by decide) (by decide)) (funext fun j => m6 91 j (by decide) (by decide)) (funext fun j => m6 90 j (by decide) (by decide)), ?_, h4.frame (by rw [gs 19 (by decide)]) (gs 20 (by decide)) (gs 22 (by decide)) (m6 84 51 (by decide) (by decide)) (funext fun j => m6 109 j (by decide) (by decide)), fun i' hi' => ?_, fun a b x y => j5 a b (by rw [← r28]; exact x) (by rw [← r28]; exact y), by rw [gs 81 (by decide)]; exact j6⟩
  · rw [k1]
    exact P.frame (fun p a b => gs p (by omega)) gt (pf.2 9 (by omega)) r28
  · unfold RM
    rw [gs 33 (by decide), gs 0 (by decide), gs 83 (by decide), m6 84 14 (by decide) (by decide), m6 84 43 (by decide) (by decide), m6 84 6 (by decide) (by decide), m6 84 0 (by decide) (by decide), m6 85 1 (by decide) (by decide), m6 85 2 (by decide) (by decide), m6 85 3 (by decide) (by decide), m6 85 5 (by decide) (by decide), m6 85 6 (by decide) (by decide)]
    exact h3
  · rw [r28]
    by_cases hii : i' = i
    · subst hii
      have hk : ∀ j, inR j → kI μ1 i' j = μ.1 86 j := fun j hj => m4 j (Nat.zero_le _) (inR_lt hj)
      exact .inr ⟨m2, q, Lw, n, w, L, j1, j2, j3, K.row hk, Pq.row (fun j hj => hk j (.inl hj))⟩
    · rcases j4 i' hi' hii with ⟨x1, x2⟩ | ⟨x1, q', Li, n', w', L', x2, x3, x4, x5, x6⟩
      · exact .inl ⟨by rw [m3 i' hii]; exact x1, x2⟩
      · have hk : ∀ j, inR j → kI μ1 i' j = kI μ i' j := by
          intro j hj
          have := inR_lt hj
          refine m5 (5654 * i' + j) ?_
          rcases (show (i' = 0 ∧ i = 1) ∨ (i' = 1 ∧ i = 0) by omega) with ⟨rfl, rfl⟩ | ⟨rfl, rfl⟩ <;> omega
        have hd : q' + 8 < q ∨ q + 8 < q' := by
          rcases (show (i' = 0 ∧ i = 1) ∨ (i' = 1 ∧ i = 0) by omega) with ⟨rfl, rfl⟩ | ⟨rfl, rfl⟩
          · exact j5 _ _ x2 j1
          · exact (j5 _ _ j1 x2).symm
        refine .inr ⟨by rw [m3 i' hii]; exact x1, q', Li, n', w', L', x2, x3, x4, x5.row hk, ?_⟩
        exact (x6.frame (fun p a b => pf.1 p (by omega)) gt (pf.2 (q' + 8) (by omega)) r28).row (fun j hj => hk j (.inl hj))
theorem lies_01 (a : Int32) : (∃ i, i < 2 ∧ a = nI i ∧ fMo_lies a 0 1 = some 1 ∧ ¬ a < 0 ∧ a < 2) ∨ (fMo_lies a 0 1 = some 0 ∧ (a < 0 ∨ ¬ a < 2)) := by
  by_cases h : a < 0
  · exact .inr ⟨by rw [fMo_lies, if_pos h], .inl h⟩
  · obtain ⟨i, hi, rfl⟩ := nI_of h
    by_cases h2 : i < 2
    · refine .inl ⟨i, h2, rfl, ?_, h, nI_lt (b := 2) h2 (by decide)⟩
      rw [fMo_lies, if_neg h, if_neg (show ¬ (1 : Int32) < nI i from nI_nlt (a := 1) (by omega) (by decide))]
    · refine .inr ⟨?_, .inr (nI_nlt (b := 2) (by omega) (by omega))⟩
      rw [fMo_lies, if_neg h, if_pos (show (1 : Int32) < nI i from nI_lt (a := 1) (by omega) (by omega))]
theorem image_old (hN : 6000 ≤ N) (h : RR ln M g μ) (a : Int32) (hn : ∀ i, i < 2 → a = nI i → g.2.2 28 i ≠ none) : CR ln M (fSx_image_o N ln g a) (fMo_image N μ a) := by
  have h0 := h
  obtain ⟨Lw, n, w, L, K, P, h1, h2, h3, h4, h5⟩ := h
  have rf : CR ln M (fSx_image_o_9 N ln g) ((fMo_refuses μ (-1 : Int32)).bind fun ⟨v12, μ11⟩ => some (v12, μ11)) := by
    rw [fSx_image_o_9]; exact (refuse_CR h0 (.inl rfl)).wrap
  rcases lies_01 a with ⟨i, hi, rfl, l1, l2, l3⟩ | ⟨l1, l2⟩
  · rw [fSx_image_o, if_neg l2, if_pos l3, rd_nI hi (by decide), fMo_image, l1, Option.bind_some, if_neg n10]
    rcases h5.1 i hi with ⟨_, q⟩ | ⟨q1, q, Li, n', w', L', q2, q3, q4, q5, q6⟩
    · exact absurd q (hn i hi rfl)
    · rw [q2]
      exact imgCore hN hi K P h1 h2 h3 h4 ⟨⟨q2, q3, q4⟩, fun i' hi' _ => h5.1 i' hi', h5.2.1, h5.2.2⟩
  · rw [fMo_image, l1, Option.bind_some, if_pos rfl, fSx_image_o]
    rcases l2 with l2 | l2
    · rw [if_pos l2]; exact rf
    · by_cases hz : a < 0
      · rw [if_pos hz]; exact rf
      · rw [if_neg hz, if_neg l2]; exact rf
theorem image_new (hN : 6000 ≤ N) (h : RR ln M g μ) (hM0 : 110 ≤ M) (hl : ∀ p, p < M → ln' p = ln p) {i : Nat} (hi : i < 2) (hn : g.2.2 28 i = none) : CR ln' (M + 9) (fSx_image_t_33t N ln' M (gP g M) (nI i)) (fMo_image N μ (nI i)) := by
  have hgp : ∀ p, p < M → (gP g M).1 p = g.1 p := by
    intro p hp
    funext j
    unfold gP
    rw [gI_at, if_neg (by omega), gI_at, if_neg (by omega)]
    show (if p < M then g.1 p else fun _ => 0) j = _
    rw [if_pos hp]
  have hrp : ∀ p, p < M → (gP g M).2.2 p = g.2.2 p := by
    intro p hp
    show (if p < M then g.2.2 p else fun _ => none) = _
    rw [if_pos hp]
  have h' := h.grow hM0 (show M ≤ M + 9 by omega) hl hgp hrp
  obtain ⟨Lw, n, w, L, K, P, h1, h2, h3, h4, h5⟩ := h
  obtain ⟨Lw', n', w', L', K', P', h1', h2', h3', h4', h5'⟩ := h'
  generalize hg1 : gR (gP g M) 28 i (some M) = g1
  have e1 : g1.1 = (gP g M).1 := by subst hg1; rfl
  have e2 : ∀ p j, ¬ (p = 28 ∧ j = i) → g1.2.2 p j = (gP g M).2.2 p j := by intro p j hh; subst hg1; rw [gR_at, if_neg hh]
  have e3 : g1.2.2 28 i = some M := by subst hg1; rw [gR_at, if_pos ⟨rfl, rfl⟩]
  have gl : ∀ p, p < M → g1.1 p = g.1 p := fun p hp => by rw [e1, hgp p hp]
  -- old texts and planks lie below the new plank
  have up : ∀ {q : Nat} {k : Nat → Int32} {Lq : Nat → List Cl} {Lx : Nat}, PQ ln M g q k Lq Lx → q + 8 < M → q ≠ 20 → PQ ln' (M + 9) g1 q k Lq Lx := by
    intro q k Lq Lx Q hq h20
    obtain ⟨a1, a2, a3, a4, a5, a6, a7, a8⟩ := Q
    refine ⟨?_, fun c hc => ?_, ?_, ?_, fun x hx => ?_, ?_, ?_, fun f hf => ?_⟩
    · rw [gl q (by omega), a1]
    · rw [gl (q + 1) (by omega), gl (q + 2) (by omega), gl (q + 3) (by omega)]; exact a2 c hc
    · rw [gl (q + 4) (by omega)]; exact a3
    · rw [gl q (by omega), a4]
    · rw [gl (q + 5) (by omega), gl (q + 6) (by omega), gl (q + 7) (by omega)]; exact a5 x hx
    · rw [gl q (by omega), a6]
    · rw [gl q (by omega), a7]
    · obtain ⟨p, b1, b2, b3⟩ := a8 f hf
      have hp := b2.2.1
      refine ⟨p, by rw [e2 (q + 8) f (by omega), hrp (q + 8) hq, b1], ⟨b2.1, by omega, fun x y hx hy => ?_⟩, b3.grow (fun y y1 y2 => gl y (by omega)) (hl _ hp)⟩
      by_cases hxi : x = i
      · subst hxi
        rw [e3] at hy
        cases hy
        exact .inl (by omega)
      · rw [e2 28 x (fun z => hxi z.2), hrp 28 (by omega)] at hy
        exact b2.2.2 x y hx hy
  have gs : ∀ p, p < 110 → g1.1 p = g.1 p := fun p hp => gl p (by omega)
  have J : RJ ln' (M + 9) g1 μ i M := by
    refine ⟨⟨e3, by omega, by omega⟩, fun i' hi' hii => ?_, fun a b x y => ?_, by rw [gs 81 (by decide)]; exact h5.2.2⟩
    · rw [e2 28 i' (fun z => hii z.2), hrp 28 (by omega)]
      rcases h5.1 i' hi' with q | ⟨q1, q, Li, n'', w'', L'', q2, q3, q4, q5, q6⟩
      · exact .inl q
      · exact .inr ⟨q1, q, Li, n'', w'', L'', q2, q3, by omega, q5, up q6 q4 (by omega)⟩
    · have old : ∀ i' y, i' < 2 → i' ≠ i → g1.2.2 28 i' = some y → y + 8 < M := by
        intro i' y hi' hii hy
        rw [e2 28 i' (fun z => hii z.2), hrp 28 (by omega)] at hy
        rcases h5.1 i' hi' with ⟨_, q⟩ | ⟨q1, q, Li, n'', w'', L'', q2, q3, q4, q5, q6⟩
        · rw [q] at hy; cases hy
        · rw [q2] at hy; cases hy; exact q4
      rcases (show i = 0 ∨ i = 1 by omega) with rfl | rfl
      · rw [e3] at x; cases x
        exact .inr (old 1 b (by decide) (by decide) y)
      · rw [e3] at y; cases y
        exact .inl (old 0 a (by decide) (by decide) x)
  have main := imgCore (N := N) hN hi K (up P (by omega) (by decide)) (h1.frame (g' := g1) (μ' := μ) (gs 29 (by decide)) (gs 30 (by decide)) rfl rfl) (h2.frame (g' := g1) (μ' := μ) (by rw [gs 33 (by decide)]) (gs 34 (by decide)) rfl rfl rfl) (by unfold RM; rw [gs 33 (by decide), gs 0 (by decide), gs 83 (by decide)]; exact h3) (h4.frame (g' := g1) (μ' := μ) (by rw [gs 19 (by decide)]) (gs 20 (by decide)) (gs 22 (by decide)) rfl rfl) J
  rw [fSx_image_t_33t, wr_nI hi (by decide), hg1, fMo_image]
  rcases lies_01 (nI i) with ⟨x, hx, hxx, l1, l2, l3⟩ | ⟨l1, l2⟩
  · rw [l1, Option.bind_some, if_neg n10]
    exact main
  · exfalso
    rcases l2 with l2 | l2
    · exact nI_pos (by omega) l2
    · exact l2 (nI_lt (b := 2) hi (by decide))
theorem bk_33 {i : Nat} (hi : i < 2) : ∀ (d j fu : Nat) (μ : sw_m), j + d = 5654 → d < fu → ∃ μ', fMo_back_33 N fu μ (nI i) (nI j) = (fMo_settled μ' (0 : Int32)).bind (fun ⟨v6, μ5⟩ => some (v6, μ5)) ∧ (∀ x, j ≤ x → x < 5654 → μ'.1 86 x = μ.1 87 (5654 * i + x)) ∧ (∀ x, x < j ∨ 5654 ≤ x → μ'.1 86 x = μ.1 86 x) ∧ (∀ p x, p ≠ 86 → μ'.1 p x = μ.1 p x) := by
  intro d
  induction d with
  | zero =>
    intro j fu μ hj hfu
    obtain ⟨fu, rfl⟩ : ∃ z, fu = z + 1 := ⟨fu - 1, by omega⟩
    obtain rfl : j = 5654 := by omega
    rw [fMo_back_33, if_pos (by decide)]
    exact ⟨μ, rfl, fun x a b => by omega, fun _ _ => rfl, fun _ _ _ => rfl⟩
  | succ d ih =>
    intro j fu μ hj hfu
    obtain ⟨fu, rfl⟩ : ∃ z, fu = z + 1 := ⟨fu - 1, by omega⟩
    rw [fMo_back_33, if_neg (show ¬ (5654 : Int32) ≤ nI j from nI_ge (b := 5654) (by omega) (by decide)), show (5654 : Int32) * nI i = nI (5654 * i) from nI_mul 5654 i, nI_add, rd_nI (by omega) (by decide), wr_nI (by omega) (by decide)]
    simp only [nm, nI_1]
    obtain ⟨μ', q1, q2, q3, q4⟩ := ih (j + 1) fu (mI μ 86 j (μ.1 87 (5654 * i + j))) (by omega) (by omega)
    refine ⟨μ', q1, fun x a b => ?_, fun x hx => ?_, fun p x a => ?_⟩
    · by_cases hxj : x = j
      · subst hxj; rw [q3 _ (by omega), mI_at, if_pos ⟨rfl, rfl⟩]
      · rw [q2 x (by omega) b, mI_at, if_neg (by omega)]
    · rw [q3 x (by omega), mI_at, if_neg (by omega)]
    · rw [q4 p x a, mI_at, if_neg (fun q => a q.1)]
theorem back_CR (hN : 6000 ≤ N) (h : RR ln M g μ) (a : Int32) : CR ln M (fSx_back N ln g a) (fMo_back N μ a) := by
  have h0 := h
  obtain ⟨Lw, n, w, L, K, P, h1, h2, h3, h4, h5⟩ := h
  have rf : CR ln M (fSx_back_9 N ln g) ((fMo_refuses μ (-1 : Int32)).bind fun ⟨v12, μ11⟩ => some (v12, μ11)) := by
    rw [fSx_back_9]; exact (refuse_CR h0 (.inl rfl)).wrap
  rcases lies_01 a with ⟨i, hi, rfl, l1, l2, l3⟩ | ⟨l1, l2⟩
  · rw [fSx_back, if_neg l2, if_pos l3, rd_nI hi (by decide), fMo_back, l1, Option.bind_some, if_neg n10, rd_nI hi (by decide)]
    rcases h5.1 i hi with ⟨q1, q2⟩ | ⟨q1, q, Li, n', w', L', q2, q3, q4, q5, q6⟩
    · rw [q1, q2, if_pos rfl]
      exact (refuse_CR h0 (.inr (.inl rfl))).wrap
    · rw [q1, q2, if_neg n10]
      obtain ⟨g1, e1, pe, pf⟩ := become_eq (N := N) (ln := ln) (q0 := 1) (q1 := q) (by omega) (by omega) g
      have Pq := q6.become q5.L6 pe pf (by decide) (.inl (by decide))
      obtain ⟨μ1, m1, m2, m3, m4⟩ := bk_33 (N := N) hi 5654 0 N μ rfl (by omega)
      have hk : ∀ j, inR j → μ1.1 86 j = kI μ i j := fun j hj => m2 j (Nat.zero_le _) (inR_lt hj)
      show CR ln M ((fPl_become N ln g 1 q).bind fun g10 => (fHi_clear ln g10 29).bind fun g12 => (fSx_told ln g12 (0 : Int32)).bind fun ⟨v15, g14⟩ => some (v15, g14)) _
      rw [e1, Option.bind_some, fHi_clear, nm, Option.bind_some, show fMo_back_33 N N μ (nI i) 0 = _ from m1, fMo_settled, nm]
      have hw : ∀ (y : Option (Int32 × sw_m)), (y.bind fun ⟨v4, μ3⟩ => some (v4, μ3)) = y := by intro y; cases y <;> rfl
      rw [hw]
      have gs : ∀ p, 8 < p → p ≠ 29 → (gI g1 29 0 0).1 p = g.1 p := fun p hp hp' => by funext j; rw [gI_at, if_neg (fun z => hp' z.1), pf.1 p (by omega)]
      have gs' : ∀ p, p = 0 → (gI g1 29 0 0).1 p = g.1 p := fun p hp => by funext j; rw [gI_at, if_neg (by omega), pf.1 p (by omega)]
      have ms : ∀ p x, p ≠ 86 → (p = 84 → x ≠ 33) → (mI μ1 84 33 0).1 p x = μ.1 p x := fun p x a b => by rw [mI_at, if_neg (fun z => b z.1 z.2), m4 p x a]
      have k1 : (mI μ1 84 33 0).1 86 = μ1.1 86 := funext fun j => by rw [mI_at, if_neg (by omega)]
      refine (told_CR (?_ : RR ln M (gI g1 29 0 0) (mI μ1 84 33 0)) _).wrap
      have K1 : KI (μ1.1 86) Li n' w' L' := q5.row hk
      have P1 : PQ ln M (gI g1 29 0 0) 1 (μ1.1 86) Li L' := (Pq.row (fun j hj => hk j (.inl hj))).frame (fun p a b => funext fun j => by rw [gI_at, if_neg (by omega)]) (fun p a _ => funext fun j => by rw [gI_at, if_neg (by omega)]) rfl rfl
      refine ⟨Li, n', w', L', by rw [k1]; exact K1, by rw [k1]; exact P1, ?_, ?_, ?_, ?_, ?_⟩
      · refine h1.clear n' (by rw [gI_at, if_pos ⟨rfl, rfl⟩]) ?_ (by rw [mI_at, if_pos ⟨rfl, rfl⟩])
        rw [gI_at, if_neg (by omega), pf.1 29 (by decide)]
      · exact h2.frame (by rw [gs 33 (by decide) (by decide)]) (gs 34 (by decide) (by decide)) (ms 84 13 (by decide) (by decide)) (funext fun j => ms 91 j (by decide) (by omega)) (funext fun j => ms 90 j (by decide) (by omega))
      · unfold RM
        rw [gs 33 (by decide) (by decide), gs' 0 rfl, gs 83 (by decide) (by decide), ms 84 14 (by decide) (by decide), ms 84 43 (by decide) (by decide), ms 84 6 (by decide) (by decide), ms 84 0 (by decide) (by decide), ms 85 1 (by decide) (by omega), ms 85 2 (by decide) (by omega), ms 85 3 (by decide) (by omega), ms 85 5 (by decide) (by omega), ms 85 6 (by decide) (by omega)]
        exact h3
      · exact h4.frame (by rw [gs 19 (by decide) (by decide)]) (gs 20 (by decide) (by decide)) (gs 22 (by decide) (by decide)) (ms 84 51 (by decide) (by decide)) (funext fun j => ms 109 j (by decide) (by omega))
      · exact h5.frame (fun p hp => gs p (by omega) (by omega)) (fun p hp => pf.2 p (by omega)) (funext fun j => ms 87 j (by decide) (by omega)) (funext fun j => ms 88 j (by decide) (by omega))
  · rw [fMo_back, l1, Option.bind_some, if_pos rfl, fSx_back]
    rcases l2 with l2 | l2
    · rw [if_pos l2]; exact rf
    · by_cases hz : a < 0
      · rw [if_pos hz]; exact rf
      · rw [if_neg hz, if_neg l2]; exact rf
end
