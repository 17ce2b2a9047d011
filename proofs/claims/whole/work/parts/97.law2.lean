/-! ===== law, whole ===== -/
section
variable {N : Nat} {ln ln' : Nat → Nat} {M : Nat} {g : sw_g} {μ : sw_m}
theorem gZ_1 {p : Nat} (h : p < M) : (gZ g M).1 p = g.1 p := by show (if p < M then g.1 p else fun _ => 0) = _; rw [if_pos h]
theorem gZ_2 {p : Nat} (h : p < M) : (gZ g M).2.2 p = g.2.2 p := by show (if p < M then g.2.2 p else fun _ => none) = _; rw [if_pos h]
/-- a new law's text is added -/
theorem addLaw_CR (hN : 3000 ≤ N) {g3 : sw_g} {T V : Nat → Int32} {cs : List Cl} {m Mt : Nat} (h : RR ln (M + 7) g3 μ) (hM : 110 ≤ M) (hq : ∀ i q, i < 2 → g3.2.2 28 i = some q → q + 8 < M) (hT : TxC ln g3 M cs) (hA : AtL T V m cs 0) (hl : cs.length ≤ 12) (hm : m ≤ 400) (h0 : T m = 0) (h18 : μ.1 84 18 = nI m) (h93 : ∀ x, x < m → μ.1 93 x = T x ∧ μ.1 94 x = V x) (h6 : ¬ μ.1 86 45 = 6) : CR ln (M + 7) (fSx_law_t_60t N ln M g3) (rd 5654 (45 : Int32) (μ.1 86) fun v5 => (fMo_lays N μ v5).bind fun μ7 => rd 5654 (45 : Int32) (μ7.1 86) fun v8 => wr 5654 (45 : Int32) (fun j => mI μ7 86 j (v8 + (1 : Int32))) fun μ9 => rd 5654 (45 : Int32) (μ9.1 86) fun v10 => (fMo_good μ9 (v10 - (1 : Int32))).bind fun ⟨v13, μ12⟩ => some (v13, μ12)) := by
  obtain ⟨Lw, n, w, L, K, P, h1, h2, h3, h4, h5⟩ := h
  have hL : L < 6 := by
    have := K.L6
    have hL' := K.hL
    refine Nat.lt_of_le_of_ne this (fun e => h6 ?_)
    rw [hL', e]; rfl
  have g19 : g3.1 1 9 = nI L := P.2.2.2.2.2.1.trans K.hL
  generalize hμ1 : mI μ 86 (47 + L) (nI m) = μ1
  have f1 : ∀ p y, p ≠ 86 → μ1.1 p y = μ.1 p y := by intro p y hp; subst hμ1; rw [mI_at, if_neg (fun q => hp q.1)]
  have f1' : ∀ y, μ1.1 86 y = if y = 47 + L then nI m else μ.1 86 y := by
    intro y; subst hμ1; rw [mI_at]
    by_cases hy : y = 47 + L
    · rw [if_pos ⟨rfl, hy⟩, if_pos hy]
    · rw [if_neg (fun q => hy q.2), if_neg hy]
  obtain ⟨μ2, e1, e2, e3, e4⟩ := lays_15 (N := N) (T := T) (V := V) (Nat.le_of_lt hL) hm m 0 N μ1 (by omega) (by omega) (by rw [f1 84 18 (by decide)]; exact h18) (fun x hx => by rw [f1 93 x (by decide), f1 94 x (by decide)]; exact h93 x hx)
  have k45 : μ2.1 86 45 = nI L := by rw [e3 45 (by omega), f1', if_neg (by omega)]; exact K.hL
  have eM : (rd 5654 (45 : Int32) (μ.1 86) fun v5 => (fMo_lays N μ v5).bind fun μ7 => rd 5654 (45 : Int32) (μ7.1 86) fun v8 => wr 5654 (45 : Int32) (fun j => mI μ7 86 j (v8 + (1 : Int32))) fun μ9 => rd 5654 (45 : Int32) (μ9.1 86) fun v10 => (fMo_good μ9 (v10 - (1 : Int32))).bind fun ⟨v13, μ12⟩ => some (v13, μ12)) = (fMo_good (mI μ2 86 45 (nI (L + 1))) (nI L)).bind (fun ⟨v13, μ12⟩ => some (v13, μ12)) := by
    rw [rd_K 45 45 5654 (by decide) (by decide), K.hL, fMo_lays, show (47 : Int32) + nI L = nI (47 + L) from nI_add 47 L, wr_nI (by omega) (by decide), h18, hμ1, show fMo_lays_15 N N μ1 (nI L) (0 : Int32) = _ from e1, Option.bind_some, rd_K 45 45 5654 (by decide) (by decide), k45, wr_K 45 45 5654 (by decide) (by decide), rd_K 45 45 5654 (by decide) (by decide), mI_at, if_pos ⟨rfl, rfl⟩, nI_1]
    rw [show nI (L + 1) - 1 = nI L by rw [← nI_1, Int32.add_sub_cancel]]
  have eX : fSx_law_t_60t N ln M g3 = (fSx_told ln (gI (gR g3 9 L (some M)) 1 9 (nI (L + 1))) (nI L)).bind (fun ⟨v6, g5⟩ => some (v6, g5)) := by
    rw [fSx_law_t_60t, fPl_addLaw, g19, if_pos (show nI L < (6 : Int32) from nI_lt (b := 6) hL (by decide)), wr_nI hL (by decide), nm]
    rw [show (gR g3 (1 + 8) L (some M)).1 1 9 = nI L from g19, nI_1, Option.bind_some]
    simp only []
    rw [gI_at, if_pos ⟨rfl, rfl⟩, show nI (L + 1) - 1 = nI L by rw [← nI_1, Int32.add_sub_cancel]]
  rw [eX, eM]
  generalize hg5 : gI (gR g3 9 L (some M)) 1 9 (nI (L + 1)) = g5
  generalize hμ5 : mI μ2 86 45 (nI (L + 1)) = μ5
  have gs : ∀ p j, ¬ (p = 1 ∧ j = 9) → g5.1 p j = g3.1 p j := by intro p j hh; subst hg5; rw [gI_at, if_neg hh]; rfl
  have gp : ∀ p, p ≠ 1 → g5.1 p = g3.1 p := fun p hp => funext fun j => gs p j (fun q => hp q.1)
  have g9 : g5.1 1 9 = nI (L + 1) := by subst hg5; rw [gI_at, if_pos ⟨rfl, rfl⟩]
  have gr : ∀ p j, ¬ (p = 9 ∧ j = L) → g5.2.2 p j = g3.2.2 p j := by intro p j hh; subst hg5; show (gR g3 9 L (some M)).2.2 p j = _; rw [gR_at, if_neg hh]
  have gr9 : g5.2.2 9 L = some M := by subst hg5; show (gR g3 9 L (some M)).2.2 9 L = _; rw [gR_at, if_pos ⟨rfl, rfl⟩]
  have grp : ∀ p, p ≠ 9 → g5.2.2 p = g3.2.2 p := fun p hp => funext fun j => gr p j (fun q => hp q.1)
  have ms : ∀ p y, p ≠ 86 → μ5.1 p y = μ.1 p y := by intro p y hp; subst hμ5; rw [mI_at, if_neg (fun q => hp q.1), e4 p y hp, f1 p y hp]
  have mp' : ∀ p, p ≠ 86 → μ5.1 p = μ.1 p := fun p hp => funext fun y => ms p y hp
  have k5 : ∀ y, μ5.1 86 y = if y = 45 then nI (L + 1) else μ2.1 86 y := by
    intro y; subst hμ5; rw [mI_at]
    by_cases hy : y = 45
    · rw [if_pos ⟨rfl, hy⟩, if_pos hy]
    · rw [if_neg (fun q => hy q.2), if_neg hy]
  have ko : ∀ y, y ≠ 45 → y ≠ 47 + L → (y < 54 + 400 * L ∨ (54 + 400 * L + m ≤ y ∧ y < 2854 + 400 * L) ∨ 2854 + 400 * L + m ≤ y) → μ5.1 86 y = μ.1 86 y := by
    intro y a b c
    rw [k5, if_neg a, e3 y (by omega), f1', if_neg b]
  have kl : ∀ y, y ≠ 45 → y < 47 → μ5.1 86 y = μ.1 86 y := fun y a b => ko y a (by omega) (by omega)
  have K5 : KI (μ5.1 86) (fun f => if f = L then cs else Lw f) n w (L + 1) := by
    have hn := K.n7
    have hw := K.w6
    refine ⟨by rw [kl 43 (by omega) (by omega)]; exact K.hn, hn, by rw [kl 44 (by omega) (by omega)]; exact K.hw, hw, by rw [k5, if_pos rfl], by omega, ⟨fun c hc => ?_, ?_⟩, ?_, fun i hi => ?_, fun f hf => ?_, ?_⟩
    · rw [kl c (by omega) (by omega), kl (7 + c) (by omega) (by omega)]; exact K.co.1 c hc
    · rw [kl 14 (by omega) (by omega)]; exact K.co.2
    · unfold TM; rw [kl 40 (by omega) (by omega), kl 41 (by omega) (by omega), kl 42 (by omega) (by omega)]; exact K.tm
    · rw [kl (22 + 3 * i) (by omega) (by omega), kl (23 + 3 * i) (by omega) (by omega), kl (24 + 3 * i) (by omega) (by omega)]; exact K.wo i hi
    · by_cases hfL : f = L
      · subst hfL
        simp only [if_true]
        refine ⟨m, ?_, hm, hl, ?_⟩
        · rw [k5, if_neg (by omega), e3 _ (by omega), f1', if_pos rfl]
        · have q := hA.shift (a := 400 * f) (T' := fun j => if j < 400 * f + m then μ5.1 86 (54 + j) else 0) (V' := fun j => μ5.1 86 (2854 + j)) (fun x u v => ?_) ?_
          · rw [show m + 400 * f = 400 * f + m by omega, Nat.zero_add] at q
            exact q
          · obtain ⟨q1, q2⟩ := e2 x (Nat.zero_le _) v
            refine ⟨?_, ?_⟩
            · show (if x + 400 * f < 400 * f + m then μ5.1 86 (54 + (x + 400 * f)) else 0) = T x
              rw [if_pos (by omega), show 54 + (x + 400 * f) = 54 + 400 * f + x by omega, k5, if_neg (by omega), q1]
            · show μ5.1 86 (2854 + (x + 400 * f)) = V x
              rw [show 2854 + (x + 400 * f) = 2854 + 400 * f + x by omega, k5, if_neg (by omega), q2]
          · show (if m + 400 * f < 400 * f + m then μ5.1 86 (54 + (m + 400 * f)) else 0) = T m
            rw [if_neg (by omega), h0]
      · simp only [hfL, if_false]
        exact (K.la f (by omega)).part (ko _ (by omega) (by omega) (by omega)) (fun x a b => ⟨ko _ (by omega) (by omega) (by omega), ko _ (by omega) (by omega) (by omega)⟩)
    · rw [kl 46 (by omega) (by omega)]
      rcases K.fo with q | ⟨f, q1, q2⟩
      · exact .inl q
      · exact .inr ⟨f, by omega, q2⟩
  have P5 : PQ ln (M + 7) g5 1 (μ5.1 86) (fun f => if f = L then cs else Lw f) (L + 1) := by
    have hn := K.n7
    obtain ⟨a1, a2, ⟨a31, a32, a33, a34⟩, a4, a5, a6, a7, a8⟩ := P
    refine ⟨?_, fun c hc => ?_, ⟨?_, ?_, ?_, ?_⟩, ?_, fun i hi => ?_, ?_, ?_, fun f hf => ?_⟩
    · rw [gs 1 0 (by omega), kl 43 (by omega) (by omega)]; exact a1
    · rw [gp (1 + 1) (by omega), gp (1 + 2) (by omega), gp (1 + 3) (by omega), kl c (by omega) (by omega), kl (15 + c) (by omega) (by omega), kl (7 + c) (by omega) (by omega)]; exact a2 c hc
    · rw [gp (1 + 4) (by omega), kl 14 (by omega) (by omega)]; exact a31
    · rw [gp (1 + 4) (by omega), kl 40 (by omega) (by omega)]; exact a32
    · rw [gp (1 + 4) (by omega), kl 41 (by omega) (by omega)]; exact a33
    · rw [gp (1 + 4) (by omega), kl 42 (by omega) (by omega)]; exact a34
    · rw [gs 1 5 (by omega), kl 44 (by omega) (by omega)]; exact a4
    · rw [gp (1 + 5) (by omega), gp (1 + 6) (by omega), gp (1 + 7) (by omega), kl (22 + 3 * i) (by omega) (by omega), kl (23 + 3 * i) (by omega) (by omega), kl (24 + 3 * i) (by omega) (by omega)]; exact a5 i hi
    · rw [g9, k5, if_pos rfl]
    · rw [gs 1 11 (by omega), kl 46 (by omega) (by omega)]; exact a7
    · by_cases hfL : f = L
      · subst hfL
        simp only [if_true]
        refine ⟨M, gr9, ⟨hM, by omega, fun i q hi hiq => .inr (hq i q hi (by rw [← grp 28 (by decide)]; exact hiq))⟩, hT.frame (fun y y1 y2 => gp y (by omega))⟩
      · simp only [hfL, if_false]
        obtain ⟨p, b1, b2, b3⟩ := a8 f (by omega)
        have := b2.1
        exact ⟨p, by rw [gr (1 + 8) f (by omega)]; exact b1, b2.same (grp 28 (by decide)), b3.frame (fun y y1 y2 => gp y (by omega))⟩
  refine (told_CR (?_ : RR ln (M + 7) g5 μ5) _).wrap
  refine ⟨_, n, w, L + 1, K5, P5, h1.frame (gp 29 (by decide)) (gp 30 (by decide)) (ms 84 33 (by decide)) (mp' 98 (by decide)), h2.frame (by rw [gp 33 (by decide)]) (gp 34 (by decide)) (ms 84 13 (by decide)) (mp' 91 (by decide)) (mp' 90 (by decide)), ?_, h4.frame (by rw [gp 19 (by decide)]) (gp 20 (by decide)) (gp 22 (by decide)) (ms 84 51 (by decide)) (mp' 109 (by decide)), h5.frame (fun p hp => gp p (by omega)) (fun p hp => grp p (by omega)) (mp' 87 (by decide)) (mp' 88 (by decide))⟩
  unfold RM
  rw [gp 33 (by decide), gp 0 (by decide), gp 83 (by decide), mp' 84 (by decide), mp' 85 (by decide)]
  exact h3
theorem law_all (hN : 3000 ≤ N) (h : RR ln M g μ) (hM : 110 ≤ M) (l1 : 500 ≤ ln 41) (l2 : ln 41 < 2147483648) : CR ln M (fSx_law_o N ln g) (fMo_law N μ) ∨ (g.1 1 9 < 6 ∧ ∃ g2 u, fRe_reads N ln g 1 = some (1, g2) ∧ g2.1 35 6 = nI u ∧ u ≤ 500 ∧ ∀ ln' : Nat → Nat, (∀ p, p < M → ln' p = ln p) → ln' (M + 6) = u → ∃ g3, fTe_copy_t_12t N ln' 35 M (gZ g2 M) = some (some M, g3) ∧ CR ln' (M + 7) (fSx_law_t_60t N ln' M g3) (fMo_law N μ)) := by
  have h0 := h
  obtain ⟨Lw, n, w, L, K, P, h1, h2, h3, h4, h5⟩ := h
  have hL6 := K.L6
  have g19 : g.1 1 9 = nI L := P.2.2.2.2.2.1.trans K.hL
  by_cases hL : L = 6
  · left
    subst hL
    rw [fSx_law_o, g19, if_neg (show ¬ nI 6 < (6 : Int32) by decide), fMo_law, rd_K 45 45 5654 (by decide) (by decide), K.hL, if_pos (show nI 6 = 6 from rfl), nm, nm]
    refine (refuse_CR (?_ : RR ln M (gI g 33 0 0) (mI μ 84 13 0)) (.inr (.inr (.inr (.inl rfl))))).wrap
    refine h0.read (fun p j a b => by rw [gI_at, if_neg (fun q => a q.1)]) rfl (fun p j _ _ _ d => by rw [mI_at, if_neg (fun q => by have := d q.1; omega)]) (by rw [gI_at, if_pos ⟨rfl, rfl⟩]) (by rw [mI_at, if_pos ⟨rfl, rfl⟩]) (by rw [gI_at, if_neg (by omega), mI_at, if_neg (by omega)]; exact h3.1)
  · have hlt : nI L < (6 : Int32) := nI_lt (b := 6) (by omega) (by decide)
    have hne : ¬ nI L = (6 : Int32) := fun q => hL ((nI_eq (b := 6) (by omega) (by decide)).1 q)
    obtain ⟨t, B, t1, t2, t3, t4, t5, t6⟩ := h2
    rcases reads_sim (N := N) (ln := ln) (o := false) hN t1 t2 t3 (fun j hj => (t5 j hj).1) t4 (fun j hj => (t5 j hj).2) t6 with ⟨cs, T, V, m, u, C, g2, μ2, a1, a2, a3, a4, a5, a6, a7, a8, a9, a10, a11, a12, a13, b1, b2, b3, b4, b5, b6⟩ | ⟨φ, g2, μ2, a1, a2, a3, a4, a5, b1, b2, b3, b4⟩
    · right
      obtain ⟨c1, c2⟩ := a2.law (a4 m (Nat.le_refl _))
      have hr : RR ln M g2 μ2 := h0.read a6.2 (by rw [a6.1]) b2.2 a7 b3 (by rw [a8, b4])
      refine ⟨by rw [g19]; exact hlt, g2, u, a5, a10, a11, fun ln' hl hlu => ?_⟩
      obtain ⟨g3, e1, e2, e3, e4⟩ := copy_eq (N := N) (ln := ln') (g := gZ g2 M) (q := 35) (qn := M) (by omega) (C := C) a1 c2 (by rw [gZ_1 (by omega)]; exact a9) (by rw [gZ_1 (by omega)]; exact a10) a11 (by rw [gZ_1 (by omega)]; exact a12) (fun z c hz => (a13 z c hz).mono (fun x x1 x5 => by rw [gZ_1 (by omega)]) (Nat.le_refl _) (fun _ _ => rfl)) (by rw [hl _ (by omega)]; show u ≤ ln 41; omega) (by rw [hl _ (by omega)]; exact l2) hlu
      have hr3 : RR ln' (M + 7) g3 μ2 := hr.grow hM (by omega) hl (fun p hp => by rw [e3 p (.inl hp), gZ_1 hp]) (fun p hp => by rw [e4, gZ_2 hp])
      have hi3 : ∀ i q, i < 2 → g3.2.2 28 i = some q → q + 8 < M := by
        intro i q hi hiq
        rw [e4, gZ_2 (by omega)] at hiq
        obtain ⟨_, _, _, _, _, _, _, _, _, _, r5⟩ := hr
        rcases r5.1 i hi with ⟨_, x⟩ | ⟨_, q', _, _, _, _, x1, _, x3, _, _⟩
        · rw [x] at hiq; cases hiq
        · rw [x1] at hiq; cases hiq; exact x3
      have k45 : μ2.1 86 45 = nI L := by rw [b2.2 86 45 (by decide) (by decide) (by decide) (by omega)]; exact K.hL
      refine ⟨g3, e1, ?_⟩
      rw [fMo_law, rd_K 45 45 5654 (by decide) (by decide), K.hL, if_neg hne, show fMo_readsAs N μ (0 : Int32) = _ from b1, Option.bind_some]
      simp only []
      rw [if_neg n10]
      exact addLaw_CR (Mt := 0) hN hr3 hM hi3 e2 c1 a1 a3 (a4 m (Nat.le_refl _)) b5 b6 (by rw [k45]; exact hne)
    · left
      have hr : RR ln M g2 μ2 := h0.read a3.2 (by rw [a3.1]) b2.2 a4 b3 (by rw [a5, b4])
      rw [fSx_law_o, g19, if_pos hlt, show fRe_reads N ln g (1 : Int32) = _ from a2, Option.bind_some, fMo_law, rd_K 45 45 5654 (by decide) (by decide), K.hL, if_neg hne, show fMo_readsAs N μ (0 : Int32) = _ from b1, Option.bind_some]
      simp only [if_true]
      exact (refuse_CR hr (.inr (.inr (.inr (.inr rfl))))).wrap
end
