/-! ===== compare, weighed, count ===== -/
theorem Wk_cong {k k' : Nat → Int32} {c : Nat} (hc : c < 7) (hk : ∀ j, j ≤ 42 → k' j = k j) (p : Int32) : Wk k' c p = Wk k c p := by
  funext x
  unfold Wk
  rw [hk c (by omega), hk (15 + c) (by omega), hk 14 (by omega), hk 41 (by omega), hk 42 (by omega)]
theorem pullK_cong {k k' : Nat → Int32} {law : Option (List Cl)} {c : Nat} (hc : c < 7) (hk : ∀ j, j ≤ 42 → k' j = k j) : pullK k' law c = pullK k law c := by
  unfold pullK cntK
  rw [Wk_cong hc hk, hk c (by omega), hk (7 + c) (by omega)]
theorem tiltK_cong {k k' : Nat → Int32} {law : Option (List Cl)} {n : Nat} (hk : ∀ j, j ≤ 42 → k' j = k j) : tiltK k' law n = tiltK k law n := by
  have : ∀ c, c ≤ 7 → tS k' law n c = tS k law n c := by
    intro c
    induction c with
    | zero => intro _; rfl
    | succ c ih =>
      intro hc
      rw [show tS k' law n (c + 1) = tS k' law n c + (if c < n then pullK k' law c else 0) from rfl, show tS k law n (c + 1) = tS k law n c + (if c < n then pullK k law c else 0) from rfl, ih (by omega), pullK_cong (by omega) hk]
  exact this 7 (by decide)
theorem KI.f46 {k k' : Nat → Int32} {Lw : Nat → List Cl} {n w L : Nat} (K : KI k Lw n w L) {a : Int32} (ha : a = -1 ∨ ∃ f, f < L ∧ a = nI f) (ek : ∀ j, k' j = if j = 46 then a else k j) : KI k' Lw n w L := by
  have h6 := K.w6
  have h7 := K.n7
  refine K.upd (fun j hj' => by rw [ek, if_neg (by omega)]) (by rw [ek, if_neg (by omega), K.hn]) K.n7 (by rw [ek, if_neg (by omega), K.hw]) K.w6 (by rw [ek, if_neg (by omega)]) (by rw [ek, if_pos rfl]; exact ha) ⟨fun c hc => ?_, ?_⟩ ?_ (fun i' hi' => ?_)
  · rw [ek, if_neg (by omega), ek, if_neg (by omega)]; exact K.co.1 c hc
  · rw [ek, if_neg (by omega)]; exact K.co.2
  · unfold TM; rw [ek, if_neg (by omega), ek, if_neg (by omega), ek, if_neg (by omega)]; exact K.tm
  · rw [ek, if_neg (by omega), ek, if_neg (by omega), ek, if_neg (by omega)]; exact K.wo i' hi'
section
variable {N : Nat} {ln : Nat → Nat} {M : Nat} {g : sw_g} {μ : sw_m}
theorem compare_CR (hN : 3000 ≤ N) (h : RR ln M g μ) (a : Int32) : CR ln M (fSx_compare N ln g a) (fMo_compare N μ a) := by
  have h0 := h
  obtain ⟨Lw, n, w, L, K, P, h1, h2, h3, h4, h5⟩ := h
  rw [fSx_compare, fMo_compare]
  rcases law_cases K P rfl a with ⟨ha, e1, e2⟩ | ⟨ha, e1, e2⟩
  · have ex : (if a = (-1 : Int32) then fSx_compare_18 N ln g a else (fPl_hasLaw ln g 1 a).bind fun ⟨v13, g12⟩ => (if v13 = 0 then some ((-1 : Int32), g12) else fSx_compare_18 N ln g12 a)) = fSx_compare_18 N ln g a := by
      by_cases a1 : a = -1
      · rw [if_pos a1]
      · rw [if_neg a1, e1 a1]; simp [n10]
    obtain ⟨t, et, T⟩ := textOf_eq P K.hL K.L6 ha
    obtain ⟨g1, eg1, f1⟩ := tiltBy_eq hN P K (by decide) T
    have ek : ∀ j, (mI μ 86 46 a).1 86 j = if j = 46 then a else μ.1 86 j := by intro j; rw [mI_at]; simp
    have K1 : KI ((mI μ 86 46 a).1 86) Lw n w L := K.f46 ha ek
    obtain ⟨μ1, em1, f2⟩ := mtilt_eq hN K1
    rw [ek 46, if_pos rfl, tiltK_cong (k := μ.1 86) (fun j hj => by rw [ek, if_neg (by omega)])] at em1
    rw [ex, e2, Option.bind_some, fSx_compare_18, et, Option.bind_some]
    simp only [n10, if_false]
    rw [rd_K 46 46 5654 (by decide) (by decide), wr_K 46 46 5654 (by decide) (by decide), em1, Option.bind_some]
    simp only [either_eq, Option.bind_some]
    rw [wr_K 46 46 5654 (by decide) (by decide)]
    have hm : MS μ (mI μ1 86 46 (μ.1 86 46)) := by
      intro p j x y z
      rw [mI_at]
      split
      · rename_i q; rw [q.1, q.2]
      · rw [f2.MS p j x y z, mI_at, if_neg (by assumption)]
    refine h0.ask (v := jabs (tiltK (μ.1 86) (lawAt Lw a) n)) ⟨g1, ?_, f1.up⟩ ⟨_, rfl, hm⟩
    cases t with
    | none => simp only; rw [eg1]; rfl
    | some p => simp only; rw [eg1]; rfl
  · rw [if_neg ha, e1, e2, Option.bind_some, Option.bind_some]
    exact h0.ask ⟨g, rfl, GU.refl⟩ ⟨μ, rfl, MS.refl⟩
theorem bits_cases (a : Int32) : (∃ x, x < 128 ∧ a = nI x ∧ fSx_areBits a = some 1 ∧ fMo_lies a 0 127 = some 1) ∨ (fSx_areBits a = some 0 ∧ fMo_lies a 0 127 = some 0) := by
  rcases pk_ix a (n := 128) (by decide) with h | h | ⟨p, hp, rfl⟩
  · exact .inr ⟨by rw [fSx_areBits, if_pos h], by rw [fMo_lies, if_pos h]⟩
  · have h' : ¬ a < 0 := by
      intro q
      rw [Int32.lt_iff_toInt_lt, i0] at q
      rw [Int32.le_iff_toInt_le, nI_toInt (by decide)] at h
      omega
    refine .inr ⟨by rw [fSx_areBits, if_neg h', if_pos (show (128 : Int32) ≤ a from h)], ?_⟩
    rw [fMo_lies, if_neg h', if_pos (show (127 : Int32) < a from ?_)]
    rw [Int32.le_iff_toInt_le, nI_toInt (by decide)] at h
    rw [Int32.lt_iff_toInt_lt]
    show (127 : Int) < _
    omega
  · exact .inl ⟨p, hp, rfl, by rw [fSx_areBits, if_neg (nI_pos (by omega)), if_neg (show ¬ (128 : Int32) ≤ nI p from nI_ge (b := 128) hp (by decide))], by rw [fMo_lies, if_neg (nI_pos (by omega)), if_neg (show ¬ (127 : Int32) < nI p from nI_nlt (a := 127) (by omega) (by decide))]⟩
theorem shr_all : ∀ n, n ≤ 7 → ∀ z, z < 128 → ((nI z >>> (nI n &&& 31) = 0) ↔ (nI z &&& (nI (2 ^ n - 1) ^^^ (-1 : Int32)) = 0)) := by decide +kernel
theorem weighed_CR (h : RR ln M g μ) (a b d : Int32) : CR ln M (fSx_weighed N ln g a b d) (fMo_weighed N μ a b d) := by
  have h0 := h
  obtain ⟨Lw, n, w, L, K, P, h1, h2, h3, h4, h5⟩ := h
  have hn7 := K.n7
  have hw6 := K.w6
  have r1 : CR ln M (fSx_weighed_29 N ln g) (fMo_weighed_35 N μ) := (refuse_CR h0 (by decide)).wrap
  rw [fSx_weighed, fMo_weighed]
  rcases bits_cases a with ⟨x, hx, rfl, e1, e2⟩ | ⟨e1, e2⟩
  · rw [e1, e2, Option.bind_some, Option.bind_some, if_neg n10, if_neg n10]
    rcases bits_cases b with ⟨y, hy, rfl, e3, e4⟩ | ⟨e3, e4⟩
    · rw [e3, e4, Option.bind_some, Option.bind_some, if_neg n10, if_neg n10]
      by_cases hxy : nI x &&& nI y = 0
      · rw [if_pos hxy, if_pos hxy, fMo_lies]
        by_cases d0 : d < 0
        · rw [if_pos d0, if_pos d0, Option.bind_some, if_pos rfl]; exact r1
        · rw [if_neg d0, if_neg d0]
          obtain ⟨c, hc, rfl⟩ := nI_of d0
          by_cases c2 : c ≤ 2
          · rw [if_pos (show nI c ≤ 2 from nI_le (b := 2) c2 (by decide)), if_neg (show ¬ (2 : Int32) < nI c from nI_nlt (a := 2) c2 (by decide)), Option.bind_some, if_neg n10, every_eq K, Option.bind_some]
            simp only []
            have hz : x ||| y < 128 := Nat.or_lt_two_pow (n := 7) hx hy
            rw [show g.1 1 0 = nI n by rw [show g.1 1 0 = _ from P.1, K.hn], nI_lor]
            by_cases hs : nI (x ||| y) >>> (nI n &&& 31) = 0
            · rw [if_pos hs, if_pos ((shr_all n hn7 _ hz).1 hs), show g.1 1 5 = nI w by rw [show g.1 1 5 = _ from P.2.2.2.1, K.hw], rd_K 44 44 5654 (by decide) (by decide), K.hw]
              simp only [nm]
              rw [rd_K 44 44 5654 (by decide) (by decide), K.hw]
              by_cases w6 : w = 6
              · subst w6
                rw [if_neg (by decide), if_pos (by decide)]
                exact (refuse_CR h0 (by decide)).wrap
              · have hw : w < 6 := by omega
                rw [if_pos (show nI w < 6 from nI_lt (b := 6) hw (by decide)), if_neg (show ¬ nI w = 6 from fun q => w6 ((eqL 6 6 rfl (by omega) (by decide)).1 q))]
                rw [show (22 : Int32) + (3 : Int32) * nI w = nI (22 + 3 * w) by rw [show (3 : Int32) * nI w = nI (3 * w) from nI_mul 3 w]; exact nI_add 22 (3 * w), wr_nI (by omega) (by decide), nI_1, wr_nI (by omega) (by decide), show nI (22 + 3 * w) + (2 : Int32) = nI (22 + 3 * w + 2) from nI_add _ 2, wr_nI (by omega) (by decide), rd_K 44 44 5654 (by decide) (by decide)]
                rw [show (mI (mI (mI μ 86 (22 + 3 * w) (nI x)) 86 (22 + 3 * w + 1) (nI y)) 86 (22 + 3 * w + 2) (nI c)).1 86 44 = nI w by rw [mI_at, if_neg (by omega), mI_at, if_neg (by omega), mI_at, if_neg (by omega), K.hw], nI_1, wr_K 44 44 5654 (by decide) (by decide), rd_K 44 44 5654 (by decide) (by decide)]
                generalize hμ : mI (mI (mI (mI μ 86 (22 + 3 * w) (nI x)) 86 (22 + 3 * w + 1) (nI y)) 86 (22 + 3 * w + 2) (nI c)) 86 44 (nI (w + 1)) = μ'
                have ek : ∀ j, μ'.1 86 j = if j = 44 then nI (w + 1) else if j = 22 + 3 * w + 2 then nI c else if j = 22 + 3 * w + 1 then nI y else if j = 22 + 3 * w then nI x else μ.1 86 j := by
                  intro j; subst hμ; simp only [mI_at, true_and]
                have em : ∀ p j, p ≠ 86 → μ'.1 p j = μ.1 p j := by
                  intro p j hp; subst hμ; rw [mI_at, if_neg (by omega), mI_at, if_neg (by omega), mI_at, if_neg (by omega), mI_at, if_neg (by omega)]
                have gw : g.1 1 5 = nI w := by rw [show g.1 1 5 = _ from P.2.2.2.1, K.hw]
                generalize hg : gI (gI (gI (gI g 6 w (nI x)) 7 w (nI y)) 8 w (nI c)) 1 5 (nI (w + 1)) = g'
                have ex : fPl_addWeighing ln g 1 (nI x) (nI y) (nI c) = some (nI (w + 1), g') := by
                  rw [fPl_addWeighing, gw, if_neg (show ¬ (6 : Int32) ≤ nI w from nI_ge (b := 6) hw (by decide)), wr_nI hw (by decide), show (gI g (1 + 5) w (nI x)).1 1 5 = nI w by rw [gI_at, if_neg (by omega), gw], wr_nI hw (by decide), show (gI (gI g (1 + 5) w (nI x)) (1 + 6) w (nI y)).1 1 5 = nI w by rw [gI_at, if_neg (by omega), gI_at, if_neg (by omega), gw], wr_nI hw (by decide)]
                  simp only [nm]
                  rw [show (gI (gI (gI g (1 + 5) w (nI x)) (1 + 6) w (nI y)) (1 + 7) w (nI c)).1 1 5 = nI w by rw [gI_at, if_neg (by omega), gI_at, if_neg (by omega), gI_at, if_neg (by omega), gw], nI_1]
                  rw [show gI (gI (gI (gI g (1 + 5) w (nI x)) (1 + 6) w (nI y)) (1 + 7) w (nI c)) 1 5 (nI (w + 1)) = g' from hg]
                  subst hg
                  simp [gI_at]
                have eg : ∀ p, p ≠ 1 → p ≠ 6 → p ≠ 7 → p ≠ 8 → g'.1 p = g.1 p := by
                  intro p a b c d; subst hg; funext j; rw [gI_at, if_neg (by omega), gI_at, if_neg (by omega), gI_at, if_neg (by omega), gI_at, if_neg (by omega)]
                have e1 : ∀ j, j ≠ 5 → g'.1 1 j = g.1 1 j := by
                  intro j a; subst hg; rw [gI_at, if_neg (by omega), gI_at, if_neg (by omega), gI_at, if_neg (by omega), gI_at, if_neg (by omega)]
                rw [ex, Option.bind_some, ek 44, if_pos rfl]
                refine ⟨nI (w + 1), gI g' 0 14 0, mI μ' 84 0 0, rfl, rfl, RR.told ?_⟩
                have eo : ∀ j, j < 22 ∨ 22 + 3 * w + 2 < j → j ≠ 44 → μ'.1 86 j = μ.1 86 j := by
                  intro j p q; rw [ek, if_neg (by omega), if_neg (by omega), if_neg (by omega), if_neg (by omega)]
                have er : g'.2.2 = g.2.2 := by subst hg; rfl
                refine RR.plank (g := g) (μ := μ) (Lw := Lw) (n := n) (w := w) (L := L) (n' := n) (w' := w + 1) (L' := L) (Lw' := Lw) (K.upd (fun j hj' => by rw [eo j (by omega) (by omega)]) (by rw [eo 43 (by omega) (by omega), K.hn]) K.n7 (by rw [ek, if_pos rfl]) (by omega) (by rw [eo 45 (by omega) (by omega)]) (by rw [eo 46 (by omega) (by omega)]; exact K.fo) ⟨fun c hc => ?_, ?_⟩ ?_ (fun i' hi' => ?_)) ⟨?_, fun c hc => ?_, ?_, ?_, fun i' hi' => ?_, ?_, ?_, fun f hf => ?_⟩ (h1.frame (eg 29 (by decide) (by decide) (by decide) (by decide)) (eg 30 (by decide) (by decide) (by decide) (by decide)) (em 84 33 (by decide)) (by funext j; rw [em 98 j (by decide)])) h2 h3 h4 h5 (fun p a b c d => eg p (by omega) (by omega) (by omega) (by omega)) (fun p _ => by rw [er]) (fun p j a b c d e => em p j a)
                · rw [eo _ (by omega) (by omega), eo _ (by omega) (by omega)]; exact K.co.1 c hc
                · rw [eo _ (by omega) (by omega)]; exact K.co.2
                · unfold TM; rw [eo _ (by omega) (by omega), eo _ (by omega) (by omega), eo _ (by omega) (by omega)]; exact K.tm
                · by_cases hiw : i' = w
                  · subst hiw
                    refine ⟨x, y, c, ?_, ?_, ?_, hx, hy, ?_, c2⟩
                    · rw [ek, if_neg (by omega), if_neg (by omega), if_neg (by omega), if_pos rfl]
                    · rw [ek, if_neg (by omega), if_neg (by omega), if_pos (by omega)]
                    · rw [ek, if_neg (by omega), if_pos (by omega)]
                    · rw [nI_land] at hxy
                      have : x &&& y < 128 := Nat.lt_of_le_of_lt Nat.and_le_left hx
                      exact (eqL 0 0 rfl (by omega) (by decide)).1 hxy
                  · have q : ∀ z, z ≤ 2 → μ'.1 86 (22 + z + 3 * i') = μ.1 86 (22 + z + 3 * i') := fun z hz => by
                      rw [ek, if_neg (by omega), if_neg (by omega), if_neg (by omega), if_neg (by omega)]
                    have q0 := q 0 (by omega)
                    have q1 := q 1 (by omega)
                    have q2 := q 2 (by omega)
                    simp only [Nat.add_zero] at q0
                    rw [q0, q1, q2]
                    exact K.wo i' (by omega)
                · rw [e1 0 (by decide), eo 43 (by omega) (by omega)]; exact P.1
                · rw [eg 2 (by decide) (by decide) (by decide) (by decide), eg 3 (by decide) (by decide) (by decide) (by decide), eg 4 (by decide) (by decide) (by decide) (by decide), eo _ (by omega) (by omega), eo _ (by omega) (by omega), eo _ (by omega) (by omega)]; exact P.2.1 c hc
                · rw [eg 5 (by decide) (by decide) (by decide) (by decide), eo _ (by omega) (by omega), eo _ (by omega) (by omega), eo _ (by omega) (by omega), eo _ (by omega) (by omega)]; exact P.2.2.1
                · rw [ek 44, if_pos rfl]; subst hg; simp [gI_at]
                · obtain ⟨p1, p2, p3⟩ := P.2.2.2.2.1 i' hi'
                  by_cases hiw : i' = w
                  · subst hiw
                    subst hg
                    refine ⟨?_, ?_, ?_⟩
                    · rw [ek, if_neg (by omega), if_neg (by omega), if_neg (by omega), if_pos rfl]; simp [gI_at]
                    · rw [ek, if_neg (by omega), if_neg (by omega), if_pos (by omega)]; simp [gI_at]
                    · rw [ek, if_neg (by omega), if_pos (by omega)]; simp [gI_at]
                  · have q : ∀ z, z ≤ 2 → μ'.1 86 (22 + z + 3 * i') = μ.1 86 (22 + z + 3 * i') := fun z hz => by
                      rw [ek, if_neg (by omega), if_neg (by omega), if_neg (by omega), if_neg (by omega)]
                    have q0 := q 0 (by omega)
                    have q1 := q 1 (by omega)
                    have q2 := q 2 (by omega)
                    simp only [Nat.add_zero] at q0
                    rw [q0, q1, q2]
                    subst hg
                    refine ⟨?_, ?_, ?_⟩
                    · rw [← show g.1 6 i' = _ from p1]; simp [gI_at, hiw]
                    · rw [← show g.1 7 i' = _ from p2]; simp [gI_at, hiw]
                    · rw [← show g.1 8 i' = _ from p3]; simp [gI_at, hiw]
                · rw [e1 9 (by decide), eo 45 (by omega) (by omega)]; exact P.2.2.2.2.2.1
                · rw [e1 11 (by decide), eo 46 (by omega) (by omega)]; exact P.2.2.2.2.2.2.1
                · obtain ⟨p, b1, b2, b3⟩ := P.2.2.2.2.2.2.2 f hf
                  refine ⟨p, by rw [er, b1], b2.same (by rw [er]), b3.frame (fun y y1 y2 => ?_)⟩
                  have := b2.1
                  exact eg y (by omega) (by omega) (by omega) (by omega)
            · rw [if_neg hs, if_neg (fun q => hs ((shr_all n hn7 _ hz).2 q))]
              exact (refuse_CR h0 (by decide)).wrap
          · rw [if_neg (show ¬ nI c ≤ 2 from nI_ge (a := 2) (by omega) hc), if_pos (show (2 : Int32) < nI c from nI_lt (a := 2) (by omega) hc), Option.bind_some, if_pos rfl]; exact r1
      · rw [if_neg hxy, if_neg hxy]; exact r1
    · rw [e3, e4, Option.bind_some, Option.bind_some, if_pos rfl, if_pos rfl]; exact r1
  · rw [e1, e2, Option.bind_some, Option.bind_some, if_pos rfl, if_pos rfl]; exact r1
theorem count_CR (hN : 3000 ≤ N) (h : RR ln M g μ) (a : Int32) : CR ln M (fSx_count N ln g a) (fMo_count N μ a) := by
  have h0 := h
  obtain ⟨Lw, n, w, L, K, P, ⟨hh, nx, k1, k2, _⟩, ⟨t, B, t1, t2, t3, t4, t5, t6⟩, ⟨m1, m2, m3, m4, m5, m6, m7, m8, m9⟩, h4, h5⟩ := h
  have go : ∀ v, fSx_count N ln g a = some (v, g) → fMo_count N μ a = some (v, μ) → CR ln M (fSx_count N ln g a) (fMo_count N μ a) := fun v x y => ⟨v, g, μ, x, y, h0⟩
  have hb := onB_lt (k := μ.1 86) (n := n) 7
  obtain ⟨q1, q2, q3, q4⟩ := P.2.2.1
  by_cases a0 : a = 0
  · subst a0; exact go (nI n) (by simp (decide := true) only [fSx_count, fSx_count_22, fSx_count_47, if_true, if_false]; rw [show g.1 1 0 = _ from P.1, K.hn]) (by simp (decide := true) only [fMo_count, if_true, if_false]; rw [many_eq K]; rfl)
  by_cases a1 : a = 1
  · subst a1; exact go (nI (pcn (onB (μ.1 86) n 7))) (by simp (decide := true) only [fSx_count, fSx_count_22, fSx_count_47, if_true, if_false]; rw [onBits_eq hN P K, Option.bind_some]; simp only []; rw [bitCount_eq _ hb]; rfl) (by simp (decide := true) only [fMo_count, if_true, if_false]; rw [monMany_eq hN K]; rfl)
  by_cases a2 : a = 2
  · subst a2; exact go (hS (μ.1 86) n (2 ^ n - 1) 7) (by simp (decide := true) only [fSx_count, fSx_count_22, fSx_count_47, if_true, if_false]; rw [xheavyAll_eq hN P K]; rfl) (by simp (decide := true) only [fMo_count, if_true, if_false]; rw [every_eq K, Option.bind_some]; simp only []; rw [mheavy_eq hN K (by have := pow_le7 K.n7; omega)]; rfl)
  by_cases a3 : a = 3
  · subst a3; exact go (nI w) (by simp (decide := true) only [fSx_count, fSx_count_22, fSx_count_47, if_true, if_false]; rw [show g.1 1 5 = _ from P.2.2.2.1, K.hw]) (by simp (decide := true) only [fMo_count, if_true, if_false]; rw [rd_K 44 44 5654 (by decide) (by decide), K.hw])
  by_cases a4 : a = 4
  · subst a4; exact go (nI L) (by simp (decide := true) only [fSx_count, fSx_count_22, fSx_count_47, if_true, if_false]; rw [show g.1 1 9 = _ from P.2.2.2.2.2.1, K.hL]) (by simp (decide := true) only [fMo_count, if_true, if_false]; rw [rd_K 45 45 5654 (by decide) (by decide), K.hL])
  by_cases a5 : a = 5
  · subst a5; exact go (nI hh) (by simp (decide := true) only [fSx_count, fSx_count_22, fSx_count_47, if_true, if_false]; rw [k1]) (by simp (decide := true) only [fMo_count, if_true, if_false]; rw [k2])
  by_cases a6 : a = 6
  · subst a6; exact go (nI t) (by simp (decide := true) only [fSx_count, fSx_count_22, fSx_count_47, if_true, if_false]; rw [t3]) (by simp (decide := true) only [fMo_count, if_true, if_false]; rw [t4])
  by_cases a7 : a = 7
  · subst a7; exact go (μ.1 85 1) (by simp (decide := true) only [fSx_count, if_true, if_false]; rw [rd_K _ 0 5 (by decide) (by decide), m5]) (by simp (decide := true) only [fMo_count, if_true, if_false]; rw [rd_K _ 1 7 (by decide) (by decide)])
  by_cases a8 : a = 8
  · subst a8; exact go (μ.1 85 2) (by simp (decide := true) only [fSx_count, if_true, if_false]; rw [rd_K _ 1 5 (by decide) (by decide), m6]) (by simp (decide := true) only [fMo_count, if_true, if_false]; rw [rd_K _ 2 7 (by decide) (by decide)])
  by_cases a9 : a = 9
  · subst a9; exact go (μ.1 85 3) (by simp (decide := true) only [fSx_count, if_true, if_false]; rw [rd_K _ 2 5 (by decide) (by decide), m7]) (by simp (decide := true) only [fMo_count, if_true, if_false]; rw [rd_K _ 3 7 (by decide) (by decide)])
  by_cases a10 : a = 10
  · subst a10; exact go (μ.1 85 5) (by simp (decide := true) only [fSx_count, if_true, if_false]; rw [rd_K _ 3 5 (by decide) (by decide), m8]) (by simp (decide := true) only [fMo_count, if_true, if_false]; rw [rd_K _ 5 7 (by decide) (by decide)])
  by_cases a11 : a = 11
  · subst a11; exact go (μ.1 85 6) (by simp (decide := true) only [fSx_count, if_true, if_false]; rw [rd_K _ 4 5 (by decide) (by decide), m9]) (by simp (decide := true) only [fMo_count, if_true, if_false]; rw [rd_K _ 6 7 (by decide) (by decide)])
  by_cases a12 : a = 12
  · subst a12; exact go (μ.1 86 46) (by simp (decide := true) only [fSx_count, fSx_count_22, fSx_count_47, if_true, if_false]; rw [show g.1 1 11 = _ from P.2.2.2.2.2.2.1]) (by simp (decide := true) only [fMo_count, if_true, if_false]; rw [rd_K 46 46 5654 (by decide) (by decide)])
  by_cases a13 : a = 13
  · subst a13; exact go (μ.1 86 14) (by simp (decide := true) only [fSx_count, fSx_count_22, if_true, if_false]; rw [rd_K _ 0 4 (by decide) (by decide), show g.1 5 0 = _ from q1]) (by simp (decide := true) only [fMo_count, fMo_count_162, fMo_termAt, if_true, if_false, Option.bind_some]; rw [rd_K _ 14 5654 (by decide) (by decide)])
  by_cases a14 : a = 14
  · subst a14; exact go (μ.1 86 40) (by simp (decide := true) only [fSx_count, fSx_count_22, if_true, if_false]; rw [rd_K _ 1 4 (by decide) (by decide), show g.1 5 1 = _ from q2]) (by simp (decide := true) only [fMo_count, fMo_count_162, fMo_termAt, if_true, if_false, Option.bind_some]; rw [rd_K _ 40 5654 (by decide) (by decide)])
  by_cases a15 : a = 15
  · subst a15; exact go (μ.1 86 41) (by simp (decide := true) only [fSx_count, fSx_count_22, if_true, if_false]; rw [rd_K _ 2 4 (by decide) (by decide), show g.1 5 2 = _ from q3]) (by simp (decide := true) only [fMo_count, fMo_count_162, fMo_termAt, if_true, if_false, Option.bind_some]; rw [rd_K _ 41 5654 (by decide) (by decide)])
  by_cases a16 : a = 16
  · subst a16; exact go (μ.1 86 42) (by simp (decide := true) only [fSx_count, fSx_count_22, if_true, if_false]; rw [rd_K _ 3 4 (by decide) (by decide), show g.1 5 3 = _ from q4]) (by simp (decide := true) only [fMo_count, fMo_count_162, fMo_termAt, if_true, if_false, Option.bind_some]; rw [rd_K _ 42 5654 (by decide) (by decide)])
  refine go (-1) ?_ ?_
  · have e47 : fSx_count_47 N ln g a = some (-1, g) := by
      rw [fSx_count_47, if_neg a0, if_neg a1, if_neg a2, if_neg a3, if_neg a4, if_neg a5, if_neg a6, if_neg a7, if_neg a8, if_neg a9, if_neg a10, if_neg a11, if_neg a12]
    have ne : ∀ z : Int32, a ≠ z → a.toInt ≠ z.toInt := fun z q e => q (Int32.toInt_inj.1 e)
    have b13 : a.toInt ≠ 13 := ne 13 a13
    have b14 : a.toInt ≠ 14 := ne 14 a14
    have b15 : a.toInt ≠ 15 := ne 15 a15
    have b16 : a.toInt ≠ 16 := ne 16 a16
    have b7 : a.toInt ≠ 7 := ne 7 a7
    have b8 : a.toInt ≠ 8 := ne 8 a8
    have b9 : a.toInt ≠ 9 := ne 9 a9
    have b10 : a.toInt ≠ 10 := ne 10 a10
    have b11 : a.toInt ≠ 11 := ne 11 a11
    have e22 : fSx_count_22 N ln g a = some (-1, g) := by
      rw [fSx_count_22]
      split
      · exact e47
      · split
        · exact e47
        · rename_i x y
          exfalso
          rw [Int32.lt_iff_toInt_lt] at x
          rw [Int32.le_iff_toInt_le] at y
          have x' : ¬ a.toInt < 13 := x
          have y' : ¬ 17 ≤ a.toInt := y
          omega
    rw [fSx_count]
    split
    · exact e22
    · split
      · exact e22
      · rename_i x y
        exfalso
        rw [Int32.lt_iff_toInt_lt] at x
        rw [Int32.le_iff_toInt_le] at y
        have x' : ¬ a.toInt < 7 := x
        have y' : ¬ 12 ≤ a.toInt := y
        omega
  · rw [fMo_count, if_neg a0, if_neg a1, if_neg a2, if_neg a3, if_neg a4, if_neg a5, if_neg a6, if_neg a7, if_neg a8, if_neg a9, if_neg a10, if_neg a11, if_neg a12, if_neg a13, if_neg a14, if_neg a15, if_neg a16]
end
