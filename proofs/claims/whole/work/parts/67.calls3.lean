/-! ===== terms, force, compare, count, weighed, forget ===== -/
section
variable {N : Nat} {ln : Nat → Nat} {M : Nat} {g : sw_g} {μ : sw_m}
/-- the plank's own cells and what can be undone may change -/
theorem RR.plank {Lw : Nat → List Cl} {n n' w w' L L' : Nat} {Lw' : Nat → List Cl} {g' : sw_g} {μ' : sw_m} (K' : KI (μ'.1 86) Lw' n' w' L') (P' : PQ ln M g' 1 (μ'.1 86) Lw' L') (H' : RH g' μ' n') (h2 : RT g μ) (h3 : RM g μ) (h4 : RD g μ) (h5 : RI ln M g μ) (eg : ∀ p, (p < 1 ∨ 9 < p) → p ≠ 29 → p ≠ 30 → (p < 43 ∨ 45 < p) → g'.1 p = g.1 p) (er : ∀ p, p = 28 ∨ 110 ≤ p → g'.2.2 p = g.2.2 p) (em : ∀ p j, p ≠ 86 → p ≠ 98 → (p = 84 → j = 0 ∨ j = 6 ∨ j = 13 ∨ j = 14 ∨ j = 43 ∨ j = 51) → p ≠ 89 → (p < 92 ∨ 108 < p) → μ'.1 p j = μ.1 p j) : RR ln M g' μ' := by
  have er' : ∀ p, p ≠ 86 → p ≠ 84 → p ≠ 98 → p ≠ 89 → (p < 92 ∨ 108 < p) → μ'.1 p = μ.1 p := fun p a b c d e => funext fun j => em p j a c (fun x => absurd x b) d e
  refine ⟨Lw', n', w', L', K', P', H', ?_, ?_, ?_, ?_⟩
  · exact h2.frame (by rw [eg 33 (by decide) (by decide) (by decide) (by decide)]) (eg 34 (by decide) (by decide) (by decide) (by decide)) (em 84 13 (by decide) (by decide) (by decide) (by decide) (by decide)) (er' 91 (by decide) (by decide) (by decide) (by decide) (by decide)) (er' 90 (by decide) (by decide) (by decide) (by decide) (by decide))
  · unfold RM
    rw [eg 33 (by decide) (by decide) (by decide) (by decide), eg 0 (by decide) (by decide) (by decide) (by decide), eg 83 (by decide) (by decide) (by decide) (by decide), em 84 14 (by decide) (by decide) (by decide) (by decide) (by decide), em 84 43 (by decide) (by decide) (by decide) (by decide) (by decide), em 84 6 (by decide) (by decide) (by decide) (by decide) (by decide), em 84 0 (by decide) (by decide) (by decide) (by decide) (by decide), er' 85 (by decide) (by decide) (by decide) (by decide) (by decide)]
    exact h3
  · exact h4.frame (by rw [eg 19 (by decide) (by decide) (by decide) (by decide)]) (eg 20 (by decide) (by decide) (by decide) (by decide)) (eg 22 (by decide) (by decide) (by decide) (by decide)) (em 84 51 (by decide) (by decide) (by decide) (by decide) (by decide)) (er' 109 (by decide) (by decide) (by decide) (by decide) (by decide))
  · exact h5.frame (fun p hp => eg p (by omega) (by omega) (by omega) (by omega)) er (er' 87 (by decide) (by decide) (by decide) (by decide) (by decide)) (er' 88 (by decide) (by decide) (by decide) (by decide) (by decide))
theorem terms_go (h : RR ln M g μ) (b : Int32) (i jx lim : Nat) (hi : i < 4) (hj : (i = 0 ∧ jx = 14 ∧ lim = 999) ∨ (i = 1 ∧ jx = 40 ∧ lim = 10) ∨ (i = 2 ∧ jx = 41 ∧ lim = 9) ∨ (i = 3 ∧ jx = 42 ∧ lim = 9)) : CR ln M (if b < 0 then fSx_terms_22 N ln g else (if b ≤ nI lim then rd 4 (nI i) (g.1 5) fun v5 => wr 4 (nI i) (fun j => gI g 5 j b) fun g6 => (fHi_clear ln g6 29).bind fun g8 => (fSx_told ln g8 v5).bind fun ⟨v11, g10⟩ => some (v11, g10) else fSx_terms_22 N ln g)) (((fMo_lies b 0 (nI lim)).bind fun v2 => tz v2 <| some v2).bind fun v2 => (if v2 = 0 then (fMo_refuses μ (-1 : Int32)).bind fun ⟨v14, μ13⟩ => some (v14, μ13) else rd 5654 (nI jx) (μ.1 86) fun v5 => wr 5654 (nI jx) (fun j => mI μ 86 j b) fun μ8 => (fMo_settled μ8 v5).bind fun ⟨v11, μ10⟩ => some (v11, μ10))) := by
  have h0 := h
  obtain ⟨Lw, n, w, L, K, P, h1, h2, h3, h4, h5⟩ := h
  have hn7 := K.n7
  have e0 : ((some (0 : Int32)).bind fun v2 => tz v2 <| some v2) = some (0 : Int32) := rfl
  have e1 : ((some (1 : Int32)).bind fun v2 => tz v2 <| some v2) = some (1 : Int32) := rfl
  have ref : CR ln M (fSx_terms_22 N ln g) ((some (0 : Int32)).bind fun v2 => (if v2 = 0 then (fMo_refuses μ (-1 : Int32)).bind fun ⟨v14, μ13⟩ => some (v14, μ13) else rd 5654 (nI jx) (μ.1 86) fun v5 => wr 5654 (nI jx) (fun j => mI μ 86 j b) fun μ8 => (fMo_settled μ8 v5).bind fun ⟨v11, μ10⟩ => some (v11, μ10))) := (refuse_CR h0 (by simp)).wrap
  have hl : lim ≤ 999 ∧ jx < 43 := by omega
  by_cases hb : b < 0
  · rw [if_pos hb, fMo_lies, if_pos hb, e0]; exact ref
  · obtain ⟨x, hx, rfl⟩ := nI_of hb
    by_cases hxl : x ≤ lim
    · rw [if_neg hb, if_pos (nI_le hxl (by omega)), fMo_lies, if_neg hb, if_neg (nI_nlt hxl (by omega)), e1, Option.bind_some, if_neg n10, rd_nI hi (by decide), wr_nI hi (by decide), rd_nI (by omega) (by decide), wr_nI (by omega) (by decide)]
      have hv : g.1 5 i = μ.1 86 jx := by
        obtain ⟨q1, q2, q3, q4⟩ := P.2.2.1
        rcases hj with ⟨rfl, rfl, _⟩ | ⟨rfl, rfl, _⟩ | ⟨rfl, rfl, _⟩ | ⟨rfl, rfl, _⟩
        · exact q1
        · exact q2
        · exact q3
        · exact q4
      rw [hv]
      refine ⟨μ.1 86 jx, gI (gI (gI g 5 i (nI x)) 29 0 0) 0 14 0, mI (mI (mI μ 86 jx (nI x)) 84 33 0) 84 0 0, rfl, rfl, RR.told ?_⟩
      have ek : ∀ j, (mI (mI μ 86 jx (nI x)) 84 33 0).1 86 j = if j = jx then nI x else μ.1 86 j := by
        intro j; rw [mI_at, if_neg (by omega), mI_at]; simp
      have eg : ∀ p, p ≠ 5 → p ≠ 29 → (gI (gI g 5 i (nI x)) 29 0 0).1 p = g.1 p := fun p a c => by funext y; rw [gI_at, if_neg (by omega), gI_at, if_neg (by omega)]
      have e5 : ∀ j, (gI (gI g 5 i (nI x)) 29 0 0).1 5 j = if j = i then nI x else g.1 5 j := by
        intro j; rw [gI_at, if_neg (by omega), gI_at]; simp
      refine RR.plank (g := g) (μ := μ) (Lw := Lw) (n := n) (w := w) (L := L) (n' := n) (w' := w) (L' := L) (Lw' := Lw) (K.upd (fun j hj' => by rw [ek, if_neg (by omega)]) (by rw [ek, if_neg (by omega), K.hn]) K.n7 (by rw [ek, if_neg (by omega), K.hw]) K.w6 (by rw [ek, if_neg (by omega)]) (by rw [ek, if_neg (by omega)]; exact K.fo) ⟨fun c hc => ?_, ?_⟩ ?_ (fun i' hi' => ?_)) ⟨?_, fun c hc => ?_, ?_, ?_, fun i' hi' => ?_, ?_, ?_, fun f hf => ?_⟩ (h1.clear n (by simp [gI_at]) (by simp [gI_at]) (by simp [mI_at])) h2 h3 h4 h5 (fun p a b c d => eg p (by omega) (by omega)) (fun p _ => rfl) (fun p j a b c d e => by rw [mI_at, if_neg (by omega), mI_at, if_neg (by omega)])
      · rw [ek, if_neg (by omega), ek, if_neg (by omega)]; exact K.co.1 c hc
      · rw [ek]
        split
        · exact ⟨x, rfl, by omega⟩
        · exact K.co.2
      · obtain ⟨t1, t2, t3⟩ := K.tm
        refine ⟨?_, ?_, ?_⟩
        · rw [ek]; split
          · exact ⟨x, rfl, by omega⟩
          · exact t1
        · rw [ek]; split
          · exact ⟨x, rfl, by omega⟩
          · exact t2
        · rw [ek]; split
          · exact ⟨x, rfl, by omega⟩
          · exact t3
      · have := K.w6
        rw [ek, if_neg (by omega), ek, if_neg (by omega), ek, if_neg (by omega)]; exact K.wo i' hi'
      · rw [eg 1 (by decide) (by decide), ek, if_neg (by omega)]; exact P.1
      · rw [eg 2 (by decide) (by decide), eg 3 (by decide) (by decide), eg 4 (by decide) (by decide), ek, if_neg (by omega), ek, if_neg (by omega), ek, if_neg (by omega)]; exact P.2.1 c hc
      · obtain ⟨q1, q2, q3, q4⟩ := P.2.2.1
        show _ ∧ _ ∧ _ ∧ _
        rw [show (1 + 4) = 5 from rfl, e5, e5, e5, e5, ek, ek, ek, ek]
        rcases hj with ⟨rfl, rfl, _⟩ | ⟨rfl, rfl, _⟩ | ⟨rfl, rfl, _⟩ | ⟨rfl, rfl, _⟩ <;> simp <;> first | exact ⟨q2, q3, q4⟩ | exact ⟨q1, q3, q4⟩ | exact ⟨q1, q2, q4⟩ | exact ⟨q1, q2, q3⟩
      · rw [eg 1 (by decide) (by decide), ek, if_neg (by omega)]; exact P.2.2.2.1
      · rw [eg 6 (by decide) (by decide), eg 7 (by decide) (by decide), eg 8 (by decide) (by decide), ek, if_neg (by omega), ek, if_neg (by omega), ek, if_neg (by omega)]; exact P.2.2.2.2.1 i' hi'
      · rw [eg 1 (by decide) (by decide), ek, if_neg (by omega)]; exact P.2.2.2.2.2.1
      · rw [eg 1 (by decide) (by decide), ek, if_neg (by omega)]; exact P.2.2.2.2.2.2.1
      · obtain ⟨p, b1, b2, b3⟩ := P.2.2.2.2.2.2.2 f hf
        exact ⟨p, b1, b2, b3.frame (fun y y1 y2 => eg y (by have := b2.1; omega) (by have := b2.1; omega))⟩
    · rw [if_neg hb, if_neg (nI_ge (by omega) hx), fMo_lies, if_neg hb, if_pos (nI_lt (by omega) hx), e0]; exact ref
theorem terms_CR (h : RR ln M g μ) (a b : Int32) : CR ln M (fSx_terms N ln g a b) (fMo_terms N μ a b) := by
  rcases pk_ix a (n := 4) (by decide) with ha | ha | ⟨i, hi, rfl⟩
  · rw [fSx_terms, if_pos ha, fMo_terms, fMo_isTerm, if_neg (fun e => by subst e; exact absurd ha (by decide)), if_neg (fun e => by subst e; exact absurd ha (by decide)), if_neg (fun e => by subst e; exact absurd ha (by decide)), if_neg (fun e => by subst e; exact absurd ha (by decide)), Option.bind_some, if_pos rfl]
    exact (refuse_CR h (by simp)).wrap
  · have ha0 : ¬ a < 0 := by
      intro q
      rw [Int32.lt_iff_toInt_lt, i0] at q
      rw [Int32.le_iff_toInt_le, nI_toInt (by decide)] at ha
      omega
    rw [fSx_terms, if_neg ha0, if_pos (show (4 : Int32) ≤ a from ha), fMo_terms, fMo_isTerm, if_neg (fun e => by subst e; exact absurd ha (by decide)), if_neg (fun e => by subst e; exact absurd ha (by decide)), if_neg (fun e => by subst e; exact absurd ha (by decide)), if_neg (fun e => by subst e; exact absurd ha (by decide)), Option.bind_some, if_pos rfl]
    exact (refuse_CR h (by simp)).wrap
  · rw [fSx_terms, if_neg (nI_pos (by omega)), if_neg (show ¬ (4 : Int32) ≤ nI i from nI_ge (b := 4) hi (by decide)), rd_nI hi (by decide)]
    rcases (show i = 0 ∨ i = 1 ∨ i = 2 ∨ i = 3 by omega) with rfl | rfl | rfl | rfl
    · exact terms_go h b 0 14 999 (by decide) (by simp)
    · exact terms_go h b 1 40 10 (by decide) (by simp)
    · exact terms_go h b 2 41 9 (by decide) (by simp)
    · exact terms_go h b 3 42 9 (by decide) (by simp)
/-- a law's number, none, or neither -/
theorem law_cases {k : Nat → Int32} {Lw : Nat → List Cl} {n w L : Nat} (K : KI k Lw n w L) (P : PQ ln M g 1 k Lw L) (hk : μ.1 86 = k) (a : Int32) : ((a = -1 ∨ ∃ f, f < L ∧ a = nI f) ∧ (a ≠ -1 → fPl_hasLaw ln g 1 a = some (1, g)) ∧ fMo_isLaw μ a = some (1, μ)) ∨ (a ≠ -1 ∧ fPl_hasLaw ln g 1 a = some (0, g) ∧ fMo_isLaw μ a = some (0, μ)) := by
  have hL6 := K.L6
  have h45 : g.1 1 9 = nI L := by rw [show g.1 1 9 = _ from P.2.2.2.2.2.1, K.hL]
  have hm : fMo_isLaw μ a = (fMo_lies a (-1) (nI L - 1)).bind fun v3 => tz v3 <| some (v3, μ) := by
    rw [fMo_isLaw, rd_K 45 45 5654 (by decide) (by decide), hk, K.hL]
  have hlt : ∀ (x : Int32), (nI L - 1 < x) ↔ ((L : Int) - 1 < x.toInt) := by
    intro x
    rw [Int32.lt_iff_toInt_lt, show nI L - 1 = zI ((L : Int) - 1) by rw [← zI_nat, show (1 : Int32) = zI 1 from rfl, zI_sub], zI_toInt (by omega) (by omega)]
  rw [hm, fMo_lies, fPl_hasLaw, h45]
  by_cases a1 : a = -1
  · subst a1
    left
    refine ⟨.inl rfl, fun q => absurd rfl q, ?_⟩
    rw [if_neg (by decide), if_neg (by rw [hlt]; show ¬ ((L : Int) - 1 < -1); omega)]
    simp [tz]
  · by_cases a0 : a < 0
    · right
      refine ⟨a1, by rw [if_pos a0], ?_⟩
      rw [if_pos ?_]
      · simp [tz]
      · rw [Int32.lt_iff_toInt_lt] at a0 ⊢
        rw [i0] at a0
        have : a.toInt ≠ -1 := fun e => a1 (Int32.toInt_inj.1 e)
        show a.toInt < -1
        omega
    · obtain ⟨f, hf, rfl⟩ := nI_of a0
      rw [if_neg (show ¬ nI f < -1 from by rw [Int32.lt_iff_toInt_lt, nI_toInt hf]; show ¬ ((f : Int) < -1); omega)]
      by_cases hfL : f < L
      · left
        refine ⟨.inr ⟨f, hfL, rfl⟩, fun _ => ?_, ?_⟩
        · rw [if_neg a0, if_neg (nI_ge hfL (by omega)), if_neg (show ¬ (6 : Int32) ≤ nI f from nI_ge (b := 6) (by omega) (by decide))]
        · rw [if_neg (by rw [hlt, nI_toInt hf]; omega)]; simp [tz]
      · right
        refine ⟨a1, by rw [if_neg a0, if_pos (nI_le (by omega) hf)], ?_⟩
        rw [if_pos (by rw [hlt, nI_toInt hf]; omega)]; simp [tz]
theorem force_CR (h : RR ln M g μ) (a : Int32) : CR ln M (fSx_force N ln g a) (fMo_force μ a) := by
  have h0 := h
  obtain ⟨Lw, n, w, L, K, P, h1, h2, h3, h4, h5⟩ := h
  rw [fSx_force, fMo_force]
  rcases law_cases K P rfl a with ⟨ha, e1, e2⟩ | ⟨ha, e1, e2⟩
  · have ex : (if a = (-1 : Int32) then fSx_force_23 N ln g a else (fPl_hasLaw ln g 1 a).bind fun ⟨v8, g7⟩ => (if v8 = 0 then (fSx_refuse N ln g7 (-2 : Int32)).bind fun ⟨v11, g10⟩ => some (v11, g10) else fSx_force_23 N ln g7 a)) = fSx_force_23 N ln g a := by
      by_cases a1 : a = -1
      · rw [if_pos a1]
      · rw [if_neg a1, e1 a1]; simp [n10]
    rw [ex, e2, Option.bind_some, fSx_force_23]
    simp only [n10, if_false, nm]
    rw [rd_K 46 46 5654 (by decide) (by decide), wr_K 46 46 5654 (by decide) (by decide), show g.1 1 11 = μ.1 86 46 from P.2.2.2.2.2.2.1]
    refine ⟨μ.1 86 46, gI (gI g 1 11 a) 0 14 0, mI (mI μ 86 46 a) 84 0 0, rfl, rfl, RR.told ?_⟩
    have ek : ∀ j, (mI μ 86 46 a).1 86 j = if j = 46 then a else μ.1 86 j := by intro j; rw [mI_at]; simp
    have eg : ∀ p, p ≠ 1 → (gI g 1 11 a).1 p = g.1 p := fun p x => by funext y; rw [gI_at, if_neg (by omega)]
    have e1 : ∀ j, j ≠ 11 → (gI g 1 11 a).1 1 j = g.1 1 j := fun j x => by rw [gI_at, if_neg (by omega)]
    refine RR.plank (g := g) (μ := μ) (Lw := Lw) (n := n) (w := w) (L := L) (n' := n) (w' := w) (L' := L) (Lw' := Lw) (K.upd (fun j hj' => by rw [ek, if_neg (by omega)]) (by rw [ek, if_neg (by omega), K.hn]) K.n7 (by rw [ek, if_neg (by omega), K.hw]) K.w6 (by rw [ek, if_neg (by omega)]) (by rw [ek, if_pos rfl]; exact ha) ⟨fun c hc => ?_, ?_⟩ ?_ (fun i' hi' => ?_)) ⟨?_, fun c hc => ?_, ?_, ?_, fun i' hi' => ?_, ?_, ?_, fun f hf => ?_⟩ (h1.frame (eg 29 (by decide)) (eg 30 (by decide)) (by rw [mI_at, if_neg (by decide)]) (by funext j; rw [mI_at, if_neg (by omega)])) h2 h3 h4 h5 (fun p a b c d => eg p (by omega)) (fun p _ => rfl) (fun p j a b c d e => by rw [mI_at, if_neg (by omega)])
    · have := K.n7
      rw [ek, if_neg (by omega), ek, if_neg (by omega)]; exact K.co.1 c hc
    · rw [ek, if_neg (by omega)]; exact K.co.2
    · unfold TM; rw [ek, if_neg (by omega), ek, if_neg (by omega), ek, if_neg (by omega)]; exact K.tm
    · have := K.w6
      rw [ek, if_neg (by omega), ek, if_neg (by omega), ek, if_neg (by omega)]; exact K.wo i' hi'
    · rw [e1 0 (by decide), ek, if_neg (by omega)]; exact P.1
    · rw [eg 2 (by decide), eg 3 (by decide), eg 4 (by decide), ek, if_neg (by omega), ek, if_neg (by omega), ek, if_neg (by omega)]; exact P.2.1 c hc
    · rw [eg 5 (by decide), ek, if_neg (by omega), ek, if_neg (by omega), ek, if_neg (by omega), ek, if_neg (by omega)]; exact P.2.2.1
    · rw [e1 5 (by decide), ek, if_neg (by omega)]; exact P.2.2.2.1
    · rw [eg 6 (by decide), eg 7 (by decide), eg 8 (by decide), ek, if_neg (by omega), ek, if_neg (by omega), ek, if_neg (by omega)]; exact P.2.2.2.2.1 i' hi'
    · rw [e1 9 (by decide), ek, if_neg (by omega)]; exact P.2.2.2.2.2.1
    · rw [gI_at, if_pos (by decide), ek, if_pos rfl]
    · obtain ⟨p, b1, b2, b3⟩ := P.2.2.2.2.2.2.2 f hf
      exact ⟨p, b1, b2, b3.frame (fun y y1 y2 => eg y (by have := b2.1; omega))⟩
  · rw [if_neg ha, e1, e2, Option.bind_some, Option.bind_some]
    exact (refuse_CR (N := N) (a := -2) h0 (by decide)).wrap
theorem forget_CR (h : RR ln M g μ) : CR ln M (fSx_forget ln g) (fMo_forget μ) := by
  have h0 := h
  obtain ⟨Lw, n, w, L, K, P, h1, h2, h3, h4, h5⟩ := h
  rw [fSx_forget, fMo_forget]
  simp only [nm]
  rw [rd_K 44 44 5654 (by decide) (by decide), wr_K 44 44 5654 (by decide) (by decide), show g.1 1 5 = μ.1 86 44 from P.2.2.2.1]
  refine ⟨_, _, _, rfl, rfl, ?_⟩
  have ek : ∀ j, (mI μ 86 44 0).1 86 j = if j = 44 then 0 else μ.1 86 j := by intro j; rw [mI_at]; simp
  have eg : ∀ p, p ≠ 1 → (gI g 1 5 0).1 p = g.1 p := fun p x => by funext y; rw [gI_at, if_neg (by omega)]
  have e1 : ∀ j, j ≠ 5 → (gI g 1 5 0).1 1 j = g.1 1 j := fun j x => by rw [gI_at, if_neg (by omega)]
  refine RR.plank (g := g) (μ := μ) (Lw := Lw) (n := n) (w := w) (L := L) (n' := n) (w' := 0) (L' := L) (Lw' := Lw) (K.upd (fun j hj' => by rw [ek, if_neg (by omega)]) (by rw [ek, if_neg (by omega), K.hn]) K.n7 (by rw [ek, if_pos rfl]; rfl) (by decide) (by rw [ek, if_neg (by omega)]) (by rw [ek, if_neg (by omega)]; exact K.fo) ⟨fun c hc => ?_, ?_⟩ ?_ (fun i' hi' => absurd hi' (by omega))) ⟨?_, fun c hc => ?_, ?_, ?_, fun i' hi' => ?_, ?_, ?_, fun f hf => ?_⟩ (h1.frame (eg 29 (by decide)) (eg 30 (by decide)) (by rw [mI_at, if_neg (by decide)]) (by funext j; rw [mI_at, if_neg (by omega)])) h2 h3 h4 h5 (fun p a b c d => eg p (by omega)) (fun p _ => rfl) (fun p j a b c d e => by rw [mI_at, if_neg (by omega)])
  · have := K.n7
    rw [ek, if_neg (by omega), ek, if_neg (by omega)]; exact K.co.1 c hc
  · rw [ek, if_neg (by omega)]; exact K.co.2
  · unfold TM; rw [ek, if_neg (by omega), ek, if_neg (by omega), ek, if_neg (by omega)]; exact K.tm
  · rw [e1 0 (by decide), ek, if_neg (by omega)]; exact P.1
  · rw [eg 2 (by decide), eg 3 (by decide), eg 4 (by decide), ek, if_neg (by omega), ek, if_neg (by omega), ek, if_neg (by omega)]; exact P.2.1 c hc
  · rw [eg 5 (by decide), ek, if_neg (by omega), ek, if_neg (by omega), ek, if_neg (by omega), ek, if_neg (by omega)]; exact P.2.2.1
  · rw [gI_at, if_pos (by decide), ek, if_pos rfl]
  · rw [eg 6 (by decide), eg 7 (by decide), eg 8 (by decide), ek, if_neg (by omega), ek, if_neg (by omega), ek, if_neg (by omega)]; exact P.2.2.2.2.1 i' hi'
  · rw [e1 9 (by decide), ek, if_neg (by omega)]; exact P.2.2.2.2.2.1
  · rw [e1 11 (by decide), ek, if_neg (by omega)]; exact P.2.2.2.2.2.2.1
  · obtain ⟨p, b1, b2, b3⟩ := P.2.2.2.2.2.2.2 f hf
    exact ⟨p, b1, b2, b3.frame (fun y y1 y2 => eg y (by have := b2.1; omega))⟩
end
