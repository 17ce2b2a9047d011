/-! ===== calls that write a little: claim, terms, force, weighed, forget, end; compare, count ===== -/
theorem LA.cong {k k' : Nat → Int32} {f : Nat} {cs : List Cl} (h : LA k f cs) (hk : ∀ j, 47 ≤ j → k' j = k j) : LA k' f cs := by
  obtain ⟨z, z1, z2, z3, z4⟩ := h
  refine ⟨z, by rw [hk _ (by omega), z1], z2, z3, ?_⟩
  have e1 : (fun j => if j < 400 * f + z then k' (54 + j) else 0) = (fun j => if j < 400 * f + z then k (54 + j) else 0) := by funext j; rw [hk _ (by omega)]
  have e2 : (fun j => k' (2854 + j)) = (fun j => k (2854 + j)) := by funext j; rw [hk _ (by omega)]
  rw [e1, e2]; exact z4
theorem KI.upd {k k' : Nat → Int32} {Lw : Nat → List Cl} {n n' w w' L : Nat} (h : KI k Lw n w L) (hk : ∀ j, 47 ≤ j → k' j = k j) (h1 : k' 43 = nI n') (h2 : n' ≤ 7) (h3 : k' 44 = nI w') (h4 : w' ≤ 6) (h5 : k' 45 = k 45) (h6 : k' 46 = -1 ∨ ∃ f, f < L ∧ k' 46 = nI f) (c : CO n' k') (t : TM k') (wo : WO w' k') : KI k' Lw n' w' L :=
  ⟨h1, h2, h3, h4, by rw [h5]; exact h.hL, h.L6, c, t, wo, fun f hf => (h.la f hf).cong hk, h6⟩
section
variable {N : Nat} {ln : Nat → Nat} {M : Nat} {g : sw_g} {μ : sw_m}
theorem canB (a b : Int32) : (∃ x y, a = nI x ∧ 1 ≤ x ∧ x ≤ 30 ∧ b = nI y ∧ y ≤ 3 ∧ fSx_canBeClaim a b = some 1 ∧ fMo_canBe0 a b = some 1) ∨ (fSx_canBeClaim a b = some 0 ∧ fMo_canBe0 a b = some 0) := by
  unfold fSx_canBeClaim fMo_canBe0 fSx_canBeHeavy fMo_isHeavy fMo_lies
  have e0 : ((some (0 : Int32)).bind fun v2 => tz v2 <| some v2) = some (0 : Int32) := rfl
  have e1 : ((some (1 : Int32)).bind fun v2 => tz v2 <| some v2) = some (1 : Int32) := rfl
  by_cases h1 : a < 1
  · right; simp only [h1, if_true, e0]; exact ⟨rfl, rfl⟩
  · by_cases h2 : 30 < a
    · right; simp only [h1, h2, if_true, if_false, e0]; exact ⟨rfl, rfl⟩
    · simp only [h1, h2, if_false, e1, Option.bind_some, n10]
      by_cases h3 : b < 0
      · right; simp only [h3, if_true]; exact ⟨trivial, rfl⟩
      · simp only [h3, if_false]
        by_cases h4 : (4 : Int32) ≤ b
        · have h5 : (3 : Int32) < b := by
            rw [Int32.le_iff_toInt_le] at h4; rw [Int32.lt_iff_toInt_lt]
            have : (4 : Int) ≤ b.toInt := h4
            show (3 : Int) < _; omega
          right; simp only [h4, h5, if_true]; exact ⟨trivial, rfl⟩
        · have h5 : ¬ (3 : Int32) < b := by
            rw [Int32.le_iff_toInt_le] at h4; rw [Int32.lt_iff_toInt_lt]
            have : ¬ (4 : Int) ≤ b.toInt := h4
            show ¬ (3 : Int) < _; omega
          left
          simp only [h4, h5, if_false]
          rw [Int32.lt_iff_toInt_lt] at h1 h2 h3 h5
          have q1 : ¬ a.toInt < 1 := h1
          have q2 : ¬ 30 < a.toInt := h2
          have q3 : ¬ b.toInt < 0 := h3
          have q5 : ¬ 3 < b.toInt := h5
          refine ⟨a.toInt.toNat, b.toInt.toNat, ?_, by omega, by omega, ?_, by omega, trivial, rfl⟩
          · rw [← zI_nat, show ((a.toInt.toNat : Nat) : Int) = a.toInt by omega, zI_of]
          · rw [← zI_nat, show ((b.toInt.toNat : Nat) : Int) = b.toInt by omega, zI_of]
/-- one more claim -/
theorem adds_sim {Lw : Nat → List Cl} {n w L : Nat} (K : KI (μ.1 86) Lw n w L) (P : PQ ln M g 1 (μ.1 86) Lw L) (hn : n < 7) {x : Nat} (hx : 1 ≤ x) (hx' : x ≤ 30) (b : Int32) : ∃ g' μ', fPl_addClaim ln g 1 (nI x) b = some (nI n, g') ∧ fMo_adds μ (nI x) b = some μ' ∧ KI (μ'.1 86) Lw (n + 1) w L ∧ PQ ln M g' 1 (μ'.1 86) Lw L ∧ GA 1 4 g g' ∧ (∀ p j, p ≠ 86 → μ'.1 p j = μ.1 p j) := by
  obtain ⟨a1, a2, a3, a4, a5, a6, a7, a8⟩ := P
  have hg0 : g.1 1 0 = nI n := by rw [a1, K.hn]
  refine ⟨gI (gI (gI (gI g 2 n (nI x)) 3 n b) 4 n (-1)) 1 0 (nI (n + 1)), mI (mI (mI (mI μ 86 n (nI x)) 86 (15 + n) b) 86 (7 + n) (-1)) 86 43 (nI (n + 1)), ?_, ?_, ?_, ?_, ?_, ?_⟩
  · rw [fPl_addClaim, hg0, if_pos (show nI n < 7 from nI_lt (b := 7) hn (by decide)), wr_nI hn (by decide), show (gI g (1 + 1) n (nI x)).1 1 0 = nI n by rw [gI_at, if_neg (by omega), hg0], wr_nI hn (by decide), show (gI (gI g (1 + 1) n (nI x)) (1 + 2) n b).1 1 0 = nI n by rw [gI_at, if_neg (by omega), gI_at, if_neg (by omega), hg0], wr_nI hn (by decide)]
    simp only [nm]
    rw [show (gI (gI (gI g (1 + 1) n (nI x)) (1 + 2) n b) (1 + 3) n (-1)).1 1 0 = nI n by rw [gI_at, if_neg (by omega), gI_at, if_neg (by omega), gI_at, if_neg (by omega), hg0], nI_1]
    simp only [gI_at, and_self, if_true]
    rw [nI_pred]
  · rw [fMo_adds, many_eq K, Option.bind_some]
    simp only []
    rw [i00, wr_nI (by omega) (by decide), i15, wr_nI (by omega) (by decide), i7, wr_nI (by omega) (by decide), rd_K 43 43 5654 (by decide) (by decide), wr_K 43 43 5654 (by decide) (by decide)]
    rw [show (mI (mI (mI μ 86 n (nI x)) 86 (15 + n) b) 86 (7 + n) (-1)).1 86 43 = nI n by rw [mI_at, if_neg (by omega), mI_at, if_neg (by omega), mI_at, if_neg (by omega), K.hn], nI_1]
  · have e : ∀ j, j ≠ 43 → j ≠ 7 + n → j ≠ 15 + n → j ≠ n → (mI (mI (mI (mI μ 86 n (nI x)) 86 (15 + n) b) 86 (7 + n) (-1)) 86 43 (nI (n + 1))).1 86 j = μ.1 86 j := by
      intro j h1 h2 h3 h4
      simp [mI_at, h1, h2, h3, h4]
    have co := K.co
    refine K.upd (fun j hj => e j (by omega) (by omega) (by omega) (by omega)) (by simp [mI_at]) (by omega) (by rw [e 44 (by omega) (by omega) (by omega) (by omega), K.hw]) K.w6 (e 45 (by omega) (by omega) (by omega) (by omega)) (by rw [e 46 (by omega) (by omega) (by omega) (by omega)]; exact K.fo) ⟨fun c hc => ?_, ?_⟩ ?_ (fun i hi => ?_)
    · by_cases hcn : c = n
      · subst hcn
        refine ⟨⟨x, ?_, hx, hx'⟩, .inl ?_⟩
        · simp [mI_at, show ¬ c = 43 by omega, show ¬ c = 7 + c by omega, show ¬ c = 15 + c by omega]
        · simp [mI_at, show ¬ 7 + c = 43 by omega]
      · rw [e c (by omega) (by omega) (by omega) hcn, e (7 + c) (by omega) (by omega) (by omega) (by omega)]
        exact co.1 c (by omega)
    · rw [e 14 (by omega) (by omega) (by omega) (by omega)]; exact co.2
    · unfold TM; rw [e 40 (by omega) (by omega) (by omega) (by omega), e 41 (by omega) (by omega) (by omega) (by omega), e 42 (by omega) (by omega) (by omega) (by omega)]; exact K.tm
    · have := K.w6
      rw [e (22 + 3 * i) (by omega) (by omega) (by omega) (by omega), e (23 + 3 * i) (by omega) (by omega) (by omega) (by omega), e (24 + 3 * i) (by omega) (by omega) (by omega) (by omega)]; exact K.wo i hi
  · have e : ∀ j, j ≠ 43 → j ≠ 7 + n → j ≠ 15 + n → j ≠ n → (mI (mI (mI (mI μ 86 n (nI x)) 86 (15 + n) b) 86 (7 + n) (-1)) 86 43 (nI (n + 1))).1 86 j = μ.1 86 j := by
      intro j h1 h2 h3 h4
      simp [mI_at, h1, h2, h3, h4]
    have eg : ∀ p, p < 1 ∨ 4 < p → (gI (gI (gI (gI g 2 n (nI x)) 3 n b) 4 n (-1)) 1 0 (nI (n + 1))).1 p = g.1 p := by
      intro p hp; funext j; rw [gI_at, if_neg (by omega), gI_at, if_neg (by omega), gI_at, if_neg (by omega), gI_at, if_neg (by omega)]
    have eg1 : ∀ j, j ≠ 0 → (gI (gI (gI (gI g 2 n (nI x)) 3 n b) 4 n (-1)) 1 0 (nI (n + 1))).1 1 j = g.1 1 j := by
      intro j hj; rw [gI_at, if_neg (by omega), gI_at, if_neg (by omega), gI_at, if_neg (by omega), gI_at, if_neg (by omega)]
    refine ⟨by simp [gI_at, mI_at], fun c hc => ?_, ?_, ?_, fun i hi => ?_, ?_, ?_, fun f hf => ?_⟩
    · by_cases hcn : c = n
      · subst hcn
        simp [gI_at, mI_at, show ¬ c = 43 by omega, show ¬ c = 7 + c by omega, show ¬ c = 15 + c by omega, show ¬ 15 + c = 43 by omega, show ¬ 15 + c = 7 + c by omega, show ¬ 7 + c = 43 by omega]
      · rw [e c (by omega) (by omega) (by omega) hcn, e (15 + c) (by omega) (by omega) (by omega) (by omega), e (7 + c) (by omega) (by omega) (by omega) (by omega)]
        simp [gI_at, hcn]
        exact a2 c hc
    · rw [eg 5 (by omega), e 14 (by omega) (by omega) (by omega) (by omega), e 40 (by omega) (by omega) (by omega) (by omega), e 41 (by omega) (by omega) (by omega) (by omega), e 42 (by omega) (by omega) (by omega) (by omega)]; exact a3
    · rw [eg1 5 (by omega), e 44 (by omega) (by omega) (by omega) (by omega)]; exact a4
    · rw [eg 6 (by omega), eg 7 (by omega), eg 8 (by omega), e (22 + 3 * i) (by omega) (by omega) (by omega) (by omega), e (23 + 3 * i) (by omega) (by omega) (by omega) (by omega), e (24 + 3 * i) (by omega) (by omega) (by omega) (by omega)]; exact a5 i hi
    · rw [eg1 9 (by omega), e 45 (by omega) (by omega) (by omega) (by omega)]; exact a6
    · rw [eg1 11 (by omega), e 46 (by omega) (by omega) (by omega) (by omega)]; exact a7
    · obtain ⟨p, b1, b2, b3⟩ := a8 f hf
      exact ⟨p, b1, b2, b3.frame (fun y y1 y2 => eg y (by have := b2.1; omega))⟩
  · exact ⟨fun p hp => by funext j; rw [gI_at, if_neg (by omega), gI_at, if_neg (by omega), gI_at, if_neg (by omega), gI_at, if_neg (by omega)], rfl⟩
  · intro p j hp; rw [mI_at, if_neg (by omega), mI_at, if_neg (by omega), mI_at, if_neg (by omega), mI_at, if_neg (by omega)]
theorem claim_CR (h : RR ln M g μ) (a b : Int32) : CR ln M (fSx_claim N ln g a b) (fMo_claim μ a b) := by
  have h0 := h
  obtain ⟨Lw, n, w, L, K, P, h1, h2, h3, h4, h5⟩ := h
  have hn7 := K.n7
  rw [fSx_claim, fMo_claim]
  rcases canB a b with ⟨x, y, rfl, x1, x2, rfl, y1, e1, e2⟩ | ⟨e1, e2⟩
  · rw [e1, e2, Option.bind_some, Option.bind_some, if_neg n10, if_neg n10, P.1, K.hn, many_eq K, Option.bind_some]
    simp only []
    by_cases hn : n = 7
    · subst hn
      rw [if_neg (by decide), if_pos (by decide)]
      exact (refuse_CR h0 (by simp)).wrap
    · rw [if_pos (show nI n < 7 from nI_lt (b := 7) (by omega) (by decide)), if_neg (show ¬ nI n = 7 from fun q => hn ((eqL 7 7 rfl (by omega) (by decide)).1 q))]
      have P1 : PQ ln M (gI g 29 0 0) 1 (μ.1 86) Lw L := P.ga (GA.put (lo := 29) (hi := 29) (by decide) (by decide)) (by decide) (by decide)
      obtain ⟨g2, μ2, q1, q2, q3, q4, q5, q6⟩ := adds_sim K P1 (by omega) x1 x2 (nI y)
      rw [show (fHi_clear ln g 29) = some (gI g 29 0 0) from rfl, Option.bind_some, q1, q2, Option.bind_some, Option.bind_some]
      simp only []
      rw [many_eq q3, Option.bind_some]
      simp only []
      rw [nI_pred]
      refine ⟨nI n, gI g2 0 14 0, mI (mI μ2 84 33 0) 84 0 0, rfl, rfl, ?_⟩
      refine RR.told ?_
      have ek : (mI μ2 84 33 0).1 86 = μ2.1 86 := by funext j; rw [mI_at, if_neg (by omega)]
      have em : ∀ p j, p ≠ 86 → (p = 84 → j ≠ 33) → (mI μ2 84 33 0).1 p j = μ.1 p j := by
        intro p j x y; rw [mI_at, if_neg (by omega), q6 p j x]
      have er : ∀ p, p ≠ 86 → p ≠ 84 → (mI μ2 84 33 0).1 p = μ.1 p := fun p x y => funext fun j => em p j x (fun e => absurd e y)
      have eg : ∀ p, (p < 1 ∨ 4 < p) → p ≠ 29 → g2.1 p = g.1 p := by
        intro p x y; rw [q5.1 p x]; funext j; rw [gI_at, if_neg (by omega)]
      refine ⟨Lw, n + 1, w, L, by rw [ek]; exact q3, by rw [ek]; exact q4, ?_, ?_, ?_, ?_, ?_⟩
      · exact h1.clear (n + 1) (by rw [q5.1 29 (by decide)]; simp [gI_at]) (by rw [q5.1 29 (by decide)]; simp [gI_at]) (by simp [mI_at])
      · exact h2.frame (by rw [eg 33 (by decide) (by decide)]) (eg 34 (by decide) (by decide)) (em 84 13 (by decide) (by decide)) (er 91 (by decide) (by decide)) (er 90 (by decide) (by decide))
      · unfold RM; rw [eg 33 (by decide) (by decide), eg 0 (by decide) (by decide), eg 83 (by decide) (by decide), em 84 14 (by decide) (by decide), em 84 43 (by decide) (by decide), em 84 6 (by decide) (by decide), em 84 0 (by decide) (by decide), er 85 (by decide) (by decide)]; exact h3
      · exact h4.frame (by rw [eg 19 (by decide) (by decide)]) (eg 20 (by decide) (by decide)) (eg 22 (by decide) (by decide)) (em 84 51 (by decide) (by decide)) (er 109 (by decide) (by decide))
      · exact h5.frame (fun p hp => eg p (by omega) (by omega)) (fun p _ => by rw [q5.2]; rfl) (er 87 (by decide) (by decide)) (er 88 (by decide) (by decide))
  · rw [e1, e2, Option.bind_some, Option.bind_some, if_pos rfl, if_pos rfl]
    exact (refuse_CR h0 (by simp)).wrap
theorem end_CR (h : RR ln M g μ) (a : Int32) : CR ln M (fSx_end ln g a) (fMo_end μ a) := by
  have h0 := h
  obtain ⟨Lw, n, w, L, K, P, h1, ⟨t, B, t1, t2, t3, t4, t5, t6⟩, h3, h4, h5⟩ := h
  rw [fSx_end, fMo_end, fMo_lies, t3, t4]
  by_cases ha : a < 0
  · rw [if_pos ha, if_pos ha]; exact ⟨_, g, μ, rfl, rfl, h0⟩
  · rw [if_neg ha, if_neg ha]
    obtain ⟨j, hj, rfl⟩ := nI_of ha
    by_cases hjt : j ≤ t
    · rw [if_pos (nI_le hjt (by omega)), if_neg (nI_nlt hjt (by omega))]
      simp only [Option.bind_some, n10, if_false, nm]
      have eg : ∀ p, p ≠ 33 → (gI g 33 0 (nI j)).1 p = g.1 p := fun p x => by funext y; rw [gI_at, if_neg (by omega)]
      have em : ∀ p x, (p = 84 → x ≠ 13) → (mI μ 84 13 (nI j)).1 p x = μ.1 p x := fun p x y => by rw [mI_at, if_neg (by omega)]
      have er : ∀ p, p ≠ 84 → (mI μ 84 13 (nI j)).1 p = μ.1 p := fun p x => funext fun y => em p y (fun e => absurd e x)
      have e2 : (gI g 33 0 (nI j)).1 33 2 = g.1 33 2 := by rw [gI_at, if_neg (by decide)]
      refine ⟨_, _, _, rfl, rfl, Lw, n, w, L, by rw [er 86 (by decide)]; exact K, ?_, h1.frame (eg 29 (by decide)) (eg 30 (by decide)) (em 84 33 (by decide)) (er 98 (by decide)), ?_, ?_, ?_, ?_⟩
      · rw [er 86 (by decide)]; exact P.ga (GA.put (lo := 33) (hi := 33) (by decide) (by decide)) (by decide) (by decide)
      · exact ⟨j, B, t1, by omega, by simp [gI_at], by simp [mI_at], fun y hy => by rw [eg 34 (by decide), er 91 (by decide)]; exact t5 y (by omega), by rw [er 90 (by decide)]; exact t6⟩
      · unfold RM; rw [e2, eg 0 (by decide), eg 83 (by decide), em 84 14 (by decide), em 84 43 (by decide), em 84 6 (by decide), em 84 0 (by decide), er 85 (by decide)]; exact h3
      · exact h4.frame (by rw [eg 19 (by decide)]) (eg 20 (by decide)) (eg 22 (by decide)) (em 84 51 (by decide)) (er 109 (by decide))
      · exact h5.frame (fun p hp => eg p (by omega)) (fun p _ => rfl) (er 87 (by decide)) (er 88 (by decide))
    · rw [if_neg (nI_ge (by omega) hj), if_pos (nI_lt (by omega) hj)]
      exact ⟨_, g, μ, rfl, rfl, h0⟩
end
