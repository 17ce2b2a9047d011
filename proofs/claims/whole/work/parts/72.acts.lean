/-! ===== a day by the reference; put, take, pad, pass ===== -/
def MDay (μ μ' : sw_m) : Prop := μ'.2 = μ.2 ∧ ∀ p j, p ≠ 86 → p ≠ 96 → p ≠ 97 → (p = 84 → j < 22 ∨ 25 < j) → μ'.1 p j = μ.1 p j
section
variable {N : Nat} {Lw : Nat → List Cl} {n w L : Nat}
theorem mday_4 (hN : 3000 ≤ N) : ∀ (d c fu : Nat) (μ : sw_m), c + d = n → d < fu → KI (μ.1 86) Lw n w L → ∃ μ', fMo_dayPasses_4 N fu μ 0 (nI c) = fMo_dayPasses_52 N N μ' 0 0 ∧ μ'.1 86 = μ.1 86 ∧ (∀ j, c ≤ j → j < n → μ'.1 97 j = if μ.1 86 (7 + j) = -1 then 0 else shdK (μ.1 86) (lawAt Lw (μ.1 86 46)) j (μ.1 86 (7 + j))) ∧ (∀ j, j < c → μ'.1 97 j = μ.1 97 j) ∧ MDay μ μ' := by
  intro d
  induction d with
  | zero =>
    intro c fu μ hc hfu K
    obtain ⟨fu, rfl⟩ : ∃ z, fu = z + 1 := ⟨fu - 1, by omega⟩
    obtain rfl : c = n := by omega
    have := K.n7
    rw [fMo_dayPasses_4, many_eq K, Option.bind_some]
    simp only []
    rw [if_pos (nI_le (Nat.le_refl _) (by omega))]
    exact ⟨μ, rfl, rfl, fun j a b => by omega, fun _ _ => rfl, rfl, fun _ _ _ _ _ _ => rfl⟩
  | succ d ih =>
    intro c fu μ hc hfu K
    obtain ⟨fu, rfl⟩ : ∃ z, fu = z + 1 := ⟨fu - 1, by omega⟩
    have := K.n7
    rw [fMo_dayPasses_4, many_eq K, Option.bind_some]
    simp only []
    rw [if_neg (nI_ge (by omega) (by omega)), misOn_eq (by omega), Option.bind_some]
    by_cases h : μ.1 86 (7 + c) = -1
    · simp only [h, if_true]
      rw [wr_nI (by omega) (by decide)]
      simp only [nm, nI_1]
      have ek : (mI μ 97 c 0).1 86 = μ.1 86 := by funext j; rw [mI_at, if_neg (by omega)]
      obtain ⟨μ', e1, e2, e3, e4, e5⟩ := ih (c + 1) fu (mI μ 97 c 0) (by omega) (by omega) (by rw [ek]; exact K)
      rw [ek] at e2 e3
      refine ⟨μ', e1, e2, fun j a b => ?_, fun j hj => ?_, e5.1, fun p j a b c d => ?_⟩
      · by_cases hj : j = c
        · subst hj; rw [e4 j (by omega), mI_at, if_pos ⟨rfl, rfl⟩, if_pos h]
        · exact e3 j (by omega) b
      · rw [e4 j (by omega), mI_at, if_neg (by omega)]
      · rw [e5.2 p j a b c d, mI_at, if_neg (by omega)]
    · simp only [h, if_false, n10]
      rw [i7, rd_nI (by omega) (by decide)]
      obtain ⟨μ1, q1, q2⟩ := mshed_eq hN K (c := c) (by omega) (μ.1 86 (7 + c))
      rw [q1, Option.bind_some]
      simp only []
      rw [wr_nI (by omega) (by decide)]
      simp only [nm, nI_1]
      generalize hv : shdK (μ.1 86) (lawAt Lw (μ.1 86 46)) c (μ.1 86 (7 + c)) = v at *
      have ek : (mI μ1 97 c v).1 86 = μ.1 86 := by rw [← q2.k]; funext j; rw [mI_at, if_neg (by omega)]
      obtain ⟨μ', e1, e2, e3, e4, e5⟩ := ih (c + 1) fu (mI μ1 97 c v) (by omega) (by omega) (by rw [ek]; exact K)
      rw [ek] at e2 e3
      refine ⟨μ', e1, e2, fun j a b => ?_, fun j hj => ?_, e5.1.trans q2.1, fun p j a b c d => ?_⟩
      · by_cases hj : j = c
        · subst hj; rw [e4 j (by omega), mI_at, if_pos ⟨rfl, rfl⟩, if_neg h, hv]
        · exact e3 j (by omega) b
      · rw [e4 j (by omega), mI_at, if_neg (by omega), q2.2 97 j (by decide) (by omega)]
      · rw [e5.2 p j a b c d, mI_at, if_neg (by omega), q2.2 p j b d]
theorem mday_52 {k : Nat → Int32} {law : Option (List Cl)} (K : KI k Lw n w L) : ∀ (d c fu : Nat) (μ : sw_m), c + d = n → d < fu → μ.1 86 = dk k law n c → (∀ j, j < n → μ.1 97 j = if k (7 + j) = -1 then 0 else shdK k law j (k (7 + j))) → ∃ μ', fMo_dayPasses_52 N fu μ (nI (dyN k law n c)) (nI c) = some (nI (dyN k law n n), μ') ∧ μ'.1 86 = dyK k law n ∧ (∀ p j, p ≠ 86 → μ'.1 p j = μ.1 p j) ∧ μ'.2 = μ.2 := by
  intro d
  have hn7 := K.n7
  induction d with
  | zero =>
    intro c fu μ hc hfu hk h97
    obtain ⟨fu, rfl⟩ : ∃ z, fu = z + 1 := ⟨fu - 1, by omega⟩
    obtain rfl : c = n := by omega
    have Kc : KI (μ.1 86) Lw c w L := by rw [hk]; exact K.mv (fun j hj => dk_hi (by omega)) (CO_dk K.co hn7)
    rw [fMo_dayPasses_52, many_eq Kc, Option.bind_some]
    simp only []
    rw [if_pos (nI_le (Nat.le_refl _) (by omega)), rd_K 14 14 5654 (by decide) (by decide), wr_K 14 14 5654 (by decide) (by decide)]
    refine ⟨_, rfl, ?_, fun p j hp => by rw [mI_at, if_neg (by omega)], rfl⟩
    funext j
    rw [mI_at, hk]
    unfold dyK
    by_cases h14 : j = 14
    · rw [if_pos ⟨rfl, h14⟩, if_pos h14, dk_hi (by omega)]
    · rw [if_neg (fun q => h14 q.2), if_neg h14, dk_n hn7]
  | succ d ih =>
    intro c fu μ hc hfu hk h97
    obtain ⟨fu, rfl⟩ : ∃ z, fu = z + 1 := ⟨fu - 1, by omega⟩
    have Kc : KI (μ.1 86) Lw n w L := by rw [hk]; exact K.mv (fun j hj => dk_hi (by omega)) (CO_dk K.co hn7)
    obtain ⟨⟨a, a1, a2, a3⟩, _⟩ := K.co.1 c (by omega)
    have ec : μ.1 86 c = k c := by rw [hk, dk_hi (by omega)]
    rw [fMo_dayPasses_52, many_eq Kc, Option.bind_some]
    simp only []
    rw [if_neg (nI_ge (by omega) (by omega)), i00, rd_nI (by omega) (by decide), rd_nI (by omega) (by decide), ec, h97 c (by omega), greater_eq, Option.bind_some, rd_nI (by omega) (by decide), ec]
    -- the new one
    have hnew : ∃ b, 1 ≤ b ∧ b ≤ a ∧ jmax 1 (k c - (if k (7 + c) = -1 then 0 else shdK k law c (k (7 + c)))) = nI b ∧ dk k law n (c + 1) c = nI b ∧ (dyN k law n (c + 1) = dyN k law n c + if b < a then 1 else 0) := by
      by_cases h : k (7 + c) = -1
      · refine ⟨a, a2, Nat.le_refl _, ?_, ?_, ?_⟩
        · rw [if_pos h, Int32.sub_zero, a1, jmax]
          by_cases ha : a = 1
          · subst ha; rfl
          · rw [if_pos (show (1 : Int32) < nI a from nI_lt (a := 1) (by omega) (by omega))]
        · rw [dk_step, if_neg (fun q => q.2.2 h), dk_hi (Nat.le_refl _), a1]
        · show dyN k law n c + _ = _
          rw [if_neg (fun q => q.2.1 h), if_neg (by omega)]
      · rw [if_neg h]
        obtain ⟨b, b1, b2, b3⟩ := dayH_eq (law := law) a1 a2 a3
        refine ⟨b, b1, b2, b3, ?_, ?_⟩
        · rw [dk_step, if_pos ⟨rfl, by omega, h⟩, b3]
        · show dyN k law n c + _ = _
          by_cases hba : b < a
          · rw [if_pos ⟨by omega, h, by rw [a1, b3]; exact nI_lt hba (by omega)⟩, if_pos hba]
          · rw [if_neg (fun q => absurd q.2.2 (by rw [a1, b3]; exact nI_nlt (by omega) (by omega))), if_neg hba]
    obtain ⟨b, b1, b2, b3, b4, b5⟩ := hnew
    rw [b3, a1]
    have hk' : (mI μ 86 c (nI b)).1 86 = dk k law n (c + 1) := by
      funext j
      rw [mI_at]
      by_cases hj : j = c
      · subst hj; rw [if_pos ⟨rfl, rfl⟩, b4]
      · rw [if_neg (fun q => hj q.2), hk, dk_step, if_neg (fun q => hj q.1)]
    have h97' : ∀ j, j < n → (mI μ 86 c (nI b)).1 97 j = if k (7 + j) = -1 then 0 else shdK k law j (k (7 + j)) := fun j hj => by rw [mI_at, if_neg (by omega), h97 j hj]
    obtain ⟨μ', e1, e2, e3, e4⟩ := ih (c + 1) fu (mI μ 86 c (nI b)) (by omega) (by omega) hk' h97'
    refine ⟨μ', ?_, e2, fun p j hp => by rw [e3 p j hp, mI_at, if_neg (by omega)], e4⟩
    rw [← e1, b5]
    by_cases hba : b < a
    · rw [if_neg (nI_ge hba (by omega)), if_pos hba, fMo_dayPasses_98]
      simp only [nm]
      rw [i00, wr_nI (by omega) (by decide), nI_1, nI_1]
    · rw [if_pos (nI_le (by omega) (by omega)), if_neg hba, fMo_dayPasses_98]
      simp only [nm]
      rw [i00, wr_nI (by omega) (by decide), nI_1, Int32.add_zero]; rfl
theorem mday_eq (hN : 3000 ≤ N) {μ : sw_m} (K : KI (μ.1 86) Lw n w L) : ∃ μ', fMo_dayPasses N μ = some (nI (dyN (μ.1 86) (lawAt Lw (μ.1 86 46)) n 7), μ') ∧ μ'.1 86 = dyK (μ.1 86) (lawAt Lw (μ.1 86 46)) n ∧ MDay μ μ' := by
  have hn7 := K.n7
  obtain ⟨μ1, e1, e2, e3, e4, e5⟩ := mday_4 hN n 0 N μ (by omega) (by omega) K
  obtain ⟨μ2, q1, q2, q3, q4⟩ := mday_52 (N := N) (law := lawAt Lw (μ.1 86 46)) K n 0 N μ1 (by omega) (by omega) (by rw [e2]; funext j; rw [dk_hi (Nat.zero_le _)]) (fun j hj => e3 j (Nat.zero_le _) hj)
  refine ⟨μ2, ?_, q2, q4.trans e5.1, fun p j a b c d => by rw [q3 p j a, e5.2 p j a b c d]⟩
  rw [dyN_7 hn7, ← q1]
  exact e1
theorem KI.day {k : Nat → Int32} {law : Option (List Cl)} (K : KI k Lw n w L) (h : k 14 ≠ nI 999) : KI (dyK k law n) Lw n w L := by
  have hn7 := K.n7
  have co := CO_dk (law := law) (c := 7) K.co hn7
  refine K.mv (fun j hj => by unfold dyK; rw [if_neg (by omega), dk_hi (by omega)]) ⟨fun c hc => ?_, ?_⟩
  · unfold dyK; rw [if_neg (by omega), if_neg (by omega)]; exact co.1 c hc
  · obtain ⟨a, a1, a2⟩ := K.co.2
    refine ⟨a + 1, by unfold dyK; rw [if_pos rfl, a1, nI_1], ?_⟩
    have : a ≠ 999 := fun e => h (by rw [a1, e])
    omega
end
/-! acts -/
def GP (g g' : sw_g) : Prop := (∀ p, p ≠ 2 → p ≠ 4 → p ≠ 5 → p ≠ 29 → p ≠ 30 → (p < 43 ∨ 45 < p) → g'.1 p = g.1 p) ∧ g'.2.2 = g.2.2
def MP (μ μ' : sw_m) : Prop := (∀ j, 15 ≤ j → μ'.1 86 j = μ.1 86 j) ∧ (∀ p j, p ≠ 86 → p ≠ 98 → p ≠ 96 → p ≠ 97 → (p = 84 → j ≠ 33 ∧ (j < 22 ∨ 25 < j)) → μ'.1 p j = μ.1 p j)
def Co (ln : Nat → Nat) (M : Nat) (g : sw_g) (μ : sw_m) (Lw : Nat → List Cl) (n w L : Nat) : Prop := KI (μ.1 86) Lw n w L ∧ PQ ln M g 1 (μ.1 86) Lw L ∧ RH g μ n
section
variable {N : Nat} {ln : Nat → Nat} {M : Nat} {g : sw_g} {μ : sw_m} {Lw : Nat → List Cl} {n w L : Nat}
theorem Co.scr (h : Co ln M g μ Lw n w L) {g' : sw_g} {μ' : sw_m} (a : GA 43 45 g g') (b : MT μ μ') : Co ln M g' μ' Lw n w L :=
  ⟨by rw [b.k]; exact h.1, by rw [b.k]; exact h.2.1.ga a (by decide) (by decide), h.2.2.frame (a.1 29 (by decide)) (a.1 30 (by decide)) (b.2 84 33 (by decide) (by decide)) (b.row (by decide) (by decide))⟩
theorem GP.of {g' : sw_g} (a : GA 43 45 g g') : GP g g' := ⟨fun p _ _ _ _ _ h => a.1 p h, a.2⟩
theorem GP.trans {g1 g2 : sw_g} (a : GP g g1) (b : GP g1 g2) : GP g g2 := ⟨fun p h1 h2 h3 h4 h5 h6 => (b.1 p h1 h2 h3 h4 h5 h6).trans (a.1 p h1 h2 h3 h4 h5 h6), b.2.trans a.2⟩
theorem MP.of {μ' : sw_m} (a : MT μ μ') : MP μ μ' := ⟨fun j _ => by rw [a.k], fun p j h1 h2 h3 h4 h5 => a.2 p j h3 (fun e => (h5 e).2)⟩
theorem MP.trans {μ1 μ2 : sw_m} (a : MP μ μ1) (b : MP μ1 μ2) : MP μ μ2 := ⟨fun j h => (b.1 j h).trans (a.1 j h), fun p j h1 h2 h3 h4 h5 => (b.2 p j h1 h2 h3 h4 h5).trans (a.2 p j h1 h2 h3 h4 h5)⟩
/-- it is kept, then one of the claims' cells is written -/
theorem write_sim (hN : 3000 ≤ N) (h : Co ln M g μ Lw n w L) (what v : Int32) {c : Nat} (hc : c < n) (x : Nat) (hx : (x = 0 ∧ ∃ a, v = nI a ∧ 1 ≤ a ∧ a ≤ 30) ∨ (x = 7 ∧ (v = -1 ∨ ∃ a, v = nI a ∧ a ≤ 6))) : ∃ g1 μ1, fHi_keep ln g 29 1 what = some g1 ∧ fMo_keeps N μ what = some μ1 ∧ Co ln M (gI g1 (if x = 0 then 2 else 4) c v) (mI μ1 86 (x + c) v) Lw n w L ∧ GP g (gI g1 (if x = 0 then 2 else 4) c v) ∧ MP μ (mI μ1 86 (x + c) v) ∧ (∀ j, (mI μ1 86 (x + c) v).1 86 j = if j = x + c then v else μ.1 86 j) := by
  obtain ⟨K, P, H⟩ := h
  have hn7 := K.n7
  obtain ⟨g1, μ1, e1, e2, e3, e4, e5, e6⟩ := keep_sim hN K P H what
  have ek1 : μ1.1 86 = μ.1 86 := funext fun j => e6 86 j (by decide) (by omega)
  have ek : ∀ j, (mI μ1 86 (x + c) v).1 86 j = if j = x + c then v else μ.1 86 j := by
    intro j; rw [mI_at, ek1]; simp
  have hx' : x = 0 ∨ x = 7 := by rcases hx with h | h <;> simp [h.1]
  refine ⟨g1, μ1, e1, e2, ⟨?_, ?_, ?_⟩, ⟨fun p a b c' d e f => ?_, ?_⟩, ⟨fun j hj => ?_, fun p j a b c' d e => ?_⟩, ek⟩
  · refine K.mv (fun j hj => by rw [ek, if_neg (by omega)]) ⟨fun y hy => ?_, ?_⟩
    · rw [ek, ek]
      rcases hx with ⟨rfl, a, rfl, a1, a2⟩ | ⟨rfl, hv⟩
      · refine ⟨?_, ?_⟩
        · split
          · exact ⟨a, rfl, a1, a2⟩
          · exact (K.co.1 y hy).1
        · rw [if_neg (by omega)]; exact (K.co.1 y hy).2
      · refine ⟨?_, ?_⟩
        · rw [if_neg (by omega)]; exact (K.co.1 y hy).1
        · split
          · exact hv
          · exact (K.co.1 y hy).2
    · rw [ek, if_neg (by omega)]; exact K.co.2
  · refine P.mv (fun y hy => ?_) (fun y hy => ?_) ?_ (fun j hj => ?_) (fun j hj => by rw [ek, if_neg (by omega)]) (fun p a b c' d => ?_) (by decide) ?_
    · rw [gI_at, ek]
      rcases hx' with rfl | rfl
      · by_cases hyc : y = c
        · subst hyc; rw [if_pos ⟨rfl, rfl⟩, if_pos (by omega)]
        · rw [if_neg (fun q => hyc q.2), if_neg (by omega), e4 2 (by decide) (by decide)]; exact (P.2.1 y hy).1
      · rw [if_neg (by simp), if_neg (by omega), e4 2 (by decide) (by decide)]; exact (P.2.1 y hy).1
    · rw [gI_at, ek]
      rcases hx' with rfl | rfl
      · rw [if_neg (by simp), if_neg (by omega), e4 4 (by decide) (by decide)]; exact (P.2.1 y hy).2.2
      · by_cases hyc : y = c
        · subst hyc; rw [if_pos ⟨rfl, rfl⟩, if_pos rfl]
        · rw [if_neg (fun q => hyc q.2), if_neg (by omega), e4 4 (by decide) (by decide)]; exact (P.2.1 y hy).2.2
    · rw [gI_at, if_neg (by rcases hx' with rfl | rfl <;> simp), ek, if_neg (by omega), e4 5 (by decide) (by decide)]; exact P.2.2.1.1
    · rw [gI_at, if_neg (by rcases hx' with rfl | rfl <;> simp), e4 5 (by decide) (by decide)]
    · funext j; rw [gI_at, if_neg (by rcases hx' with rfl | rfl <;> simp <;> omega), e4 p (by omega) (by omega)]
    · show g1.2.2 = _; rw [e5]
  · refine e3.frame ?_ ?_ ?_ ?_
    · funext j; rw [gI_at, if_neg (by rcases hx' with rfl | rfl <;> simp)]
    · funext j; rw [gI_at, if_neg (by rcases hx' with rfl | rfl <;> simp)]
    · rw [mI_at, if_neg (by omega)]
    · funext j; rw [mI_at, if_neg (by omega)]
  · funext j; rw [gI_at, if_neg (by rcases hx' with rfl | rfl <;> simp <;> omega), e4 p d e]
  · show g1.2.2 = _; rw [e5]
  · rw [ek, if_neg (by omega)]
  · rw [mI_at, if_neg (by omega), e6 p j b (fun q => (e q).1)]
end
