/-! ===== the table is laid; what it tells ===== -/
/-- only the table may change -/
def MB (μ μ' : sw_m) : Prop := ∀ p j, p ≠ 102 → μ'.1 p j = μ.1 p j
theorem MB.refl {μ : sw_m} : MB μ μ := fun _ _ _ => rfl
theorem MB.trans {μ μ1 μ2 : sw_m} (a : MB μ μ1) (b : MB μ1 μ2) : MB μ μ2 := fun p j h => (b p j h).trans (a p j h)
theorem MB.put {μ : sw_m} {j : Nat} {v : Int32} : MB μ (mI μ 102 j v) := fun p x h => by rw [mI_at, if_neg (by omega)]
theorem BS.mb {μ μ' : sw_m} {k : Nat → Int32} {law : Option (List Cl)} {n md sl : Nat} (h : BS μ k law n md sl) (b : MB μ μ') : BS μ' k law n md sl := by
  obtain ⟨a1, a2, a3, a4, a5, a6, a7⟩ := h
  refine ⟨?_, by rw [b 84 37 (by decide)]; exact a2, a3, a4, a5, a6, fun c p hc hp => ?_⟩
  · rw [← a1]; funext x; exact b 86 x (by decide)
  · rw [b 100 _ (by decide), b 101 _ (by decide)]; exact a7 c p hc hp
/-- other rows of the table stay -/
def MX (c : Nat) (μ μ' : sw_m) : Prop := MB μ μ' ∧ ∀ e (t : Int), e ≠ c → e ≤ 7 → -2079 ≤ t → t ≤ 2079 → μ'.1 102 (ix e t) = μ.1 102 (ix e t)
theorem ix_ne {e c : Nat} {t u : Int} (h : e ≠ c ∨ t ≠ u) (h1 : -2079 ≤ t) (h2 : t ≤ 2079) (h3 : -2079 ≤ u) (h4 : u ≤ 2079) : ix e t ≠ ix c u := by
  unfold ix
  rcases Nat.lt_trichotomy e c with q | q | q <;> omega
section
variable {N : Nat} {k : Nat → Int32} {law : Option (List Cl)} {Lw : Nat → List Cl} {n w L md sl : Nat}
theorem wr_ix {β : Type} {c : Nat} {t : Int} (hc : c ≤ 7) (h1 : -2079 ≤ t) (h2 : t ≤ 2079) {μ : sw_m} {v : Int32} {kk : sw_m → Option β} : wr 33608 (((4201 : Int32) * nI c + 2100) + zI t) (fun j => mI μ 102 j v) kk = kk (mI μ 102 (ix c t) v) := by
  rw [show (4201 : Int32) * nI c = nI (4201 * c) from nI_mul 4201 c, show nI (4201 * c) + (2100 : Int32) = nI (4201 * c + 2100) from nI_add _ 2100, ← zI_nat, zI_add, zI_pos (by omega), wr_nI (by omega) (by decide), show (((4201 * c + 2100 : Nat) : Int) + t).toNat = ix c t by unfold ix; congr 1]
theorem z297 (c : Nat) : (297 : Int32) * nI c = zI (297 * (c : Int)) := by rw [← zI_nat, show (297 : Int32) = zI 297 from rfl, zI_mul]
theorem lb_78 (hN : 3000 ≤ N) (K : KI k Lw n w L) {k68 : sw_m → Int32 → Int32 → Option sw_m} {c : Nat} (hc : c < n) : ∀ (d : Nat) (t : Int) (fu : Nat) (μ : sw_m), t + d = 297 * c + 1 → -(297 * (c : Int)) ≤ t → d < fu → BS μ k law n md sl → TB μ md sl (chL k law n (decide (md = 2))) (c + 1) → (∀ u : Int, -(297 * (c : Int)) ≤ u → u < t → μ.1 102 (ix c u) = nI (vl md sl (sf (chL k law n (decide (md = 2))) (7 - c)) u)) → ∃ μ', fMo_laysBest_78 N k68 fu μ (297 : Int32) (nI c) (zI t) = k68 μ' (297 : Int32) (zI ((c : Int) - 1)) ∧ TB μ' md sl (chL k law n (decide (md = 2))) c ∧ MX c μ μ' := by
  have hn7 := K.n7
  intro d
  induction d with
  | zero =>
    intro t fu μ ht h1 hfu B T hs
    obtain ⟨fu, rfl⟩ : ∃ z, fu = z + 1 := ⟨fu - 1, by omega⟩
    rw [fMo_laysBest_78, z297, if_pos ((zI_lt (by omega) (by omega) (by omega) (by omega)).2 (by omega))]
    refine ⟨μ, ?_, fun u a b => hs u a (by omega), MB.refl, fun _ _ _ _ _ _ => rfl⟩
    rw [nm, ← zI_nat, show (-1 : Int32) = zI (-1) from rfl, zI_add]; rfl
  | succ d ih =>
    intro t fu μ ht h1 hfu B T hs
    obtain ⟨fu, rfl⟩ : ∃ z, fu = z + 1 := ⟨fu - 1, by omega⟩
    rw [fMo_laysBest_78, z297, if_neg (fun q => by have := (zI_lt (by omega) (by omega) (by omega) (by omega)).1 q; omega), bestOf_eq hN K B hc T h1 (by omega), Option.bind_some]
    simp only []
    rw [wr_ix (by omega) (by omega) (by omega)]
    simp only [nm]
    rw [show zI t + (1 : Int32) = zI (t + 1) by rw [show (1 : Int32) = zI 1 from rfl, zI_add]]
    obtain ⟨μ', q1, q2, q3, q4⟩ := ih (t + 1) fu (mI μ 102 (ix c t) (nI (vl md sl (sf (chL k law n (decide (md = 2))) (7 - c)) t))) (by omega) (by omega) (by omega) B.put (fun u a b => by
      rw [mI_at, if_neg (fun q => ix_ne (.inl (by omega)) (by omega) (by omega) (by omega) (by omega) q.2)]
      exact T u a b) (fun u a b => by
      rw [mI_at]
      by_cases hu : u = t
      · subst hu; rw [if_pos ⟨rfl, rfl⟩]
      · rw [if_neg (fun q => ix_ne (.inr hu) (by omega) (by omega) (by omega) (by omega) q.2)]; exact hs u a (by omega))
    refine ⟨μ', q1, q2, MB.put.trans q3, fun e u a b x y => ?_⟩
    rw [q4 e u a b x y, mI_at, if_neg (fun q => ix_ne (.inl a) x y (by omega) (by omega) q.2)]
theorem lb_68 (hN : 6000 ≤ N) (K : KI k Lw n w L) : ∀ (c fu : Nat) (μ : sw_m), c ≤ n → c < fu → BS μ k law n md sl → (∀ e, c ≤ e → e ≤ n → TB μ md sl (chL k law n (decide (md = 2))) e) → ∃ μ', fMo_laysBest_68 N fu μ (297 : Int32) (zI ((c : Int) - 1)) = some μ' ∧ (∀ e, e ≤ n → TB μ' md sl (chL k law n (decide (md = 2))) e) ∧ MB μ μ' := by
  have hn7 := K.n7
  intro c
  induction c with
  | zero =>
    intro fu μ hc hfu B T
    obtain ⟨fu, rfl⟩ : ∃ z, fu = z + 1 := ⟨fu - 1, by omega⟩
    rw [fMo_laysBest_68, if_pos (by decide)]
    exact ⟨μ, rfl, fun e he => T e (Nat.zero_le _) he, MB.refl⟩
  | succ c ih =>
    intro fu μ hc hfu B T
    obtain ⟨fu, rfl⟩ : ∃ z, fu = z + 1 := ⟨fu - 1, by omega⟩
    obtain ⟨μ1, e1, e2, e3, e4⟩ := lb_78 (N := N) (k68 := fMo_laysBest_68 N fu) (by omega) K (c := c) (by omega) (594 * c + 1) (-(297 * (c : Int))) N μ (by omega) (Int.le_refl _) (by omega) B (T (c + 1) (Nat.le_refl _) hc) (fun u a b => by omega)
    obtain ⟨μ2, q1, q2, q3⟩ := ih fu μ1 (by omega) (by omega) (B.mb e3) (fun e he hen => by
      by_cases hec : e = c
      · rw [hec]; exact e2
      · intro u a b
        rw [e4 e u hec (by omega) (by omega) (by omega)]
        exact T e (by omega) hen u a b)
    refine ⟨μ2, ?_, q2, e3.trans q3⟩
    rw [fMo_laysBest_68, show (((c + 1 : Nat) : Int) - 1) = (c : Int) by omega, zI_nat, if_neg (nI_pos (by omega))]
    have : (-(297 : Int32)) * nI c = zI (-(297 * (c : Int))) := by rw [← zI_nat, show (-(297 : Int32)) = zI (-297) from rfl, zI_mul]; congr 1
    rw [nm, this]
    exact e1.trans q1
theorem lb_21 (hN : 6000 ≤ N) (K : KI k Lw n w L) : ∀ (d : Nat) (t : Int) (fu : Nat) (μ : sw_m), t + d = 297 * n + 1 → -(297 * (n : Int)) ≤ t → d < fu → BS μ k law n md sl → (∀ u : Int, -(297 * (n : Int)) ≤ u → u < t → μ.1 102 (ix n u) = nI (vl md sl [] u)) → ∃ μ', fMo_laysBest_21 N fu μ (297 : Int32) (zI t) = some μ' ∧ (∀ e, e ≤ n → TB μ' md sl (chL k law n (decide (md = 2))) e) ∧ MB μ μ' := by
  have hn7 := K.n7
  intro d
  induction d with
  | zero =>
    intro t fu μ ht h1 hfu B hs
    obtain ⟨fu, rfl⟩ : ∃ z, fu = z + 1 := ⟨fu - 1, by omega⟩
    have K' : KI (μ.1 86) Lw n w L := by rw [B.1]; exact K
    obtain ⟨μ1, e1, e2, e3⟩ := lb_68 (law := law) (md := md) (sl := sl) hN K n N μ (Nat.le_refl _) (by omega) B (fun e he hen u a b => by
      obtain rfl : e = n := by omega
      have := vl_pad (k := k) (law := law) (n := e) (md := md) (sl := sl) (t := u) 0 hn7
      rw [Nat.add_zero] at this
      rw [this]; exact hs u a (by omega))
    refine ⟨μ1, ?_, e2, e3⟩
    rw [fMo_laysBest_21, many_eq K', Option.bind_some]
    simp only []
    rw [z297, if_pos ((zI_lt (by omega) (by omega) (by omega) (by omega)).2 (by omega)), many_eq K', Option.bind_some]
    simp only [nm]
    rw [← zI_nat, show (1 : Int32) = zI 1 from rfl, zI_sub]
    exact e1
  | succ d ih =>
    intro t fu μ ht h1 hfu B hs
    obtain ⟨fu, rfl⟩ : ∃ z, fu = z + 1 := ⟨fu - 1, by omega⟩
    have K' : KI (μ.1 86) Lw n w L := by rw [B.1]; exact K
    obtain ⟨μ', q1, q2, q3⟩ := ih (t + 1) fu (mI μ 102 (ix n t) (nI (vl md sl [] t))) (by omega) (by omega) (by omega) B.put (fun u a b => by
      rw [mI_at]
      by_cases hu : u = t
      · subst hu; rw [if_pos ⟨rfl, rfl⟩]
      · rw [if_neg (fun q => ix_ne (.inr hu) (by omega) (by omega) (by omega) (by omega) q.2)]; exact hs u a (by omega))
    refine ⟨μ', ?_, q2, MB.put.trans q3⟩
    rw [fMo_laysBest_21, many_eq K', Option.bind_some]
    simp only []
    rw [z297, if_neg (fun q => by have := (zI_lt (by omega) (by omega) (by omega) (by omega)).1 q; omega), many_eq K', Option.bind_some]
    simp only []
    rw [endsAt_eq B (by omega) (by omega), Option.bind_some]
    simp only []
    rw [wr_ix (by omega) (by omega) (by omega)]
    simp only [nm]
    rw [show zI t + (1 : Int32) = zI (t + 1) by rw [show (1 : Int32) = zI 1 from rfl, zI_add]]
    exact q1
theorem laysBest_eq (hN : 6000 ≤ N) {μ : sw_m} (K : KI (μ.1 86) Lw n w L) (hmd : md ≤ 3) (hsl : μ.1 86 42 = nI sl) (sl9 : sl ≤ 9) : ∃ μ', fMo_laysBest N μ (nI md) = some μ' ∧ BS μ' (μ.1 86) (lawAt Lw (μ.1 86 46)) n md sl ∧ (∀ e, e ≤ n → TB μ' md sl (chL (μ.1 86) (lawAt Lw (μ.1 86 46)) n (decide (md = 2))) e) ∧ MS μ μ' := by
  have hn7 := K.n7
  have k1 : (mI μ 84 37 (nI md)).1 86 = μ.1 86 := funext fun j => by rw [mI_at, if_neg (by omega)]
  obtain ⟨μ1, e1, e2, e3⟩ := pulls_eq (N := N) (by omega) (μ := mI μ 84 37 (nI md)) (by rw [k1]; exact K)
  rw [k1] at e2
  have k2 : μ1.1 86 = μ.1 86 := by rw [e3.k, k1]
  have B : BS μ1 (μ.1 86) (lawAt Lw (μ.1 86 46)) n md sl := ⟨k2, by rw [e3 84 37 (by decide) (by decide) (by decide) (by omega), mI_at, if_pos ⟨rfl, rfl⟩], hmd, hsl, sl9, hn7, e2⟩
  obtain ⟨μ2, q1, q2, q3⟩ := lb_21 (law := lawAt Lw (μ.1 86 46)) (md := md) (sl := sl) hN K (594 * n + 1) (-(297 * (n : Int))) N μ1 (by omega) (Int.le_refl _) (by omega) B (fun u a b => by omega)
  refine ⟨μ2, ?_, B.mb q3, q2, fun p j a b c => ?_⟩
  · rw [fMo_laysBest]
    simp only [nm]
    rw [e1, Option.bind_some, many_eq (by rw [k2]; exact K), Option.bind_some]
    simp only []
    rw [show (-(297 : Int32)) * nI n = zI (-(297 * (n : Int))) by rw [← zI_nat, show (-(297 : Int32)) = zI (-297) from rfl, zI_mul]; congr 1]
    exact q1
  · rw [q3 p j (by omega), e3 p j (by omega) (by omega) (by omega) (by omega), mI_at, if_neg (by omega)]
theorem chU_pre {mv : Bool} {c : Nat} : ∀ (d p : Nat), p + d = 7 → ∃ r, chU k law mv c 7 = chU k law mv c p ++ r := by
  intro d
  induction d with
  | zero => intro p hp; obtain rfl : p = 7 := by omega
            exact ⟨[], (List.append_nil _).symm⟩
  | succ d ih =>
    intro p hp
    obtain ⟨r, hr⟩ := ih (p + 1) (by omega)
    refine ⟨(if canL k law mv c p then [(p, wz k law c p, csL k mv c p)] else []) ++ r, ?_⟩
    rw [hr, ← List.append_assoc]; rfl
theorem pi_30 (hN : 3000 ≤ N) (K : KI k Lw n w L) {μ : sw_m} (B : BS μ k law n md sl) (h3 : md ≠ 3) (T : ∀ e, e ≤ n → TB μ md sl (chL k law n (decide (md = 2))) e) {k7 : sw_m → Int32 → Int32 → Int32 → Int32 → Option (Int32 × sw_m)} {c : Nat} (hc : c < n) {t : Int} (h1 : -(297 * (c : Int)) ≤ t) (h2 : t ≤ 297 * c) {a : Int32} {e : Ch} (hch : chL k law n (decide (md = 2)) c = chU k law (decide (md = 2)) c 7) (he : pk (Emd md sl) (chL k law n (decide (md = 2)) c) (sf (chL k law n (decide (md = 2))) (6 - c)) t = some e) : ∀ (d p fu : Nat), p + d = 7 → d < fu → (chU k law (decide (md = 2)) c p).find? (fun e => decide (min FAR (bst (Emd md sl) (sf (chL k law n (decide (md = 2))) (6 - c)) (t + e.2.1) + e.2.2) = bst (Emd md sl) (sf (chL k law n (decide (md = 2))) (7 - c)) t)) = none → fMo_placeIn_30 N k7 fu μ a (zI t) (nI p) (nI c) = k7 μ a (zI (t + e.2.1)) (nI e.1) (nI (c + 1)) := by
  have hn7 := K.n7
  have hs : sf (chL k law n (decide (md = 2))) (7 - c) = chL k law n (decide (md = 2)) c :: sf (chL k law n (decide (md = 2))) (6 - c) := by rw [show 7 - c = (6 - c) + 1 by omega, sf_at (c := c) (by omega)]
  unfold pk at he
  rw [← hs] at he
  rw [hch] at he
  generalize hq : (fun e : Ch => decide (min FAR (bst (Emd md sl) (sf (chL k law n (decide (md = 2))) (6 - c)) (t + e.2.1) + e.2.2) = bst (Emd md sl) (sf (chL k law n (decide (md = 2))) (7 - c)) t)) = q at he ⊢
  intro d
  induction d with
  | zero =>
    intro p fu hp hfu hn
    obtain rfl : p = 7 := by omega
    rw [hn] at he; cases he
  | succ d ih =>
    intro p fu hp hfu hn
    obtain ⟨fu, rfl⟩ : ∃ z, fu = z + 1 := ⟨fu - 1, by omega⟩
    have hst : chU k law (decide (md = 2)) c (p + 1) = chU k law (decide (md = 2)) c p ++ (if canL k law (decide (md = 2)) c p then [(p, wz k law c p, csL k (decide (md = 2)) c p)] else []) := rfl
    rw [fMo_placeIn_30, canRow_eq B hc (by omega), Option.bind_some]
    simp only []
    cases hcan : canL k law (decide (md = 2)) c p with
    | false =>
      rw [hcan, if_neg (by decide), List.append_nil] at hst
      rw [if_pos (show bI false = 0 from rfl)]
      simp only [nm, nI_1]
      exact ih (p + 1) fu (by omega) (by omega) (by rw [hst]; exact hn)
    | true =>
      rw [hcan, if_pos rfl] at hst
      rw [if_neg (show ¬ bI true = 0 by decide), bestBy_eq K B hc (by omega) (T (c + 1) (by omega)) h1 h2, Option.bind_some]
      simp only []
      rw [bestAt_eq (by omega) (by omega) (by omega), T c (by omega) t h1 h2, Option.bind_some]
      simp only []
      have b1 := stp_le (sl := sl) (ls := sf (chL k law n (decide (md = 2))) (6 - c)) (t := t) (e := (p, wz k law c p, csL k (decide (md = 2)) c p)) h3
      have b2 : vl md sl (sf (chL k law n (decide (md = 2))) (7 - c)) t ≤ FAR := by unfold vl; rw [if_neg h3]; exact bst_le Emd_le _ _
      have hqe : q (p, wz k law c p, csL k (decide (md = 2)) c p) = decide (stp md sl (sf (chL k law n (decide (md = 2))) (6 - c)) t (p, wz k law c p, csL k (decide (md = 2)) c p) = vl md sl (sf (chL k law n (decide (md = 2))) (7 - c)) t) := by
        rw [← hq]; unfold stp vl; rw [if_neg h3, if_neg h3]
      generalize stp md sl (sf (chL k law n (decide (md = 2))) (6 - c)) t (p, wz k law c p, csL k (decide (md = 2)) c p) = x at b1 hqe ⊢
      generalize vl md sl (sf (chL k law n (decide (md = 2))) (7 - c)) t = y at b2 hqe ⊢
      unfold FAR at b1 b2
      by_cases hxy : x = y
      · rw [if_pos (by rw [hxy]), show (7 : Int32) * nI c = nI (7 * c) from nI_mul 7 c, nI_add, rd_nI (by omega) (by decide), (B.2.2.2.2.2.2 c p hc (by omega)).1, show plK k law c p = zI (wz k law c p) from (zI_of _).symm, zI_add]
        simp only [nm, nI_1]
        obtain ⟨r, hr⟩ := chU_pre (k := k) (law := law) (mv := decide (md = 2)) (c := c) d (p + 1) (by omega)
        rw [hr, hst, List.append_assoc, List.find?_append, hn, Option.none_or, List.cons_append, List.find?_cons_of_pos (by rw [hqe]; exact decide_eq_true hxy)] at he
        cases he
        rfl
      · rw [if_neg (fun z => hxy ((nI_eq (by omega) (by omega)).1 z))]
        simp only [nm, nI_1]
        refine ih (p + 1) fu (by omega) (by omega) ?_
        rw [hst, List.find?_append, hn, Option.none_or, List.find?_cons_of_neg (by rw [hqe]; simp [hxy])]; rfl
theorem pi_7 (hN : 3000 ≤ N) (K : KI k Lw n w L) {μ : sw_m} (B : BS μ k law n md sl) (h3 : md ≠ 3) (T : ∀ e, e ≤ n → TB μ md sl (chL k law n (decide (md = 2))) e) {a : Nat} (ha : a < n) (hb : ∀ y, y < 7 → bdL (chL k law n (decide (md = 2)) y)) : ∀ (d c fu : Nat) (t : Int) (u : Int32), c + d = a + 1 → d < fu → -(297 * (c : Int)) ≤ t → t ≤ 297 * c → bst (Emd md sl) (sf (chL k law n (decide (md = 2))) (7 - c)) t < FAR → (0 < d ∨ True) → fMo_placeIn_7 N fu μ (nI a) (zI t) u (nI c) = some (if d = 0 then u else nI ((wkL (Emd md sl) (sf (chL k law n (decide (md = 2))) (7 - c)) t).getD (d - 1) 0), μ) := by
  have hn7 := K.n7
  intro d
  induction d with
  | zero =>
    intro c fu t u hc hfu h1 h2 hF _
    obtain ⟨fu, rfl⟩ : ∃ z, fu = z + 1 := ⟨fu - 1, by omega⟩
    rw [fMo_placeIn_7, if_pos (nI_lt (by omega) (by omega)), if_pos rfl]
  | succ d ih =>
    intro c fu t u hc hfu h1 h2 hF _
    obtain ⟨fu, rfl⟩ : ∃ z, fu = z + 1 := ⟨fu - 1, by omega⟩
    have hs : sf (chL k law n (decide (md = 2))) (7 - c) = chL k law n (decide (md = 2)) c :: sf (chL k law n (decide (md = 2))) (6 - c) := by rw [show 7 - c = (6 - c) + 1 by omega, sf_at (c := c) (by omega)]
    rw [hs] at hF
    obtain ⟨e, he⟩ := pk_some hF
    have hmem : e ∈ chL k law n (decide (md = 2)) c := List.mem_of_find?_eq_some (show (chL k law n (decide (md = 2)) c).find? _ = some e from he)
    have hbe := (hb c (by omega)).2 e hmem
    have hF2 : bst (Emd md sl) (sf (chL k law n (decide (md = 2))) (6 - c)) (t + e.2.1) < FAR := by
      have := List.find?_some (show (chL k law n (decide (md = 2)) c).find? _ = some e from he)
      have : min FAR (bst (Emd md sl) (sf (chL k law n (decide (md = 2))) (6 - c)) (t + e.2.1) + e.2.2) = bst (Emd md sl) (chL k law n (decide (md = 2)) c :: sf (chL k law n (decide (md = 2))) (6 - c)) t := by simpa using this
      omega
    have hwk : (wkL (Emd md sl) (sf (chL k law n (decide (md = 2))) (7 - c)) t) = e.1 :: wkL (Emd md sl) (sf (chL k law n (decide (md = 2))) (6 - c)) (t + e.2.1) := by rw [hs]; simp only [wkL, he]
    have hnx := ih (c + 1) fu (t + e.2.1) (nI e.1) (by omega) (by omega) (by omega) (by omega) (by rw [show 7 - (c + 1) = 6 - c by omega]; exact hF2) (.inr trivial)
    rw [show 7 - (c + 1) = 6 - c by omega] at hnx
    have hres : (if d = 0 then nI e.1 else nI ((wkL (Emd md sl) (sf (chL k law n (decide (md = 2))) (6 - c)) (t + e.2.1)).getD (d - 1) 0)) = nI ((wkL (Emd md sl) (sf (chL k law n (decide (md = 2))) (7 - c)) t).getD d 0) := by
      rw [hwk]
      cases d with
      | zero => rfl
      | succ d => rw [if_neg (by omega)]; rfl
    rw [hres] at hnx
    rw [fMo_placeIn_7, if_neg (nI_nlt (by omega) (by omega)), staysOff_eq B (by omega), Option.bind_some, if_neg (by omega)]
    simp only []
    by_cases ho : md = 2 ∧ k (7 + c) = -1
    · rw [decide_eq_true ho, if_neg (show ¬ bI true = 0 by decide)]
      have hl : chL k law n (decide (md = 2)) c = [(7, 0, 0)] := by unfold chL; rw [if_pos (.inr ⟨decide_eq_true ho.1, ho.2⟩)]
      rw [hl] at hmem
      have : e = (7, 0, 0) := by simpa using hmem
      subst this
      simp only [Int.add_zero] at hnx
      simp only [nm, nI_1]
      exact hnx
    · rw [decide_eq_false ho, if_pos (show bI false = 0 from rfl)]
      have hl : chL k law n (decide (md = 2)) c = chU k law (decide (md = 2)) c 7 := by unfold chL; rw [if_neg (by intro q; rcases q with q | q; omega; exact ho ⟨of_decide_eq_true q.1, q.2⟩)]
      rw [show fMo_placeIn_30 N (fMo_placeIn_7 N fu) N μ (nI a) (zI t) (0 : Int32) (nI c) = _ from pi_30 (k7 := fMo_placeIn_7 N fu) hN K B h3 T (show c < n by omega) h1 h2 hl he 7 0 N rfl (by omega) rfl]
      exact hnx
theorem placeIn_eq (hN : 3000 ≤ N) (K : KI k Lw n w L) {μ : sw_m} (B : BS μ k law n md sl) (h3 : md ≠ 3) (T : ∀ e, e ≤ n → TB μ md sl (chL k law n (decide (md = 2))) e) {a : Nat} (ha : a < n) (hb : ∀ y, y < 7 → bdL (chL k law n (decide (md = 2)) y)) (hF : bst (Emd md sl) (sf (chL k law n (decide (md = 2))) 7) 0 < FAR) : fMo_placeIn N μ (nI a) = some (nI ((wkL (Emd md sl) (sf (chL k law n (decide (md = 2))) 7) 0).getD a 0), μ) := by
  have := pi_7 (N := N) hN K B h3 T ha hb (a + 1) 0 N 0 (-1) (by omega) (by have := K.n7; omega) (by omega) (by omega) hF (.inr trivial)
  rw [if_neg (by omega)] at this
  exact this
end
