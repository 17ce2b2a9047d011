/-! ===== settle, least, moved: what the reference lays ===== -/
def Emd (md sl : Nat) : Int → Nat := fun t => if md = 1 then min t.natAbs 999999 else if t.natAbs ≤ sl then 0 else FAR
theorem Emd_le {md sl : Nat} (t : Int) : Emd md sl t ≤ FAR := by
  unfold Emd FAR
  split
  · omega
  · split <;> omega
def vl (md sl : Nat) (ls : List (List Ch)) (t : Int) : Nat := if md = 3 then num (QB 0 sl) ls t 0 else bst (Emd md sl) ls t
/-- what the choices of one claim come to -/
def fd (md sl : Nat) (ls : List (List Ch)) (t : Int) (l : List Ch) : Nat := if md = 3 then l.foldl (fun a e => a + num (QB 0 sl) ls (t + e.2.1) (0 + e.2.2)) 0 else l.foldl (fun a e => min a (min FAR (bst (Emd md sl) ls (t + e.2.1) + e.2.2))) FAR
def stp (md sl : Nat) (ls : List (List Ch)) (t : Int) (e : Ch) : Nat := if md = 3 then num (QB 0 sl) ls (t + e.2.1) (0 + e.2.2) else min FAR (bst (Emd md sl) ls (t + e.2.1) + e.2.2)
theorem vl_cons {md sl : Nat} {l : List Ch} {ls : List (List Ch)} {t : Int} : vl md sl (l :: ls) t = fd md sl ls t l := rfl
theorem fd_app {md sl : Nat} {ls : List (List Ch)} {t : Int} {l : List Ch} {e : Ch} : fd md sl ls t (l ++ [e]) = if md = 3 then fd md sl ls t l + stp md sl ls t e else min (fd md sl ls t l) (stp md sl ls t e) := by
  unfold fd stp
  split <;> rw [List.foldl_append] <;> rfl
theorem fd_le {md sl : Nat} {ls : List (List Ch)} {t : Int} {l : List Ch} (h : md ≠ 3) : fd md sl ls t l ≤ FAR := by
  unfold fd
  rw [if_neg h]
  exact (fold_min l FAR).1
theorem stp_le {md sl : Nat} {ls : List (List Ch)} {t : Int} {e : Ch} (h : md ≠ 3) : stp md sl ls t e ≤ FAR := by
  unfold stp
  rw [if_neg h]
  omega
def ix (c : Nat) (t : Int) : Nat := (4201 * (c : Int) + 2100 + t).toNat
theorem bestAt_eq {μ : sw_m} {c : Nat} {t : Int} (hc : c ≤ 7) (h1 : -2079 ≤ t) (h2 : t ≤ 2079) : fMo_bestAt μ (nI c) (zI t) = some (μ.1 102 (ix c t), μ) := by
  rw [fMo_bestAt, show (4201 : Int32) * nI c = nI (4201 * c) from nI_mul 4201 c, show nI (4201 * c) + (2100 : Int32) = nI (4201 * c + 2100) from nI_add _ 2100, ← zI_nat, zI_add, zI_pos (by omega), rd_nI (by omega) (by decide), show (((4201 * c + 2100 : Nat) : Int) + t).toNat = ix c t by unfold ix; congr 1]
def PB (μ : sw_m) (k : Nat → Int32) (law : Option (List Cl)) (n : Nat) : Prop := ∀ c p, c < n → p < 7 → μ.1 100 (7 * c + p) = plK k law c p ∧ μ.1 101 (7 * c + p) = brI k law c p
/-- the table's row for a claim -/
def TB (μ : sw_m) (md sl : Nat) (f : Nat → List Ch) (c : Nat) : Prop := ∀ t : Int, -(297 * (c : Int)) ≤ t → t ≤ 297 * c → μ.1 102 (ix c t) = nI (vl md sl (sf f (7 - c)) t)
/-- what stands while the table is laid -/
def BS (μ : sw_m) (k : Nat → Int32) (law : Option (List Cl)) (n md sl : Nat) : Prop := μ.1 86 = k ∧ μ.1 84 37 = nI md ∧ md ≤ 3 ∧ k 42 = nI sl ∧ sl ≤ 9 ∧ n ≤ 7 ∧ PB μ k law n
theorem BS.put {μ : sw_m} {k : Nat → Int32} {law : Option (List Cl)} {n md sl j : Nat} {v : Int32} (h : BS μ k law n md sl) : BS (mI μ 102 j v) k law n md sl := by
  obtain ⟨a1, a2, a3, a4, a5, a6, a7⟩ := h
  refine ⟨?_, by rw [mI_at, if_neg (by omega)]; exact a2, a3, a4, a5, a6, fun c p hc hp => ?_⟩
  · rw [← a1]; funext x; rw [mI_at, if_neg (by omega)]
  · rw [mI_at, if_neg (by omega), mI_at, if_neg (by omega)]; exact a7 c p hc hp
section
variable {N : Nat} {k : Nat → Int32} {law : Option (List Cl)} {Lw : Nat → List Cl} {n w L md sl : Nat} {μ : sw_m}
theorem md_eq {a b : Nat} (h : a ≤ 3) (hb : b ≤ 3) : nI a = nI b ↔ a = b := nI_eq (by omega) (by omega)
theorem md2 (h : md ≤ 3) (hm : ¬ md = 2) : ¬ nI md = 2 := fun q => hm ((md_eq (b := 2) h (by decide)).1 q)
theorem md3 (h : md ≤ 3) (hm : ¬ md = 3) : ¬ nI md = 3 := fun q => hm ((md_eq (b := 3) h (by decide)).1 q)
theorem canRow_eq (h : BS μ k law n md sl) {c p : Nat} (hc : c < n) (hp : p < 7) : fMo_canRow N μ (nI c) (nI p) = some (bI (canL k law (decide (md = 2)) c p), μ) := by
  obtain ⟨a1, a2, a3, a4, a5, a6, a7⟩ := h
  obtain ⟨b1, b2⟩ := a7 c p hc hp
  have e48 : ∀ s u : Int32, fMo_canRow_48 N μ (nI c) (nI p) s u = if s = 0 then (if u = 0 then some (0, μ) else some (bI (!(barK k law c (nI p))), μ)) else some (1, μ) := by
    intro s u
    rw [fMo_canRow_48, show (7 : Int32) * nI c = nI (7 * c) from nI_mul 7 c, nI_add, rd_nI (by omega) (by decide), b2]
    unfold brI
    cases barK k law c (nI p) <;> rfl
  have e18 : ∀ s : Int32, fMo_canRow_18 N μ (nI c) (nI p) s = if s = 0 then some (bI ((decide (k (7 + c) ≠ -1) == decide (md = 2)) && !(barK k law c (nI p))), μ) else some (1, μ) := by
    intro s
    rw [fMo_canRow_18, misOn_eq (by omega), a1, a2]
    by_cases hm : md = 2
    · rw [if_pos (by rw [hm]; rfl), Option.bind_some]
      simp only [e48]
      by_cases hk : k (7 + c) = -1
      · rw [if_pos hk, if_pos rfl, decide_eq_false (fun q => q hk), decide_eq_true hm]; rfl
      · rw [if_neg hk, if_neg n10, decide_eq_true hk, decide_eq_true hm]; rfl
    · rw [if_neg (md2 a3 hm), Option.bind_some]
      by_cases hk : k (7 + c) = -1
      · simp only [e48, if_pos hk, if_true, if_neg n10]
        rw [decide_eq_false (fun q => q hk), decide_eq_false hm]; rfl
      · simp only [e48, if_neg hk, if_true, if_neg n10]
        rw [decide_eq_true hk, decide_eq_false hm]; rfl
  rw [fMo_canRow, i7, rd_nI (by omega) (by decide), a1]
  unfold canL
  by_cases hk : k (7 + c) = nI p
  · rw [if_pos hk, e18, if_neg n10, decide_eq_true hk]; rfl
  · rw [if_neg hk, e18, if_pos rfl, decide_eq_false hk, Bool.false_or]
theorem endsAt_eq (h : BS μ k law n md sl) {t : Int} (h1 : -2079 ≤ t) (h2 : t ≤ 2079) : fMo_endsAt N μ (zI t) = some (nI (vl md sl [] t), μ) := by
  obtain ⟨a1, a2, a3, a4, a5, a6, a7⟩ := h
  have el : fMo_isLevel μ (zI t) = some (if t.natAbs ≤ sl then 1 else 0, μ) := by
    rw [mlevel_eq, a1, a4, jabs_z (by omega) (by omega)]
    by_cases q : t.natAbs ≤ sl
    · rw [if_neg (nI_nlt q (by omega)), if_pos q]
    · rw [if_pos (nI_lt (by omega) (by omega)), if_neg q]
  have e32 : fMo_endsAt_32 N μ (zI t) = some (nI (if t.natAbs ≤ sl then 0 else FAR), μ) := by
    rw [fMo_endsAt_32, el, Option.bind_some]
    by_cases q : t.natAbs ≤ sl
    · simp only [if_pos q, if_neg n10]; rfl
    · simp only [if_neg q, if_true]; rfl
  rw [fMo_endsAt, a2, e32, el, either_eq, jabs_z (by omega) (by omega)]
  simp only [nm]
  rcases (show md = 0 ∨ md = 1 ∨ md = 2 ∨ md = 3 by omega) with rfl | rfl | rfl | rfl
  · rw [if_pos (show nI 0 = 0 from rfl)]; rfl
  · rw [if_neg (show ¬ nI 1 = 0 by decide), if_pos (show nI 1 = 1 from rfl), Option.bind_some]
    show some (nI t.natAbs, μ) = some (nI (min t.natAbs 999999), μ)
    rw [show min t.natAbs 999999 = t.natAbs by omega]
  · rw [if_neg (show ¬ nI 2 = 0 by decide), if_neg (show ¬ nI 2 = 1 by decide), if_pos (show nI 2 = 2 from rfl)]; rfl
  · rw [if_neg (by decide), if_neg (by decide), if_neg (by decide), Option.bind_some]
    show _ = some (nI (if QB 0 sl t 0 then 1 else 0), μ)
    by_cases q : t.natAbs ≤ sl
    · simp only [if_pos q, if_neg n10]
      rw [if_pos (show QB 0 sl t 0 = true by unfold QB; rw [decide_eq_true_eq]; exact ⟨rfl, q⟩)]; rfl
    · simp only [if_neg q, if_true]
      rw [if_neg (show ¬ QB 0 sl t 0 = true by unfold QB; rw [decide_eq_true_eq]; exact fun x => q x.2)]; rfl
theorem wz_rng (K : KI k Lw n w L) {c p : Nat} (hc : c < n) (hp : p < 7) : -297 ≤ wz k law c p ∧ wz k law c p ≤ 297 := by
  obtain ⟨z, z1, z2, z3⟩ := plK_rng (law := law) K hc hp
  unfold wz
  rw [z3, zI_toInt (by omega) (by omega)]
  exact ⟨z1, z2⟩
theorem bestBy_eq (K : KI k Lw n w L) (h : BS μ k law n md sl) {f : Nat → List Ch} {c p : Nat} (hc : c < n) (hp : p < 7) (T : TB μ md sl f (c + 1)) {t : Int} (h1 : -(297 * (c : Int)) ≤ t) (h2 : t ≤ 297 * c) : fMo_bestBy μ (nI c) (nI p) (zI t) = some (nI (stp md sl (sf f (6 - c)) t (p, wz k law c p, csL k (decide (md = 2)) c p)), μ) := by
  obtain ⟨a1, a2, a3, a4, a5, a6, a7⟩ := h
  obtain ⟨b1, b2⟩ := a7 c p hc hp
  have hw := wz_rng (law := law) K hc hp
  have hT := T (t + wz k law c p) (by omega) (by omega)
  rw [show 7 - (c + 1) = 6 - c by omega] at hT
  rw [fMo_bestBy, show (7 : Int32) * nI c = nI (7 * c) from nI_mul 7 c, nI_add, rd_nI (by omega) (by decide), b1, show plK k law c p = zI (wz k law c p) from (zI_of _).symm, zI_add, nI_1, bestAt_eq (by omega) (by omega) (by omega), hT, Option.bind_some]
  simp only []
  rw [a2, i7, rd_nI (by omega) (by decide), a1]
  unfold stp vl
  by_cases h3 : md = 3
  · subst h3
    rw [if_neg (by decide), if_pos rfl, if_pos rfl]; rfl
  · rw [if_neg h3, if_neg h3]
    have hb := bst_le (E := Emd md sl) Emd_le (sf f (6 - c)) (t + wz k law c p)
    simp only []
    by_cases hm : md = 2
    · rw [if_pos (by rw [hm]; rfl)]
      unfold csL
      by_cases hk : k (7 + c) = nI p
      · rw [if_pos hk, if_neg (fun q => q.2 hk), Nat.add_zero, Nat.min_eq_right hb]
      · rw [if_neg hk, if_pos ⟨decide_eq_true hm, hk⟩, nI_1, lesser_eq, Option.bind_some, jmin]
        unfold FAR at hb ⊢
        by_cases q : bst (Emd md sl) (sf f (6 - c)) (t + wz k law c p) + 1 < 1000000
        · rw [if_pos (show nI _ < (1000000 : Int32) from nI_lt (b := 1000000) q (by decide)), Nat.min_eq_right (by omega)]
        · rw [if_neg (show ¬ nI _ < (1000000 : Int32) from nI_nlt (b := 1000000) (by omega) (by omega)), Nat.min_eq_left (by omega)]; rfl
    · rw [if_neg (md2 a3 hm)]
      unfold csL
      rw [if_neg (fun q => hm (of_decide_eq_true q.1)), Nat.add_zero, Nat.min_eq_right hb]
theorem csL_0 {c p : Nat} (h : md = 3) : csL k (decide (md = 2)) c p = 0 := by unfold csL; rw [if_neg (fun q => by have := of_decide_eq_true q.1; omega)]
theorem bestOf_35 (K : KI k Lw n w L) (h : BS μ k law n md sl) {f : Nat → List Ch} {c : Nat} (hc : c < n) (T : TB μ md sl f (c + 1)) {t : Int} (h1 : -(297 * (c : Int)) ≤ t) (h2 : t ≤ 297 * c) : ∀ (d p fu : Nat), p + d = 7 → d < fu → fMo_bestOf_35 N fu μ (nI c) (zI t) (nI (fd md sl (sf f (6 - c)) t (chU k law (decide (md = 2)) c p))) (nI p) = some (nI (fd md sl (sf f (6 - c)) t (chU k law (decide (md = 2)) c 7)), μ) := by
  intro d
  induction d with
  | zero =>
    intro p fu hp hfu
    obtain ⟨fu, rfl⟩ : ∃ z, fu = z + 1 := ⟨fu - 1, by omega⟩
    obtain rfl : p = 7 := by omega
    rw [fMo_bestOf_35, if_pos (by decide)]
  | succ d ih =>
    intro p fu hp hfu
    obtain ⟨fu, rfl⟩ : ∃ z, fu = z + 1 := ⟨fu - 1, by omega⟩
    have hst : chU k law (decide (md = 2)) c (p + 1) = chU k law (decide (md = 2)) c p ++ (if canL k law (decide (md = 2)) c p then [(p, wz k law c p, csL k (decide (md = 2)) c p)] else []) := rfl
    rw [fMo_bestOf_35, if_neg (show ¬ (7 : Int32) ≤ nI p from nI_ge (b := 7) (by omega) (by decide)), canRow_eq h hc (by omega), Option.bind_some]
    simp only []
    cases hcan : canL k law (decide (md = 2)) c p with
    | false =>
      rw [hcan, if_neg (by decide), List.append_nil] at hst
      rw [if_pos (show bI false = 0 from rfl)]
      simp only [nm, nI_1]
      rw [← hst]
      exact ih (p + 1) fu (by omega) (by omega)
    | true =>
      rw [hcan, if_pos rfl] at hst
      rw [if_neg (show ¬ bI true = 0 by decide), bestBy_eq K h hc (by omega) T h1 h2, Option.bind_some]
      simp only []
      have hn := ih (p + 1) fu (by omega) (by omega)
      rw [hst, fd_app] at hn
      rw [h.2.1]
      by_cases h3 : md = 3
      · rw [if_pos h3] at hn
        rw [if_pos (by rw [h3]; rfl)]
        simp only [nm, nI_1, nI_add]
        exact hn
      · rw [if_neg h3] at hn
        rw [if_neg (md3 h.2.2.1 h3), lesser_eq, Option.bind_some, jmin]
        have q1 := fd_le (sl := sl) (ls := sf f (6 - c)) (t := t) (l := chU k law (decide (md = 2)) c p) h3
        have q2 := stp_le (sl := sl) (ls := sf f (6 - c)) (t := t) (e := (p, wz k law c p, csL k (decide (md = 2)) c p)) h3
        generalize fd md sl (sf f (6 - c)) t (chU k law (decide (md = 2)) c p) = x at hn q1 ⊢
        generalize stp md sl (sf f (6 - c)) t (p, wz k law c p, csL k (decide (md = 2)) c p) = y at hn q2 ⊢
        unfold FAR at q1 q2
        simp only [nm, nI_1]
        rw [← hn]
        by_cases q : y < x
        · rw [if_pos (nI_lt q (by omega)), Nat.min_eq_right (by omega)]
        · rw [if_neg (nI_nlt (by omega) (by omega)), Nat.min_eq_left (by omega)]
theorem staysOff_eq (h : BS μ k law n md sl) {c : Nat} (hc : c < n) : fMo_staysOff μ (nI c) = some (bI (decide (md = 2 ∧ k (7 + c) = -1)), μ) := by
  obtain ⟨a1, a2, a3, a4, a5, a6, a7⟩ := h
  rw [fMo_staysOff, misOn_eq (by omega), a1, a2]
  by_cases hm : md = 2
  · rw [if_pos (by rw [hm]; rfl), Option.bind_some]
    by_cases hk : k (7 + c) = -1
    · simp only [if_pos hk, if_true]
      rw [decide_eq_true ⟨hm, hk⟩]; rfl
    · simp only [if_neg hk, if_neg n10]
      rw [decide_eq_false (fun q => hk q.2)]; rfl
  · rw [if_neg (md2 a3 hm), decide_eq_false (fun q => hm q.1)]; rfl
theorem vl_off {ls : List (List Ch)} {t : Int} : vl md sl ([(7, 0, 0)] :: ls) t = vl md sl ls t := by
  rw [vl_cons]
  unfold fd vl
  simp only [List.foldl_cons, List.foldl_nil, Int.add_zero, Nat.add_zero, Nat.zero_add]
  split
  · rfl
  · have := bst_le (E := Emd md sl) Emd_le ls t
    omega
theorem vl_pad {t : Int} : ∀ d, n + d ≤ 7 → vl md sl (sf (chL k law n (decide (md = 2))) (7 - (n + d))) t = vl md sl [] t := by
  intro d hd
  obtain ⟨e, he⟩ : ∃ e, n + d + e = 7 := ⟨7 - (n + d), by omega⟩
  induction e generalizing d with
  | zero => rw [show 7 - (n + d) = 0 by omega]; rfl
  | succ e ih =>
    rw [show 7 - (n + d) = e + 1 by omega, sf_at (c := n + d) (by omega), show chL k law n (decide (md = 2)) (n + d) = [(7, 0, 0)] by unfold chL; rw [if_pos (.inl (by omega))], vl_off]
    have := ih (d + 1) (by omega) (by omega)
    rwa [show 7 - (n + (d + 1)) = e by omega] at this
theorem bestOf_eq (hN : 3000 ≤ N) (K : KI k Lw n w L) (h : BS μ k law n md sl) {c : Nat} (hc : c < n) (T : TB μ md sl (chL k law n (decide (md = 2))) (c + 1)) {t : Int} (h1 : -(297 * (c : Int)) ≤ t) (h2 : t ≤ 297 * c) : fMo_bestOf N μ (nI c) (zI t) = some (nI (vl md sl (sf (chL k law n (decide (md = 2))) (7 - c)) t), μ) := by
  have hn7 := K.n7
  have hs : sf (chL k law n (decide (md = 2))) (7 - c) = chL k law n (decide (md = 2)) c :: sf (chL k law n (decide (md = 2))) (6 - c) := by rw [show 7 - c = (6 - c) + 1 by omega, sf_at (c := c) (by omega)]
  rw [fMo_bestOf, staysOff_eq h hc, Option.bind_some, hs]
  simp only []
  by_cases ho : md = 2 ∧ k (7 + c) = -1
  · rw [decide_eq_true ho, if_neg (show ¬ bI true = 0 by decide), nI_1, bestAt_eq (by omega) (by omega) (by omega), Option.bind_some, T t (by omega) (by omega), show chL k law n (decide (md = 2)) c = [(7, 0, 0)] by unfold chL; rw [if_pos (.inr ⟨decide_eq_true ho.1, ho.2⟩)], vl_off, show 7 - (c + 1) = 6 - c by omega]
  · rw [decide_eq_false ho, if_pos (show bI false = 0 from rfl), h.2.1]
    have e := bestOf_35 (N := N) K h hc T h1 h2 7 0 N rfl (by omega)
    rw [vl_cons, show chL k law n (decide (md = 2)) c = chU k law (decide (md = 2)) c 7 by unfold chL; rw [if_neg (by intro q; rcases q with q | q; omega; exact ho ⟨of_decide_eq_true q.1, q.2⟩)]]
    by_cases h3 : md = 3
    · rw [if_pos (by rw [h3]; rfl)]
      rw [show fd md sl (sf (chL k law n (decide (md = 2))) (6 - c)) t (chU k law (decide (md = 2)) c 0) = 0 by unfold fd; rw [if_pos h3]; rfl] at e
      exact e
    · rw [if_neg (md3 h.2.2.1 h3)]
      rw [show fd md sl (sf (chL k law n (decide (md = 2))) (6 - c)) t (chU k law (decide (md = 2)) c 0) = FAR by unfold fd; rw [if_neg h3]; rfl] at e
      exact e
end
