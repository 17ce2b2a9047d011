/-! ===== settle, least, moved ===== -/
theorem GA.gu {g g' : sw_g} (h : GA 43 80 g g') : GU g g' := ⟨h.mono (by decide) (by decide), by rw [h.1 81 (by decide)]⟩
theorem bst_val {E : Int → Nat} : ∀ (ls : List (List Ch)) (t : Int), bd ls → bst E ls t = FAR ∨ ∃ t' x, t - 297 * ls.length ≤ t' ∧ t' ≤ t + 297 * ls.length ∧ x ≤ ls.length ∧ (free ls → x = 0) ∧ bst E ls t = E t' + x := by
  intro ls
  induction ls with
  | nil => intro t _; exact .inr ⟨t, 0, by simp, by simp, Nat.le_refl _, fun _ => rfl, rfl⟩
  | cons l ls ih =>
    intro t hb
    by_cases hF : bst E (l :: ls) t < FAR
    · obtain ⟨e, he, h1⟩ := bst_ex hF
      have hbe := (hb l (by simp)).2 e he
      have hlen : ((l :: ls).length : Int) = ls.length + 1 := by rw [List.length_cons]; omega
      rcases ih (t + e.2.1) (fun l' hl' => hb l' (by simp [hl'])) with q | ⟨t', x, a1, a2, a3, a4, a5⟩
      · omega
      · refine .inr ⟨t', x + e.2.2, by rw [hlen]; omega, by rw [hlen]; omega, by rw [List.length_cons]; omega, fun hf => ?_, by omega⟩
        have := a4 (fun l' hl' => hf l' (by simp [hl']))
        have := hf l (by simp) e he
        omega
    · left
      have : bst E (l :: ls) t ≤ FAR := (fold_min l FAR).1
      omega
section
variable {N : Nat} {ln : Nat → Nat} {M : Nat} {k : Nat → Int32} {law : Option (List Cl)} {Lw : Nat → List Cl} {n w L md sl : Nat}
theorem chU_bd (K : KI k Lw n w L) {mv : Bool} {c : Nat} (hc : c < n) : ∀ p, p ≤ 7 → ∀ e ∈ chU k law mv c p, (-297 ≤ e.2.1 ∧ e.2.1 ≤ 297 ∧ e.2.2 ≤ 1) ∧ (mv = false → e.2.2 = 0) := by
  intro p
  induction p with
  | zero => intro _ e he; simp [chU] at he
  | succ p ih =>
    intro hp e he
    rcases List.mem_append.1 (show e ∈ chU k law mv c p ++ (if canL k law mv c p then [(p, wz k law c p, csL k mv c p)] else []) from he) with h | h
    · exact ih (by omega) e h
    · split at h
      · have : e = (p, wz k law c p, csL k mv c p) := by simpa using h
        subst this
        have := wz_rng (law := law) K hc (p := p) (by omega)
        refine ⟨⟨this.1, this.2, ?_⟩, fun hm => ?_⟩
        · show csL k mv c p ≤ 1
          unfold csL; split <;> omega
        · show csL k mv c p = 0
          unfold csL; rw [if_neg (by simp [hm])]
      · simp at h
theorem chL_bd (K : KI k Lw n w L) {mv : Bool} {c : Nat} : bdL (chL k law n mv c) ∧ (mv = false → ∀ e ∈ chL k law n mv c, e.2.2 = 0) := by
  unfold chL
  split
  · refine ⟨⟨by decide, fun e he => ?_⟩, fun _ e he => ?_⟩
    · have : e = (7, 0, 0) := by simpa using he
      subst this
      exact ⟨by decide, by decide, by decide⟩
    · have : e = (7, 0, 0) := by simpa using he
      rw [this]
  · next h =>
    have hc : c < n := by omega
    exact ⟨⟨chU_len 7, fun e he => (chU_bd K hc 7 (Nat.le_refl _) e he).1⟩, fun hm e he => (chU_bd K hc 7 (Nat.le_refl _) e he).2 hm⟩
theorem sf_free {f : Nat → List Ch} (h : ∀ c, ∀ e ∈ f c, e.2.2 = 0) : ∀ d, free (sf f d) := by
  intro d
  induction d with
  | zero => intro l hl; simp [sf] at hl
  | succ d ih =>
    intro l hl
    rcases List.mem_cons.1 (show l ∈ f (6 - d) :: sf f d from hl) with rfl | hl
    · exact h _
    · exact ih l hl
theorem offerAll (hN : 3000 ≤ N) (K : KI k Lw n w L) {g : sw_g} (P : PQ ln M g 1 k Lw L) (mv : Bool) : ∃ g', fSx_offerPlaces N ln g (bI mv) = some g' ∧ RW g' (chL k (lawAt Lw (k 46)) n mv) ∧ GA 43 80 g g' := by
  obtain ⟨g1, e1, e2, e3⟩ := offers_eq (N := N) hN K P mv
  obtain ⟨g2, q1, q2, q3⟩ := tallies_eq (N := N) (ln := ln) hN (fun y _ => (chL_bd (law := lawAt Lw (k 46)) K (mv := mv) (c := y)).1) e2
  refine ⟨g2, ?_, q2, (e3.mono (by decide) (by decide)).trans (q3.mono (by decide) (by decide))⟩
  rw [e1, q1]; rfl
theorem QB_Qm {y : Nat} (hy : y ≤ 7) (hmd : md ≠ 1) : QB y sl = Qm (Emd md sl) y := by
  funext t x
  unfold QB Qm Emd FAR
  rw [decide_eq_decide, if_neg hmd]
  by_cases q : t.natAbs ≤ sl
  · rw [if_pos q]; constructor
    · rintro ⟨a, _⟩; omega
    · intro a; exact ⟨by omega, q⟩
  · rw [if_neg q]; constructor
    · rintro ⟨_, b⟩; exact absurd b q
    · intro a; omega
theorem QB_E {B : Nat} (hB : B ≤ 2079) : QB 0 B = fun t x => decide (x = 0 ∧ Emd 1 sl t ≤ B) := by
  funext t x
  unfold QB Emd
  rw [decide_eq_decide, if_pos rfl]
  constructor
  · rintro ⟨a, b⟩; exact ⟨a, by omega⟩
  · rintro ⟨a, b⟩; exact ⟨a, by omega⟩
theorem wk_at {E : Int → Nat} {ls : List (List Ch)} {t : Int} (h : bst E ls t < FAR) {c : Nat} (hc : c < ls.length) : (wkL E ls t)[c]? = some ((wkL E ls t).getD c 0) := by
  have hl := wkL_len ls t h
  rw [List.getD_eq_getElem?_getD, List.getElem?_eq_getElem (by omega)]; rfl
theorem rowTold_eq (hN : 6000 ≤ N) {μ : sw_m} (K : KI (μ.1 86) Lw n w L) (hmd : md ≤ 2) (hsl : μ.1 86 42 = nI sl) (sl9 : sl ≤ 9) {a : Int32} (ha : a = -1 ∨ ∃ c, c < n ∧ a = nI c) : ∃ μ', MS μ μ' ∧ fMo_rowTold N μ (nI md) a = some (if bst (Emd md sl) (sf (chL (μ.1 86) (lawAt Lw (μ.1 86 46)) n (decide (md = 2))) 7) 0 = FAR then -1 else if a = -1 then nI (bst (Emd md sl) (sf (chL (μ.1 86) (lawAt Lw (μ.1 86 46)) n (decide (md = 2))) 7) 0) else nI ((wkL (Emd md sl) (sf (chL (μ.1 86) (lawAt Lw (μ.1 86 46)) n (decide (md = 2))) 7) 0).getD a.toNatClampNeg 0), μ') := by
  have hn7 := K.n7
  obtain ⟨μ1, e1, B, T, f1⟩ := laysBest_eq (N := N) (md := md) (sl := sl) hN K (by omega) hsl sl9
  refine ⟨μ1, f1, ?_⟩
  have hT := T 0 (Nat.zero_le _) 0 (by omega) (by omega)
  have h3 : md ≠ 3 := by omega
  have hv : vl md sl (sf (chL (μ.1 86) (lawAt Lw (μ.1 86 46)) n (decide (md = 2))) (7 - 0)) 0 = bst (Emd md sl) (sf (chL (μ.1 86) (lawAt Lw (μ.1 86 46)) n (decide (md = 2))) 7) 0 := by unfold vl; rw [if_neg h3]
  rw [hv] at hT
  have hb := bst_le (E := Emd md sl) Emd_le (sf (chL (μ.1 86) (lawAt Lw (μ.1 86 46)) n (decide (md = 2))) 7) 0
  have e15 : fMo_rowTold_15 N μ (nI md) a = some (if bst (Emd md sl) (sf (chL (μ.1 86) (lawAt Lw (μ.1 86 46)) n (decide (md = 2))) 7) 0 = FAR then -1 else if a = -1 then nI (bst (Emd md sl) (sf (chL (μ.1 86) (lawAt Lw (μ.1 86 46)) n (decide (md = 2))) 7) 0) else nI ((wkL (Emd md sl) (sf (chL (μ.1 86) (lawAt Lw (μ.1 86 46)) n (decide (md = 2))) 7) 0).getD a.toNatClampNeg 0), μ1) := by
    rw [fMo_rowTold_15, e1, Option.bind_some, show fMo_bestAt μ1 (0 : Int32) (0 : Int32) = _ from bestAt_eq (c := 0) (t := 0) (by decide) (by decide) (by decide), hT, Option.bind_some]
    simp only []
    by_cases hF : bst (Emd md sl) (sf (chL (μ.1 86) (lawAt Lw (μ.1 86 46)) n (decide (md = 2))) 7) 0 = FAR
    · rw [if_pos (show nI _ = (1000000 : Int32) by rw [hF]; rfl), if_pos hF]
    · rw [if_neg hF]
      rw [if_neg (show ¬ nI (bst (Emd md sl) (sf (chL (μ.1 86) (lawAt Lw (μ.1 86 46)) n (decide (md = 2))) 7) 0) = (1000000 : Int32) from fun q => hF ((nI_eq (b := 1000000) (by unfold FAR at hb; omega) (by decide)).1 q))]
      rcases ha with rfl | ⟨c, hc, rfl⟩
      · rw [if_pos rfl, if_pos rfl]
      · rw [if_neg (nI_nm1 (by omega)), if_neg (nI_nm1 (by omega)), placeIn_eq (by omega) K B h3 T hc (fun y _ => (chL_bd (law := lawAt Lw (μ.1 86 46)) K (c := y)).1) (by omega), nI_clamp (by omega)]
        rfl
  rcases ha with rfl | ⟨c, hc, rfl⟩
  · rw [fMo_rowTold, if_pos rfl, e15]
  · rw [fMo_rowTold, if_neg (nI_nm1 (by omega)), misClaim_yes K hc, Option.bind_some, ← e15]
    simp only [n10, if_false]
theorem rowTold_no {μ : sw_m} (K : KI (μ.1 86) Lw n w L) {v a : Int32} (ha : a ≠ -1) (hc : ∀ c, c < n → a ≠ nI c) : fMo_rowTold N μ v a = some (-1, μ) := by
  rw [fMo_rowTold, if_neg ha, misClaim_no K hc, Option.bind_some]
  simp only [if_true]
theorem a_cases (a : Int32) (n : Nat) : (a = -1) ∨ (∃ c, c < n ∧ a = nI c) ∨ (a ≠ -1 ∧ ∀ c, c < n → a ≠ nI c) := by
  by_cases h : a = -1
  · exact .inl h
  · by_cases h2 : ∃ c, c < n ∧ a = nI c
    · exact .inr (.inl h2)
    · exact .inr (.inr ⟨h, fun c hc e => h2 ⟨c, hc, e⟩⟩)
theorem bst_0F (K : KI k Lw n w L) : bst (Emd 0 sl) (sf (chL k law n false) 7) 0 = 0 ∨ bst (Emd 0 sl) (sf (chL k law n false) 7) 0 = FAR := by
  have hle := bst_le (E := Emd 0 sl) Emd_le (sf (chL k law n false) 7) 0
  rcases bst_val (E := Emd 0 sl) (sf (chL k law n false) 7) 0 (sf_bd (fun y _ => (chL_bd (law := law) K (mv := false) (c := y)).1) 7) with q | ⟨t', x, _, _, _, a4, a5⟩
  · exact .inr q
  · have hx := a4 (sf_free (fun c => (chL_bd (law := law) K (mv := false) (c := c)).2 rfl) 7)
    have : Emd 0 sl t' = 0 ∨ Emd 0 sl t' = FAR := by
      unfold Emd
      rw [if_neg (by decide)]
      split
      · exact .inl rfl
      · exact .inr rfl
    omega
theorem bst_1F (K : KI k Lw n w L) : bst (Emd 1 sl) (sf (chL k law n false) 7) 0 ≤ 2079 ∨ bst (Emd 1 sl) (sf (chL k law n false) 7) 0 = FAR := by
  rcases bst_val (E := Emd 1 sl) (sf (chL k law n false) 7) 0 (sf_bd (fun y _ => (chL_bd (law := law) K (mv := false) (c := y)).1) 7) with q | ⟨t', x, a1, a2, _, a4, a5⟩
  · exact .inr q
  · have hx := a4 (sf_free (fun c => (chL_bd (law := law) K (mv := false) (c := c)).2 rfl) 7)
    rw [sf_len] at a1 a2
    left
    rw [a5, hx]
    unfold Emd
    rw [if_pos rfl]
    omega
theorem bst_2F (K : KI k Lw n w L) : bst (Emd 2 sl) (sf (chL k law n true) 7) 0 ≤ 7 ∨ bst (Emd 2 sl) (sf (chL k law n true) 7) 0 = FAR := by
  have hle := bst_le (E := Emd 2 sl) Emd_le (sf (chL k law n true) 7) 0
  rcases bst_val (E := Emd 2 sl) (sf (chL k law n true) 7) 0 (sf_bd (fun y _ => (chL_bd (law := law) K (mv := true) (c := y)).1) 7) with q | ⟨t', x, a1, a2, a3, a4, a5⟩
  · exact .inr q
  · rw [sf_len] at a3
    have : Emd 2 sl t' = 0 ∨ Emd 2 sl t' = FAR := by
      unfold Emd
      rw [if_neg (by decide)]
      split
      · exact .inl rfl
      · exact .inr rfl
    omega
theorem settle_CR (hN : 6000 ≤ N) {g : sw_g} {μ : sw_m} (h : RR ln M g μ) (a : Int32) : CR ln M (fSx_settle N ln g a) (fMo_settle N μ a) := by
  have h0 := h
  obtain ⟨Lw, n, w, L, K, P, h1, h2, h3, h4, h5⟩ := h
  have hn7 := K.n7
  obtain ⟨sl, hsl, sl9⟩ := K.tm.2.2
  obtain ⟨g1, e1, R, f1⟩ := offerAll (N := N) (by omega) K P false
  have P1 := P.ga f1 (by decide) (by decide)
  have hs5 : g1.1 5 3 = nI sl := by rw [show g1.1 5 3 = _ from P1.2.2.1.2.2.2, hsl]
  have hbd : ∀ y, y < 7 → bdL (chL (μ.1 86) (lawAt Lw (μ.1 86 46)) n false y) := fun y _ => (chL_bd (law := lawAt Lw (μ.1 86 46)) K (c := y)).1
  rcases a_cases a n with rfl | ⟨c, hc, rfl⟩ | ⟨ha, hno⟩
  · obtain ⟨g2, q1, q2⟩ := howMany_eq (N := N) (ln := ln) (by omega) hbd R (y := 0) (B := sl) (by decide) (by omega)
    obtain ⟨μ1, m1, B, T, m2⟩ := laysBest_eq (N := N) (md := 3) (sl := sl) hN K (by omega) hsl sl9
    have hT := T 0 (Nat.zero_le _) 0 (by omega) (by omega)
    have hT' : μ1.1 102 (ix 0 0) = nI (num (QB 0 sl) (sf (chL (μ.1 86) (lawAt Lw (μ.1 86 46)) n false) 7) 0 0) := hT
    have hle := num_le (Q := QB 0 sl) (sf (chL (μ.1 86) (lawAt Lw (μ.1 86 46)) n false) 7) 0 0 (sf_bd hbd 7)
    rw [sf_len] at hle
    generalize num (QB 0 sl) (sf (chL (μ.1 86) (lawAt Lw (μ.1 86 46)) n false) 7) 0 0 = m at q1 hT' hle
    refine h0.ask (v := if m = 0 then -1 else nI m) ⟨g2, ?_, (f1.trans (q2.mono (by decide) (by decide))).gu⟩ ⟨μ1, ?_, m2⟩
    · rw [fSx_settle, if_pos rfl, fSx_settle_18, show fSx_offerPlaces N ln g (0 : Int32) = _ from e1, Option.bind_some, rd_K 3 3 4 (by decide) (by decide), hs5, if_pos rfl, show fRo_howMany N ln g1 (0 : Int32) (nI sl) = _ from q1, Option.bind_some]
      simp only []
      by_cases hm : m = 0
      · rw [hm, if_pos (show nI 0 = 0 from rfl), if_pos rfl]
      · rw [if_neg (show ¬ nI m = 0 from fun q => hm ((nI_eq (b := 0) (by omega) (by decide)).1 q)), if_neg hm]
    · rw [fMo_settle, if_pos rfl, fMo_rowMany, show fMo_laysBest N μ (3 : Int32) = _ from m1, Option.bind_some, show fMo_bestAt μ1 (0 : Int32) (0 : Int32) = _ from bestAt_eq (c := 0) (t := 0) (by decide) (by decide) (by decide), hT', Option.bind_some, Option.bind_some]
      simp only []
      rw [fMo_settle_18, if_pos rfl]
      by_cases hm : m = 0
      · rw [hm, if_pos (show nI 0 = 0 from rfl), if_pos rfl]
      · rw [if_neg (show ¬ nI m = 0 from fun q => hm ((nI_eq (b := 0) (by omega) (by decide)).1 q)), if_neg hm]
  · obtain ⟨g2, q1, q2, q3⟩ := finds_eq (N := N) (ln := ln) (by omega) hbd R (y := 0) (B := sl) (by decide) (by omega)
    obtain ⟨μ1, m2, m1⟩ := rowTold_eq (N := N) (md := 0) (sl := sl) hN K (by decide) hsl sl9 (.inr ⟨c, hc, rfl⟩)
    rw [nI_clamp (by omega), if_neg (nI_nm1 (by omega))] at m1
    rw [QB_Qm (md := 0) (by decide) (by decide)] at q1 q2
    have mE : fMo_settle N μ (nI c) = fMo_rowTold N μ (nI 0) (nI c) := by
      rw [fMo_settle, if_neg (nI_nm1 (by omega)), show fMo_rowTold N μ (0 : Int32) (nI c) = _ from m1, Option.bind_some]
      simp only []
      rw [fMo_settle_18, if_neg (nI_nm1 (by omega)), m1]
    rw [mE, m1, fSx_settle, if_neg (nI_nm1 (by omega)), hasClaim_yes P K hc, Option.bind_some]
    simp only [n10, if_false]
    rw [fSx_settle_18, show fSx_offerPlaces N ln g (0 : Int32) = _ from e1, Option.bind_some, rd_K 3 3 4 (by decide) (by decide), hs5, if_neg (nI_nm1 (by omega)), show fRo_finds N ln g1 (0 : Int32) (nI sl) = _ from q1, Option.bind_some]
    simp only [show decide (0 = 2) = false from rfl]
    rcases bst_0F (sl := sl) (law := lawAt Lw (μ.1 86 46)) K with hb | hb
    · have hf := fnd_some (E := Emd 0 sl) (m := 0) (sf (chL (μ.1 86) (lawAt Lw (μ.1 86 46)) n false) 7) 0 0 (by omega) (by rw [hb]; decide)
      have hw := wk_at (E := Emd 0 sl) (ls := sf (chL (μ.1 86) (lawAt Lw (μ.1 86 46)) n false) 7) (t := 0) (by rw [hb]; decide) (c := c) (by rw [sf_len]; omega)
      rw [hf, Option.isSome_some, if_neg (show ¬ bI true = 0 by decide), rd_nI (by omega) (by decide), q2 _ hf c _ hw, hb, if_neg (show ¬ 0 = FAR by decide)]
      exact h0.ask ⟨g2, rfl, (f1.trans (q3.mono (by decide) (by decide))).gu⟩ ⟨μ1, rfl, m2⟩
    · have hf := fnd_none (E := Emd 0 sl) (m := 0) (sf (chL (μ.1 86) (lawAt Lw (μ.1 86 46)) n false) 7) 0 0 (by rw [hb]; decide)
      rw [hf, Option.isSome_none, if_pos (show bI false = 0 from rfl), if_pos hb]
      exact h0.ask ⟨g2, rfl, (f1.trans (q3.mono (by decide) (by decide))).gu⟩ ⟨μ1, rfl, m2⟩
  · have mE : fMo_settle N μ a = some (-1, μ) := by
      rw [fMo_settle, if_neg ha, rowTold_no K ha hno, Option.bind_some]
      simp only []
      rw [fMo_settle_18, if_neg ha]
    rw [mE, fSx_settle, if_neg ha, hasClaim_no P K hno, Option.bind_some]
    exact h0.ask ⟨g, rfl, GU.refl⟩ ⟨μ, rfl, MS.refl⟩
theorem least_CR (hN : 6000 ≤ N) {g : sw_g} {μ : sw_m} (h : RR ln M g μ) (a : Int32) : CR ln M (fSx_least N ln g a) (fMo_least N μ a) := by
  have h0 := h
  obtain ⟨Lw, n, w, L, K, P, h1, h2, h3, h4, h5⟩ := h
  have hn7 := K.n7
  obtain ⟨sl, hsl, sl9⟩ := K.tm.2.2
  obtain ⟨g1, e1, R, f1⟩ := offerAll (N := N) (by omega) K P false
  have hbd : ∀ y, y < 7 → bdL (chL (μ.1 86) (lawAt Lw (μ.1 86 46)) n false y) := fun y _ => (chL_bd (law := lawAt Lw (μ.1 86 46)) K (c := y)).1
  have hfr : free (sf (chL (μ.1 86) (lawAt Lw (μ.1 86 46)) n false) 7) := sf_free (fun c => (chL_bd (law := lawAt Lw (μ.1 86 46)) K (mv := false) (c := c)).2 rfl) 7
  obtain ⟨g2, q1, q2⟩ := leastWeight_eq (N := N) (ln := ln) (by omega) hbd (m := bst (Emd 1 sl) (sf (chL (μ.1 86) (lawAt Lw (μ.1 86 46)) n false) 7) 0) (fun B hB => by
    rw [QB_E (sl := sl) hB, ← fnd_within (E := Emd 1 sl) (fun t => by unfold Emd FAR; rw [if_pos rfl]; omega) (B := B) (by unfold FAR; omega) _ 0 hfr]
    rw [Option.isSome_iff_ne_none]) R
  have R2 := R.ga q2 (by decide)
  rcases (show a = -1 ∨ (∃ c, c < n ∧ a = nI c) ∨ (a ≠ -1 ∧ ∀ c, c < n → a ≠ nI c) from a_cases a n) with ha | ha | ⟨ha, hno⟩
  rotate_left 2
  · rw [fMo_least, rowTold_no K ha hno, fSx_least, if_neg ha, hasClaim_no P K hno, Option.bind_some]
    exact h0.ask ⟨g, rfl, GU.refl⟩ ⟨μ, rfl, MS.refl⟩
  all_goals
    obtain ⟨μ1, m2, m1⟩ := rowTold_eq (N := N) (md := 1) (sl := sl) hN K (by decide) hsl sl9 (a := a) (by first | exact .inl ha | exact .inr ha)
    have cE : fSx_least N ln g a = fSx_least_18 N ln g a := by
      rw [fSx_least]
      rcases a_cases a n with q | ⟨c, hc, rfl⟩ | ⟨q, qq⟩
      · rw [if_pos q]
      · rw [if_neg (nI_nm1 (by omega)), hasClaim_yes P K hc, Option.bind_some]
        simp only [n10, if_false]
      · first
          | exact absurd ha q
          | (obtain ⟨c, hc, rfl⟩ := ha; exact absurd rfl (qq c hc))
    rw [cE, fMo_least, show fMo_rowTold N μ (1 : Int32) a = _ from m1, Option.bind_some, fSx_least_18, show fSx_offerPlaces N ln g (0 : Int32) = _ from e1, Option.bind_some, q1, Option.bind_some]
    simp only [show decide (1 = 2) = false from rfl]
    rcases bst_1F (sl := sl) (law := lawAt Lw (μ.1 86 46)) K with hb | hb
    · have hbF : bst (Emd 1 sl) (sf (chL (μ.1 86) (lawAt Lw (μ.1 86 46)) n false) 7) 0 < FAR := by unfold FAR; omega
      rw [if_pos hb, if_neg (nI_nm1 (by omega)), if_neg (show ¬ bst (Emd 1 sl) (sf (chL (μ.1 86) (lawAt Lw (μ.1 86 46)) n false) 7) 0 = FAR by omega)]
      by_cases hm1 : a = -1
      · rw [if_pos hm1, if_pos hm1]
        exact h0.ask ⟨g2, rfl, (f1.trans (q2.mono (by decide) (by decide))).gu⟩ ⟨μ1, rfl, m2⟩
      · obtain ⟨c, hc, rfl⟩ : ∃ c, c < n ∧ a = nI c := by first | exact ha | exact absurd ha hm1
        rw [if_neg hm1, if_neg hm1, nI_clamp (by omega)]
        obtain ⟨g3, r1, r2, r3⟩ := finds_eq (N := N) (ln := ln) (by omega) hbd R2 (y := 0) (B := bst (Emd 1 sl) (sf (chL (μ.1 86) (lawAt Lw (μ.1 86 46)) n false) 7) 0) (by decide) hb
        have hq : fnd (QB 0 (bst (Emd 1 sl) (sf (chL (μ.1 86) (lawAt Lw (μ.1 86 46)) n false) 7) 0)) (sf (chL (μ.1 86) (lawAt Lw (μ.1 86 46)) n false) 7) 0 0 = some (wkL (Emd 1 sl) (sf (chL (μ.1 86) (lawAt Lw (μ.1 86 46)) n false) 7) 0) := by
          rw [QB_E (sl := sl) hb, fnd_le _ 0 hfr (Nat.le_refl _) hbF]
          exact fnd_some _ 0 0 (by omega) hbF
        have hw := wk_at (E := Emd 1 sl) (ls := sf (chL (μ.1 86) (lawAt Lw (μ.1 86 46)) n false) 7) (t := 0) hbF (c := c) (by rw [sf_len]; omega)
        rw [show fRo_finds N ln g2 (0 : Int32) (nI _) = _ from r1, Option.bind_some]
        simp only []
        rw [hq, Option.isSome_some, if_neg (show ¬ bI true = 0 by decide), rd_nI (by omega) (by decide), r2 _ hq c _ hw]
        exact h0.ask ⟨g3, rfl, (f1.trans ((q2.trans r3).mono (by decide) (by decide))).gu⟩ ⟨μ1, rfl, m2⟩
    · rw [hb, if_neg (show ¬ FAR ≤ 2079 by decide), if_pos rfl, if_pos rfl]
      exact h0.ask ⟨g2, rfl, (f1.trans (q2.mono (by decide) (by decide))).gu⟩ ⟨μ1, rfl, m2⟩
theorem mv_25 (hN : 3000 ≤ N) {f : Nat → List Ch} (hb : ∀ y, y < 7 → bdL (f y)) (sl9 : sl ≤ 9) {a : Int32} (ha : a = -1 ∨ ∃ c, c < 7 ∧ a = nI c) (hm : bst (Emd 2 sl) (sf f 7) 0 ≤ 7 ∨ bst (Emd 2 sl) (sf f 7) 0 = FAR) : ∀ (d y fu : Nat) (g : sw_g), y + d = 8 → d < fu → y ≤ bst (Emd 2 sl) (sf f 7) 0 → g.1 5 3 = nI sl → RW g f → ∃ g', fSx_moved_25 N ln fu g a (nI y) = some (if bst (Emd 2 sl) (sf f 7) 0 = FAR then -1 else if a = -1 then nI (bst (Emd 2 sl) (sf f 7) 0) else nI ((wkL (Emd 2 sl) (sf f 7) 0).getD a.toNatClampNeg 0), g') ∧ GA 43 80 g g' := by
  intro d
  induction d with
  | zero =>
    intro y fu g hy hfu hle hs R
    obtain ⟨fu, rfl⟩ : ∃ z, fu = z + 1 := ⟨fu - 1, by omega⟩
    obtain rfl : y = 8 := by omega
    rw [fSx_moved_25, if_pos (by decide), if_pos (by omega)]
    exact ⟨g, rfl, GA.refl⟩
  | succ d ih =>
    intro y fu g hy hfu hle hs R
    obtain ⟨fu, rfl⟩ : ∃ z, fu = z + 1 := ⟨fu - 1, by omega⟩
    obtain ⟨g1, q1, q2, q3⟩ := finds_eq (N := N) (ln := ln) hN hb R (y := y) (B := sl) (by omega) (by omega)
    rw [QB_Qm (md := 2) (by omega) (by decide)] at q1 q2
    rw [fSx_moved_25, if_neg (show ¬ (7 : Int32) < nI y from nI_nlt (a := 7) (by omega) (by decide)), rd_K 3 3 4 (by decide) (by decide), hs, q1, Option.bind_some]
    simp only []
    by_cases hyb : bst (Emd 2 sl) (sf f 7) 0 = y
    · have hbF : bst (Emd 2 sl) (sf f 7) 0 < FAR := by unfold FAR; omega
      have hf := fnd_some (E := Emd 2 sl) (m := y) (sf f 7) 0 0 (by omega) hbF
      rw [hf, Option.isSome_some, if_neg (show ¬ bI true = 0 by decide), if_neg (show ¬ bst (Emd 2 sl) (sf f 7) 0 = FAR by omega)]
      rcases ha with rfl | ⟨c, hc, rfl⟩
      · rw [if_pos rfl, if_pos rfl, hyb]
        exact ⟨g1, rfl, q3.mono (by decide) (by decide)⟩
      · have hw := wk_at (E := Emd 2 sl) (ls := sf f 7) (t := 0) hbF (c := c) (by rw [sf_len]; omega)
        rw [if_neg (nI_nm1 (by omega)), if_neg (nI_nm1 (by omega)), rd_nI hc (by decide), q2 _ hf c _ hw, nI_clamp (by omega)]
        exact ⟨g1, rfl, q3.mono (by decide) (by decide)⟩
    · have hf := fnd_none (E := Emd 2 sl) (m := y) (sf f 7) 0 0 (by omega)
      rw [hf, Option.isSome_none, if_pos (show bI false = 0 from rfl)]
      simp only [nm, nI_1]
      obtain ⟨g2, r1, r2⟩ := ih (y + 1) fu g1 (by omega) (by omega) (by omega) (by rw [q3.1 5 (by decide)]; exact hs) (R.ga q3 (by decide))
      exact ⟨g2, r1, (q3.mono (by decide) (by decide)).trans r2⟩
theorem moved_CR (hN : 6000 ≤ N) {g : sw_g} {μ : sw_m} (h : RR ln M g μ) (a : Int32) : CR ln M (fSx_moved N ln g a) (fMo_moved N μ a) := by
  have h0 := h
  obtain ⟨Lw, n, w, L, K, P, h1, h2, h3, h4, h5⟩ := h
  have hn7 := K.n7
  obtain ⟨sl, hsl, sl9⟩ := K.tm.2.2
  obtain ⟨g1, e1, R, f1⟩ := offerAll (N := N) (by omega) K P true
  have P1 := P.ga f1 (by decide) (by decide)
  have hs5 : g1.1 5 3 = nI sl := by rw [show g1.1 5 3 = _ from P1.2.2.1.2.2.2, hsl]
  have hbd : ∀ y, y < 7 → bdL (chL (μ.1 86) (lawAt Lw (μ.1 86 46)) n true y) := fun y _ => (chL_bd (law := lawAt Lw (μ.1 86 46)) K (c := y)).1
  have main : (a = -1 ∨ ∃ c, c < n ∧ a = nI c) → fSx_moved N ln g a = fSx_moved_18 N ln g a → CR ln M (fSx_moved N ln g a) (fMo_moved N μ a) := by
    intro ha he
    obtain ⟨μ1, m2, m1⟩ := rowTold_eq (N := N) (md := 2) (sl := sl) hN K (by decide) hsl sl9 ha
    obtain ⟨g2, q1, q2⟩ := mv_25 (N := N) (ln := ln) (sl := sl) (by omega) hbd sl9 (a := a) (by rcases ha with q | ⟨c, hc, q⟩; exact .inl q; exact .inr ⟨c, by omega, q⟩) (bst_2F K) 8 0 N g1 rfl (by omega) (Nat.zero_le _) hs5 R
    rw [he, fSx_moved_18, show fSx_offerPlaces N ln g (1 : Int32) = _ from e1, Option.bind_some, show fSx_moved_25 N ln N g1 a (0 : Int32) = _ from q1, fMo_moved, show fMo_rowTold N μ (2 : Int32) a = _ from m1, Option.bind_some]
    exact h0.ask ⟨g2, rfl, (f1.trans q2).gu⟩ ⟨μ1, rfl, m2⟩
  rcases a_cases a n with ha | ha | ⟨ha, hno⟩
  · exact main (.inl ha) (by rw [fSx_moved, if_pos ha])
  · refine main (.inr ha) ?_
    obtain ⟨c, hc, rfl⟩ := ha
    rw [fSx_moved, if_neg (nI_nm1 (by omega)), hasClaim_yes P K hc, Option.bind_some]
    simp only [n10, if_false]
  · rw [fMo_moved, rowTold_no K ha hno, fSx_moved, if_neg ha, hasClaim_no P K hno, Option.bind_some]
    exact h0.ask ⟨g, rfl, GU.refl⟩ ⟨μ, rfl, MS.refl⟩
end
