/-! ===== settle, least, moved: what the class offers ===== -/
def wz (k : Nat → Int32) (law : Option (List Cl)) (c p : Nat) : Int := (plK k law c p).toInt
def canL (k : Nat → Int32) (law : Option (List Cl)) (mv : Bool) (c p : Nat) : Bool := decide (k (7 + c) = nI p) || ((decide (k (7 + c) ≠ -1) == mv) && !(barK k law c (nI p)))
def csL (k : Nat → Int32) (mv : Bool) (c p : Nat) : Nat := if mv = true ∧ k (7 + c) ≠ nI p then 1 else 0
def chU (k : Nat → Int32) (law : Option (List Cl)) (mv : Bool) (c : Nat) : Nat → List Ch
  | 0 => []
  | p + 1 => chU k law mv c p ++ (if canL k law mv c p then [(p, wz k law c p, csL k mv c p)] else [])
def chL (k : Nat → Int32) (law : Option (List Cl)) (n : Nat) (mv : Bool) (c : Nat) : List Ch := if n ≤ c ∨ (mv = true ∧ k (7 + c) = -1) then [(7, 0, 0)] else chU k law mv c 7
theorem chU_len {k : Nat → Int32} {law : Option (List Cl)} {mv : Bool} {c : Nat} : ∀ p, (chU k law mv c p).length ≤ p := by
  intro p
  induction p with
  | zero => exact Nat.le_refl _
  | succ p ih =>
    show (chU k law mv c p ++ _).length ≤ p + 1
    rw [List.length_append]
    split
    · show _ + 1 ≤ _; omega
    · show _ + 0 ≤ _; omega
def RC (g : sw_g) (c : Nat) (l : List Ch) : Prop := g.1 51 c = nI l.length ∧ l.length ≤ 7 ∧ ∀ i e, l[i]? = some e → g.1 (52 + 1 + c) i = nI e.1 ∧ g.1 (60 + 1 + c) i = zI e.2.1 ∧ g.1 (68 + 1 + c) i = nI e.2.2
def OG (c : Nat) (g g' : sw_g) : Prop := (∀ q j, (q < 43 ∨ 45 < q) → ¬ (q = 51 ∧ j = c) → q ≠ 52 + 1 + c → q ≠ 60 + 1 + c → q ≠ 68 + 1 + c → g'.1 q j = g.1 q j) ∧ g'.2.2 = g.2.2
theorem OG.refl {c : Nat} {g : sw_g} : OG c g g := ⟨fun _ _ _ _ _ _ _ => rfl, rfl⟩
theorem OG.trans {c : Nat} {g g1 g2 : sw_g} (a : OG c g g1) (b : OG c g1 g2) : OG c g g2 := ⟨fun q j x y z u v => (b.1 q j x y z u v).trans (a.1 q j x y z u v), b.2.trans a.2⟩
theorem GA.OG {c : Nat} {g g1 : sw_g} (a : GA 43 45 g g1) : OG c g g1 := ⟨fun q j x _ _ _ _ => by rw [a.1 q x], a.2⟩
theorem OG.GA {c : Nat} {g g1 : sw_g} (hc : c < 7) (a : OG c g g1) : GA 43 75 g g1 := ⟨fun q h => funext fun j => a.1 q j (by omega) (by omega) (by omega) (by omega) (by omega), a.2⟩
theorem RC.og {c c' : Nat} {g g1 : sw_g} {l : List Ch} (h : RC g c' l) (hc : c < 7) (hc' : c' < 7) (hn : c' ≠ c) (a : OG c g g1) : RC g1 c' l := by
  refine ⟨by rw [a.1 51 c' (by omega) (by omega) (by omega) (by omega) (by omega)]; exact h.1, h.2.1, fun i e he => ?_⟩
  rw [a.1 (52 + 1 + c') i (by omega) (by omega) (by omega) (by omega) (by omega), a.1 (60 + 1 + c') i (by omega) (by omega) (by omega) (by omega) (by omega), a.1 (68 + 1 + c') i (by omega) (by omega) (by omega) (by omega) (by omega)]
  exact h.2.2 i e he
theorem RC.ga {c : Nat} {g g1 : sw_g} {l : List Ch} {lo hi : Nat} (h : RC g c l) (hc : c < 7) (a : GA lo hi g g1) (hh : hi < 51 ∨ 75 < lo) : RC g1 c l := by
  refine ⟨by rw [a.1 51 (by omega)]; exact h.1, h.2.1, fun i e he => ?_⟩
  rw [a.1 (52 + 1 + c) (by omega), a.1 (60 + 1 + c) (by omega), a.1 (68 + 1 + c) (by omega)]
  exact h.2.2 i e he
section
variable {N : Nat} {ln : Nat → Nat} {M : Nat} {k : Nat → Int32} {Lw : Nat → List Cl} {n w L : Nat}
theorem offer_eq {g : sw_g} {c p x : Nat} {z : Int} {l : List Ch} (hc : c < 7) (h : RC g c l) (hl : l.length < 7) : ∃ g', fRo_offer ln g (nI c) (nI p) (zI z) (nI x) = some g' ∧ RC g' c (l ++ [(p, z, x)]) ∧ OG c g g' := by
  rw [fRo_offer, rd_nI hc (by decide), h.1, if_neg (show ¬ (7 : Int32) ≤ nI l.length from nI_ge (b := 7) hl (by decide)), rd_nI hc (by decide), wr_nI hl (by decide), rd_nI hc (by decide), wr_nI hl (by decide), rd_nI hc (by decide), wr_nI hl (by decide), wr_nI hc (by decide), nI_1]
  refine ⟨_, rfl, ⟨?_, by rw [List.length_append]; show l.length + 1 ≤ 7; omega, fun i e he => ?_⟩, ⟨fun q j a b d e f => ?_, rfl⟩⟩
  · rw [gI_at, if_pos ⟨rfl, rfl⟩, List.length_append]; rfl
  · by_cases hi : i < l.length
    · rw [List.getElem?_append_left hi] at he
      obtain ⟨a1, a2, a3⟩ := h.2.2 i e he
      refine ⟨?_, ?_, ?_⟩
      · rw [gI_at, if_neg (by omega), gI_at, if_neg (by omega), gI_at, if_neg (by omega), gI_at, if_neg (by omega)]; exact a1
      · rw [gI_at, if_neg (by omega), gI_at, if_neg (by omega), gI_at, if_neg (by omega), gI_at, if_neg (by omega)]; exact a2
      · rw [gI_at, if_neg (by omega), gI_at, if_neg (by omega), gI_at, if_neg (by omega), gI_at, if_neg (by omega)]; exact a3
    · have hi' : i = l.length := by
        have := get_lt he
        rw [List.length_append] at this
        have : i < l.length + 1 := this
        omega
      subst hi'
      rw [List.getElem?_append_right (Nat.le_refl _), Nat.sub_self] at he
      have : e = (p, z, x) := by simpa using he.symm
      subst this
      refine ⟨?_, ?_, ?_⟩
      · rw [gI_at, if_neg (by omega), gI_at, if_neg (by omega), gI_at, if_neg (by omega), gI_at, if_pos ⟨rfl, rfl⟩]
      · rw [gI_at, if_neg (by omega), gI_at, if_neg (by omega), gI_at, if_pos ⟨rfl, rfl⟩]
      · rw [gI_at, if_neg (by omega), gI_at, if_pos ⟨rfl, rfl⟩]
  · rw [gI_at, if_neg b, gI_at, if_neg (by omega), gI_at, if_neg (by omega), gI_at, if_neg (by omega)]
def bI (b : Bool) : Int32 := if b then 1 else 0
theorem op_120 (hN : 3000 ≤ N) (K : KI k Lw n w L) {k9 : sw_g → Int32 → Int32 → Option sw_g} {k61 : sw_g → Int32 → Int32 → Int32 → Int32 → Option sw_g} {mv : Bool} {on : Int32} {c p : Nat} (hc : c < 7) {g : sw_g} {l : List Ch} (P : PQ ln M g 1 k Lw L) (h : RC g c l) (hl : l.length < 7) : ∃ g', fSx_offerPlaces_120 N ln k9 k61 g (bI mv) (nI c) on (nI p) (bI (decide (k (7 + c) = nI p))) = k61 g' (bI mv) (nI c) on (nI (p + 1)) ∧ RC g' c (l ++ [(p, wz k (lawAt Lw (k 46)) c p, csL k mv c p)]) ∧ OG c g g' := by
  obtain ⟨g1, e1, f1⟩ := weightAt_eq hN P K hc (nI p)
  obtain ⟨g2, e2, e3, e4⟩ := offer_eq (ln := ln) (p := p) (x := csL k mv c p) (z := wz k (lawAt Lw (k 46)) c p) hc (h.ga hc f1 (by omega)) hl
  refine ⟨g2, ?_, e3, f1.OG.trans e4⟩
  have hw : cntK k (lawAt Lw (k 46)) c (nI p) * (nI p - 3) = zI (wz k (lawAt Lw (k 46)) c p) := (zI_of _).symm
  rw [fSx_offerPlaces_120, e1, Option.bind_some]
  simp only []
  rw [hw]
  cases mv with
  | false =>
    rw [if_pos (show bI false = 0 from rfl), fSx_offerPlaces_148, show (0 : Int32) = nI (csL k false c p) by unfold csL; rw [if_neg (by simp)]; rfl, e2, Option.bind_some]
    simp only [nm, nI_1]
  | true =>
    rw [if_neg (show ¬ bI true = 0 by decide)]
    by_cases hk : k (7 + c) = nI p
    · rw [if_neg (show ¬ bI (decide (k (7 + c) = nI p)) = 0 by rw [decide_eq_true hk]; decide), fSx_offerPlaces_148, show (0 : Int32) = nI (csL k true c p) by unfold csL; rw [if_neg (fun q => q.2 hk)]; rfl, e2, Option.bind_some]
      simp only [nm, nI_1]
    · rw [if_pos (show bI (decide (k (7 + c) = nI p)) = 0 by rw [decide_eq_false hk]; rfl), fSx_offerPlaces_148]
      rw [show nI (csL k true c p) = 1 by unfold csL; rw [if_pos ⟨rfl, hk⟩]; rfl] at e2
      rw [e2, Option.bind_some]
      simp only [nm, nI_1]
theorem op_61 (hN : 3000 ≤ N) (K : KI k Lw n w L) {k9 : sw_g → Int32 → Int32 → Option sw_g} {mv : Bool} {c : Nat} (hc : c < 7) : ∀ (d p fu : Nat) (g : sw_g), p + d = 7 → d < fu → PQ ln M g 1 k Lw L → RC g c (chU k (lawAt Lw (k 46)) mv c p) → ∃ g', fSx_offerPlaces_61 N ln k9 fu g (bI mv) (nI c) (bI (decide (k (7 + c) ≠ -1))) (nI p) = k9 g' (bI mv) (nI (c + 1)) ∧ RC g' c (chU k (lawAt Lw (k 46)) mv c 7) ∧ OG c g g' := by
  intro d
  induction d with
  | zero =>
    intro p fu g hp hfu P h
    obtain ⟨fu, rfl⟩ : ∃ z, fu = z + 1 := ⟨fu - 1, by omega⟩
    obtain rfl : p = 7 := by omega
    rw [fSx_offerPlaces_61, if_pos (by decide)]
    simp only [nm, nI_1]
    exact ⟨g, rfl, h, OG.refl⟩
  | succ d ih =>
    intro p fu g hp hfu P h
    obtain ⟨fu, rfl⟩ : ∃ z, fu = z + 1 := ⟨fu - 1, by omega⟩
    have hp7 : p < 7 := by omega
    have hl : (chU k (lawAt Lw (k 46)) mv c p).length < 7 := by have := chU_len (k := k) (law := lawAt Lw (k 46)) (mv := mv) (c := c) p; omega
    have e0 : fSx_offerPlaces_61 N ln k9 (fu + 1) g (bI mv) (nI c) (bI (decide (k (7 + c) ≠ -1))) (nI p) = fSx_offerPlaces_91 N ln k9 (fSx_offerPlaces_61 N ln k9 fu) g (bI mv) (nI c) (bI (decide (k (7 + c) ≠ -1))) (nI p) (bI (decide (k (7 + c) = nI p))) := by
      rw [fSx_offerPlaces_61, if_neg (show ¬ (7 : Int32) ≤ nI p from nI_ge (b := 7) hp7 (by decide))]
      by_cases ho : k (7 + c) = -1
      · have : ¬ k (7 + c) = nI p := by rw [ho]; exact (nI_nm1 (by omega)).symm
        rw [if_pos (show bI (decide (k (7 + c) ≠ -1)) = 0 by rw [decide_eq_false (fun q => q ho)]; rfl), decide_eq_false this]; rfl
      · rw [if_neg (show ¬ bI (decide (k (7 + c) ≠ -1)) = 0 by rw [decide_eq_true ho]; decide), rd_nI hc (by decide), show g.1 4 c = _ from (P.2.1 c hc).2.2]
        by_cases hk : k (7 + c) = nI p
        · rw [if_pos hk, decide_eq_true hk]; rfl
        · rw [if_neg hk, decide_eq_false hk]; rfl
    rw [e0]
    have hst : chU k (lawAt Lw (k 46)) mv c (p + 1) = chU k (lawAt Lw (k 46)) mv c p ++ (if canL k (lawAt Lw (k 46)) mv c p then [(p, wz k (lawAt Lw (k 46)) c p, csL k mv c p)] else []) := rfl
    by_cases hk : k (7 + c) = nI p
    · have hcan : canL k (lawAt Lw (k 46)) mv c p = true := by unfold canL; rw [decide_eq_true hk, Bool.true_or]
      rw [if_pos hcan] at hst
      obtain ⟨g1, e1, e2, e3⟩ := op_120 (ln := ln) (k9 := k9) (k61 := fSx_offerPlaces_61 N ln k9 fu) (mv := mv) (on := bI (decide (k (7 + c) ≠ -1))) (p := p) hN K hc P h hl
      obtain ⟨g2, q1, q2, q3⟩ := ih (p + 1) fu g1 (by omega) (by omega) (P.ga (e3.GA hc) (by decide) (by decide)) (by rw [hst]; exact e2)
      refine ⟨g2, ?_, q2, e3.trans q3⟩
      rw [fSx_offerPlaces_91, if_neg (show ¬ bI (decide (k (7 + c) = nI p)) = 0 by rw [decide_eq_true hk]; decide), e1, q1]
    · rw [fSx_offerPlaces_91, if_pos (show bI (decide (k (7 + c) = nI p)) = 0 by rw [decide_eq_false hk]; rfl)]
      by_cases hm : decide (k (7 + c) ≠ -1) = mv
      · rw [if_pos (show bI (decide (k (7 + c) ≠ -1)) = bI mv by rw [hm])]
        obtain ⟨g0, b1, b2⟩ := barsAt_eq hN P K (q := 1) (by decide) hc (nI p)
        rw [b1, Option.bind_some]
        simp only []
        have P0 := P.ga b2 (by decide) (by decide)
        have h0 := h.ga hc b2 (by omega)
        cases hb : barK k (lawAt Lw (k 46)) c (nI p) with
        | false =>
          have hcan : canL k (lawAt Lw (k 46)) mv c p = true := by unfold canL; rw [hb, hm]; simp
          rw [if_pos hcan] at hst
          obtain ⟨g1, e1, e2, e3⟩ := op_120 (ln := ln) (k9 := k9) (k61 := fSx_offerPlaces_61 N ln k9 fu) (mv := mv) (on := bI (decide (k (7 + c) ≠ -1))) (p := p) hN K hc P0 h0 hl
          obtain ⟨g2, q1, q2, q3⟩ := ih (p + 1) fu g1 (by omega) (by omega) (P0.ga (e3.GA hc) (by decide) (by decide)) (by rw [hst]; exact e2)
          refine ⟨g2, ?_, q2, (b2.OG.trans e3).trans q3⟩
          simp only [Bool.false_eq_true, if_false, if_true]
          rw [e1, q1]
        | true =>
          have hcan : canL k (lawAt Lw (k 46)) mv c p = false := by unfold canL; rw [hb, decide_eq_false hk]; simp
          rw [hcan, if_neg (by decide), List.append_nil] at hst
          obtain ⟨g2, q1, q2, q3⟩ := ih (p + 1) fu g0 (by omega) (by omega) P0 (by rw [hst]; exact h0)
          refine ⟨g2, ?_, q2, b2.OG.trans q3⟩
          simp only [if_true, n10, if_false, nm, nI_1]
          exact q1
      · have hcan : canL k (lawAt Lw (k 46)) mv c p = false := by
          unfold canL; rw [decide_eq_false hk, Bool.false_or]
          have : (decide (k (7 + c) ≠ -1) == mv) = false := by simpa using hm
          rw [this, Bool.false_and]
        rw [hcan, if_neg (by decide), List.append_nil] at hst
        obtain ⟨g2, q1, q2, q3⟩ := ih (p + 1) fu g (by omega) (by omega) P (by rw [hst]; exact h)
        refine ⟨g2, ?_, q2, q3⟩
        rw [if_neg (show ¬ bI (decide (k (7 + c) ≠ -1)) = bI mv by intro q; apply hm; revert q; cases decide (k (7 + c) ≠ -1) <;> cases mv <;> decide)]
        simp only [nm, nI_1]
        exact q1
theorem op_9 (hN : 3000 ≤ N) (K : KI k Lw n w L) {mv : Bool} : ∀ (d c fu : Nat) (g : sw_g), c + d = 7 → d < fu → PQ ln M g 1 k Lw L → (∀ y, y < 7 → RC g y (if y < c then chL k (lawAt Lw (k 46)) n mv y else [])) → ∃ g', fSx_offerPlaces_9 N ln fu g (bI mv) (nI c) = (fRo_tallyTails N ln g').bind (fun g4 => some g4) ∧ (∀ y, y < 7 → RC g' y (chL k (lawAt Lw (k 46)) n mv y)) ∧ GA 43 75 g g' := by
  have hn7 := K.n7
  intro d
  induction d with
  | zero =>
    intro c fu g hc hfu P h
    obtain ⟨fu, rfl⟩ : ∃ z, fu = z + 1 := ⟨fu - 1, by omega⟩
    obtain rfl : c = 7 := by omega
    rw [fSx_offerPlaces_9, if_pos (by decide)]
    refine ⟨g, rfl, fun y hy => ?_, GA.refl⟩
    have := h y hy
    rwa [if_pos hy] at this
  | succ d ih =>
    intro c fu g hc hfu P h
    obtain ⟨fu, rfl⟩ : ∃ z, fu = z + 1 := ⟨fu - 1, by omega⟩
    have hc7 : c < 7 := by omega
    have h0 := h c hc7
    rw [if_neg (Nat.lt_irrefl _)] at h0
    have nx : ∀ g1 : sw_g, RC g1 c (chL k (lawAt Lw (k 46)) n mv c) → OG c g g1 → ∀ y, y < 7 → RC g1 y (if y < c + 1 then chL k (lawAt Lw (k 46)) n mv y else []) := by
      intro g1 a b y hy
      by_cases hyc : y = c
      · subst hyc; rw [if_pos (by omega)]; exact a
      · have := (h y hy).og hc7 hy hyc b
        by_cases hyl : y < c
        · rw [if_pos hyl] at this; rw [if_pos (by omega)]; exact this
        · rw [if_neg hyl] at this; rw [if_neg (by omega)]; exact this
    have off : (n ≤ c ∨ (mv = true ∧ k (7 + c) = -1)) → ∃ g', fSx_offerPlaces_43 N ln (fSx_offerPlaces_9 N ln fu) g (bI mv) (nI c) = (fRo_tallyTails N ln g').bind (fun g4 => some g4) ∧ (∀ y, y < 7 → RC g' y (chL k (lawAt Lw (k 46)) n mv y)) ∧ GA 43 75 g g' := by
      intro ho
      obtain ⟨g1, e1, e2, e3⟩ := offer_eq (ln := ln) (p := 7) (x := 0) (z := 0) hc7 h0 (by decide)
      have hch : chL k (lawAt Lw (k 46)) n mv c = [(7, 0, 0)] := by unfold chL; rw [if_pos ho]
      obtain ⟨g2, q1, q2, q3⟩ := ih (c + 1) fu g1 (by omega) (by omega) (P.ga (e3.GA hc7) (by decide) (by decide)) (nx g1 (by rw [hch]; exact e2) e3)
      refine ⟨g2, ?_, q2, (e3.GA hc7).trans q3⟩
      rw [fSx_offerPlaces_43, show fRo_offer ln g (nI c) (7 : Int32) (0 : Int32) (0 : Int32) = _ from e1, Option.bind_some]
      simp only [nm, nI_1]
      exact q1
    have onn : ¬ (n ≤ c ∨ (mv = true ∧ k (7 + c) = -1)) → ∃ g', fSx_offerPlaces_61 N ln (fSx_offerPlaces_9 N ln fu) N g (bI mv) (nI c) (bI (decide (k (7 + c) ≠ -1))) (0 : Int32) = (fRo_tallyTails N ln g').bind (fun g4 => some g4) ∧ (∀ y, y < 7 → RC g' y (chL k (lawAt Lw (k 46)) n mv y)) ∧ GA 43 75 g g' := by
      intro ho
      obtain ⟨g1, e1, e2, e3⟩ := op_61 (ln := ln) (k9 := fSx_offerPlaces_9 N ln fu) (mv := mv) hN K hc7 7 0 N g rfl (by omega) P h0
      have hch : chL k (lawAt Lw (k 46)) n mv c = chU k (lawAt Lw (k 46)) mv c 7 := by unfold chL; rw [if_neg ho]
      obtain ⟨g2, q1, q2, q3⟩ := ih (c + 1) fu g1 (by omega) (by omega) (P.ga (e3.GA hc7) (by decide) (by decide)) (nx g1 (by rw [hch]; exact e2) e3)
      exact ⟨g2, (show fSx_offerPlaces_61 N ln (fSx_offerPlaces_9 N ln fu) N g (bI mv) (nI c) (bI (decide (k (7 + c) ≠ -1))) (0 : Int32) = _ from e1).trans q1, q2, (e3.GA hc7).trans q3⟩
    rw [fSx_offerPlaces_9, if_neg (show ¬ (7 : Int32) ≤ nI c from nI_ge (b := 7) hc7 (by decide)), isOn_c P K hc7, Option.bind_some]
    simp only []
    rw [P.1, K.hn]
    by_cases hcn : n ≤ c
    · rw [if_pos (nI_le hcn (by omega))]; exact off (.inl hcn)
    · rw [if_neg (nI_ge (by omega) (by omega))]
      have ev : (if c < n ∧ k (7 + c) ≠ -1 then (1 : Int32) else 0) = bI (decide (k (7 + c) ≠ -1)) := by
        unfold bI
        by_cases q : k (7 + c) = -1
        · rw [if_neg (fun x => x.2 q), if_neg (by simp [q])]
        · rw [if_pos ⟨by omega, q⟩, if_pos (by simp [q])]
      rw [ev]
      cases mv with
      | false => rw [if_pos (show bI false = 0 from rfl)]; exact onn (by simp; omega)
      | true =>
        rw [if_neg (show ¬ bI true = 0 by decide)]
        by_cases q : k (7 + c) = -1
        · rw [if_pos (show bI (decide (k (7 + c) ≠ -1)) = 0 by rw [decide_eq_false (fun x => x q)]; rfl)]; exact off (.inr ⟨rfl, q⟩)
        · rw [if_neg (show ¬ bI (decide (k (7 + c) ≠ -1)) = 0 by rw [decide_eq_true q]; decide)]; exact onn (by simp [q]; omega)
theorem fill_5 {q1 n1 : Nat} {v : Int32} (hn : n1 < 2 ^ 31) : ∀ (d i fu : Nat) (g : sw_g), i + d = n1 → d < fu → ∃ g', fAr_fill_5 N ln q1 n1 fu g v (nI i) (nI n1) = some g' ∧ (∀ j, i ≤ j → j < n1 → g'.1 q1 j = v) ∧ (∀ j, j < i → g'.1 q1 j = g.1 q1 j) ∧ GA q1 q1 g g' := by
  intro d
  induction d with
  | zero =>
    intro i fu g hi hfu
    obtain ⟨fu, rfl⟩ : ∃ z, fu = z + 1 := ⟨fu - 1, by omega⟩
    rw [fAr_fill_5, if_pos (nI_le (by omega) (by omega))]
    exact ⟨g, rfl, fun j a b => by omega, fun _ _ => rfl, GA.refl⟩
  | succ d ih =>
    intro i fu g hi hfu
    obtain ⟨fu, rfl⟩ : ∃ z, fu = z + 1 := ⟨fu - 1, by omega⟩
    rw [fAr_fill_5, if_neg (nI_ge (by omega) (by omega)), wr_nI (by omega) hn]
    simp only [nm, nI_1]
    obtain ⟨g', q1', q2, q3, q4⟩ := ih (i + 1) fu (gI g q1 i v) (by omega) (by omega)
    refine ⟨g', q1', fun j a b => ?_, fun j hj => ?_, (GA.put (Nat.le_refl _) (Nat.le_refl _)).trans q4⟩
    · by_cases hj : j = i
      · subst hj; rw [q3 j (by omega), gI_at, if_pos ⟨rfl, rfl⟩]
      · exact q2 j (by omega) b
    · rw [q3 j (by omega), gI_at, if_neg (by omega)]
theorem fill_eq {q1 n1 : Nat} {v : Int32} {g : sw_g} (hn : n1 < 2 ^ 31) (hN : n1 < N) : ∃ g', fAr_fill N ln g q1 n1 v = some g' ∧ (∀ j, j < n1 → g'.1 q1 j = v) ∧ GA q1 q1 g g' := by
  obtain ⟨g', a, b, c, d⟩ := fill_5 (N := N) (ln := ln) (q1 := q1) (v := v) hn n1 0 N g (by omega) hN
  exact ⟨g', a, fun j hj => b j (Nat.zero_le _) hj, d⟩
theorem offers_eq (hN : 3000 ≤ N) (K : KI k Lw n w L) {g : sw_g} (P : PQ ln M g 1 k Lw L) (mv : Bool) : ∃ g', fSx_offerPlaces N ln g (bI mv) = (fRo_tallyTails N ln g').bind (fun g4 => some g4) ∧ (∀ y, y < 7 → RC g' y (chL k (lawAt Lw (k 46)) n mv y)) ∧ GA 43 75 g g' := by
  obtain ⟨g1, a, b, c⟩ := fill_eq (N := N) (ln := ln) (q1 := 51) (n1 := 7) (v := 0) (g := g) (by decide) (by omega)
  obtain ⟨g2, q1, q2, q3⟩ := op_9 (ln := ln) (M := M) (mv := mv) hN K 7 0 N g1 rfl (by omega) (P.ga c (by decide) (by decide)) (fun y hy => by rw [if_neg (by omega)]; exact ⟨b y hy, by decide, fun i e he => by simp at he⟩)
  refine ⟨g2, ?_, q2, (c.mono (by decide) (by decide)).trans q3⟩
  rw [fSx_offerPlaces, fRo_clear, a, Option.bind_some, Option.bind_some]
  exact q1
end
