/-! ===== a plank of the class beside the reference's row ===== -/
/-- the words of a law -/
def Wk (k : Nat → Int32) (c : Nat) (p : Int32) (x : Nat) : Int32 := if x = 0 then nI c else if x = 1 then k c else if x = 2 then k (15 + c) else if x = 3 then p else if x = 4 then p - 3 else if x = 5 then k 14 else if x = 6 then k 41 else k 42
/-- a text's place, away from the images' planks -/
def TP (M : Nat) (g : sw_g) (p : Nat) : Prop := 110 ≤ p ∧ p + 6 < M ∧ ∀ i q, i < 2 → g.2.2 28 i = some q → (p + 6 < q ∨ q + 8 < p)
def PQ (ln : Nat → Nat) (M : Nat) (g : sw_g) (q : Nat) (k : Nat → Int32) (Lw : Nat → List Cl) (L : Nat) : Prop :=
  g.1 q 0 = k 43 ∧ (∀ c, c < 7 → g.1 (q + 1) c = k c ∧ g.1 (q + 2) c = k (15 + c) ∧ g.1 (q + 3) c = k (7 + c)) ∧ (g.1 (q + 4) 0 = k 14 ∧ g.1 (q + 4) 1 = k 40 ∧ g.1 (q + 4) 2 = k 41 ∧ g.1 (q + 4) 3 = k 42) ∧ g.1 q 5 = k 44 ∧ (∀ i, i < 6 → g.1 (q + 5) i = k (22 + 3 * i) ∧ g.1 (q + 6) i = k (23 + 3 * i) ∧ g.1 (q + 7) i = k (24 + 3 * i)) ∧ g.1 q 9 = k 45 ∧ g.1 q 11 = k 46 ∧ (∀ f, f < L → ∃ p, g.2.2 (q + 8) f = some p ∧ TP M g p ∧ TxC ln g p (Lw f))
/-- what the claims' beginnings hold -/
def CO (n : Nat) (k : Nat → Int32) : Prop := (∀ c, c < n → (∃ a, k c = nI a ∧ 1 ≤ a ∧ a ≤ 30) ∧ (k (7 + c) = -1 ∨ ∃ a, k (7 + c) = nI a ∧ a ≤ 6)) ∧ (∃ a, k 14 = nI a ∧ a ≤ 999)
def TM (k : Nat → Int32) : Prop := (∃ a, k 40 = nI a ∧ a ≤ 10) ∧ (∃ a, k 41 = nI a ∧ a ≤ 9) ∧ (∃ a, k 42 = nI a ∧ a ≤ 9)
def WO (w : Nat) (k : Nat → Int32) : Prop := ∀ i, i < w → ∃ l r c, k (22 + 3 * i) = nI l ∧ k (23 + 3 * i) = nI r ∧ k (24 + 3 * i) = nI c ∧ l < 128 ∧ r < 128 ∧ l &&& r = 0 ∧ c ≤ 2
/-- a law's text in the reference's row -/
def LA (k : Nat → Int32) (f : Nat) (cs : List Cl) : Prop := ∃ z, k (47 + f) = nI z ∧ z ≤ 400 ∧ cs.length ≤ 12 ∧ AtL (fun j => if j < 400 * f + z then k (54 + j) else 0) (fun j => k (2854 + j)) (400 * f + z) cs (400 * f)
def KI (k : Nat → Int32) (Lw : Nat → List Cl) (n w L : Nat) : Prop := k 43 = nI n ∧ n ≤ 7 ∧ k 44 = nI w ∧ w ≤ 6 ∧ k 45 = nI L ∧ L ≤ 6 ∧ CO n k ∧ TM k ∧ WO w k ∧ (∀ f, f < L → LA k f (Lw f)) ∧ (k 46 = -1 ∨ ∃ f, f < L ∧ k 46 = nI f)
section
variable {k : Nat → Int32} {Lw : Nat → List Cl} {n w L : Nat}
theorem KI.hn (h : KI k Lw n w L) : k 43 = nI n := h.1
theorem KI.n7 (h : KI k Lw n w L) : n ≤ 7 := h.2.1
theorem KI.hw (h : KI k Lw n w L) : k 44 = nI w := h.2.2.1
theorem KI.w6 (h : KI k Lw n w L) : w ≤ 6 := h.2.2.2.1
theorem KI.hL (h : KI k Lw n w L) : k 45 = nI L := h.2.2.2.2.1
theorem KI.L6 (h : KI k Lw n w L) : L ≤ 6 := h.2.2.2.2.2.1
theorem KI.co (h : KI k Lw n w L) : CO n k := h.2.2.2.2.2.2.1
theorem KI.tm (h : KI k Lw n w L) : TM k := h.2.2.2.2.2.2.2.1
theorem KI.wo (h : KI k Lw n w L) : WO w k := h.2.2.2.2.2.2.2.2.1
theorem KI.la (h : KI k Lw n w L) : ∀ f, f < L → LA k f (Lw f) := h.2.2.2.2.2.2.2.2.2.1
theorem KI.fo (h : KI k Lw n w L) : k 46 = -1 ∨ ∃ f, f < L ∧ k 46 = nI f := h.2.2.2.2.2.2.2.2.2.2
end
def lawAt (Lw : Nat → List Cl) (a : Int32) : Option (List Cl) := if a = -1 then none else some (Lw a.toNatClampNeg)
/-- a law's text, by its place -/
def TO (ln : Nat → Nat) (M : Nat) (g : sw_g) (t : Option Nat) (law : Option (List Cl)) : Prop := match t, law with
  | none, none => True
  | some p, some cs => TP M g p ∧ TxC ln g p cs
  | _, _ => False
def tlW (W : Nat → Int32) (law : Option (List Cl)) (v : Nat) (high w : Int32) : Int32 := match law with
  | none => w
  | some cs => (tellF v high W cs w.toInt64).toInt32
def cntK (k : Nat → Int32) (law : Option (List Cl)) (c : Nat) (p : Int32) : Int32 := tlW (Wk k c p) law 0 99 (k c)
def shdK (k : Nat → Int32) (law : Option (List Cl)) (c : Nat) (p : Int32) : Int32 := tlW (Wk k c p) law 1 9 0
def barK (k : Nat → Int32) (law : Option (List Cl)) (c : Nat) (p : Int32) : Bool := match law with
  | none => false
  | some cs => barB (Wk k c p) cs
def pullK (k : Nat → Int32) (law : Option (List Cl)) (c : Nat) : Int32 := if k (7 + c) = -1 then 0 else cntK k law c (k (7 + c)) * (k (7 + c) - 3)
def tS (k : Nat → Int32) (law : Option (List Cl)) (n : Nat) : Nat → Int32
  | 0 => 0
  | c + 1 => tS k law n c + (if c < n then pullK k law c else 0)
def tiltK (k : Nat → Int32) (law : Option (List Cl)) (n : Nat) : Int32 := tS k law n 7
theorem tS_n {k : Nat → Int32} {law : Option (List Cl)} {n : Nat} : ∀ d, tS k law n (n + d) = tS k law n n := by
  intro d
  induction d with
  | zero => rfl
  | succ d ih => rw [show tS k law n (n + (d + 1)) = tS k law n (n + d) + (if n + d < n then pullK k law (n + d) else 0) from rfl, if_neg (by omega), ih, Int32.add_zero]
theorem tiltK_n {k : Nat → Int32} {law : Option (List Cl)} {n : Nat} (h : n ≤ 7) : tiltK k law n = tS k law n n := by
  have := tS_n (k := k) (law := law) (n := n) (7 - n)
  rwa [show n + (7 - n) = 7 by omega] at this
section
variable {ln : Nat → Nat} {M : Nat} {g g' : sw_g} {q : Nat} {k : Nat → Int32} {Lw : Nat → List Cl} {n w L lo hi : Nat}
theorem TP.same {p : Nat} (h : TP M g p) (hr : g'.2.2 28 = g.2.2 28) : TP M g' p := ⟨h.1, h.2.1, fun i q hi hq => h.2.2 i q hi (by rw [← hr]; exact hq)⟩
theorem PQ.frame (h : PQ ln M g q k Lw L) (hg : ∀ p, q ≤ p → p ≤ q + 7 → g'.1 p = g.1 p) (h1 : ∀ p, 110 ≤ p → (∀ i q, i < 2 → g.2.2 28 i = some q → (p < q ∨ q + 8 < p)) → g'.1 p = g.1 p) (hr : g'.2.2 (q + 8) = g.2.2 (q + 8)) (hr' : g'.2.2 28 = g.2.2 28) : PQ ln M g' q k Lw L := by
  obtain ⟨a1, a2, a3, a4, a5, a6, a7, a8⟩ := h
  refine ⟨?_, fun c hc => ?_, ?_, ?_, fun i hi => ?_, ?_, ?_, fun f hf => ?_⟩
  · rw [hg q (by omega) (by omega), a1]
  · rw [hg (q + 1) (by omega) (by omega), hg (q + 2) (by omega) (by omega), hg (q + 3) (by omega) (by omega)]; exact a2 c hc
  · rw [hg (q + 4) (by omega) (by omega)]; exact a3
  · rw [hg q (by omega) (by omega), a4]
  · rw [hg (q + 5) (by omega) (by omega), hg (q + 6) (by omega) (by omega), hg (q + 7) (by omega) (by omega)]; exact a5 i hi
  · rw [hg q (by omega) (by omega), a6]
  · rw [hg q (by omega) (by omega), a7]
  · obtain ⟨p, b1, b2, b3⟩ := a8 f hf
    refine ⟨p, by rw [hr, b1], b2.same hr', b3.frame (fun x x1 x2 => h1 x (by have := b2.1; omega) (fun i y hi hy => ?_))⟩
    have := b2.2.2 i y hi hy
    omega
theorem PQ.ga (h : PQ ln M g q k Lw L) (hg : GA lo hi g g') (hq : q + 7 < lo ∨ hi < q) (h1 : hi < 110) : PQ ln M g' q k Lw L :=
  h.frame (fun p a b => hg.1 p (by omega)) (fun p a _ => hg.1 p (by omega)) (by rw [hg.2]) (by rw [hg.2])
theorem TO.ga {t : Option Nat} {law : Option (List Cl)} (h : TO ln M g t law) (hg : GA lo hi g g') (h1 : hi < 110) : TO ln M g' t law := by
  cases t with
  | none => cases law with
    | none => trivial
    | some cs => exact h
  | some p => cases law with
    | none => exact h
    | some cs => exact ⟨h.1.same (by rw [hg.2]), h.2.GA hg (by have := h.1.1; omega)⟩
theorem hasClaim_yes (P : PQ ln M g q k Lw L) (K : KI k Lw n w L) {c : Nat} (hc : c < n) : fPl_hasClaim ln g q (nI c) = some (1, g) := by
  have := K.n7
  rw [fPl_hasClaim, if_neg (nI_pos (by omega)), P.1, K.hn, if_neg (nI_ge hc (by omega)), if_neg (show ¬ (7 : Int32) ≤ nI c from nI_ge (b := 7) (by omega) (by decide))]
theorem hasClaim_no (P : PQ ln M g q k Lw L) (K : KI k Lw n w L) {a : Int32} (ha : ∀ c, c < n → a ≠ nI c) : fPl_hasClaim ln g q a = some (0, g) := by
  have := K.n7
  rw [fPl_hasClaim, P.1, K.hn]
  by_cases h0 : a < 0
  · rw [if_pos h0]
  · rw [if_neg h0]
    obtain ⟨j, hj, rfl⟩ := nI_of h0
    have : ¬ j < n := fun h => ha j h rfl
    rw [if_pos (nI_le (by omega) (by omega))]
theorem hasClaim_c (P : PQ ln M g q k Lw L) (K : KI k Lw n w L) {c : Nat} (hc : c < 7) : fPl_hasClaim ln g q (nI c) = some (if c < n then 1 else 0, g) := by
  by_cases h : c < n
  · rw [if_pos h, hasClaim_yes P K h]
  · rw [if_neg h, hasClaim_no P K (fun d hd e => by have := (nI_eq (by omega) (by have := K.n7; omega)).1 e; omega)]
theorem isOn_c (P : PQ ln M g q k Lw L) (K : KI k Lw n w L) {c : Nat} (hc : c < 7) : fPl_isOn ln g q (nI c) = some (if c < n ∧ k (7 + c) ≠ -1 then 1 else 0, g) := by
  rw [fPl_isOn, hasClaim_c P K hc, Option.bind_some]
  by_cases h : c < n
  · simp only [h, if_true, show ¬ ((1 : Int32) = 0) by decide, if_false, true_and]
    rw [rd_nI hc (by decide), (P.2.1 c hc).2.2]
    by_cases h2 : k (7 + c) = -1
    · rw [if_pos h2, if_neg (by simp [h2])]
    · rw [if_neg h2, if_pos h2]
  · simp [h]
theorem textOf_eq (P : PQ ln M g q k Lw L) (hL : k 45 = nI L) (hL6 : L ≤ 6) {a : Int32} (ha : a = -1 ∨ ∃ f, f < L ∧ a = nI f) : ∃ t, fPl_textOf ln g q a = some (t, g) ∧ TO ln M g t (lawAt Lw a) := by
  rcases ha with rfl | ⟨f, hf, rfl⟩
  · exact ⟨none, by rw [fPl_textOf, fPl_hasLaw, if_pos (by decide)]; rfl, trivial⟩
  · obtain ⟨p, b1, b2, b3⟩ := P.2.2.2.2.2.2.2 f hf
    refine ⟨some p, ?_, ?_⟩
    · rw [fPl_textOf, fPl_hasLaw, if_neg (nI_pos (by omega)), P.2.2.2.2.2.1, hL, if_neg (nI_ge hf (by omega)), if_neg (show ¬ (6 : Int32) ≤ nI f from nI_ge (b := 6) (by omega) (by decide)), Option.bind_some]
      simp only [show ¬ ((1 : Int32) = 0) by decide, if_false]
      rw [rd_nI (by omega) (by decide), b1]
    · rw [lawAt, if_neg (nI_nm1 (by omega)), nI_clamp (by omega)]
      exact ⟨b2, b3⟩
theorem ask_eq (P : PQ ln M g q k Lw L) (hq : q ≤ 30) {c : Nat} (hc : c < 7) (p : Int32) : ∃ g', fJu_ask ln g q (nI c) p = some g' ∧ GA 45 45 g g' ∧ ∀ x, x < 8 → g'.1 45 x = Wk k c p x := by
  obtain ⟨a1, a2, ⟨a30, a31, a32, a33⟩, a4⟩ := P
  have q1 : ¬ q + 1 = 45 := by omega
  have q2 : ¬ q + 2 = 45 := by omega
  have q4 : ¬ q + 4 = 45 := by omega
  unfold fJu_ask
  rw [wr_K 0 0 8 (by decide) (by decide), rd_nI hc (by decide), wr_K 1 1 8 (by decide) (by decide), rd_nI hc (by decide), wr_K 2 2 8 (by decide) (by decide), wr_K 3 3 8 (by decide) (by decide), wr_K 4 4 8 (by decide) (by decide), rd_K 0 0 4 (by decide) (by decide), wr_K 5 5 8 (by decide) (by decide), rd_K 2 2 4 (by decide) (by decide), wr_K 6 6 8 (by decide) (by decide), rd_K 3 3 4 (by decide) (by decide), wr_K 7 7 8 (by decide) (by decide)]
  refine ⟨_, rfl, ⟨fun y hy => ?_, rfl⟩, fun x hx => ?_⟩
  · funext j
    have : ¬ y = 45 := by omega
    simp only [gI_at, this, false_and, if_false]
  · rcases (show x = 0 ∨ x = 1 ∨ x = 2 ∨ x = 3 ∨ x = 4 ∨ x = 5 ∨ x = 6 ∨ x = 7 by omega) with rfl | rfl | rfl | rfl | rfl | rfl | rfl | rfl <;> simp [gI_at, Wk, q1, q2, q4, (a2 c hc).1, (a2 c hc).2.1, a30, a32, a33]
end
section
variable {N : Nat} {ln : Nat → Nat} {M : Nat} {g : sw_g} {q : Nat} {k : Nat → Int32} {Lw : Nat → List Cl} {n w L : Nat} {law : Option (List Cl)} {t : Option Nat} {W : Nat → Int32}
theorem lastTold_eq (hN : 3000 ≤ N) (T : TO ln M g t law) (hW : ∀ x, x < 8 → g.1 45 x = W x) {v : Nat} (hv : v < 2) {high : Int32} (hh : 0 ≤ high) (w : Int32) : ∃ g', fJu_lastTold N ln g t (nI v) high w = some (tlW W law v high w, g') ∧ GA 43 44 g g' := by
  cases t with
  | none => cases law with
    | none => exact ⟨g, rfl, GA.refl⟩
    | some cs => exact T.elim
  | some p => cases law with
    | none => exact T.elim
    | some cs =>
      have hl := T.2.2.1
      have e : jmin (g.1 p 0) 12 - 1 = nI cs.length + (-1) := by
        rw [T.2.1, jmin, if_neg (show ¬ (12 : Int32) < nI cs.length from nI_nlt (b := cs.length) (a := 12) hl (by decide))]
        exact Int32.sub_eq_add_neg _ _
      obtain ⟨g', e', f'⟩ := lastTold_20 (W := W) hN T.1.1 hv hh (w := w) cs.length N g T.2 hW (Nat.le_refl _) (by omega)
      refine ⟨g', ?_, f'⟩
      show nm (jmin (g.1 p 0) 12 - 1) (fun x1 => fJu_lastTold_20 N ln N g p (nI v) high w x1) = _
      rw [nm, e, e', List.take_length]
      rfl
theorem countAt_eq (hN : 3000 ≤ N) (P : PQ ln M g q k Lw L) (K : KI k Lw n w L) (hq : q ≤ 30) {c : Nat} (hc : c < 7) (p : Int32) : ∃ g', fJu_countAt N ln g q (nI c) p = some (cntK k (lawAt Lw (k 46)) c p, g') ∧ GA 43 45 g g' := by
  obtain ⟨g1, e1, f1, w1⟩ := ask_eq P hq hc p
  have P1 := P.ga f1 (by omega) (by decide)
  have h11 : g1.1 q 11 = k 46 := P1.2.2.2.2.2.2.1
  obtain ⟨t, e2, T⟩ := textOf_eq P1 K.hL K.L6 (a := k 46) K.fo
  obtain ⟨g3, e3, f3⟩ := lastTold_eq hN T w1 (v := 0) (by decide) (high := 99) (by decide) (k c)
  refine ⟨g3, ?_, (f1.mono (by decide) (by decide)).trans (f3.mono (by decide) (by decide))⟩
  rw [fJu_countAt, e1, Option.bind_some, h11, e2, Option.bind_some]
  cases t with
  | none => simp only; rw [rd_nI hc (by decide), (P1.2.1 c hc).1, show fJu_lastTold N ln g1 none (0 : Int32) 99 (k c) = _ from e3]; rfl
  | some p => simp only; rw [rd_nI hc (by decide), (P1.2.1 c hc).1, show fJu_lastTold N ln g1 (some p) (0 : Int32) 99 (k c) = _ from e3]; rfl
theorem shedAt_eq (hN : 3000 ≤ N) (P : PQ ln M g q k Lw L) (K : KI k Lw n w L) (hq : q ≤ 30) {c : Nat} (hc : c < 7) (p : Int32) : ∃ g', fJu_shedAt N ln g q (nI c) p = some (shdK k (lawAt Lw (k 46)) c p, g') ∧ GA 43 45 g g' := by
  obtain ⟨g1, e1, f1, w1⟩ := ask_eq P hq hc p
  have P1 := P.ga f1 (by omega) (by decide)
  have h11 : g1.1 q 11 = k 46 := P1.2.2.2.2.2.2.1
  obtain ⟨t, e2, T⟩ := textOf_eq P1 K.hL K.L6 (a := k 46) K.fo
  obtain ⟨g3, e3, f3⟩ := lastTold_eq hN T w1 (v := 1) (by decide) (high := 9) (by decide) 0
  refine ⟨g3, ?_, (f1.mono (by decide) (by decide)).trans (f3.mono (by decide) (by decide))⟩
  rw [fJu_shedAt, e1, Option.bind_some, h11, e2, Option.bind_some]
  cases t with
  | none => simp only; rw [show fJu_lastTold N ln g1 none (1 : Int32) 9 0 = _ from e3]; rfl
  | some p => simp only; rw [show fJu_lastTold N ln g1 (some p) (1 : Int32) 9 0 = _ from e3]; rfl
theorem barsAt_eq (hN : 3000 ≤ N) (P : PQ ln M g q k Lw L) (K : KI k Lw n w L) (hq : q ≤ 30) {c : Nat} (hc : c < 7) (p : Int32) : ∃ g', fJu_barsAt N ln g q (nI c) p = some (if barK k (lawAt Lw (k 46)) c p then 1 else 0, g') ∧ GA 43 45 g g' := by
  have h11 : g.1 q 11 = k 46 := P.2.2.2.2.2.2.1
  obtain ⟨t, e2, T⟩ := textOf_eq P K.hL K.L6 (a := k 46) K.fo
  rw [fJu_barsAt, h11, e2, Option.bind_some]
  cases t with
  | none =>
    refine ⟨g, ?_, GA.refl⟩
    cases hl : lawAt Lw (k 46) with
    | none => rfl
    | some cs => rw [hl] at T; exact T.elim
  | some p' =>
    cases hl : lawAt Lw (k 46) with
    | none => rw [hl] at T; exact T.elim
    | some cs =>
      rw [hl] at T
      obtain ⟨g1, e1, f1, w1⟩ := ask_eq P hq hc p
      have T1 := TO.ga (t := some p') (law := some cs) T f1 (by decide)
      obtain ⟨g3, e3, f3⟩ := barsAt_27 (q := q) hN T1.1.1 cs.length 0 N g1 (Nat.zero_add _) T1.2 w1 (by have := T1.2.2.1; omega)
      refine ⟨g3, ?_, (f1.mono (by decide) (by decide)).trans (f3.mono (by decide) (by decide))⟩
      simp only
      rw [e1, Option.bind_some, show fJu_barsAt_27 N ln q N g1 p' (0 : Int32) = _ from e3]
      rfl
theorem tiltBy_5 (hN : 3000 ≤ N) (K : KI k Lw n w L) (hq : q ≤ 30) {p' : Nat} {cs : List Cl} : ∀ (d c fu : Nat) (g : sw_g), c + d = 7 → d < fu → PQ ln M g q k Lw L → TO ln M g (some p') (some cs) → ∃ g', fJu_tiltBy_5 N ln q fu g p' (tS k (some cs) n c) (nI c) = some (tiltK k (some cs) n, g') ∧ GA 43 45 g g' := by
  intro d
  induction d with
  | zero =>
    intro c fu g hc hfu P T
    obtain ⟨fu, rfl⟩ : ∃ z, fu = z + 1 := ⟨fu - 1, by omega⟩
    obtain rfl : c = 7 := by omega
    rw [fJu_tiltBy_5, if_pos (by decide)]
    exact ⟨g, rfl, GA.refl⟩
  | succ d ih =>
    intro c fu g hc hfu P T
    obtain ⟨fu, rfl⟩ : ∃ z, fu = z + 1 := ⟨fu - 1, by omega⟩
    have hc7 : c < 7 := by omega
    rw [fJu_tiltBy_5, if_neg (show ¬ (7 : Int32) ≤ nI c from nI_ge (b := 7) hc7 (by decide)), isOn_c P K hc7, Option.bind_some]
    by_cases h : c < n ∧ k (7 + c) ≠ -1
    · simp only [h, if_true, show ¬ ((1 : Int32) = 0) by decide, if_false, and_self, ne_eq, not_false_eq_true]
      rw [rd_nI hc7 (by decide), (P.2.1 c hc7).2.2]
      obtain ⟨g1, e1, f1, w1⟩ := ask_eq P hq hc7 (k (7 + c))
      have P1 := P.ga f1 (by omega) (by decide)
      obtain ⟨g3, e3, f3⟩ := lastTold_eq hN (T.ga f1 (by decide)) w1 (v := 0) (by decide) (high := 99) (by decide) (k c)
      have P3 := P1.ga f3 (by omega) (by decide)
      have T3 := (T.ga f1 (by decide)).ga f3 (by decide)
      rw [e1, Option.bind_some, rd_nI hc7 (by decide), (P1.2.1 c hc7).1, show fJu_lastTold N ln g1 (some p') (0 : Int32) 99 (k c) = _ from e3, Option.bind_some]
      simp only [nm, nI_1]
      have : tS k (some cs) n c + (k (7 + c) - 3) * tlW (Wk k c (k (7 + c))) (some cs) 0 99 (k c) = tS k (some cs) n (c + 1) := by
        show _ = tS k (some cs) n c + _
        rw [if_pos h.1, pullK, if_neg h.2, Int32.mul_comm]; rfl
      rw [this]
      obtain ⟨g', e', f'⟩ := ih (c + 1) fu g3 (by omega) (by omega) P3 T3
      exact ⟨g', e', ((f1.mono (by decide) (by decide)).trans (f3.mono (by decide) (by decide))).trans f'⟩
    · rw [if_neg h]
      simp only [if_true, nm, nI_1]
      have : tS k (some cs) n c = tS k (some cs) n (c + 1) := by
        show _ = tS k (some cs) n c + _
        by_cases h1 : c < n
        · have : k (7 + c) = -1 := Classical.byContradiction (fun h2 => h ⟨h1, h2⟩)
          rw [if_pos h1, pullK, if_pos this, Int32.add_zero]
        · rw [if_neg h1, Int32.add_zero]
      rw [this]
      exact ih (c + 1) fu g (by omega) (by omega) P T
theorem tiltBy_5n (hN : 3000 ≤ N) (K : KI k Lw n w L) (hq : q ≤ 30) : ∀ (d c fu : Nat) (g : sw_g), c + d = 7 → d < fu → PQ ln M g q k Lw L → ∃ g', fJu_tiltBy_5n N ln q fu g (tS k none n c) (nI c) = some (tiltK k none n, g') ∧ GA 43 45 g g' := by
  intro d
  induction d with
  | zero =>
    intro c fu g hc hfu P
    obtain ⟨fu, rfl⟩ : ∃ z, fu = z + 1 := ⟨fu - 1, by omega⟩
    obtain rfl : c = 7 := by omega
    rw [fJu_tiltBy_5n, if_pos (by decide)]
    exact ⟨g, rfl, GA.refl⟩
  | succ d ih =>
    intro c fu g hc hfu P
    obtain ⟨fu, rfl⟩ : ∃ z, fu = z + 1 := ⟨fu - 1, by omega⟩
    have hc7 : c < 7 := by omega
    rw [fJu_tiltBy_5n, if_neg (show ¬ (7 : Int32) ≤ nI c from nI_ge (b := 7) hc7 (by decide)), isOn_c P K hc7, Option.bind_some]
    by_cases h : c < n ∧ k (7 + c) ≠ -1
    · simp only [h, if_true, show ¬ ((1 : Int32) = 0) by decide, if_false, and_self, ne_eq, not_false_eq_true]
      rw [rd_nI hc7 (by decide), (P.2.1 c hc7).2.2]
      obtain ⟨g1, e1, f1, w1⟩ := ask_eq P hq hc7 (k (7 + c))
      have P1 := P.ga f1 (by omega) (by decide)
      have T1 : TO ln M g1 none none := trivial
      obtain ⟨g3, e3, f3⟩ := lastTold_eq hN T1 w1 (v := 0) (by decide) (high := 99) (by decide) (k c)
      have P3 := P1.ga f3 (by omega) (by decide)
      rw [e1, Option.bind_some, rd_nI hc7 (by decide), (P1.2.1 c hc7).1, show fJu_lastTold N ln g1 none (0 : Int32) 99 (k c) = _ from e3, Option.bind_some]
      simp only [nm, nI_1]
      have : tS k none n c + (k (7 + c) - 3) * tlW (Wk k c (k (7 + c))) none 0 99 (k c) = tS k none n (c + 1) := by
        show _ = tS k none n c + _
        rw [if_pos h.1, pullK, if_neg h.2, Int32.mul_comm]; rfl
      rw [this]
      obtain ⟨g', e', f'⟩ := ih (c + 1) fu g3 (by omega) (by omega) P3
      exact ⟨g', e', ((f1.mono (by decide) (by decide)).trans (f3.mono (by decide) (by decide))).trans f'⟩
    · rw [if_neg h]
      simp only [if_true, nm, nI_1]
      have : tS k none n c = tS k none n (c + 1) := by
        show _ = tS k none n c + _
        by_cases h1 : c < n
        · have : k (7 + c) = -1 := Classical.byContradiction (fun h2 => h ⟨h1, h2⟩)
          rw [if_pos h1, pullK, if_pos this, Int32.add_zero]
        · rw [if_neg h1, Int32.add_zero]
      rw [this]
      exact ih (c + 1) fu g (by omega) (by omega) P
theorem tiltBy_eq (hN : 3000 ≤ N) (P : PQ ln M g q k Lw L) (K : KI k Lw n w L) (hq : q ≤ 30) (T : TO ln M g t law) : ∃ g', fJu_tiltBy N ln g q t = some (tiltK k law n, g') ∧ GA 43 45 g g' := by
  cases t with
  | none => cases law with
    | none => exact tiltBy_5n hN K hq 7 0 N g rfl (by omega) P
    | some cs => exact T.elim
  | some p => cases law with
    | none => exact T.elim
    | some cs => exact tiltBy_5 hN K hq 7 0 N g rfl (by omega) P T
theorem xtilt_eq (hN : 3000 ≤ N) (P : PQ ln M g 1 k Lw L) (K : KI k Lw n w L) : ∃ g', fSx_tiltNow N ln g = some (tiltK k (lawAt Lw (k 46)) n, g') ∧ GA 43 45 g g' := by
  obtain ⟨t, e2, T⟩ := textOf_eq P K.hL K.L6 (a := k 46) K.fo
  obtain ⟨g', e', f'⟩ := tiltBy_eq hN P K (by decide) T
  refine ⟨g', ?_, f'⟩
  rw [fSx_tiltNow, show g.1 1 11 = k 46 from P.2.2.2.2.2.2.1, e2, Option.bind_some]
  cases t with
  | none => simp only; rw [e']; rfl
  | some p => simp only; rw [e']; rfl
theorem weightAt_eq (hN : 3000 ≤ N) (P : PQ ln M g 1 k Lw L) (K : KI k Lw n w L) {c : Nat} (hc : c < 7) (p : Int32) : ∃ g', fSx_weightAt N ln g (nI c) p = some (cntK k (lawAt Lw (k 46)) c p * (p - 3), g') ∧ GA 43 45 g g' := by
  obtain ⟨g', e', f'⟩ := countAt_eq hN P K (by decide) hc p
  exact ⟨g', by rw [fSx_weightAt, e']; rfl, f'⟩
end
