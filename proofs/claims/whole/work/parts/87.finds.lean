/-! ===== the class's rows: how many, and the first ===== -/
theorem nI_half' : ∀ a, a < 65 → ∀ b, b < 64 → nI (64 * a + b) / 2 = nI ((64 * a + b) / 2) := by decide +kernel
theorem nI_half (a : Nat) (h : a < 4160) : nI a / 2 = nI (a / 2) := by
  have := nI_half' (a / 64) (by omega) (a % 64) (by omega)
  rwa [show 64 * (a / 64) + a % 64 = a by omega] at this
section
variable {N : Nat} {ln : Nat → Nat} {f : Nat → List Ch}
theorem mf_18 (hb : ∀ y, y < 7 → bdL (f y)) {c : Nat} (hc : c < 7) {t : Int} {x : Nat} (ho : okB 0 c t x) {ls : List (List Ch)} {y B : Nat} {g : sw_g} (R : RCs g f) {rc : sw_g → Int32 → Int32 → Int32 → Option (Int32 × sw_g)} (Hrc : ∀ t x, okB 0 (c + 1) t x → rc g (nI (c + 1)) (zI t) (nI x) = some (nI (num (QB y B) ls t x), g)) : ∀ (d i fu a : Nat), i + d = (f c).length → d < fu → fRo_manyFrom_b_18 N rc ln fu g (nI c) (zI t) (nI x) (nI a) (nI i) = some (nI (a + sm (fun e => num (QB y B) ls (t + e.2.1) (x + e.2.2)) ((f c).drop i)), g) := by
  have hl7 := (hb c hc).1
  intro d
  induction d with
  | zero =>
    intro i fu a hi hfu
    obtain ⟨fu, rfl⟩ : ∃ z, fu = z + 1 := ⟨fu - 1, by omega⟩
    rw [fRo_manyFrom_b_18, rd_nI hc (by decide), (R c hc).1, if_pos (nI_le (by omega) (by omega)), List.drop_of_length_le (by omega)]
    rfl
  | succ d ih =>
    intro i fu a hi hfu
    obtain ⟨fu, rfl⟩ : ∃ z, fu = z + 1 := ⟨fu - 1, by omega⟩
    have hil : i < (f c).length := by omega
    obtain ⟨_, a2, a3⟩ := R.at hc hil
    rw [fRo_manyFrom_b_18, rd_nI hc (by decide), (R c hc).1, if_neg (nI_ge (by omega) (by omega)), rd_nI hc (by decide), rd_nI (by omega) (by decide), a2, rd_nI hc (by decide), rd_nI (by omega) (by decide), a3, nI_1, zI_add, nI_add, Hrc _ _ (ho.next (hb c hc) (List.getElem_mem hil)), Option.bind_some]
    simp only [nm, nI_1, nI_add]
    rw [ih (i + 1) fu _ (by omega) (by omega), List.drop_eq_getElem_cons hil, sm_cons, Nat.add_assoc]
theorem mf_eq (hN : 3000 ≤ N) (hb : ∀ y, y < 7 → bdL (f y)) {g : sw_g} (h : RW g f) {y B : Nat} (hy : g.1 49 6 = nI y) (hB : g.1 49 7 = nI B) (y7 : y ≤ 7) (hB' : B ≤ 2079) : ∀ (d c D : Nat) (t : Int) (x : Nat), c + d = 4 → d < D → okB 0 c t x → fRo_manyFrom N ln D g (nI c) (zI t) (nI x) = some (nI (num (QB y B) (sf f (3 + d)) t x), g) := by
  intro d
  induction d with
  | zero =>
    intro c D t x hc hD ho
    obtain ⟨D, rfl⟩ : ∃ z, D = z + 1 := ⟨D - 1, by omega⟩
    obtain rfl : c = 4 := by omega
    rw [fRo_manyFrom, fRo_manyFrom_b, if_neg (by decide), manyTails_eq hb h hy hB y7 hB' ho]
    rfl
  | succ d ih =>
    intro c D t x hc hD ho
    obtain ⟨D, rfl⟩ : ∃ z, D = z + 1 := ⟨D - 1, by omega⟩
    have hl7 := (hb c (by omega)).1
    have q := mf_18 (N := N) (ln := ln) hb (c := c) (by omega) ho (ls := sf f (3 + d)) (y := y) (B := B) h.1 (rc := fRo_manyFrom N ln D) (fun t x ho => ih (c + 1) D t x (by omega) (by omega) ho) (f c).length 0 N 0 (by omega) (by omega)
    rw [fRo_manyFrom, fRo_manyFrom_b, if_pos (show nI c < (4 : Int32) from nI_lt (b := 4) (by omega) (by decide))]
    refine (show fRo_manyFrom_b_18 N (fRo_manyFrom N ln D) ln N g (nI c) (zI t) (nI x) (0 : Int32) (0 : Int32) = _ from q).trans ?_
    rw [List.drop_zero, Nat.zero_add, ← num_cons, show 3 + (d + 1) = 3 + d + 1 by omega, sf_at (show c + (3 + d + 1) = 7 by omega)]
theorem howMany_eq (hN : 3000 ≤ N) (hb : ∀ y, y < 7 → bdL (f y)) {g : sw_g} (h : RW g f) {y B : Nat} (y7 : y ≤ 7) (hB' : B ≤ 2079) : ∃ g', fRo_howMany N ln g (nI y) (nI B) = some (nI (num (QB y B) (sf f 7) 0 0), g') ∧ GA 49 50 g g' := by
  have f1 : GA 49 49 g (gI (gI g 49 6 (nI y)) 49 7 (nI B)) := (GA.put (Nat.le_refl _) (Nat.le_refl _)).trans (GA.put (Nat.le_refl _) (Nat.le_refl _))
  refine ⟨_, ?_, f1.mono (by decide) (by decide)⟩
  have q := mf_eq (N := N) (ln := ln) hN hb (h.ga f1 (by decide)) (y := y) (B := B) (by rw [gI_at, if_neg (by decide), gI_at, if_pos ⟨rfl, rfl⟩]) (by rw [gI_at, if_pos ⟨rfl, rfl⟩]) y7 hB' 4 0 10 0 0 rfl (by decide) ⟨by omega, by omega, by omega⟩
  rw [fRo_howMany]
  simp only [nm]
  rw [show fRo_manyFrom N ln 10 _ (0 : Int32) (0 : Int32) (0 : Int32) = _ from q]
  rfl
/-- what a search leaves -/
def FD (c : Nat) (o : Option (List Nat)) (g g' : sw_g) : Prop := (∀ r, o = some r → ∀ i v, r[i]? = some v → g'.1 50 (c + i) = nI v) ∧ (∀ j, j < c → g'.1 50 j = g.1 50 j) ∧ GA 50 50 g g'
theorem ff_50 (hb : ∀ y, y < 7 → bdL (f y)) {c : Nat} (hc : c < 7) {t : Int} {x : Nat} (ho : okB 0 c t x) {ls : List (List Ch)} {y B : Nat} {rc : sw_g → Int32 → Int32 → Int32 → Option (Int32 × sw_g)} (Hrc : ∀ g t x, RW g f → g.1 49 6 = nI y → g.1 49 7 = nI B → okB 0 (c + 1) t x → ∃ g', rc g (nI (c + 1)) (zI t) (nI x) = some (bI (fnd (QB y B) ls t x).isSome, g') ∧ FD (c + 1) (fnd (QB y B) ls t x) g g') : ∀ (d i fu : Nat) (g : sw_g), i + d = (f c).length → d < fu → RW g f → g.1 49 6 = nI y → g.1 49 7 = nI B → ∃ g', fRo_findsFrom_b_50 N rc ln fu g (nI c) (zI t) (nI x) (nI i) = some (bI (((f c).drop i).findSome? (fun e => (fnd (QB y B) ls (t + e.2.1) (x + e.2.2)).map (fun r => e.1 :: r))).isSome, g') ∧ FD c (((f c).drop i).findSome? (fun e => (fnd (QB y B) ls (t + e.2.1) (x + e.2.2)).map (fun r => e.1 :: r))) g g' := by
  have hl7 := (hb c hc).1
  intro d
  induction d with
  | zero =>
    intro i fu g hi hfu R hy hB
    obtain ⟨fu, rfl⟩ : ∃ z, fu = z + 1 := ⟨fu - 1, by omega⟩
    rw [fRo_findsFrom_b_50, rd_nI hc (by decide), (R.1 c hc).1, if_pos (nI_le (by omega) (by omega)), List.drop_of_length_le (by omega)]
    exact ⟨g, rfl, fun r hr => by simp at hr, fun _ _ => rfl, GA.refl⟩
  | succ d ih =>
    intro i fu g hi hfu R hy hB
    obtain ⟨fu, rfl⟩ : ∃ z, fu = z + 1 := ⟨fu - 1, by omega⟩
    have hil : i < (f c).length := by omega
    obtain ⟨a1, a2, a3⟩ := R.1.at hc hil
    have f0 : GA 50 50 g (gI g 50 c (nI (f c)[i].1)) := GA.put (Nat.le_refl _) (Nat.le_refl _)
    have R0 := R.ga f0 (by decide)
    obtain ⟨_, a2', a3'⟩ := R0.1.at hc hil
    obtain ⟨g1, e1, e2, e3, e4⟩ := Hrc (gI g 50 c (nI (f c)[i].1)) _ _ R0 (by rw [f0.1 49 (by decide)]; exact hy) (by rw [f0.1 49 (by decide)]; exact hB) (ho.next (hb c hc) (List.getElem_mem hil))
    rw [fRo_findsFrom_b_50, rd_nI hc (by decide), (R.1 c hc).1, if_neg (nI_ge (by omega) (by omega)), rd_nI hc (by decide), rd_nI (by omega) (by decide), a1, wr_nI hc (by decide), rd_nI hc (by decide), rd_nI (by omega) (by decide), a2', rd_nI hc (by decide), rd_nI (by omega) (by decide), a3', nI_1, zI_add, nI_add, e1, Option.bind_some, List.drop_eq_getElem_cons hil, List.findSome?_cons]
    cases hf : fnd (QB y B) ls (t + (f c)[i].2.1) (x + (f c)[i].2.2) with
    | none =>
      have R1 := R0.ga e4 (by decide)
      obtain ⟨g2, q1, q2, q3, q4⟩ := ih (i + 1) fu g1 (by omega) (by omega) R1 (by rw [e4.1 49 (by decide), f0.1 49 (by decide)]; exact hy) (by rw [e4.1 49 (by decide), f0.1 49 (by decide)]; exact hB)
      refine ⟨g2, ?_, q2, fun j hj => ?_, (f0.trans e4).trans q4⟩
      · simp only [Option.isSome_none, Option.map_none, nm, nI_1]
        rw [if_pos (show bI false = 0 from rfl)]
        exact q1
      · rw [q3 j hj, e3 j (by omega), gI_at, if_neg (by omega)]
    | some r =>
      refine ⟨g1, ?_, fun r' hr i' v hv => ?_, fun j hj => ?_, f0.trans e4⟩
      · simp only [Option.isSome_some, Option.map_some]
        rw [if_neg (show ¬ bI true = 0 by decide)]; rfl
      · simp only [Option.map_some] at hr
        cases hr
        cases i' with
        | zero =>
          have : v = (f c)[i].1 := by simpa using hv.symm
          rw [Nat.add_zero, e3 c (by omega), gI_at, if_pos ⟨rfl, rfl⟩, this]
        | succ i' =>
          rw [List.getElem?_cons_succ] at hv
          rw [show c + (i' + 1) = c + 1 + i' by omega]
          exact e2 r hf i' v hv
      · rw [e3 j (by omega), gI_at, if_neg (by omega)]
theorem ff_eq (hN : 3000 ≤ N) (hb : ∀ y, y < 7 → bdL (f y)) {y B : Nat} (y7 : y ≤ 7) (hB' : B ≤ 2079) : ∀ (d c D : Nat) (g : sw_g) (t : Int) (x : Nat), c + d = 7 → d < D → RW g f → g.1 49 6 = nI y → g.1 49 7 = nI B → okB 0 c t x → ∃ g', fRo_findsFrom N ln D g (nI c) (zI t) (nI x) = some (bI (fnd (QB y B) (sf f d) t x).isSome, g') ∧ FD c (fnd (QB y B) (sf f d) t x) g g' := by
  intro d
  induction d with
  | zero =>
    intro c D g t x hc hD R hy hB ho
    obtain ⟨D, rfl⟩ : ∃ z, D = z + 1 := ⟨D - 1, by omega⟩
    obtain rfl : c = 7 := by omega
    obtain ⟨o1, o2, o3⟩ := ho
    rw [fRo_findsFrom, fRo_findsFrom_b, if_neg (by decide), hy, hB, jabs_z (by omega) (by omega)]
    have hs : fnd (QB y B) (sf f 0) t x = if QB y B t x then some [] else none := rfl
    rw [hs]
    by_cases c1 : x = y
    · rw [if_pos (by rw [c1])]
      by_cases c2 : t.natAbs ≤ B
      · rw [if_neg (nI_nlt (by omega) (by omega)), if_pos (show QB y B t x = true by unfold QB; rw [decide_eq_true_eq]; exact ⟨c1, c2⟩)]
        exact ⟨g, rfl, fun r hr i v hv => by cases hr; simp at hv, fun _ _ => rfl, GA.refl⟩
      · rw [if_pos (nI_lt (by omega) (by omega)), if_neg (show ¬ QB y B t x = true by unfold QB; rw [decide_eq_true_eq]; exact fun q => c2 q.2)]
        exact ⟨g, rfl, fun r hr => by simp at hr, fun _ _ => rfl, GA.refl⟩
    · rw [if_neg (fun q => c1 ((nI_eq (by omega) (by omega)).1 q)), if_neg (show ¬ QB y B t x = true by unfold QB; rw [decide_eq_true_eq]; exact fun q => c1 q.1)]
      exact ⟨g, rfl, fun r hr => by simp at hr, fun _ _ => rfl, GA.refl⟩
  | succ d ih =>
    intro c D g t x hc hD R hy hB ho
    obtain ⟨D, rfl⟩ : ∃ z, D = z + 1 := ⟨D - 1, by omega⟩
    have hl7 := (hb c (by omega)).1
    obtain ⟨g', q1, q2⟩ := ff_50 (N := N) (ln := ln) hb (c := c) (by omega) ho (ls := sf f d) (y := y) (B := B) (rc := fRo_findsFrom N ln D) (fun g t x R a b ho => ih (c + 1) D g t x (by omega) (by omega) R a b ho) (f c).length 0 N g (by omega) (by omega) R hy hB
    rw [List.drop_zero] at q1 q2
    have hs : fnd (QB y B) (sf f (d + 1)) t x = (f c).findSome? (fun e => (fnd (QB y B) (sf f d) (t + e.2.1) (x + e.2.2)).map (fun r => e.1 :: r)) := by rw [sf_at hc]; rfl
    rw [fRo_findsFrom, fRo_findsFrom_b, if_pos (show nI c < (7 : Int32) from nI_lt (b := 7) (by omega) (by decide))]
    by_cases c4 : c = 4
    · subst c4
      obtain rfl : d = 2 := by omega
      rw [if_pos (by decide), manyTails_eq hb R hy hB y7 hB' ho, Option.bind_some]
      simp only []
      have hle := num_le (Q := QB y B) (sf f 3) t x (sf_bd hb 3)
      rw [sf_len] at hle
      by_cases h0 : num (QB y B) (sf f 3) t x = 0
      · rw [h0, if_pos (show nI 0 = 0 from rfl), (num_fnd _ _ _).1 h0]
        exact ⟨g, rfl, fun r hr => by simp at hr, fun _ _ => rfl, GA.refl⟩
      · rw [if_neg (show ¬ nI (num (QB y B) (sf f 3) t x) = 0 from fun q => h0 ((nI_eq (b := 0) (by omega) (by decide)).1 q)), hs]
        exact ⟨g', q1, q2⟩
    · rw [if_neg (show ¬ nI c = 4 from fun q => c4 ((nI_eq (b := 4) (by omega) (by decide)).1 q)), hs]
      exact ⟨g', q1, q2⟩
theorem finds_eq (hN : 3000 ≤ N) (hb : ∀ y, y < 7 → bdL (f y)) {g : sw_g} (h : RW g f) {y B : Nat} (y7 : y ≤ 7) (hB' : B ≤ 2079) : ∃ g', fRo_finds N ln g (nI y) (nI B) = some (bI (fnd (QB y B) (sf f 7) 0 0).isSome, g') ∧ (∀ r, fnd (QB y B) (sf f 7) 0 0 = some r → ∀ i v, r[i]? = some v → g'.1 50 i = nI v) ∧ GA 49 50 g g' := by
  have f1 : GA 49 49 g (gI (gI g 49 6 (nI y)) 49 7 (nI B)) := (GA.put (Nat.le_refl _) (Nat.le_refl _)).trans (GA.put (Nat.le_refl _) (Nat.le_refl _))
  obtain ⟨g', q1, q2, _, q4⟩ := ff_eq (N := N) (ln := ln) hN hb (y := y) (B := B) y7 hB' 7 0 10 (gI (gI g 49 6 (nI y)) 49 7 (nI B)) 0 0 rfl (by decide) (h.ga f1 (by decide)) (by rw [gI_at, if_neg (by decide), gI_at, if_pos ⟨rfl, rfl⟩]) (by rw [gI_at, if_pos ⟨rfl, rfl⟩]) ⟨by omega, by omega, by omega⟩
  refine ⟨g', ?_, fun r hr i v hv => ?_, (f1.mono (by decide) (by decide)).trans (q4.mono (by decide) (by decide))⟩
  · rw [fRo_finds]
    simp only [nm]
    rw [show fRo_findsFrom N ln 10 _ (0 : Int32) (0 : Int32) (0 : Int32) = _ from q1, Option.bind_some]
    simp only []
    rw [tz, if_pos (by unfold bI; split <;> simp)]
  · have := q2 r hr i v hv
    rwa [Nat.zero_add] at this
theorem lw_21 (hN : 3000 ≤ N) (hb : ∀ y, y < 7 → bdL (f y)) {m : Nat} (hm : ∀ B, B ≤ 2079 → ((fnd (QB 0 B) (sf f 7) 0 0).isSome = true ↔ m ≤ B)) : ∀ (d i fu lo hi : Nat) (g : sw_g), RW g f → i + d ≤ 31 → d < fu → hi - lo < 2 ^ d → lo ≤ m → m ≤ hi → hi ≤ 2079 → ∃ g', fRo_leastWeight_21 N ln fu g (nI lo) (nI hi) (nI i) = some (nI m, g') ∧ GA 49 50 g g' := by
  intro d
  induction d with
  | zero =>
    intro i fu lo hi g R hi' hfu h1 h2 h3 h4
    obtain ⟨fu, rfl⟩ : ∃ z, fu = z + 1 := ⟨fu - 1, by omega⟩
    have h1' : hi - lo < 1 := h1
    rw [fRo_leastWeight_21, if_neg (show ¬ (32 : Int32) ≤ nI i from nI_ge (b := 32) (by omega) (by decide)), if_pos (nI_le (by omega) (by omega)), show lo = m by omega]
    exact ⟨g, rfl, GA.refl⟩
  | succ d ih =>
    intro i fu lo hi g R hi' hfu h1 h2 h3 h4
    obtain ⟨fu, rfl⟩ : ∃ z, fu = z + 1 := ⟨fu - 1, by omega⟩
    rw [Nat.pow_succ] at h1
    rw [fRo_leastWeight_21, if_neg (show ¬ (32 : Int32) ≤ nI i from nI_ge (b := 32) (by omega) (by decide))]
    by_cases hl : hi ≤ lo
    · rw [if_pos (nI_le hl (by omega)), show lo = m by omega]
      exact ⟨g, rfl, GA.refl⟩
    · rw [if_neg (nI_ge (by omega) (by omega)), nI_add, nI_half _ (by omega)]
      simp only [nm, nI_1]
      obtain ⟨g1, e1, _, e3⟩ := finds_eq (N := N) (ln := ln) hN hb R (y := 0) (B := (lo + hi) / 2) (by decide) (by omega)
      have R1 := R.ga e3 (by decide)
      rw [show fRo_finds N ln g (0 : Int32) (nI ((lo + hi) / 2)) = _ from e1, Option.bind_some]
      simp only []
      cases hf : (fnd (QB 0 ((lo + hi) / 2)) (sf f 7) 0 0).isSome with
      | false =>
        have : ¬ m ≤ (lo + hi) / 2 := fun q => by rw [(hm _ (by omega)).2 q] at hf; cases hf
        obtain ⟨g2, q1, q2⟩ := ih (i + 1) fu ((lo + hi) / 2 + 1) hi g1 R1 (by omega) (by omega) (by omega) (by omega) h3 h4
        rw [if_pos (show bI false = 0 from rfl)]
        exact ⟨g2, q1, e3.trans q2⟩
      | true =>
        have := (hm _ (by omega)).1 hf
        obtain ⟨g2, q1, q2⟩ := ih (i + 1) fu lo ((lo + hi) / 2) g1 R1 (by omega) (by omega) (by omega) h2 this (by omega)
        rw [if_neg (show ¬ bI true = 0 by decide)]
        exact ⟨g2, q1, e3.trans q2⟩
theorem leastWeight_eq (hN : 3000 ≤ N) (hb : ∀ y, y < 7 → bdL (f y)) {m : Nat} (hm : ∀ B, B ≤ 2079 → ((fnd (QB 0 B) (sf f 7) 0 0).isSome = true ↔ m ≤ B)) {g : sw_g} (R : RW g f) : ∃ g', fRo_leastWeight N ln g = some (if m ≤ 2079 then nI m else -1, g') ∧ GA 49 50 g g' := by
  obtain ⟨g1, e1, _, e3⟩ := finds_eq (N := N) (ln := ln) hN hb R (y := 0) (B := 2079) (by decide) (by decide)
  rw [fRo_leastWeight, show fRo_finds N ln g (0 : Int32) (2079 : Int32) = _ from e1, Option.bind_some]
  simp only []
  by_cases h : m ≤ 2079
  · obtain ⟨g2, q1, q2⟩ := lw_21 (N := N) (ln := ln) hN hb hm 12 0 N 0 2079 g1 (R.ga e3 (by decide)) (by decide) (by omega) (by decide) (Nat.zero_le _) h (by decide)
    rw [(hm 2079 (by decide)).2 h, if_neg (show ¬ bI true = 0 by decide), if_pos h]
    exact ⟨g2, q1, e3.trans q2⟩
  · have : (fnd (QB 0 2079) (sf f 7) 0 0).isSome = false := by
      cases hq : (fnd (QB 0 2079) (sf f 7) 0 0).isSome with
      | false => rfl
      | true => exact absurd ((hm 2079 (by decide)).1 hq) h
    rw [this, if_pos (show bI false = 0 from rfl), if_neg h]
    exact ⟨g1, rfl, e3⟩
end
