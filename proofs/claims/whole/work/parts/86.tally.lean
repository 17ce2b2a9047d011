/-! ===== the class's tally of the tails ===== -/
def okB (b c : Nat) (t : Int) (x : Nat) : Prop := 1188 * (b : Int) - 297 * c ≤ t ∧ t ≤ 297 * c - 1188 * (b : Int) ∧ x + 4 * b ≤ c
def RCs (g : sw_g) (f : Nat → List Ch) : Prop := ∀ y, y < 7 → RC g y (f y)
theorem RCs.ga {g g1 : sw_g} {f : Nat → List Ch} {lo hi : Nat} (h : RCs g f) (a : GA lo hi g g1) (hh : hi < 51 ∨ 75 < lo) : RCs g1 f := fun y hy => (h y hy).ga hy a hh
theorem RCs.at {g : sw_g} {f : Nat → List Ch} (h : RCs g f) {c i : Nat} (hc : c < 7) (hi : i < (f c).length) : g.1 (52 + 1 + c) i = nI ((f c)[i]).1 ∧ g.1 (60 + 1 + c) i = zI ((f c)[i]).2.1 ∧ g.1 (68 + 1 + c) i = nI ((f c)[i]).2.2 := (h c hc).2.2 i _ (List.getElem?_eq_getElem hi)
theorem okB.next {b c : Nat} {t : Int} {x : Nat} (h : okB b c t x) {l : List Ch} (hl : bdL l) {e : Ch} (he : e ∈ l) : okB b (c + 1) (t + e.2.1) (x + e.2.2) := by
  have := hl.2 e he
  obtain ⟨h1, h2, h3⟩ := h
  refine ⟨by omega, by omega, by omega⟩
/-- what a tally adds -/
def TA (F : Nat → Nat → Nat) (g g' : sw_g) : Prop := (∀ y j, y < 4 → j < 1784 → g'.1 (76 + 1 + y) j = g.1 (76 + 1 + y) j + nI (F y j)) ∧ GA 77 80 g g'
section
variable {N : Nat} {ln : Nat → Nat} {f : Nat → List Ch}
theorem tf_54 (hb : ∀ y, y < 7 → bdL (f y)) {c : Nat} (hc : c < 7) {t : Int} {x : Nat} (ho : okB 1 c t x) {ls : List (List Ch)} {rc : sw_g → Int32 → Int32 → Int32 → Option sw_g} (Hrc : ∀ g t x, RCs g f → okB 1 (c + 1) t x → ∃ g', rc g (nI (c + 1)) (zI t) (nI x) = some g' ∧ TA (fun y j => num (Qt y j) ls t x) g g') : ∀ (d i fu : Nat) (g : sw_g), i + d = (f c).length → d < fu → RCs g f → ∃ g', fRo_tallyFrom_b_54 N rc ln fu g (nI c) (zI t) (nI x) (nI i) = some g' ∧ TA (fun y j => sm (fun e => num (Qt y j) ls (t + e.2.1) (x + e.2.2)) ((f c).drop i)) g g' := by
  have hl7 := (hb c hc).1
  intro d
  induction d with
  | zero =>
    intro i fu g hi hfu R
    obtain ⟨fu, rfl⟩ : ∃ z, fu = z + 1 := ⟨fu - 1, by omega⟩
    rw [fRo_tallyFrom_b_54, rd_nI hc (by decide), (R c hc).1, if_pos (nI_le (by omega) (by omega))]
    refine ⟨g, rfl, fun y j _ _ => ?_, GA.refl⟩
    rw [List.drop_of_length_le (by omega)]
    show _ = _ + (0 : Int32)
    rw [Int32.add_zero]
  | succ d ih =>
    intro i fu g hi hfu R
    obtain ⟨fu, rfl⟩ : ∃ z, fu = z + 1 := ⟨fu - 1, by omega⟩
    have hil : i < (f c).length := by omega
    obtain ⟨_, a2, a3⟩ := R.at hc hil
    rw [fRo_tallyFrom_b_54, rd_nI hc (by decide), (R c hc).1, if_neg (nI_ge (by omega) (by omega)), rd_nI hc (by decide), rd_nI (by omega) (by decide), a2, rd_nI hc (by decide), rd_nI (by omega) (by decide), a3, nI_1, zI_add, nI_add]
    obtain ⟨g1, e1, e2, e3⟩ := Hrc g _ _ R (ho.next (hb c hc) (List.getElem_mem hil))
    obtain ⟨g2, q1, q2, q3⟩ := ih (i + 1) fu g1 (by omega) (by omega) (R.ga e3 (by omega))
    rw [e1, Option.bind_some]
    simp only [nm, nI_1]
    refine ⟨g2, q1, fun y j hy hj => ?_, e3.trans q3⟩
    rw [q2 y j hy hj, e2 y j hy hj, List.drop_eq_getElem_cons hil]
    simp only [sm_cons]
    rw [Int32.add_assoc, nI_add]
theorem tf_eq (hN : 3000 ≤ N) (hb : ∀ y, y < 7 → bdL (f y)) : ∀ (d c D : Nat) (g : sw_g) (t : Int) (x : Nat), c + d = 7 → 4 ≤ c → d < D → RCs g f → okB 1 c t x → ∃ g', fRo_tallyFrom N ln D g (nI c) (zI t) (nI x) = some g' ∧ TA (fun y j => num (Qt y j) (sf f d) t x) g g' := by
  intro d
  induction d with
  | zero =>
    intro c D g t x hc h4 hD R ho
    obtain ⟨D, rfl⟩ : ∃ z, D = z + 1 := ⟨D - 1, by omega⟩
    obtain rfl : c = 7 := by omega
    obtain ⟨o1, o2, o3⟩ := ho
    rw [fRo_tallyFrom, fRo_tallyFrom_b, if_neg (by decide), show (891 : Int32) = zI 891 from rfl, show (1 : Int32) = zI 1 from rfl, zI_add, zI_add, nm]
    rw [if_neg (show ¬ zI (t + 891 + 1) ≤ 0 by rw [show (0 : Int32) = zI 0 from rfl, zI_le (by omega) (by omega) (by omega) (by omega)]; omega), if_neg (show ¬ (1784 : Int32) ≤ zI (t + 891 + 1) by rw [show (1784 : Int32) = zI 1784 from rfl, zI_le (by omega) (by omega) (by omega) (by omega)]; omega), if_neg (nI_pos (by omega)), if_neg (show ¬ (3 : Int32) < nI x from nI_nlt (b := x) (a := 3) (by omega) (by decide))]
    rw [rd_nI (by omega) (by decide), zI_pos (by omega), rd_nI (by omega) (by decide), wr_nI (by omega) (by decide)]
    refine ⟨_, rfl, fun y j hy hj => ?_, GA.put (by omega) (by omega)⟩
    rw [gI_at]
    show _ = _ + nI (if Qt y j t x then 1 else 0)
    by_cases h : 76 + 1 + y = 76 + 1 + x ∧ j = (t + 891 + 1).toNat
    · rw [if_pos h, if_pos (show Qt y j t x = true by unfold Qt; rw [decide_eq_true_eq]; omega)]
      obtain ⟨ha, hb'⟩ := h
      rw [ha, hb']; rfl
    · rw [if_neg h, if_neg (show ¬ Qt y j t x = true by unfold Qt; rw [decide_eq_true_eq]; omega)]
      show _ = _ + (0 : Int32)
      rw [Int32.add_zero]
  | succ d ih =>
    intro c D g t x hc h4 hD R ho
    obtain ⟨D, rfl⟩ : ∃ z, D = z + 1 := ⟨D - 1, by omega⟩
    have hl7 := (hb c (by omega)).1
    obtain ⟨g', q1, q2⟩ := tf_54 (N := N) (ln := ln) hb (c := c) (by omega) ho (ls := sf f d) (rc := fRo_tallyFrom N ln D) (fun g t x R ho => ih (c + 1) D g t x (by omega) (by omega) (by omega) R ho) (f c).length 0 N g (by omega) (by omega) R
    refine ⟨g', ?_, ?_⟩
    · rw [fRo_tallyFrom, fRo_tallyFrom_b, if_pos (show nI c < (7 : Int32) from nI_lt (b := 7) (by omega) (by decide))]
      exact q1
    · rw [sf_at hc]
      rw [List.drop_zero] at q2
      exact q2
theorem tt_39 {k32 : sw_g → Int32 → Option sw_g} {y : Nat} (hy : y < 4) {a : Nat → Nat} : ∀ (d j fu : Nat) (g : sw_g), 1 ≤ j → j + d = 1784 → d < fu → (∀ i, i < 1784 → g.1 (76 + 1 + y) i = nI (if i < j then cum a i else a i)) → ∃ g', fRo_tallyTails_39 N ln k32 fu g (nI y) (nI j) = k32 g' (nI (y + 1)) ∧ (∀ i, i < 1784 → g'.1 (76 + 1 + y) i = nI (cum a i)) ∧ GA (76 + 1 + y) (76 + 1 + y) g g' := by
  intro d
  induction d with
  | zero =>
    intro j fu g h1 hj hfu h
    obtain ⟨fu, rfl⟩ : ∃ z, fu = z + 1 := ⟨fu - 1, by omega⟩
    obtain rfl : j = 1784 := by omega
    rw [fRo_tallyTails_39, if_pos (by decide)]
    simp only [nm, nI_1]
    refine ⟨g, rfl, fun i hi => ?_, GA.refl⟩
    rw [h i hi, if_pos hi]
  | succ d ih =>
    intro j fu g h1 hj hfu h
    obtain ⟨fu, rfl⟩ : ∃ z, fu = z + 1 := ⟨fu - 1, by omega⟩
    obtain ⟨j, rfl⟩ : ∃ z, j = z + 1 := ⟨j - 1, by omega⟩
    have hs : nI (j + 1) - 1 = nI j := by rw [← nI_1, Int32.add_sub_cancel]
    rw [fRo_tallyTails_39, if_neg (show ¬ (1784 : Int32) ≤ nI (j + 1) from nI_ge (b := 1784) (by omega) (by decide)), rd_nI hy (by decide), rd_nI (by omega) (by decide), rd_nI hy (by decide), hs, rd_nI (by omega) (by decide), wr_nI (by omega) (by decide), h (j + 1) (by omega), h j (by omega), if_neg (by omega), if_pos (by omega), nI_add]
    simp only [nm, nI_1]
    obtain ⟨g', q1, q2, q3⟩ := ih (j + 1 + 1) fu (gI g (76 + 1 + y) (j + 1) (nI (a (j + 1) + cum a j))) (by omega) (by omega) (by omega) (fun i hi => by
      rw [gI_at]
      by_cases hij : i = j + 1
      · subst hij
        rw [if_pos ⟨rfl, rfl⟩, if_pos (by omega), Nat.add_comm]; rfl
      · rw [if_neg (fun q => hij q.2), h i hi]
        by_cases hl : i < j + 1
        · rw [if_pos hl, if_pos (by omega)]
        · rw [if_neg hl, if_neg (by omega)])
    exact ⟨g', q1, q2, (GA.put (Nat.le_refl _) (Nat.le_refl _)).trans q3⟩
theorem tt_32 (hN : 3000 ≤ N) {A : Nat → Nat → Nat} : ∀ (d y fu : Nat) (g : sw_g), y + d = 4 → d < fu → (∀ z i, z < 4 → i < 1784 → g.1 (76 + 1 + z) i = nI (if z < y then cum (A z) i else A z i)) → ∃ g', fRo_tallyTails_32 N ln fu g (nI y) = some g' ∧ (∀ z i, z < 4 → i < 1784 → g'.1 (76 + 1 + z) i = nI (cum (A z) i)) ∧ GA 77 80 g g' := by
  intro d
  induction d with
  | zero =>
    intro y fu g hy hfu h
    obtain ⟨fu, rfl⟩ : ∃ z, fu = z + 1 := ⟨fu - 1, by omega⟩
    obtain rfl : y = 4 := by omega
    rw [fRo_tallyTails_32, if_pos (by decide)]
    refine ⟨g, rfl, fun z i hz hi => ?_, GA.refl⟩
    rw [h z i hz hi, if_pos hz]
  | succ d ih =>
    intro y fu g hy hfu h
    obtain ⟨fu, rfl⟩ : ∃ z, fu = z + 1 := ⟨fu - 1, by omega⟩
    obtain ⟨g1, e1, e2, e3⟩ := tt_39 (N := N) (ln := ln) (k32 := fRo_tallyTails_32 N ln fu) (y := y) (by omega) (a := A y) 1783 1 N g (by omega) (by omega) (by omega) (fun i hi => by
      rw [h y i (by omega) hi, if_neg (by omega)]
      by_cases h0 : i < 1
      · rw [if_pos h0, show i = 0 by omega]; rfl
      · rw [if_neg h0])
    obtain ⟨g2, q1, q2, q3⟩ := ih (y + 1) fu g1 (by omega) (by omega) (fun z i hz hi => by
      by_cases hzy : z = y
      · subst hzy; rw [if_pos (by omega)]; exact e2 i hi
      · rw [e3.1 (76 + 1 + z) (by omega), h z i hz hi]
        by_cases hl : z < y
        · rw [if_pos hl, if_pos (by omega)]
        · rw [if_neg hl, if_neg (by omega)])
    refine ⟨g2, ?_, q2, (e3.mono (by omega) (by omega)).trans q3⟩
    rw [fRo_tallyTails_32, if_neg (show ¬ (3 : Int32) < nI y from nI_nlt (b := y) (a := 3) (by omega) (by decide))]
    exact e1.trans q1
theorem tt_2 (hN : 3000 ≤ N) (hb : ∀ y, y < 7 → bdL (f y)) : ∀ (d y fu : Nat) (g : sw_g), y + d = 4 → d < fu → RCs g f → (∀ z i, z < y → i < 1784 → g.1 (76 + 1 + z) i = 0) → ∃ g', fRo_tallyTails_2 N ln fu g (nI y) = some g' ∧ (∀ z i, z < 4 → i < 1784 → g'.1 (76 + 1 + z) i = nI (num (Qc z i) (sf f 3) 0 0)) ∧ GA 77 80 g g' := by
  intro d
  induction d with
  | zero =>
    intro y fu g hy hfu R h
    obtain ⟨fu, rfl⟩ : ∃ z, fu = z + 1 := ⟨fu - 1, by omega⟩
    obtain rfl : y = 4 := by omega
    obtain ⟨g1, e1, e2, e3⟩ := tf_eq (N := N) (ln := ln) hN hb 3 4 10 g 0 0 rfl (by decide) (by decide) R ⟨by omega, by omega, by omega⟩
    obtain ⟨g2, q1, q2, q3⟩ := tt_32 (N := N) (ln := ln) hN (A := fun z i => num (Qt z i) (sf f 3) 0 0) 4 0 N g1 rfl (by omega) (fun z i hz hi => by rw [e2 z i hz hi, h z i hz hi, if_neg (by omega), Int32.zero_add])
    refine ⟨g2, ?_, fun z i hz hi => by rw [q2 z i hz hi, cum_num], e3.trans q3⟩
    rw [fRo_tallyTails_2, if_pos (by decide), show fRo_tallyFrom N ln 10 g (4 : Int32) (0 : Int32) (0 : Int32) = _ from e1, Option.bind_some]
    exact q1
  | succ d ih =>
    intro y fu g hy hfu R h
    obtain ⟨fu, rfl⟩ : ∃ z, fu = z + 1 := ⟨fu - 1, by omega⟩
    obtain ⟨g1, e1, e2, e3⟩ := fill_eq (N := N) (ln := ln) (q1 := 76 + 1 + y) (n1 := 1784) (v := 0) (g := g) (by decide) (by omega)
    obtain ⟨g2, q1, q2, q3⟩ := ih (y + 1) fu g1 (by omega) (by omega) (R.ga e3 (by omega)) (fun z i hz hi => by
      by_cases hzy : z = y
      · subst hzy; exact e2 i hi
      · rw [e3.1 (76 + 1 + z) (by omega)]; exact h z i (by omega) hi)
    refine ⟨g2, ?_, q2, (e3.mono (by omega) (by omega)).trans q3⟩
    rw [fRo_tallyTails_2, if_neg (show ¬ (3 : Int32) < nI y from nI_nlt (b := y) (a := 3) (by omega) (by decide)), rd_nI (by omega) (by decide), e1, Option.bind_some]
    simp only [nm, nI_1]
    exact q1
/-- the rows offered, and their tails tallied -/
def RW (g : sw_g) (f : Nat → List Ch) : Prop := RCs g f ∧ ∀ z i, z < 4 → i < 1784 → g.1 (76 + 1 + z) i = nI (num (Qc z i) (sf f 3) 0 0)
theorem RW.ga {g g1 : sw_g} {lo hi : Nat} (h : RW g f) (a : GA lo hi g g1) (hh : hi < 51) : RW g1 f := ⟨h.1.ga a (.inl hh), fun z i hz hi' => by rw [a.1 (76 + 1 + z) (by omega)]; exact h.2 z i hz hi'⟩
theorem tallies_eq (hN : 3000 ≤ N) (hb : ∀ y, y < 7 → bdL (f y)) {g : sw_g} (R : RCs g f) : ∃ g', fRo_tallyTails N ln g = some g' ∧ RW g' f ∧ GA 77 80 g g' := by
  obtain ⟨g', a, b, c⟩ := tt_2 (N := N) (ln := ln) hN hb 4 0 N g rfl (by omega) R (fun z i hz => by omega)
  exact ⟨g', a, ⟨R.ga c (by omega), b⟩, c⟩
theorem manyTails_eq (hb : ∀ y, y < 7 → bdL (f y)) {g : sw_g} (h : RW g f) {y B x : Nat} {t : Int} (hy : g.1 49 6 = nI y) (hB : g.1 49 7 = nI B) (y7 : y ≤ 7) (hB' : B ≤ 2079) (ho : okB 0 4 t x) : fRo_manyTails ln g (zI t) (nI x) = some (nI (num (QB y B) (sf f 3) t x), g) := by
  obtain ⟨o1, o2, o3⟩ := ho
  have b3 : bd (sf f 3) := sf_bd hb 3
  have l3 : (sf f 3).length = 3 := sf_len 3
  have e1 : g.1 49 6 - nI x = zI ((y : Int) - x) := by rw [hy, ← zI_nat, ← zI_nat, zI_sub]
  have e2 : jmax (-(g.1 49 7) - zI t) (-891) + 891 = zI (max (-(B : Int) - t) (-891) + 891) := by
    rw [hB, ← zI_nat, zI_neg, zI_sub, show (-891 : Int32) = zI (-891) from rfl, jmax_z (by omega) (by omega) (by omega) (by omega), show (891 : Int32) = zI 891 from rfl, zI_add]
  have e3 : jmin (g.1 49 7 - zI t) 891 + 891 + 1 = zI (min ((B : Int) - t) 891 + 892) := by
    rw [hB, ← zI_nat, zI_sub, show (891 : Int32) = zI 891 from rfl, jmin_z (by omega) (by omega) (by omega) (by omega), zI_add, show (1 : Int32) = zI 1 from rfl, zI_add, show min ((B : Int) - t) 891 + 891 + 1 = min ((B : Int) - t) 891 + 892 by omega]
  rw [fRo_manyTails, e1, e2, e3]
  simp only [nm]
  have z0 : (0 : Int32) = zI 0 := rfl
  by_cases c1 : (y : Int) - x < 0
  · rw [if_pos (by rw [z0, zI_lt (by omega) (by omega) (by omega) (by omega)]; omega), tails_zero l3 b3 (.inl (by omega))]; rfl
  rw [if_neg (by rw [z0, zI_lt (by omega) (by omega) (by omega) (by omega)]; omega)]
  by_cases c2 : (3 : Int) < (y : Int) - x
  · rw [if_pos (by rw [show (3 : Int32) = zI 3 from rfl, zI_lt (by omega) (by omega) (by omega) (by omega)]; omega), tails_zero l3 b3 (.inr (.inl (by omega)))]; rfl
  rw [if_neg (by rw [show (3 : Int32) = zI 3 from rfl, zI_lt (by omega) (by omega) (by omega) (by omega)]; omega), if_neg (by rw [z0, zI_lt (by omega) (by omega) (by omega) (by omega)]; omega)]
  by_cases c3 : min ((B : Int) - t) 891 + 892 ≤ max (-(B : Int) - t) (-891) + 891
  · rw [if_pos (by rw [zI_le (by omega) (by omega) (by omega) (by omega)]; exact c3), tails_zero l3 b3 (.inr (.inr c3))]; rfl
  rw [if_neg (by rw [zI_le (by omega) (by omega) (by omega) (by omega)]; exact c3), if_pos (by rw [show (1784 : Int32) = zI 1784 from rfl, zI_lt (by omega) (by omega) (by omega) (by omega)]; omega)]
  obtain ⟨lo, hlo⟩ : ∃ lo : Nat, (lo : Int) = max (-(B : Int) - t) (-891) + 891 := ⟨(max (-(B : Int) - t) (-891) + 891).toNat, by omega⟩
  obtain ⟨hi, hhi⟩ : ∃ hi : Nat, (hi : Int) = min ((B : Int) - t) 891 + 892 := ⟨(min ((B : Int) - t) 891 + 892).toNat, by omega⟩
  obtain ⟨d, rfl⟩ : ∃ d, y = x + d := ⟨y - x, by omega⟩
  rw [← hlo, ← hhi, show ((x + d : Nat) : Int) - x = (d : Int) by omega, zI_nat, zI_nat, zI_nat, rd_nI (by omega) (by decide), rd_nI (by omega) (by decide), rd_nI (by omega) (by decide), rd_nI (by omega) (by decide), h.2 d hi (by omega) (by omega), h.2 d lo (by omega) (by omega), tails_num (x := x) l3 b3 hlo hhi (by omega), ← nI_add]
  rw [Int32.add_comm, Int32.add_sub_cancel]
end
