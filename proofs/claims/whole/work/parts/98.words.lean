/-! ===== orders: the words ===== -/
def Wo (k : Nat → Int32) (law : Option (List Cl)) (n : Nat) (dn lt : Int32) (x : Nat) : Int32 := if x = 0 then k 14 else if x = 1 then dn else if x = 2 then lt else if x = 3 then tiltK k law n else if x = 4 then nI (pcn (onB k n 7)) else if x < 12 then (if x - 5 < n then k (x - 5) else -1) else (if x - 12 < n then k (7 + (x - 12)) else -1)
section
variable {N : Nat} {ln : Nat → Nat} {M : Nat} {k : Nat → Int32} {Lw : Nat → List Cl} {n w L : Nat}
theorem tw_64 (K : KI k Lw n w L) : ∀ (d c fu : Nat) (g : sw_g), c + d = 7 → d < fu → PQ ln M g 1 k Lw L → ∃ g', fSx_tellWords_64 N ln fu g (nI c) = some g' ∧ (∀ x, c ≤ x → x < 7 → g'.1 48 (5 + x) = (if x < n then k x else -1) ∧ g'.1 48 (12 + x) = (if x < n then k (7 + x) else -1)) ∧ (∀ x, x < 5 + c ∨ (12 ≤ x ∧ x < 12 + c) → g'.1 48 x = g.1 48 x) ∧ GA 48 48 g g' := by
  have hn7 := K.n7
  intro d
  induction d with
  | zero =>
    intro c fu g hc hfu P
    obtain ⟨fu, rfl⟩ : ∃ z, fu = z + 1 := ⟨fu - 1, by omega⟩
    obtain rfl : c = 7 := by omega
    rw [fSx_tellWords_64, if_pos (by decide)]
    exact ⟨g, rfl, fun x a b => by omega, fun _ _ => rfl, GA.refl⟩
  | succ d ih =>
    intro c fu g hc hfu P
    obtain ⟨fu, rfl⟩ : ∃ z, fu = z + 1 := ⟨fu - 1, by omega⟩
    have hc7 : c < 7 := by omega
    have e1 : fSx_tellWords_64 N ln (fu + 1) g (nI c) = fSx_tellWords_64 N ln fu (gI (gI g 48 (5 + c) (if c < n then k c else -1)) 48 (12 + c) (if c < n then k (7 + c) else -1)) (nI (c + 1)) := by
      rw [fSx_tellWords_64, if_neg (show ¬ (7 : Int32) ≤ nI c from nI_ge (b := 7) hc7 (by decide)), P.1, K.hn]
      by_cases h : c < n
      · rw [if_neg (nI_ge h (by omega)), fSx_tellWords_86, if_neg n10, rd_nI hc7 (by decide), show g.1 2 c = _ from (P.2.1 c hc7).1, fSx_tellWords_111, show (5 : Int32) + nI c = nI (5 + c) from nI_add 5 c, wr_nI (by omega) (by decide), if_neg n10, rd_nI hc7 (by decide), show (gI g 48 (5 + c) (k c)).1 4 c = g.1 4 c from by rw [gI_at, if_neg (by omega)], show g.1 4 c = _ from (P.2.1 c hc7).2.2, show (12 : Int32) + nI c = nI (12 + c) from nI_add 12 c, wr_nI (by omega) (by decide), nm, nI_1, if_pos h, if_pos h]
      · rw [if_pos (nI_le (by omega) (by omega)), fSx_tellWords_86, if_pos rfl, fSx_tellWords_111, show (5 : Int32) + nI c = nI (5 + c) from nI_add 5 c, wr_nI (by omega) (by decide), if_pos rfl, show (12 : Int32) + nI c = nI (12 + c) from nI_add 12 c, wr_nI (by omega) (by decide), nm, nI_1, if_neg h, if_neg h]
    have f0 : GA 48 48 g (gI (gI g 48 (5 + c) (if c < n then k c else -1)) 48 (12 + c) (if c < n then k (7 + c) else -1)) := (GA.put (Nat.le_refl _) (Nat.le_refl _)).trans (GA.put (Nat.le_refl _) (Nat.le_refl _))
    obtain ⟨g', q1, q2, q3, q4⟩ := ih (c + 1) fu _ (by omega) (by omega) (P.ga f0 (by decide) (by decide))
    refine ⟨g', e1.trans q1, fun x a b => ?_, fun x hx => ?_, f0.trans q4⟩
    · by_cases hx : x = c
      · subst hx
        refine ⟨(q3 (5 + x) (by omega)).trans ?_, (q3 (12 + x) (by omega)).trans ?_⟩
        · rw [gI_at, if_neg (show ¬ (48 = 48 ∧ 5 + x = 12 + x) by omega), gI_at]; exact if_pos ⟨rfl, rfl⟩
        · rw [gI_at]; exact if_pos ⟨rfl, rfl⟩
      · exact q2 x (by omega) b
    · rw [q3 x (by omega), gI_at, if_neg (by omega), gI_at, if_neg (by omega)]
theorem tw_64n (K : KI k Lw n w L) : ∀ (d c fu : Nat) (g : sw_g), c + d = 7 → d < fu → PQ ln M g 1 k Lw L → ∃ g', fSx_tellWords_64n N ln fu g (nI c) = some g' ∧ (∀ x, c ≤ x → x < 7 → g'.1 48 (5 + x) = (if x < n then k x else -1) ∧ g'.1 48 (12 + x) = (if x < n then k (7 + x) else -1)) ∧ (∀ x, x < 5 + c ∨ (12 ≤ x ∧ x < 12 + c) → g'.1 48 x = g.1 48 x) ∧ GA 48 48 g g' := by
  have hn7 := K.n7
  intro d
  induction d with
  | zero =>
    intro c fu g hc hfu P
    obtain ⟨fu, rfl⟩ : ∃ z, fu = z + 1 := ⟨fu - 1, by omega⟩
    obtain rfl : c = 7 := by omega
    rw [fSx_tellWords_64n, if_pos (by decide)]
    exact ⟨g, rfl, fun x a b => by omega, fun _ _ => rfl, GA.refl⟩
  | succ d ih =>
    intro c fu g hc hfu P
    obtain ⟨fu, rfl⟩ : ∃ z, fu = z + 1 := ⟨fu - 1, by omega⟩
    have hc7 : c < 7 := by omega
    have e1 : fSx_tellWords_64n N ln (fu + 1) g (nI c) = fSx_tellWords_64n N ln fu (gI (gI g 48 (5 + c) (if c < n then k c else -1)) 48 (12 + c) (if c < n then k (7 + c) else -1)) (nI (c + 1)) := by
      rw [fSx_tellWords_64n, if_neg (show ¬ (7 : Int32) ≤ nI c from nI_ge (b := 7) hc7 (by decide)), P.1, K.hn]
      by_cases h : c < n
      · rw [if_neg (nI_ge h (by omega)), fSx_tellWords_86n, if_neg n10, rd_nI hc7 (by decide), show g.1 2 c = _ from (P.2.1 c hc7).1, fSx_tellWords_111n, show (5 : Int32) + nI c = nI (5 + c) from nI_add 5 c, wr_nI (by omega) (by decide), if_neg n10, rd_nI hc7 (by decide), show (gI g 48 (5 + c) (k c)).1 4 c = g.1 4 c from by rw [gI_at, if_neg (by omega)], show g.1 4 c = _ from (P.2.1 c hc7).2.2, show (12 : Int32) + nI c = nI (12 + c) from nI_add 12 c, wr_nI (by omega) (by decide), nm, nI_1, if_pos h, if_pos h]
      · rw [if_pos (nI_le (by omega) (by omega)), fSx_tellWords_86n, if_pos rfl, fSx_tellWords_111n, show (5 : Int32) + nI c = nI (5 + c) from nI_add 5 c, wr_nI (by omega) (by decide), if_pos rfl, show (12 : Int32) + nI c = nI (12 + c) from nI_add 12 c, wr_nI (by omega) (by decide), nm, nI_1, if_neg h, if_neg h]
    have f0 : GA 48 48 g (gI (gI g 48 (5 + c) (if c < n then k c else -1)) 48 (12 + c) (if c < n then k (7 + c) else -1)) := (GA.put (Nat.le_refl _) (Nat.le_refl _)).trans (GA.put (Nat.le_refl _) (Nat.le_refl _))
    obtain ⟨g', q1, q2, q3, q4⟩ := ih (c + 1) fu _ (by omega) (by omega) (P.ga f0 (by decide) (by decide))
    refine ⟨g', e1.trans q1, fun x a b => ?_, fun x hx => ?_, f0.trans q4⟩
    · by_cases hx : x = c
      · subst hx
        refine ⟨(q3 (5 + x) (by omega)).trans ?_, (q3 (12 + x) (by omega)).trans ?_⟩
        · rw [gI_at, if_neg (show ¬ (48 = 48 ∧ 5 + x = 12 + x) by omega), gI_at]; exact if_pos ⟨rfl, rfl⟩
        · rw [gI_at]; exact if_pos ⟨rfl, rfl⟩
      · exact q2 x (by omega) b
    · rw [q3 x (by omega), gI_at, if_neg (by omega), gI_at, if_neg (by omega)]
theorem words_x (hN : 3000 ≤ N) {g : sw_g} (K : KI k Lw n w L) (P : PQ ln M g 1 k Lw L) : ∃ g', fSx_tellWords N ln g = some g' ∧ (∀ x, x < 19 → g'.1 48 x = Wo k (lawAt Lw (k 46)) n (g.1 48 1) (g.1 48 2) x) ∧ (∀ p, (p < 43 ∨ 45 < p) → p ≠ 48 → g'.1 p = g.1 p) ∧ g'.2.2 = g.2.2 := by
  have hn7 := K.n7
  have hon := onB_lt (k := k) (n := n) 7
  generalize hg1 : gI g 48 0 (k 14) = g1
  obtain ⟨a1, b1, c1, d1⟩ := putF hg1
  have P1 : PQ ln M g1 1 k Lw L := P.ga (show GA 48 48 g g1 from ⟨fun p hp => a1 p (by omega), by rw [d1]⟩) (by decide) (by decide)
  obtain ⟨t, t1, t2⟩ := textOf_eq P1 K.hL K.L6 (a := k 46) K.fo
  obtain ⟨g2, y1, y2⟩ := tiltBy_eq hN P1 K (by decide) t2
  have P2 := P1.ga y2 (by decide) (by decide)
  generalize hg3 : gI g2 48 3 (tiltK k (lawAt Lw (k 46)) n) = g3
  obtain ⟨a3, b3, c3, d3⟩ := putF hg3
  have P3 : PQ ln M g3 1 k Lw L := P2.ga (show GA 48 48 g2 g3 from ⟨fun p hp => a3 p (by omega), by rw [d3]⟩) (by decide) (by decide)
  generalize hg4 : gI g3 48 4 (nI (pcn (onB k n 7))) = g4
  obtain ⟨a4, b4, c4, d4⟩ := putF hg4
  have P4 : PQ ln M g4 1 k Lw L := P3.ga (show GA 48 48 g3 g4 from ⟨fun p hp => a4 p (by omega), by rw [d4]⟩) (by decide) (by decide)
  have fin : ∀ g' : sw_g, ((∀ x, 0 ≤ x → x < 7 → g'.1 48 (5 + x) = (if x < n then k x else -1) ∧ g'.1 48 (12 + x) = (if x < n then k (7 + x) else -1)) ∧ (∀ x, x < 5 + 0 ∨ (12 ≤ x ∧ x < 12 + 0) → g'.1 48 x = g4.1 48 x) ∧ GA 48 48 g4 g') → (∀ x, x < 19 → g'.1 48 x = Wo k (lawAt Lw (k 46)) n (g.1 48 1) (g.1 48 2) x) ∧ (∀ p, (p < 43 ∨ 45 < p) → p ≠ 48 → g'.1 p = g.1 p) ∧ g'.2.2 = g.2.2 := by
    intro g' ⟨q1, q2, q3⟩
    refine ⟨fun x hx => ?_, fun p hp hp' => ?_, ?_⟩
    · unfold Wo
      by_cases h5 : x < 5
      · rw [q2 x (by omega)]
        rcases (show x = 0 ∨ x = 1 ∨ x = 2 ∨ x = 3 ∨ x = 4 by omega) with rfl | rfl | rfl | rfl | rfl
        · rw [if_pos rfl, b4 0 (by decide), b3 0 (by decide), y2.1 48 (by decide), c1]
        · rw [if_neg (by decide), if_pos rfl, b4 1 (by decide), b3 1 (by decide), y2.1 48 (by decide), b1 1 (by decide)]
        · rw [if_neg (by decide), if_neg (by decide), if_pos rfl, b4 2 (by decide), b3 2 (by decide), y2.1 48 (by decide), b1 2 (by decide)]
        · rw [if_neg (by decide), if_neg (by decide), if_neg (by decide), if_pos rfl, b4 3 (by decide), c3]
        · rw [if_neg (by decide), if_neg (by decide), if_neg (by decide), if_neg (by decide), if_pos rfl, c4]
      · rw [if_neg (by omega), if_neg (by omega), if_neg (by omega), if_neg (by omega), if_neg (by omega)]
        by_cases h12 : x < 12
        · rw [if_pos h12]
          have := (q1 (x - 5) (Nat.zero_le _) (by omega)).1
          rwa [show 5 + (x - 5) = x by omega] at this
        · rw [if_neg h12]
          have := (q1 (x - 12) (Nat.zero_le _) (by omega)).2
          rwa [show 12 + (x - 12) = x by omega] at this
    · rw [q3.1 p (by omega), a4 p hp', a3 p hp', y2.1 p hp, a1 p hp']
    · rw [q3.2, d4, d3, y2.2, d1]
  rw [fSx_tellWords, rd_K 0 0 4 (by decide) (by decide), show g.1 5 0 = _ from P.2.2.1.1, wr_K 0 0 19 (by decide) (by decide), hg1, show g1.1 1 11 = k 46 from P1.2.2.2.2.2.2.1, t1, Option.bind_some]
  cases t with
  | none =>
    obtain ⟨g', z1, z2, z3, z4⟩ := tw_64n (N := N) (ln := ln) (M := M) K 7 0 N g4 rfl (by omega) P4
    refine ⟨g', ?_, fin g' ⟨z2, z3, z4⟩⟩
    simp only
    rw [y1, Option.bind_some]
    simp only []
    rw [wr_K 3 3 19 (by decide) (by decide), hg3, onBits_eq hN P3 K, Option.bind_some]
    simp only []
    rw [bitCount_eq _ hon, Option.bind_some, wr_K 4 4 19 (by decide) (by decide), hg4]
    exact z1
  | some p =>
    obtain ⟨g', z1, z2, z3, z4⟩ := tw_64 (N := N) (ln := ln) (M := M) K 7 0 N g4 rfl (by omega) P4
    refine ⟨g', ?_, fin g' ⟨z2, z3, z4⟩⟩
    simp only
    rw [y1, Option.bind_some]
    simp only []
    rw [wr_K 3 3 19 (by decide) (by decide), hg3, onBits_eq hN P3 K, Option.bind_some]
    simp only []
    rw [bitCount_eq _ hon, Option.bind_some, wr_K 4 4 19 (by decide) (by decide), hg4]
    exact z1
theorem st_at {μ : sw_m} {i b : Int32} {p j : Nat} (h : p = 84 → j ≠ 22 ∧ j ≠ 24) : (st μ i b).1 p j = μ.1 p j := by
  unfold st
  rw [mI_at, if_neg (fun q => (h q.1).2 q.2), mI_at, if_neg (fun q => (h q.1).1 q.2)]
/-- the words as the reference finds them: the tilt is what was set -/
def WR (μ : sw_m) (Lw : Nat → List Cl) (n x : Nat) : Int32 := if x = 3 then μ.1 84 29 else Wo (μ.1 86) (lawAt Lw (μ.1 86 46)) n (μ.1 84 27) (μ.1 84 28) x
theorem words_m (hN : 3000 ≤ N) {μ : sw_m} (K : KI (μ.1 86) Lw n w L) {x : Nat} (hx : x < 19) (i b : Int32) : fMo_orderValue N (st μ i b) (nI (owc x)) (nI (owk x)) = some (WR μ Lw n x, st μ i b) := by
  have hn7 := K.n7
  have K' : KI ((st μ i b).1 86) Lw n w L := by rw [st_86]; exact K
  unfold WR Wo
  by_cases h5 : x < 5
  · rcases (show x = 0 ∨ x = 1 ∨ x = 2 ∨ x = 3 ∨ x = 4 by omega) with rfl | rfl | rfl | rfl | rfl
    · rw [fMo_orderValue, if_neg (by decide), if_pos (show nI (owc 0) = 15 from rfl), rd_K 14 14 5654 (by decide) (by decide), st_86]; rfl
    · rw [fMo_orderValue, if_neg (by decide), if_neg (by decide), if_pos (show nI (owc 1) = 16 from rfl), st_at (by omega)]; rfl
    · rw [fMo_orderValue, if_neg (by decide), if_neg (by decide), if_neg (by decide), if_pos (show nI (owc 2) = 17 from rfl), st_at (by omega)]; rfl
    · rw [fMo_orderValue, if_neg (by decide), if_neg (by decide), if_neg (by decide), if_neg (by decide), if_pos (show nI (owc 3) = 18 from rfl), st_at (by omega)]; rfl
    · rw [fMo_orderValue, if_neg (by decide), if_neg (by decide), if_neg (by decide), if_neg (by decide), if_neg (by decide), if_pos (show nI (owc 4) = 19 from rfl), fMo_orderValue_110, monMany_eq hN K', Option.bind_some, st_86]; rfl
  · rw [if_neg (by omega), if_neg (by omega), if_neg (by omega), if_neg (by omega), if_neg (by omega), if_neg (by omega)]
    by_cases h12 : x < 12
    · have e1 : owc x = 14 := by unfold owc; rw [if_neg h5, if_pos h12]
      have e2 : owk x = x - 5 := by unfold owk; rw [if_neg h5, if_pos h12]
      rw [if_pos h12, e1, e2, fMo_orderValue, if_pos (show nI 14 = 14 from rfl)]
      by_cases hc : x - 5 < n
      · rw [misClaim_yes K' hc, Option.bind_some, if_pos hc]
        simp only [n10, if_false]
        rw [i00, rd_nI (by omega) (by decide), st_86]
      · rw [misClaim_no K' (fun d hd e => by have := (nI_eq (by omega) (by omega)).1 e; omega), Option.bind_some, if_neg hc]
        simp only [if_true]
    · have e1 : owc x = 20 := by unfold owc; rw [if_neg h5, if_neg h12]
      have e2 : owk x = x - 12 := by unfold owk; rw [if_neg h5, if_neg h12]
      rw [if_neg h12, e1, e2, fMo_orderValue, if_neg (by decide), if_neg (by decide), if_neg (by decide), if_neg (by decide), if_neg (by decide), if_neg (by decide), if_pos (show nI 20 = 20 from rfl)]
      by_cases hc : x - 12 < n
      · rw [misClaim_yes K' hc, Option.bind_some, if_pos hc]
        simp only [n10, if_false]
        rw [i7, rd_nI (by omega) (by decide), st_86]
      · rw [misClaim_no K' (fun d hd e => by have := (nI_eq (by omega) (by omega)).1 e; omega), Option.bind_some, if_neg hc]
        simp only [if_true]
end
