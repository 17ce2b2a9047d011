/-! ===== sums over sets of claims; shares ===== -/
def sW (wt : Nat → Int32) (s : Nat) : Nat → Int32
  | 0 => 0
  | c + 1 => sW wt s c + (if s / 2 ^ c % 2 = 1 then wt c else 0)
theorem sW_cong {wt wt' : Nat → Int32} {s : Nat} : ∀ c, (∀ x, x < c → wt x = wt' x) → sW wt s c = sW wt' s c := by
  intro c
  induction c with
  | zero => intro _; rfl
  | succ c ih =>
    intro h
    rw [show sW wt s (c + 1) = sW wt s c + (if s / 2 ^ c % 2 = 1 then wt c else 0) from rfl, show sW wt' s (c + 1) = sW wt' s c + (if s / 2 ^ c % 2 = 1 then wt' c else 0) from rfl, ih (fun x hx => h x (by omega)), h c (by omega)]
theorem sW_low {wt : Nat → Int32} {s m : Nat} (hs : s < 2 ^ m) : ∀ d, sW wt s (m + d) = sW wt s m := by
  intro d
  induction d with
  | zero => rfl
  | succ d ih =>
    have : s / 2 ^ (m + d) = 0 := Nat.div_eq_of_lt (Nat.lt_of_lt_of_le hs (Nat.pow_le_pow_right (by decide) (by omega)))
    rw [show sW wt s (m + (d + 1)) = sW wt s (m + d) + (if s / 2 ^ (m + d) % 2 = 1 then wt (m + d) else 0) from rfl, this, ih]
    simp
theorem bit_hi {s m : Nat} (hs : s < 2 ^ m) : (2 ^ m + s) / 2 ^ m % 2 = 1 := by
  rw [Nat.add_div_left _ (Nat.two_pow_pos m), Nat.div_eq_of_lt hs]
theorem bit_lo {s m c : Nat} (hc : c < m) : (2 ^ m + s) / 2 ^ c % 2 = s / 2 ^ c % 2 := by
  obtain ⟨e, rfl⟩ : ∃ e, m = c + 1 + e := ⟨m - (c + 1), by omega⟩
  rw [show 2 ^ (c + 1 + e) = 2 ^ c * (2 * 2 ^ e) by rw [Nat.pow_add, Nat.pow_succ, Nat.mul_assoc], Nat.mul_add_div (Nat.two_pow_pos c), Nat.mul_add_mod]
theorem sW_hi {wt : Nat → Int32} {s m : Nat} (hs : s < 2 ^ m) : sW wt (2 ^ m + s) (m + 1) = sW wt s m + wt m := by
  have : ∀ c, c ≤ m → sW wt (2 ^ m + s) c = sW wt s c := by
    intro c
    induction c with
    | zero => intro _; rfl
    | succ c ih =>
      intro hc
      rw [show sW wt (2 ^ m + s) (c + 1) = sW wt (2 ^ m + s) c + (if (2 ^ m + s) / 2 ^ c % 2 = 1 then wt c else 0) from rfl, show sW wt s (c + 1) = sW wt s c + (if s / 2 ^ c % 2 = 1 then wt c else 0) from rfl, ih (by omega), bit_lo (by omega)]
  rw [show sW wt (2 ^ m + s) (m + 1) = sW wt (2 ^ m + s) m + (if (2 ^ m + s) / 2 ^ m % 2 = 1 then wt m else 0) from rfl, this m (Nat.le_refl _), if_pos (bit_hi hs)]
theorem hS_sW {k : Nat → Int32} {n s : Nat} : ∀ c, hS k n s c = sW (fun x => if x < n then k x else 0) s c := by
  intro c
  induction c with
  | zero => rfl
  | succ c ih =>
    rw [show hS k n s (c + 1) = hS k n s c + (if c < n ∧ s / 2 ^ c % 2 = 1 then k c else 0) from rfl, show sW (fun x => if x < n then k x else 0) s (c + 1) = sW (fun x => if x < n then k x else 0) s c + (if s / 2 ^ c % 2 = 1 then (if c < n then k c else 0) else 0) from rfl, ih]
    congr 1
    by_cases h1 : c < n <;> by_cases h2 : s / 2 ^ c % 2 = 1 <;> simp [h1, h2]
def G81 (g g' : sw_g) : Prop := (∀ p, p ≠ 81 → g'.1 p = g.1 p) ∧ g'.1 81 0 = g.1 81 0 ∧ g'.2 = g.2
theorem G81.refl {g : sw_g} : G81 g g := ⟨fun _ _ => rfl, rfl, rfl⟩
theorem G81.trans {g g1 g2 : sw_g} (a : G81 g g1) (b : G81 g1 g2) : G81 g g2 := ⟨fun p h => (b.1 p h).trans (a.1 p h), b.2.1.trans a.2.1, b.2.2.trans a.2.2⟩
theorem G81.GU {g g' : sw_g} (a : G81 g g') : GU g g' := ⟨⟨fun p h => a.1 p (by omega), by rw [a.2.2]⟩, a.2.1⟩
def SumsTo (g : sw_g) (wt : Nat → Int32) (c : Nat) : Prop := ∀ s, s < 2 ^ c → g.1 81 s = sW wt s c
section
variable {N : Nat} {ln : Nat → Nat} {M : Nat} {k : Nat → Int32} {Lw : Nat → List Cl} {n w L : Nat}
theorem PQ.g81 {g g' : sw_g} {q : Nat} (P : PQ ln M g q k Lw L) (h : G81 g g') (hq : q + 8 < 81) : PQ ln M g' q k Lw L := P.frame (fun p a b => h.1 p (by omega)) (fun p a _ => h.1 p (by omega)) (by rw [h.2.2]) (by rw [h.2.2])
theorem sumWith_7 {c : Nat} (hc : c < 7) {wt : Int32} : ∀ (d lo fu : Nat) (g : sw_g), lo + d = 2 ^ c → d < fu → ∃ g', fSx_sumWith_7 N ln fu g wt (nI (2 ^ c)) (nI lo) = some g' ∧ (∀ s, lo ≤ s → s < 2 ^ c → g'.1 81 (2 ^ c + s) = g.1 81 s + wt) ∧ (∀ j, j < 2 ^ c + lo → g'.1 81 j = g.1 81 j) ∧ (∀ p, p ≠ 81 → g'.1 p = g.1 p) ∧ g'.2 = g.2 := by
  have hp := pow_le7 (show c + 1 ≤ 7 by omega)
  rw [Nat.pow_succ] at hp
  intro d
  induction d with
  | zero =>
    intro lo fu g h hfu
    obtain ⟨fu, rfl⟩ : ∃ z, fu = z + 1 := ⟨fu - 1, by omega⟩
    rw [fSx_sumWith_7, if_pos (nI_le (by omega) (by omega))]
    exact ⟨g, rfl, fun s a b => by omega, fun _ _ => rfl, fun _ _ => rfl, rfl⟩
  | succ d ih =>
    intro lo fu g h hfu
    obtain ⟨fu, rfl⟩ : ∃ z, fu = z + 1 := ⟨fu - 1, by omega⟩
    rw [fSx_sumWith_7, if_neg (nI_ge (by omega) (by omega)), rd_nI (by omega) (by decide), nI_add, wr_nI (by omega) (by decide)]
    simp only [nm, nI_1]
    obtain ⟨g', q1, q2, q3, q4, q5⟩ := ih (lo + 1) fu (gI g 81 (2 ^ c + lo) (g.1 81 lo + wt)) (by omega) (by omega)
    refine ⟨g', q1, fun s a b => ?_, fun j hj => ?_, fun p hp => ?_, q5⟩
    · by_cases hs : s = lo
      · subst hs; rw [q3 _ (by omega), gI_at, if_pos ⟨rfl, rfl⟩]
      · rw [q2 s (by omega) b, gI_at, if_neg (by omega)]
    · rw [q3 j (by omega), gI_at, if_neg (by omega)]
    · rw [q4 p hp]; funext j; rw [gI_at, if_neg (by omega)]
theorem sumWith_eq (hN : 3000 ≤ N) {g : sw_g} {c : Nat} (hc : c < 7) {wt : Nat → Int32} (h : SumsTo g wt c) : ∃ g', fSx_sumWith N ln g (nI c) (wt c) = some g' ∧ SumsTo g' wt (c + 1) ∧ G81 g g' := by
  have hp := pow_le7 (show c + 1 ≤ 7 by omega)
  rw [Nat.pow_succ] at hp
  have h1 := Nat.two_pow_pos c
  obtain ⟨g', q1, q2, q3, q4, q5⟩ := sumWith_7 (N := N) (ln := ln) hc (wt := wt c) (2 ^ c) 0 N g (by omega) (by omega)
  refine ⟨g', ?_, fun s hs => ?_, q4, q3 0 (by omega), q5⟩
  · rw [fSx_sumWith, nm, sh_1 c (by omega)]; exact q1
  · rw [Nat.pow_succ] at hs
    by_cases hl : s < 2 ^ c
    · rw [q3 s (by omega), h s hl, show sW wt s (c + 1) = sW wt s (c + 1) from rfl, sW_low hl 1]
    · obtain ⟨x, rfl⟩ : ∃ x, s = 2 ^ c + x := ⟨s - 2 ^ c, by omega⟩
      rw [q2 x (Nat.zero_le _) (by omega), h x (by omega), sW_hi (by omega)]
theorem sumHeavies_2 (hN : 3000 ≤ N) (K : KI k Lw n w L) : ∀ (d c fu : Nat) (g : sw_g), c + d = 7 → d < fu → PQ ln M g 1 k Lw L → SumsTo g (fun x => if x < n then k x else 0) c → ∃ g', fSx_sumHeavies_2 N ln fu g (nI c) = some g' ∧ SumsTo g' (fun x => if x < n then k x else 0) 7 ∧ G81 g g' := by
  intro d
  induction d with
  | zero =>
    intro c fu g hc hfu P h
    obtain ⟨fu, rfl⟩ : ∃ z, fu = z + 1 := ⟨fu - 1, by omega⟩
    obtain rfl : c = 7 := by omega
    rw [fSx_sumHeavies_2, if_pos (by decide)]
    exact ⟨g, rfl, h, G81.refl⟩
  | succ d ih =>
    intro c fu g hc hfu P h
    obtain ⟨fu, rfl⟩ : ∃ z, fu = z + 1 := ⟨fu - 1, by omega⟩
    have hc7 : c < 7 := by omega
    obtain ⟨g1, e1, e2, e3⟩ := sumWith_eq (ln := ln) hN hc7 h
    obtain ⟨g', q1, q2, q3⟩ := ih (c + 1) fu g1 (by omega) (by omega) (P.g81 e3 (by decide)) e2
    refine ⟨g', ?_, q2, e3.trans q3⟩
    rw [fSx_sumHeavies_2, if_neg (show ¬ (7 : Int32) ≤ nI c from nI_ge (b := 7) hc7 (by decide)), hasClaim_c P K hc7, Option.bind_some]
    by_cases hcn : c < n
    · simp only [hcn, if_true] at e1
      simp only [hcn, if_true, n10, if_false]
      rw [rd_nI hc7 (by decide), show g.1 2 c = _ from (P.2.1 c hc7).1, fSx_sumHeavies_34, e1, Option.bind_some]
      simp only [nm, nI_1]; exact q1
    · simp only [hcn, if_false] at e1
      simp only [hcn, if_true, if_false]
      rw [fSx_sumHeavies_34, e1, Option.bind_some]
      simp only [nm, nI_1]; exact q1
theorem sumHeavies_eq (hN : 3000 ≤ N) {g : sw_g} (K : KI k Lw n w L) (P : PQ ln M g 1 k Lw L) (h81 : g.1 81 0 = 0) : ∃ g', fSx_sumHeavies N ln g = some g' ∧ (∀ s, s < 128 → g'.1 81 s = hS k n s 7) ∧ G81 g g' := by
  have h0 : SumsTo g (fun x => if x < n then k x else 0) 0 := by
    intro s hs
    have : s = 0 := by simpa using hs
    rw [this, h81]; rfl
  obtain ⟨g', q1, q2, q3⟩ := sumHeavies_2 hN K 7 0 N g rfl (by omega) P h0
  exact ⟨g', q1, fun s hs => by rw [q2 s hs, hS_sW], q3⟩
end
/-! ranges -/
theorem hS_rng {k : Nat → Int32} {Lw : Nat → List Cl} {n w L : Nat} (K : KI k Lw n w L) {s : Nat} : ∀ c, ∃ z : Nat, z ≤ 30 * c ∧ hS k n s c = nI z := by
  intro c
  induction c with
  | zero => exact ⟨0, by decide, rfl⟩
  | succ c ih =>
    obtain ⟨z, z1, z2⟩ := ih
    rw [show hS k n s (c + 1) = hS k n s c + (if c < n ∧ s / 2 ^ c % 2 = 1 then k c else 0) from rfl, z2]
    by_cases h : c < n ∧ s / 2 ^ c % 2 = 1
    · obtain ⟨⟨a, a1, a2, a3⟩, _⟩ := K.co.1 c h.1
      rw [if_pos h, a1, nI_add]; exact ⟨z + a, by omega, rfl⟩
    · rw [if_neg h, Int32.add_zero]; exact ⟨z, by omega, rfl⟩
theorem hD_rng {k : Nat → Int32} {Lw : Nat → List Cl} {n w L : Nat} (K : KI k Lw n w L) (s t : Nat) : ∃ z : Int, -210 ≤ z ∧ z ≤ 210 ∧ hS k n s 7 - hS k n t 7 = zI z := by
  obtain ⟨a, a1, a2⟩ := hS_rng K (s := s) 7
  obtain ⟨b, b1, b2⟩ := hS_rng K (s := t) 7
  rw [a2, b2, ← zI_nat, ← zI_nat, zI_sub]
  exact ⟨(a : Int) - b, by omega, by omega, rfl⟩
theorem xor_all : ∀ n, n ≤ 7 → ∀ s, s < 128 → s ≤ 2 ^ n - 1 → (2 ^ n - 1) ^^^ s = 2 ^ n - 1 - s := by decide +kernel
section
variable {N : Nat} {ln : Nat → Nat} {M : Nat} {Lw : Nat → List Cl} {n w L : Nat}
theorem lies02 (a : Int32) : (fMo_lies a 0 2 = some 1 ∧ (a = 0 ∨ a = 1 ∨ a = 2)) ∨ (fMo_lies a 0 2 = some 0 ∧ a ≠ 0 ∧ a ≠ 1 ∧ a ≠ 2) := by
  by_cases h : a = 0 ∨ a = 1 ∨ a = 2
  · left; refine ⟨?_, h⟩; rcases h with rfl | rfl | rfl <;> rfl
  · right
    simp only [not_or] at h
    refine ⟨?_, h⟩
    rw [fMo_lies]
    split
    · rfl
    · split
      · rfl
      · rename_i y z
        exfalso
        rw [Int32.lt_iff_toInt_lt] at y z
        have y' : ¬ a.toInt < 0 := y
        have z' : ¬ 2 < a.toInt := z
        have : a.toInt = 0 ∨ a.toInt = 1 ∨ a.toInt = 2 := by omega
        rcases this with q | q | q
        · exact h.1 (Int32.toInt_inj.1 q)
        · exact h.2.1 (Int32.toInt_inj.1 q)
        · exact h.2.2 (Int32.toInt_inj.1 q)
theorem shares_loop (hN : 3000 ≤ N) {g : sw_g} {μ : sw_m} (K : KI (μ.1 86) Lw n w L) (hs : ∀ s, s < 128 → g.1 81 s = hS (μ.1 86) n s 7) (what : Int32) : ∀ (m b fu fm l : Nat) (sh wy : Int32), 2 ^ n + 1 - b ≤ m → 1 ≤ b → m < fu → m < fm → b ≤ 2 ^ n + 1 → l ≤ 210 → ∃ l' s' y', fSx_shares_41 N ln fu g what (nI (2 ^ n - 1)) (nI l) sh wy (nI b) = some (if what = 0 then l' else if what = 1 then s' else if what = 2 then y' else -1, g) ∧ fMo_shares_29 N fm μ what (nI l) sh wy (nI b) = some (if what = 0 then l' else if what = 1 then s' else y', μ) := by
  have hn7 := K.n7
  have hp := pow_le7 hn7
  have hp1 := Nat.two_pow_pos n
  intro m
  induction m with
  | zero =>
    intro b fu fm l sh wy h1 h2 hfu hfm hb hl
    obtain ⟨fu, rfl⟩ : ∃ z, fu = z + 1 := ⟨fu - 1, by omega⟩
    obtain ⟨fm, rfl⟩ : ∃ z, fm = z + 1 := ⟨fm - 1, by omega⟩
    rw [fSx_shares_41, if_pos (nI_lt (by omega) (by omega)), fMo_shares_29, every_eq K, Option.bind_some]
    simp only []
    rw [if_pos (nI_lt (by omega) (by omega))]
    refine ⟨nI l, sh, wy, ?_, ?_⟩
    · split
      · rfl
      · split
        · rfl
        · split <;> rfl
    · split
      · rfl
      · split <;> rfl
  | succ m ih =>
    intro b fu fm l sh wy h1 h2 hfu hfm hb hl
    obtain ⟨fu, rfl⟩ : ∃ z, fu = z + 1 := ⟨fu - 1, by omega⟩
    obtain ⟨fm, rfl⟩ : ∃ z, fm = z + 1 := ⟨fm - 1, by omega⟩
    by_cases hbn : 2 ^ n - 1 < b
    · rw [fSx_shares_41, if_pos (nI_lt (by omega) (by omega)), fMo_shares_29, every_eq K, Option.bind_some]
      simp only []
      rw [if_pos (nI_lt (by omega) (by omega))]
      refine ⟨nI l, sh, wy, ?_, ?_⟩
      · split
        · rfl
        · split
          · rfl
          · split <;> rfl
      · split
        · rfl
        · split <;> rfl
    · obtain ⟨z, z1, z2, z3⟩ := hD_rng K b (2 ^ n - 1 - b)
      rw [fSx_shares_41, if_neg (nI_nlt (by omega) (by omega)), rd_nI (by omega) (by decide), pk_sub (by omega), rd_nI (by omega) (by decide), hs b (by omega), hs _ (by omega), z3, jabs_z (by omega) (by omega)]
      rw [fMo_shares_29, every_eq K, Option.bind_some]
      simp only []
      rw [if_neg (nI_nlt (by omega) (by omega)), mheavy_eq hN K (by omega), Option.bind_some]
      simp only []
      rw [every_eq K, Option.bind_some]
      simp only []
      rw [nI_xor, xor_all n hn7 b (by omega) (by omega), mheavy_eq hN K (by omega), Option.bind_some]
      simp only [either_eq, Option.bind_some]
      rw [z3, jabs_z (by omega) (by omega)]
      simp only [nm]
      have i2 : nI b + (2 : Int32) = nI (b + 2) := nI_add b 2
      by_cases hlz : l ≤ z.natAbs
      · rw [if_pos (nI_le hlz (by omega)), if_pos (nI_le hlz (by omega)), fSx_shares_85, fMo_shares_76]
        simp only [nm]
        by_cases he : z.natAbs = l
        · rw [if_pos (by rw [he]), if_pos (by rw [he]), i2]
          exact ih (b + 2) fu fm l sh (wy + 1) (by omega) (by omega) (by omega) (by omega) (by omega) hl
        · rw [if_neg (fun q => he ((nI_eq (by omega) (by omega)).1 q)), if_neg (fun q => he ((nI_eq (by omega) (by omega)).1 q)), i2, Int32.add_zero]
          exact ih (b + 2) fu fm l sh wy (by omega) (by omega) (by omega) (by omega) (by omega) hl
      · rw [if_neg (nI_ge (by omega) (by omega)), if_neg (nI_ge (by omega) (by omega)), fSx_shares_85, fMo_shares_76]
        simp only [nm]
        rw [if_pos trivial, if_pos trivial, i2]
        exact ih (b + 2) fu fm z.natAbs (nI b) (0 + 1) (by omega) (by omega) (by omega) (by omega) (by omega) (by omega)
theorem shares_CR (hN : 3000 ≤ N) {g : sw_g} {μ : sw_m} (h : RR ln M g μ) (a : Int32) : CR ln M (fSx_shares N ln g a) (fMo_shares N μ a) := by
  have h0 := h
  obtain ⟨Lw, n, w, L, K, P, h1, h2, h3, h4, h5⟩ := h
  have hn7 := K.n7
  have hp := pow_le7 hn7
  rw [fSx_shares, fMo_shares, show g.1 1 0 = nI n by rw [show g.1 1 0 = _ from P.1, K.hn], many_eq K]
  by_cases hn : n = 0
  · subst hn
    rw [if_pos (show nI 0 = 0 from rfl)]
    have : ((fMo_lies a 0 2).bind fun v2 => (if v2 = 0 then some ((-1 : Int32), μ) else (some (nI 0, μ)).bind fun ⟨v5, μ4⟩ => (if v5 = 0 then some ((-1 : Int32), μ4) else fMo_shares_29 N N μ4 a (1000000 : Int32) (-1 : Int32) (0 : Int32) (1 : Int32)))) = some (-1, μ) := by
      rcases lies02 a with ⟨q, _⟩ | ⟨q, _⟩
      · rw [q]; rfl
      · rw [q]; rfl
    rw [this]
    exact h0.ask ⟨g, rfl, GU.refl⟩ ⟨μ, rfl, MS.refl⟩
  · have hp2 : 2 ≤ 2 ^ n := by
      have := pow_le7 (show 1 ≤ n by omega); omega
    rw [if_neg (nI_ne0 (by omega) (by omega))]
    obtain ⟨g1, e1, e2, e3⟩ := sumHeavies_eq hN K P h5.2.2
    have P1 := P.g81 e3 (by decide)
    rw [e1, Option.bind_some]
    simp only [nm]
    rw [show g1.1 1 0 = nI n by rw [show g1.1 1 0 = _ from P1.1, K.hn], all_eq n hn7]
    -- the first of all
    obtain ⟨z, z1, z2, z3⟩ := hD_rng K 1 (2 ^ n - 1 - 1)
    have ex : ∀ fu, fSx_shares_41 N ln (fu + 1) g1 a (nI (2 ^ n - 1)) 211 (-1) 0 1 = fSx_shares_41 N ln fu g1 a (nI (2 ^ n - 1)) (nI z.natAbs) (nI 1) (0 + 1) (nI 3) := by
      intro fu
      rw [fSx_shares_41, show (1 : Int32) = nI 1 from rfl, if_neg (nI_nlt (by omega) (by omega)), rd_nI (by omega) (by decide), pk_sub (by omega), rd_nI (by omega) (by decide), e2 1 (by omega), e2 _ (by omega), z3, jabs_z (by omega) (by omega)]
      simp only [nm]
      rw [if_neg (show ¬ (211 : Int32) ≤ nI z.natAbs from nI_ge (b := 211) (by omega) (by decide)), fSx_shares_85, if_pos rfl]
      rfl
    have em : ∀ fu, fMo_shares_29 N (fu + 1) μ a 1000000 (-1) 0 1 = fMo_shares_29 N fu μ a (nI z.natAbs) (nI 1) (0 + 1) (nI 3) := by
      intro fu
      rw [fMo_shares_29, every_eq K, Option.bind_some]
      simp only []
      rw [show (1 : Int32) = nI 1 from rfl, if_neg (nI_nlt (by omega) (by omega)), mheavy_eq (by omega) K (by omega), Option.bind_some]
      simp only []
      rw [every_eq K, Option.bind_some]
      simp only []
      rw [nI_xor, xor_all n hn7 1 (by omega) (by omega), mheavy_eq (by omega) K (by omega), Option.bind_some]
      simp only [either_eq, Option.bind_some]
      rw [z3, jabs_z (by omega) (by omega), if_neg (show ¬ (1000000 : Int32) ≤ nI z.natAbs from nI_ge (b := 1000000) (by omega) (by decide)), fMo_shares_76, if_pos rfl]
      rfl
    have ex := ex (N - 1)
    have em := em (N - 1)
    rw [show N - 1 + 1 = N by omega] at ex em
    obtain ⟨l', s', y', q1, q2⟩ := shares_loop (ln := ln) hN (g := g1) K e2 a (2 ^ n) 3 (N - 1) (N - 1) z.natAbs (nI 1) (0 + 1) (by omega) (by omega) (by omega) (by omega) (by omega) (by omega)
    rw [ex, q1]
    rcases lies02 a with ⟨q, ha⟩ | ⟨q, ha⟩
    · rw [q, Option.bind_some, if_neg n10, Option.bind_some]
      simp only []
      rw [if_neg (nI_ne0 (by omega) (by omega)), em, q2]
      refine h0.ask ⟨g1, rfl, e3.GU⟩ ⟨μ, ?_, MS.refl⟩
      rcases ha with rfl | rfl | rfl <;> rfl
    · rw [q, Option.bind_some, if_pos rfl, if_neg ha.1, if_neg ha.2.1, if_neg ha.2.2]
      exact h0.ask ⟨g1, rfl, e3.GU⟩ ⟨μ, rfl, MS.refl⟩
end
