/-! ===== off: the walk; byTurns ===== -/
/-- the lowest that is so -/
def First (f : Nat → Bool) (m : Nat) (v : Int32) : Prop := (v = -1 ∧ ∀ x, x < m → f x = false) ∨ (∃ x, x < m ∧ v = nI x ∧ f x = true ∧ ∀ y, y < x → f y = false)
theorem First.uniq {f : Nat → Bool} {m : Nat} {v v' : Int32} (h : First f m v) (h' : First f m v') : v = v' := by
  rcases h with ⟨rfl, a⟩ | ⟨x, a, rfl, b, c⟩
  · rcases h' with ⟨rfl, _⟩ | ⟨y, a', rfl, b', c'⟩
    · rfl
    · rw [a y a'] at b'; exact absurd b' (by decide)
  · rcases h' with ⟨rfl, a'⟩ | ⟨y, a', rfl, b', c'⟩
    · rw [a' x a] at b; exact absurd b (by decide)
    · have h1 : ¬ x < y := fun q => by rw [c' x q] at b; exact absurd b (by decide)
      have h2 : ¬ y < x := fun q => by rw [c y q] at b'; exact absurd b' (by decide)
      rw [show x = y by omega]
theorem First.up {f : Nat → Bool} {m m' : Nat} {v : Int32} (h : First f m v) (hm : m ≤ m') (hf : ∀ x, m ≤ x → x < m' → f x = false) : First f m' v := by
  rcases h with ⟨rfl, a⟩ | ⟨x, a, rfl, b, c⟩
  · exact .inl ⟨rfl, fun x hx => by
      by_cases q : x < m
      · exact a x q
      · exact hf x (by omega) hx⟩
  · exact .inr ⟨x, by omega, rfl, b, c⟩
theorem mask_off : ∀ c, c < 7 → ∀ b, b < 128 → b / 2 ^ c % 2 = 1 → nI b &&& (nI (2 ^ c) ^^^ (-1 : Int32)) = nI (b - 2 ^ c) := by decide +kernel
section
variable {N : Nat} {ln : Nat → Nat} {M : Nat} {k : Nat → Int32} {Lw : Nat → List Cl} {n w L : Nat}
def fO (A T : Nat → Int32) (sl : Int32) (b : Nat) : Nat → Bool := fun c => okO T sl b c && decide (A (b - 2 ^ c) ≠ 0)
theorem fwo_2 {g : sw_g} (P : PQ ln M g 1 k Lw L) {b : Nat} (hb : b < 128) (hS : small7 (g.1 82) b) : ∀ (d c fu : Nat), c + d = 7 → d < fu → (∀ x, x < c → fO (g.1 82) (g.1 81) (k 42) b x = false) → ∃ v, fSx_firstWithOrders_2 N ln fu g (nI b) (nI c) = some (v, g) ∧ First (fO (g.1 82) (g.1 81) (k 42) b) 7 v := by
  intro d
  induction d with
  | zero =>
    intro c fu h hfu hx
    obtain ⟨fu, rfl⟩ : ∃ z, fu = z + 1 := ⟨fu - 1, by omega⟩
    obtain rfl : c = 7 := by omega
    rw [fSx_firstWithOrders_2, if_pos (by decide)]
    exact ⟨-1, rfl, .inl ⟨rfl, hx⟩⟩
  | succ d ih =>
    intro c fu h hfu hx
    obtain ⟨fu, rfl⟩ : ∃ z, fu = z + 1 := ⟨fu - 1, by omega⟩
    have hc7 : c < 7 := by omega
    have nx : fO (g.1 82) (g.1 81) (k 42) b c = false → ∃ v, fSx_firstWithOrders_2 N ln fu g (nI b) (nI (c + 1)) = some (v, g) ∧ First (fO (g.1 82) (g.1 81) (k 42) b) 7 v := fun q => ih (c + 1) fu (by omega) (by omega) (fun x hx' => by
      by_cases e : x = c
      · subst e; exact q
      · exact hx x (by omega))
    rw [fSx_firstWithOrders_2, if_neg (show ¬ (7 : Int32) ≤ nI c from nI_ge (b := 7) hc7 (by decide)), canTake_eq P hb hc7, Option.bind_some]
    by_cases ho : okO (g.1 81) (k 42) b c = true
    · obtain ⟨s1, s2, s3, s4, s5⟩ := sub_bit c hc7 b hb (okO_bit ho)
      obtain ⟨a, a1, a2⟩ := hS (b - 2 ^ c) s4
      have ha : a ≤ 823543 := Nat.le_trans a1 (pow7 (pcn_7 _ (by omega)).1)
      simp only [ho, if_true, n10, if_false]
      rw [sh_1 c (by omega), pk_sub s1, rd_nI (by omega) (by decide), a2]
      by_cases h0 : a = 0
      · rw [if_pos (by rw [h0]; decide)]
        simp only [nm, nI_1]
        exact nx (by unfold fO; rw [ho, a2, h0]; rfl)
      · rw [if_neg (nI_nle (by omega) (by omega))]
        exact ⟨nI c, rfl, .inr ⟨c, hc7, rfl, by unfold fO; rw [ho, a2]; simp [nI_ne0 (show 0 < a by omega) (by omega)], hx⟩⟩
    · simp only [ho, if_false, if_true, nm, nI_1, Bool.false_eq_true]
      exact nx (by unfold fO; simp [ho])
theorem moff_58 {k44 : sw_m → Int32 → Int32 → Int32 → Int32 → Option (Int32 × sw_m)} {μ : sw_m} {i kk : Int32} {b x : Nat} (hb : b < 128) (hx : x < 7) (hf : fO (μ.1 104) (μ.1 103) (μ.1 86 42) b x = true) (hy : ∀ y, y < x → fO (μ.1 104) (μ.1 103) (μ.1 86 42) b y = false) : ∀ (d c fu : Nat), c + d = x → d < fu → fMo_off_58 N k44 fu μ i (nI b) (nI c) kk = k44 μ i (nI (b - 2 ^ x)) (nI x) (kk + 1) := by
  intro d
  induction d with
  | zero =>
    intro c fu h hfu
    obtain ⟨fu, rfl⟩ : ∃ z, fu = z + 1 := ⟨fu - 1, by omega⟩
    obtain rfl : c = x := by omega
    unfold fO at hf
    simp only [Bool.and_eq_true, decide_eq_true_eq] at hf
    obtain ⟨s1, s2, s3, s4, s5⟩ := sub_bit c hx b hb (okO_bit hf.1)
    rw [fMo_off_58, canOff_eq hb hx, Option.bind_some]
    simp only [hf.1, if_true, n10, if_false]
    rw [sh_1 c (by omega), nI_xor, s2, rd_nI (by omega) (by decide), if_neg hf.2]
    simp only [nm]
  | succ d ih =>
    intro c fu h hfu
    obtain ⟨fu, rfl⟩ : ∃ z, fu = z + 1 := ⟨fu - 1, by omega⟩
    have hc := hy c (by omega)
    have hc7 : c < 7 := by omega
    rw [fMo_off_58, canOff_eq hb hc7, Option.bind_some]
    by_cases ho : okO (μ.1 103) (μ.1 86 42) b c = true
    · obtain ⟨s1, s2, s3, s4, s5⟩ := sub_bit c hc7 b hb (okO_bit ho)
      have h0 : μ.1 104 (b - 2 ^ c) = 0 := by
        unfold fO at hc; rw [ho] at hc; simpa using hc
      simp only [ho, if_true, n10, if_false]
      rw [sh_1 c (by omega), nI_xor, s2, rd_nI (by omega) (by decide), if_pos h0]
      simp only [nm, nI_1]
      exact ih (c + 1) fu (by omega) (by omega)
    · simp only [ho, if_false, if_true, nm, nI_1, Bool.false_eq_true]
      exact ih (c + 1) fu (by omega) (by omega)
/-- if there are orders, there is one that comes first -/
theorem oS_pos {A T : Nat → Int32} {sl : Int32} {b : Nat} : ∀ c, oS A T sl b c ≠ 0 → ∃ x, x < c ∧ fO A T sl b x = true := by
  intro c
  induction c with
  | zero => intro h; exact absurd rfl h
  | succ c ih =>
    intro h
    by_cases hc : fO A T sl b c = true
    · exact ⟨c, by omega, hc⟩
    · have : oS A T sl b (c + 1) = oS A T sl b c := by
        rw [show oS A T sl b (c + 1) = oS A T sl b c + (if okO T sl b c then A (b - 2 ^ c) else 0) from rfl]
        by_cases ho : okO T sl b c = true
        · have h0 : A (b - 2 ^ c) = 0 := by unfold fO at hc; rw [ho] at hc; simpa using hc
          rw [if_pos ho, h0, Int32.add_zero]
        · rw [if_neg ho, Int32.add_zero]
      rw [this] at h
      obtain ⟨x, x1, x2⟩ := ih h
      exact ⟨x, by omega, x2⟩
theorem first_ex {f : Nat → Bool} {m : Nat} (h : ∃ x, x < m ∧ f x = true) : ∃ x, x < m ∧ f x = true ∧ ∀ y, y < x → f y = false := by
  induction m with
  | zero => obtain ⟨x, hx, _⟩ := h; omega
  | succ m ih =>
    by_cases hm : ∃ x, x < m ∧ f x = true
    · obtain ⟨x, a, b, c⟩ := ih hm; exact ⟨x, by omega, b, c⟩
    · obtain ⟨x, hx, hf⟩ := h
      have : x = m := by
        by_cases q : x < m
        · exact absurd ⟨x, q, hf⟩ hm
        · omega
      subst this
      refine ⟨x, by omega, hf, fun y hy => ?_⟩
      cases hfy : f y with
      | false => rfl
      | true => exact absurd ⟨y, hy, hfy⟩ hm
theorem fO_cong {A A' T T' : Nat → Int32} {sl : Int32} {b c : Nat} (hA : ∀ s, s < b → A s = A' s) (hT : ∀ s, s < b → T s = T' s) : fO A T sl b c = fO A' T' sl b c := by
  unfold fO
  rw [okO_cong hT]
  cases h : okO T' sl b c with
  | false => rfl
  | true =>
    have hb := okO_bit h
    have h2 := Nat.two_pow_pos c
    have : 0 < b := by
      rcases Nat.eq_zero_or_pos b with q | q
      · subst q; simp at hb
      · exact q
    rw [hA _ (by omega)]
theorem off_walk (hN : 3000 ≤ N) {g : sw_g} {μ : sw_m} (hk : μ.1 86 = k) (P : PQ ln M g 1 k Lw L) {on : Nat} (hon : on < 128) (hT : ∀ s, s ≤ on → g.1 81 s = μ.1 103 s) (hA : ∀ s, s ≤ on → g.1 82 s = μ.1 104 s) (hS : small7 (g.1 82) (on + 1)) (hR : ∀ s, 1 ≤ s → s ≤ on → g.1 82 s = oS (g.1 82) (g.1 81) (k 42) s 7) {i : Nat} (hi : i < 2 ^ 31) : ∀ (q b t fu fm : Nat) (c : Int32), pcn b = q → b ≤ on → g.1 82 b ≠ 0 → t + q ≤ 7 → q < fu → q < fm → ∃ v, fMo_off_44 N fm μ (nI i) (nI b) c (nI t) = some (v, μ) ∧ (i < t + q → fSx_off_57 N ln fu g (nI i) (nI b) c (nI t) = some (v, g)) ∧ (t + q ≤ i → v = -1) := by
  intro q
  induction q with
  | zero =>
    intro b t fu fm c hq hb hv ht hfu hfm
    obtain ⟨fu, rfl⟩ : ∃ z, fu = z + 1 := ⟨fu - 1, by omega⟩
    obtain ⟨fm, rfl⟩ : ∃ z, fm = z + 1 := ⟨fm - 1, by omega⟩
    have hb0 : b = 0 := (pcn_7 b (by omega)).2.1 hq
    subst hb0
    rw [fMo_off_44, fSx_off_57]
    by_cases hit : i < t
    · rw [if_pos (nI_lt hit (by omega)), if_pos (nI_lt hit (by omega))]
      exact ⟨c, rfl, fun _ => rfl, fun x => by omega⟩
    · rw [if_neg (nI_nlt (by omega) hi), if_pos (show nI 0 = 0 from rfl)]
      exact ⟨-1, rfl, fun x => by omega, fun _ => rfl⟩
  | succ q ih =>
    intro b t fu fm c hq hb hv ht hfu hfm
    obtain ⟨fu, rfl⟩ : ∃ z, fu = z + 1 := ⟨fu - 1, by omega⟩
    obtain ⟨fm, rfl⟩ : ∃ z, fm = z + 1 := ⟨fm - 1, by omega⟩
    have hb0 : b ≠ 0 := fun e => by have := (pcn_7 b (by omega)).2.2 e; omega
    rw [fMo_off_44, fSx_off_57]
    by_cases hit : i < t
    · rw [if_pos (nI_lt hit (by omega)), if_pos (nI_lt hit (by omega))]
      exact ⟨c, rfl, fun _ => rfl, fun x => by omega⟩
    · rw [if_neg (nI_nlt (by omega) hi), if_neg (nI_nlt (by omega) hi), if_neg (nI_ne0 (by omega) (by omega))]
      have hv' := hv
      rw [hR b (by omega) hb] at hv'
      obtain ⟨x, x1, x2, x3⟩ := first_ex (oS_pos 7 hv')
      have hc : ∀ y, fO (μ.1 104) (μ.1 103) (μ.1 86 42) b y = fO (g.1 82) (g.1 81) (k 42) b y := fun y => by
        rw [hk]; exact fO_cong (fun s hs => (hA s (by omega)).symm) (fun s hs => (hT s (by omega)).symm)
      have hbit : b / 2 ^ x % 2 = 1 := by
        have := x2; unfold fO at this; simp only [Bool.and_eq_true] at this; exact okO_bit this.1
      obtain ⟨s1, s2, s3, s4, s5⟩ := sub_bit x x1 b (by omega) hbit
      have e1 := moff_58 (N := N) (k44 := fMo_off_44 N fm) (i := nI i) (kk := nI t) (show b < 128 by omega) x1 (by rw [hc]; exact x2) (fun y hy => by rw [hc]; exact x3 y hy) x 0 N (by omega) (by omega)
      rw [show fMo_off_58 N (fMo_off_44 N fm) N μ (nI i) (nI b) 0 (nI t) = _ from e1, nI_1]
      obtain ⟨v, v1, v2⟩ := fwo_2 (N := N) P (show b < 128 by omega) (fun s hs => hS s (by omega)) 7 0 N rfl (by omega) (fun y hy => absurd hy (by omega))
      have hvx : v = nI x := v2.uniq (.inr ⟨x, x1, rfl, x2, x3⟩)
      subst hvx
      have hne : g.1 82 (b - 2 ^ x) ≠ 0 := by
        have := x2; unfold fO at this; simp only [Bool.and_eq_true, decide_eq_true_eq] at this; exact this.2
      obtain ⟨v', r1, r2, r3⟩ := ih (b - 2 ^ x) (t + 1) fu fm (nI x) (by omega) (by omega) hne (by omega) (by omega) (by omega)
      refine ⟨v', r1, fun y => ?_, fun y => r3 (by omega)⟩
      rw [fSx_firstWithOrders, show fSx_firstWithOrders_2 N ln N g (nI b) 0 = _ from v1, Option.bind_some]
      simp only []
      rw [if_neg (nI_nm1 (by omega))]
      simp only [nm]
      rw [sh_1 x (by omega), mask_off x x1 b (by omega) hbit]
      exact r2 (by omega)
theorem GU.g82 {g g' : sw_g} (h : ∀ p, p ≠ 82 → g'.1 p = g.1 p) (h2 : g'.2 = g.2) : GU g g' := ⟨⟨fun p hp => h p (by omega), by rw [h2]⟩, by rw [h 81 (by decide)]⟩
theorem off_CR (hN : 3000 ≤ N) {g : sw_g} {μ : sw_m} (h : RR ln M g μ) (a : Int32) : CR ln M (fSx_off N ln g a) (fMo_off N μ a) := by
  have h0 := h
  obtain ⟨Lw, n, w, L, K, P, h1, h2, h3, h4, h5⟩ := h
  have hn7 := K.n7
  have hlt := onB_lt (k := μ.1 86) (n := n) 7
  have hltn : onB (μ.1 86) n 7 < 2 ^ n := by
    have := onB_lt (k := μ.1 86) (n := n) n
    rwa [onB_7 hn7] at this
  generalize hon : onB (μ.1 86) n 7 = on at *
  obtain ⟨g1, e1, e2, e3⟩ := sumTilts_eq hN K P h5.2.2
  have P1 := P.gu e3
  obtain ⟨μ1, t1, t2, t3⟩ := tilts_eq hN K
  rw [hon] at t2
  have K1 : KI (μ1.1 86) Lw n w L := by rw [t3.k]; exact K
  have hTT : ∀ s, s ≤ on → g1.1 81 s = μ1.1 103 s := fun s hs => by rw [e2 s (by omega), t2 s hs]
  -- the counts
  have hex : ∃ g2 μ2, fSx_findOrders N ln g1 (nI on) = some g2 ∧ fMo_laysOff N μ = some μ2 ∧ (∀ s, s ≤ on → g2.1 82 s = μ2.1 104 s) ∧ small7 (g2.1 82) (on + 1) ∧ (∀ s, 1 ≤ s → s ≤ on → g2.1 82 s = oS (g2.1 82) (g2.1 81) (μ.1 86 42) s 7) ∧ (∀ p, p ≠ 82 → g2.1 p = g1.1 p) ∧ g2.2 = g1.2 ∧ (∀ p j, p ≠ 104 → μ2.1 p j = μ1.1 p j) := by
    have K2 : KI ((mI μ1 104 0 1).1 86) Lw n w L := by
      rw [show (mI μ1 104 0 1).1 86 = μ1.1 86 by funext j; rw [mI_at, if_neg (by omega)]]; exact K1
    obtain ⟨μ3, q1, q2, q3⟩ := lo_33 (N := N) (Lw := Lw) (n := n) (w := w) (L := L) (k11 := fMo_laysOff_11 N (N - 1)) (on := on) (b := 0) (by decide) (Nat.two_pow_pos n) (i0' := 1) (A := fun _ => 0) (T := fun _ => 0) (sl := (mI μ1 104 0 1).1 86 42) n 0 N (mI μ1 104 0 1) (by omega) (by omega) K2 rfl (fun s hs => absurd hs (by omega)) (fun s hs => absurd hs (by omega)) (by rw [mI_at, if_pos ⟨rfl, rfl⟩]; rfl)
    have hz : ∀ c, oS (fun _ => 0) (fun _ => 0) ((mI μ1 104 0 1).1 86 42) 0 c = 0 := by
      intro c
      induction c with
      | zero => rfl
      | succ c ih => rw [show oS (fun _ => 0) (fun _ => 0) ((mI μ1 104 0 1).1 86 42) 0 (c + 1) = oS (fun _ => 0) (fun _ => 0) ((mI μ1 104 0 1).1 86 42) 0 c + (if okO (fun _ => 0) ((mI μ1 104 0 1).1 86 42) 0 c then 0 else 0) from rfl, ih]; split <;> rfl
    rw [hz] at q2
    have u : fMo_laysOff_11 N (N - 1 + 1) μ1 (nI on) 0 = fMo_laysOff_33 N (fMo_laysOff_11 N (N - 1)) N (mI μ1 104 0 1) (nI on) 0 0 := by
      rw [fMo_laysOff_11, if_neg (show ¬ nI on < 0 from nI_pos (by omega)), if_pos rfl, wr_K 0 0 128 (by decide) (by decide)]
    rw [show N - 1 + 1 = N by omega] at u
    have m3 : ∀ p j, p ≠ 104 → μ3.1 p j = μ1.1 p j := fun p j hp => by rw [q3 p j (by omega), mI_at, if_neg (by omega)]
    obtain ⟨g2, μ2, r1, r2, r3, r4, r5, r6, r7, r8, r9⟩ := orders_loop (N := N) (ln := ln) (M := M) (k := μ.1 86) (Lw := Lw) (n := n) (w := w) (L := L) hN hlt hltn on 1 N (N - 1) (gI g1 82 0 1) μ3 (by omega) (by omega) (by omega) (by omega) (by rw [← t3.k]; exact funext fun j => m3 86 j (by decide)) K P1.g82 (fun s hs => by rw [gI_at, if_neg (by omega), m3 103 s (by decide)]; exact hTT s hs) (fun s hs => by
      obtain rfl : s = 0 := by omega
      rw [gI_at, if_pos ⟨rfl, rfl⟩, q2]; rfl) (fun s hs => by
      obtain rfl : s = 0 := by omega
      exact ⟨1, by decide, by rw [gI_at, if_pos ⟨rfl, rfl⟩]; rfl⟩)
    refine ⟨g2, μ2, ?_, ?_, r3, r4, fun s a b => r5 s (by omega) a b, fun p hp => by rw [r7 p hp]; funext j; rw [gI_at, if_neg (by omega)], by rw [r8]; rfl, fun p j hp => by rw [r9 p j hp, m3 p j hp]⟩
    · rw [fSx_findOrders, wr_K 0 0 128 (by decide) (by decide)]; exact r1
    · rw [fMo_laysOff, t1, Option.bind_some, monNow_eq hN K1, Option.bind_some, t3.k, hon]
      exact (u.trans q1).trans r2
  obtain ⟨g2, μ2, x1, x2, x3, x4, x5, x6, x7, x8⟩ := hex
  have P2 : PQ ln M g2 1 (μ.1 86) Lw L := P1.gu (GU.g82 x6 x7)
  have hG : GU g g2 := e3.trans (GU.g82 x6 x7)
  have k2 : μ2.1 86 = μ.1 86 := by rw [← t3.k]; exact funext fun j => x8 86 j (by decide)
  have hM : MS μ μ2 := t3.MS.trans (fun p j a b c => x8 p j (by omega))
  rw [fSx_off, fMo_off, onBits_eq hN P K, Option.bind_some, hon]
  simp only []
  rw [e1, Option.bind_some, x1, Option.bind_some]
  by_cases am : a = -1
  · subst am
    rw [if_pos rfl, if_pos (by decide), x2, Option.bind_some, monNow_eq hN (by rw [k2]; exact K), Option.bind_some, k2, hon]
    simp only [if_true]
    rw [rd_nI (by omega) (by decide), rd_nI (by omega) (by decide), x3 on (Nat.le_refl _)]
    exact h0.ask ⟨g2, rfl, hG⟩ ⟨μ2, rfl, hM⟩
  · rw [if_neg am]
    by_cases a0 : a < 0
    · rw [if_pos a0, if_neg (show ¬ (-1 : Int32) ≤ a from ?_)]
      · exact h0.ask ⟨g2, rfl, hG⟩ ⟨μ, rfl, MS.refl⟩
      · rw [Int32.lt_iff_toInt_lt, i0] at a0
        rw [Int32.le_iff_toInt_le]
        have : a.toInt ≠ -1 := fun e => am (Int32.toInt_inj.1 e)
        show ¬ (-1 : Int) ≤ a.toInt
        omega
    · obtain ⟨i, hi, rfl⟩ := nI_of a0
      rw [if_neg a0, if_pos (show (-1 : Int32) ≤ nI i from by rw [Int32.le_iff_toInt_le, nI_toInt hi]; show (-1 : Int) ≤ i; omega), x2, Option.bind_some, monNow_eq hN (by rw [k2]; exact K), Option.bind_some, k2, hon]
      simp only [am, if_false]
      rw [bitCount_eq on hlt, Option.bind_some, rd_nI (by omega) (by decide), rd_nI (by omega) (by decide), ← x3 on (Nat.le_refl _)]
      have hp7 := (pcn_7 on hlt).1
      by_cases hv : g2.1 82 on = 0
      · rw [if_pos hv, if_pos hv]
        refine h0.ask ⟨g2, ?_, hG⟩ ⟨μ2, rfl, hM⟩
        split <;> rfl
      · rw [if_neg hv, if_neg hv]
        obtain ⟨v, r1, r2, r3⟩ := off_walk (N := N) hN k2 P2 hlt (fun s hs => by rw [x6 81 (by decide), x8 103 s (by decide)]; exact hTT s hs) x3 x4 x5 hi (pcn on) on 0 N N (-1) rfl (Nat.le_refl _) hv (by omega) (by omega) (by omega)
        rw [show fMo_off_44 N N μ2 (nI i) (nI on) (-1) 0 = _ from r1]
        by_cases hpi : pcn on ≤ i
        · rw [if_pos (nI_le hpi hi), r3 (by omega)]
          exact h0.ask ⟨g2, rfl, hG⟩ ⟨μ2, rfl, hM⟩
        · rw [if_neg (nI_ge (by omega) (by omega)), show fSx_off_57 N ln N g2 (nI i) (nI on) (-1) 0 = _ from r2 (by omega)]
          exact h0.ask ⟨g2, rfl, hG⟩ ⟨μ2, rfl, hM⟩
/-! who wins by turns -/
def fW (A T : Nat → Int32) (sl : Int32) (b : Nat) : Nat → Bool := fun c => okO T sl b c && decide (A (b - 2 ^ c) = 0)
theorem fW_cong {A A' T T' : Nat → Int32} {sl : Int32} {b c : Nat} (hA : ∀ s, s < b → A s = A' s) (hT : ∀ s, s < b → T s = T' s) : fW A T sl b c = fW A' T' sl b c := by
  unfold fW
  rw [okO_cong hT]
  cases h : okO T' sl b c with
  | false => rfl
  | true =>
    have hb := okO_bit h
    have h2 := Nat.two_pow_pos c
    have : 0 < b := by
      rcases Nat.eq_zero_or_pos b with q | q
      · subst q; simp at hb
      · exact q
    rw [hA _ (by omega)]
theorem wc_2 {g : sw_g} (P : PQ ln M g 1 k Lw L) {b : Nat} (hb : b < 128) : ∀ (d c fu : Nat), c + d = 7 → d < fu → (∀ x, x < c → fW (g.1 82) (g.1 81) (k 42) b x = false) → ∃ v, fSx_winningClaim_2 N ln fu g (nI b) (nI c) = some (v, g) ∧ First (fW (g.1 82) (g.1 81) (k 42) b) 7 v := by
  intro d
  induction d with
  | zero =>
    intro c fu h hfu hx
    obtain ⟨fu, rfl⟩ : ∃ z, fu = z + 1 := ⟨fu - 1, by omega⟩
    obtain rfl : c = 7 := by omega
    rw [fSx_winningClaim_2, if_pos (by decide)]
    exact ⟨-1, rfl, .inl ⟨rfl, hx⟩⟩
  | succ d ih =>
    intro c fu h hfu hx
    obtain ⟨fu, rfl⟩ : ∃ z, fu = z + 1 := ⟨fu - 1, by omega⟩
    have hc7 : c < 7 := by omega
    have nx : fW (g.1 82) (g.1 81) (k 42) b c = false → ∃ v, fSx_winningClaim_2 N ln fu g (nI b) (nI (c + 1)) = some (v, g) ∧ First (fW (g.1 82) (g.1 81) (k 42) b) 7 v := fun q => ih (c + 1) fu (by omega) (by omega) (fun x hx' => by
      by_cases e : x = c
      · subst e; exact q
      · exact hx x (by omega))
    rw [fSx_winningClaim_2, if_neg (show ¬ (7 : Int32) ≤ nI c from nI_ge (b := 7) hc7 (by decide)), canTake_eq P hb hc7, Option.bind_some]
    by_cases ho : okO (g.1 81) (k 42) b c = true
    · obtain ⟨s1, s2, s3, s4, s5⟩ := sub_bit c hc7 b hb (okO_bit ho)
      simp only [ho, if_true, n10, if_false]
      rw [sh_1 c (by omega), pk_sub s1, rd_nI (by omega) (by decide)]
      by_cases h0 : g.1 82 (b - 2 ^ c) = 0
      · rw [if_pos h0]
        exact ⟨nI c, rfl, .inr ⟨c, hc7, rfl, by unfold fW; rw [ho, h0]; rfl, hx⟩⟩
      · rw [if_neg h0]
        simp only [nm, nI_1]
        exact nx (by unfold fW; simp [h0])
    · simp only [ho, if_false, if_true, nm, nI_1, Bool.false_eq_true]
      exact nx (by unfold fW; simp [ho])
/-- the lowest from c on -/
theorem mwins_9 {μ : sw_m} {b : Nat} (hb : b < 128) : ∀ (c fu : Nat) (v : Int32), c ≤ 7 → c < fu → ((v = -1 ∧ ∀ x, c ≤ x → x < n → fW (μ.1 105) (μ.1 103) (μ.1 86 42) b x = false) ∨ (∃ x, c ≤ x ∧ x < n ∧ v = nI x ∧ fW (μ.1 105) (μ.1 103) (μ.1 86 42) b x = true ∧ ∀ y, c ≤ y → y < x → fW (μ.1 105) (μ.1 103) (μ.1 86 42) b y = false)) → c ≤ n → ∃ v', fMo_winsBy_9 N fu μ (nI b) v (nI c + (-1)) = some (v', μ) ∧ First (fW (μ.1 105) (μ.1 103) (μ.1 86 42) b) n v' := by
  intro c
  induction c with
  | zero =>
    intro fu v h7 hfu hv hn
    obtain ⟨fu, rfl⟩ : ∃ z, fu = z + 1 := ⟨fu - 1, by omega⟩
    rw [fMo_winsBy_9, if_pos (by decide)]
    refine ⟨v, rfl, ?_⟩
    rcases hv with ⟨a, b'⟩ | ⟨x, a, b', c', d', e'⟩
    · exact .inl ⟨a, fun x hx => b' x (Nat.zero_le _) hx⟩
    · exact .inr ⟨x, b', c', d', fun y hy => e' y (Nat.zero_le _) hy⟩
  | succ c ih =>
    intro fu v h7 hfu hv hn
    obtain ⟨fu, rfl⟩ : ∃ z, fu = z + 1 := ⟨fu - 1, by omega⟩
    have hc7 : c < 7 := by omega
    rw [pk_m1, fMo_winsBy_9, if_neg (nI_pos (by omega)), canOff_eq hb hc7, Option.bind_some]
    have stay : fW (μ.1 105) (μ.1 103) (μ.1 86 42) b c = false → ∃ v', fMo_winsBy_9 N fu μ (nI b) v (nI c + (-1)) = some (v', μ) ∧ First (fW (μ.1 105) (μ.1 103) (μ.1 86 42) b) n v' := by
      intro q
      refine ih fu v (by omega) (by omega) ?_ (by omega)
      rcases hv with ⟨a, b'⟩ | ⟨x, a, b', c', d', e'⟩
      · exact .inl ⟨a, fun x h1 h2 => by
          by_cases e : x = c
          · subst e; exact q
          · exact b' x (by omega) h2⟩
      · exact .inr ⟨x, by omega, b', c', d', fun y h1 h2 => by
          by_cases e : y = c
          · subst e; exact q
          · exact e' y (by omega) h2⟩
    by_cases ho : okO (μ.1 103) (μ.1 86 42) b c = true
    · obtain ⟨s1, s2, s3, s4, s5⟩ := sub_bit c hc7 b hb (okO_bit ho)
      simp only [ho, if_true, n10, if_false]
      rw [sh_1 c (by omega), nI_xor, s2, rd_nI (by omega) (by decide)]
      by_cases h0 : μ.1 105 (b - 2 ^ c) = 0
      · rw [if_pos h0]
        simp only [nm]
        exact ih fu (nI c) (by omega) (by omega) (.inr ⟨c, Nat.le_refl _, by omega, rfl, by unfold fW; rw [ho, h0]; rfl, fun y h1 h2 => by omega⟩) (by omega)
      · rw [if_neg h0]
        simp only [nm]
        exact stay (by unfold fW; simp [h0])
    · simp only [ho, if_false, if_true, nm, Bool.false_eq_true]
      exact stay (by unfold fW; simp [ho])
theorem mwins_eq (hN : 3000 ≤ N) {μ : sw_m} (K : KI (μ.1 86) Lw n w L) {b : Nat} (hb : b < 128) : ∃ v, fMo_winsBy N μ (nI b) = some (v, μ) ∧ First (fW (μ.1 105) (μ.1 103) (μ.1 86 42) b) n v := by
  have hn7 := K.n7
  obtain ⟨v, h1, h2⟩ := mwins_9 (N := N) (n := n) (μ := μ) hb n N (-1) hn7 (by omega) (.inl ⟨rfl, fun x a b => by omega⟩) (Nat.le_refl _)
  refine ⟨v, ?_, h2⟩
  rw [fMo_winsBy, many_eq K, Option.bind_some]
  simp only [nm]
  rw [Int32.sub_eq_add_neg]
  exact h1
theorem fW_n {A T : Nat → Int32} {sl : Int32} {b : Nat} (hb : b < 2 ^ n) {x : Nat} (hx : n ≤ x) : fW A T sl b x = false := by
  unfold fW
  cases h : okO T sl b x with
  | false => rfl
  | true => exact absurd (okO_bit h) (no_bit hb hx)
/-- both find who wins -/
theorem win_both (hN : 3000 ≤ N) {g : sw_g} {μ : sw_m} (hk : μ.1 86 = k) (K : KI k Lw n w L) (P : PQ ln M g 1 k Lw L) {b : Nat} (hb : b < 128) (hbn : b < 2 ^ n) (hT : ∀ s, s < b → g.1 81 s = μ.1 103 s) (hA : ∀ s, s < b → g.1 82 s = μ.1 105 s) : ∃ v, fSx_winningClaim N ln g (nI b) = some (v, g) ∧ fMo_winsBy N μ (nI b) = some (v, μ) := by
  have hn7 := K.n7
  obtain ⟨v, v1, v2⟩ := wc_2 (N := N) P hb 7 0 N rfl (by omega) (fun x hx => absurd hx (by omega))
  obtain ⟨v', u1, u2⟩ := mwins_eq (N := N) (Lw := Lw) (w := w) (L := L) (n := n) hN (by rw [hk]; exact K) hb
  have hf : fW (μ.1 105) (μ.1 103) (μ.1 86 42) b = fW (g.1 82) (g.1 81) (k 42) b := by
    funext c; rw [hk]; exact fW_cong (fun s hs => (hA s hs).symm) (fun s hs => (hT s hs).symm)
  rw [hf] at u2
  have := v2.uniq (u2.up hn7 (fun x a _ => fW_n hbn a))
  subst this
  exact ⟨v, v1, u1⟩
theorem wins_loop (hN : 3000 ≤ N) {on : Nat} (hon : on < 128) (hon' : on < 2 ^ n) {what : Int32} : ∀ (d b fu fm : Nat) (g : sw_g) (μ : sw_m), b + d = on + 1 → 1 ≤ b → d < fu → d < fm → μ.1 86 = k → KI k Lw n w L → PQ ln M g 1 k Lw L → (∀ s, s ≤ on → g.1 81 s = μ.1 103 s) → (∀ s, s < b → g.1 82 s = μ.1 105 s) → (∀ s, s < b → g.1 82 s = 0 ∨ g.1 82 s = 1) → ∃ g' μ' fm', 0 < fm' ∧ fSx_findWins_9 N ln fu g (nI on) (nI b) = some g' ∧ fMo_byTurns_22 N fm μ what (nI on) (nI b) = fMo_byTurns_22 N fm' μ' what (nI on) (nI (on + 1)) ∧ (∀ s, s ≤ on → g'.1 82 s = μ'.1 105 s) ∧ (∀ s, s ≤ on → g'.1 82 s = 0 ∨ g'.1 82 s = 1) ∧ (∀ p, p ≠ 82 → g'.1 p = g.1 p) ∧ g'.2 = g.2 ∧ (∀ p j, p ≠ 105 → μ'.1 p j = μ.1 p j) := by
  intro d
  induction d with
  | zero =>
    intro b fu fm g μ h h1 hfu hfm hk K P hT hA h01
    obtain ⟨fu, rfl⟩ : ∃ z, fu = z + 1 := ⟨fu - 1, by omega⟩
    obtain rfl : b = on + 1 := by omega
    rw [fSx_findWins_9, if_pos (nI_lt (by omega) (by omega))]
    exact ⟨g, μ, fm, hfm, rfl, rfl, fun s hs => hA s (by omega), fun s hs => h01 s (by omega), fun _ _ => rfl, rfl, fun _ _ _ => rfl⟩
  | succ d ih =>
    intro b fu fm g μ h h1 hfu hfm hk K P hT hA h01
    obtain ⟨fu, rfl⟩ : ∃ z, fu = z + 1 := ⟨fu - 1, by omega⟩
    obtain ⟨fm, rfl⟩ : ∃ z, fm = z + 1 := ⟨fm - 1, by omega⟩
    have hb : b < 128 := by omega
    obtain ⟨v, v1, v2⟩ := win_both hN hk K P hb (by omega) (fun s hs => hT s (by omega)) hA
    rw [fSx_findWins_9, if_neg (nI_nlt (by omega) (by omega)), v1, fMo_byTurns_22, if_neg (nI_nlt (by omega) (by omega)), v2, Option.bind_some, Option.bind_some]
    simp only []
    have fin : ∀ r : Int32, (r = 0 ∨ r = 1) → ∃ g' μ' fm', 0 < fm' ∧ fSx_findWins_9 N ln fu (gI g 82 b r) (nI on) (nI (b + 1)) = some g' ∧ fMo_byTurns_22 N fm (mI μ 105 b r) what (nI on) (nI (b + 1)) = fMo_byTurns_22 N fm' μ' what (nI on) (nI (on + 1)) ∧ (∀ s, s ≤ on → g'.1 82 s = μ'.1 105 s) ∧ (∀ s, s ≤ on → g'.1 82 s = 0 ∨ g'.1 82 s = 1) ∧ (∀ p, p ≠ 82 → g'.1 p = g.1 p) ∧ g'.2 = g.2 ∧ (∀ p j, p ≠ 105 → μ'.1 p j = μ.1 p j) := by
      intro r hr
      have e82 : ∀ s, (gI g 82 b r).1 82 s = if s = b then r else g.1 82 s := fun s => by rw [gI_at]; simp
      have e105 : ∀ s, (mI μ 105 b r).1 105 s = if s = b then r else μ.1 105 s := fun s => by rw [mI_at]; simp
      obtain ⟨g', μ', fm', r0, r1, r2, r3, r4, r5, r6, r7⟩ := ih (b + 1) fu fm (gI g 82 b r) (mI μ 105 b r) (by omega) (by omega) (by omega) (by omega) (by rw [← hk]; funext j; rw [mI_at, if_neg (by omega)]) K P.g82 (fun s hs => by rw [gI_at, if_neg (by omega), mI_at, if_neg (by omega)]; exact hT s hs) (fun s hs => by
          rw [e82, e105]
          by_cases q : s = b
          · rw [if_pos q, if_pos q]
          · rw [if_neg q, if_neg q]; exact hA s (by omega)) (fun s hs => by
          rw [e82]
          by_cases q : s = b
          · rw [if_pos q]; exact hr
          · rw [if_neg q]; exact h01 s (by omega))
      exact ⟨g', μ', fm', r0, r1, r2, r3, r4, fun p hp => by rw [r5 p hp]; funext j; rw [gI_at, if_neg (by omega)], r6, fun p j hp => by rw [r7 p j hp, mI_at, if_neg (by omega)]⟩
    by_cases hv : v = -1
    · rw [if_pos hv, if_pos hv, wr_nI hb (by decide), wr_nI hb (by decide), nI_1]
      exact fin 0 (.inl rfl)
    · rw [if_neg hv, if_neg hv, wr_nI hb (by decide), wr_nI hb (by decide), nI_1]
      exact fin 1 (.inr rfl)
theorem lies01 (a : Int32) : (fMo_lies a 0 1 = some 1 ∧ (a = 0 ∨ a = 1)) ∨ (fMo_lies a 0 1 = some 0 ∧ a ≠ 0 ∧ a ≠ 1) := by
  by_cases h : a = 0 ∨ a = 1
  · left; refine ⟨?_, h⟩; rcases h with rfl | rfl <;> rfl
  · right
    simp only [not_or] at h
    refine ⟨?_, h⟩
    rw [fMo_lies]
    split
    · rfl
    · split
      · rfl
      · rename_i y z
        exfalso
        rw [Int32.lt_iff_toInt_lt] at y z
        have y' : ¬ a.toInt < 0 := y
        have z' : ¬ 1 < a.toInt := z
        have : a.toInt = 0 ∨ a.toInt = 1 := by omega
        rcases this with q | q
        · exact h.1 (Int32.toInt_inj.1 q)
        · exact h.2 (Int32.toInt_inj.1 q)
theorem byTurns_CR (hN : 3000 ≤ N) {g : sw_g} {μ : sw_m} (h : RR ln M g μ) (a : Int32) : CR ln M (fSx_byTurns N ln g a) (fMo_byTurns N μ a) := by
  have h0 := h
  obtain ⟨Lw, n, w, L, K, P, h1, h2, h3, h4, h5⟩ := h
  have hn7 := K.n7
  have hlt := onB_lt (k := μ.1 86) (n := n) 7
  have hltn : onB (μ.1 86) n 7 < 2 ^ n := by
    have := onB_lt (k := μ.1 86) (n := n) n
    rwa [onB_7 hn7] at this
  generalize hon : onB (μ.1 86) n 7 = on at *
  obtain ⟨g1, e1, e2, e3⟩ := sumTilts_eq hN K P h5.2.2
  have P1 := P.gu e3
  obtain ⟨μ1, t1, t2, t3⟩ := tilts_eq hN K
  rw [hon] at t2
  have K1 : KI (μ1.1 86) Lw n w L := by rw [t3.k]; exact K
  have hTT : ∀ s, s ≤ on → g1.1 81 s = μ1.1 103 s := fun s hs => by rw [e2 s (by omega), t2 s hs]
  -- who is next with none on doesn't win
  obtain ⟨v0, z1, z2⟩ := mwins_eq (N := N) hN K1 (b := 0) (by decide)
  have hv0 : v0 = -1 := z2.uniq (.inl ⟨rfl, fun x hx => by
    unfold fW okO; simp⟩)
  subst hv0
  have u : fMo_byTurns_22 N (N - 1 + 1) μ1 a (nI on) 0 = fMo_byTurns_22 N (N - 1) (mI μ1 105 0 0) a (nI on) (nI 1) := by
    rw [fMo_byTurns_22, if_neg (show ¬ nI on < 0 from nI_pos (by omega)), show fMo_winsBy N μ1 0 = _ from z1, Option.bind_some]
    simp only [if_true]
    rw [wr_K 0 0 128 (by decide) (by decide)]
    rfl
  rw [show N - 1 + 1 = N by omega] at u
  obtain ⟨g2, μ2, fm', r0, r1, r2, r3, r4, r5, r6, r7⟩ := wins_loop (N := N) (ln := ln) (M := M) (k := μ.1 86) (Lw := Lw) (n := n) (w := w) (L := L) (what := a) hN hlt hltn on 1 N (N - 1) (gI g1 82 0 0) (mI μ1 105 0 0) (by omega) (by omega) (by omega) (by omega) (by rw [← t3.k]; funext j; rw [mI_at, if_neg (by omega)]) K P1.g82 (fun s hs => by rw [gI_at, if_neg (by omega), mI_at, if_neg (by omega)]; exact hTT s hs) (fun s hs => by
    obtain rfl : s = 0 := by omega
    rw [gI_at, if_pos ⟨rfl, rfl⟩, mI_at, if_pos ⟨rfl, rfl⟩]) (fun s hs => by
    obtain rfl : s = 0 := by omega
    rw [gI_at, if_pos ⟨rfl, rfl⟩]; exact .inl rfl)
  have x6 : ∀ p, p ≠ 82 → g2.1 p = g1.1 p := fun p hp => by rw [r5 p hp]; funext j; rw [gI_at, if_neg (by omega)]
  have x7 : g2.2 = g1.2 := by rw [r6]; rfl
  have x8 : ∀ p j, p ≠ 105 → μ2.1 p j = μ1.1 p j := fun p j hp => by rw [r7 p j hp, mI_at, if_neg (by omega)]
  have P2 : PQ ln M g2 1 (μ.1 86) Lw L := P1.gu (GU.g82 x6 x7)
  have hG : GU g g2 := e3.trans (GU.g82 x6 x7)
  have k2 : μ2.1 86 = μ.1 86 := by rw [← t3.k]; exact funext fun j => x8 86 j (by decide)
  have hM : MS μ μ2 := t3.MS.trans (fun p j a b c => x8 p j (by omega))
  have ef : fSx_findWins N ln g1 (nI on) = some g2 := by rw [fSx_findWins, wr_K 0 0 128 (by decide) (by decide)]; exact r1
  rw [fSx_byTurns, onBits_eq hN P K, Option.bind_some, hon]
  simp only []
  rw [e1, Option.bind_some, ef, Option.bind_some]
  rcases lies01 a with ⟨q, ha⟩ | ⟨q, ha⟩
  · obtain ⟨fm, rfl⟩ : ∃ z, fm' = z + 1 := ⟨fm' - 1, by omega⟩
    have em : fMo_byTurns N μ a = fMo_byTurns_22 N (fm + 1) μ2 a (nI on) (nI (on + 1)) := by
      rw [fMo_byTurns, q, Option.bind_some, if_neg n10, t1, Option.bind_some, monNow_eq hN K1, Option.bind_some, t3.k, hon]
      exact u.trans r2
    rw [em, fMo_byTurns_22, if_pos (nI_lt (by omega) (by omega))]
    rcases ha with rfl | rfl
    · rw [if_pos rfl, if_neg (by decide), rd_nI (by omega) (by decide), rd_nI (by omega) (by decide), ← r3 on (Nat.le_refl _)]
      rcases r4 on (Nat.le_refl _) with q' | q' <;> rw [q']
      · exact h0.ask ⟨g2, rfl, hG⟩ ⟨μ2, rfl, hM⟩
      · exact h0.ask ⟨g2, rfl, hG⟩ ⟨μ2, rfl, hM⟩
    · obtain ⟨v, v1, v2⟩ := win_both (N := N) hN k2 K P2 hlt hltn (fun s hs => by rw [x6 81 (by decide), x8 103 s (by decide)]; exact hTT s (by omega)) (fun s hs => r3 s (by omega))
      rw [if_neg (by decide), if_pos rfl, if_pos rfl, v1, v2]
      exact h0.ask ⟨g2, rfl, hG⟩ ⟨μ2, rfl, hM⟩
  · rw [if_neg ha.1, if_neg ha.2, fMo_byTurns, q, Option.bind_some, if_pos rfl]
    exact h0.ask ⟨g2, rfl, hG⟩ ⟨μ, rfl, MS.refl⟩
end
