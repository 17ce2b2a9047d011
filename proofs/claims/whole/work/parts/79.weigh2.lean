/-! ===== weigh: the loops ===== -/
theorem land_bit (a b c : Nat) : (a &&& b) / 2 ^ c % 2 = (a / 2 ^ c % 2) * (b / 2 ^ c % 2) := by
  have h := Nat.testBit_and a b c
  rw [Nat.testBit_eq_decide_div_mod_eq, Nat.testBit_eq_decide_div_mod_eq, Nat.testBit_eq_decide_div_mod_eq] at h
  rcases (show a / 2 ^ c % 2 = 0 ∨ a / 2 ^ c % 2 = 1 by omega) with h1 | h1 <;> rcases (show b / 2 ^ c % 2 = 0 ∨ b / 2 ^ c % 2 = 1 by omega) with h2 | h2 <;> rw [h1, h2] at h ⊢ <;> simp at h ⊢ <;> omega
theorem pcn_sU {x : Nat} : pcn x = sU (fun c => x / 2 ^ c % 2) 7 := by
  simp only [pcn, sU, Nat.reducePow, Nat.div_one]; omega
theorem cmp_cv {k : Nat → Int32} {n l r is : Nat} {d : Int} (h : hS k n l 7 - hS k n r 7 = zI d) (h1 : -210 ≤ d) (h2 : d ≤ 210) (hd : l &&& r = 0) : cmpI (dfK k n l r is) = nI (cv d l r is) := by
  have he := eZ_3 (is := is) hd
  rw [df_z h, cmp_z (by omega) (by omega)]
  unfold cv
  split
  · rfl
  · split <;> rfl
section
variable {N : Nat} {ln : Nat → Nat} {M : Nat} {Lw : Nat → List Cl} {n w L : Nat}
theorem mmost_29 (hN : 3000 ≤ N) {so : Nat → Bool} {l r : Nat} {d : Int} (hl : l < 128) (hr : r < 128) (hd : l &&& r = 0) (h1 : -210 ≤ d) (h2 : d ≤ 210) {k : Nat → Int32} (K : KI k Lw n w L) (hD : hS k n l 7 - hS k n r 7 = zI d) : ∀ (dd is fu : Nat) (μ : sw_m), is + dd = 15 → dd < fu → μ.1 86 = k → (∀ v, v < 3 → μ.1 106 v = nI (sU (cV so d l r v) is)) → ∃ μ', fMo_mostAlike_29 N fu μ (nI l) (nI r) (nI (cbP so 15)) (nI (max (max (sU (cV so d l r 0) is) (sU (cV so d l r 1) is)) (sU (cV so d l r 2) is))) (nI is) = some (nI (max (max (sU (cV so d l r 0) 15) (sU (cV so d l r 1) 15)) (sU (cV so d l r 2) 15)), μ') ∧ (∀ p j, p ≠ 106 → μ'.1 p j = μ.1 p j) := by
  intro dd
  induction dd with
  | zero =>
    intro is fu μ h hfu hk hc
    obtain ⟨fu, rfl⟩ : ∃ z, fu = z + 1 := ⟨fu - 1, by omega⟩
    obtain rfl : is = 15 := by omega
    rw [fMo_mostAlike_29, if_pos (by decide)]
    exact ⟨μ, rfl, fun _ _ _ => rfl⟩
  | succ dd ih =>
    intro is fu μ h hfu hk hc
    obtain ⟨fu, rfl⟩ : ∃ z, fu = z + 1 := ⟨fu - 1, by omega⟩
    have hlt := cbP_lt (so := so) 15
    have hle : ∀ v, sU (cV so d l r v) is ≤ is := fun v => sU_le (fun i => b1_le _) is
    have hs : ∀ v, sU (cV so d l r v) (is + 1) = sU (cV so d l r v) is + cV so d l r v is := fun v => rfl
    rw [fMo_mostAlike_29, if_neg (show ¬ (14 : Int32) < nI is from nI_nlt (a := 14) (by omega) (by decide)), isIn_15 hlt (by omega), cbP_bit 15 is (by omega), Option.bind_some]
    by_cases hso : so is = true
    · have hb : b1 (so is) = 1 := by rw [hso]; rfl
      rw [hb, if_pos rfl, if_neg n10]
      have hcv : ∀ v, cV so d l r v is = if cv d l r is = v then 1 else 0 := by
        intro v; unfold cV; rw [hso]
        by_cases q : cv d l r is = v
        · rw [if_pos q]; simp [q, b1]
        · rw [if_neg q]; simp [q, b1]
      have h3 : cv d l r is < 3 := by unfold cv; split <;> (try split) <;> omega
      rw [mcomes_eq (Lw := Lw) (w := w) (L := L) (n := n) hN (by rw [hk]; exact K) hl hr (by omega), Option.bind_some]
      simp only []
      rw [hk, cmp_cv hD h1 h2 hd, rd_nI h3 (by decide), wr_nI h3 (by decide), hc _ h3, nI_1, rd_nI h3 (by decide), greater_eq, Option.bind_some]
      simp only [nm, nI_1]
      generalize hμ : mI μ 106 (cv d l r is) (nI (sU (cV so d l r (cv d l r is)) is + 1)) = μ1
      have e106 : ∀ v, v < 3 → μ1.1 106 v = nI (sU (cV so d l r v) (is + 1)) := by
        intro v hv; subst hμ
        rw [mI_at, hs, hcv]
        by_cases q : v = cv d l r is
        · rw [if_pos ⟨rfl, q⟩, if_pos q.symm, q]
        · rw [if_neg (fun x => q x.2), if_neg (fun x => q x.symm), hc v hv, Nat.add_zero]
      have eo : ∀ p j, p ≠ 106 → μ1.1 p j = μ.1 p j := by intro p j hp; subst hμ; rw [mI_at, if_neg (by omega)]
      have ev : (mI μ 106 (cv d l r is) (nI (sU (cV so d l r (cv d l r is)) is + 1))).1 106 (cv d l r is) = nI (sU (cV so d l r (cv d l r is)) is + 1) := by rw [mI_at, if_pos ⟨rfl, rfl⟩]
      rw [hμ] at ev
      rw [ev, jmax_n (by have := hle 0; have := hle 1; have := hle 2; omega) (by have := hle (cv d l r is); omega)]
      obtain ⟨μ', q1, q2⟩ := ih (is + 1) fu μ1 (by omega) (by omega) (by rw [← hk]; exact funext fun j => eo 86 j (by decide)) e106
      refine ⟨μ', ?_, fun p j hp => by rw [q2 p j hp, eo p j hp]⟩
      rw [← q1, hs 0, hs 1, hs 2, hcv, hcv, hcv]
      congr 2
      rcases (show cv d l r is = 0 ∨ cv d l r is = 1 ∨ cv d l r is = 2 by omega) with q | q | q <;> rw [q] <;> simp <;> omega
    · have hb : b1 (so is) = 0 := by simp at hso; rw [hso]; rfl
      rw [hb, if_neg (show ¬ ((0 : Nat) = 1) by decide), if_pos rfl]
      simp only [nm, nI_1]
      have hz : ∀ v, sU (cV so d l r v) (is + 1) = sU (cV so d l r v) is := by
        intro v; rw [hs]; simp at hso; unfold cV; rw [hso]; rfl
      obtain ⟨μ', q1, q2⟩ := ih (is + 1) fu μ (by omega) (by omega) hk (fun v hv => by rw [hz, hc v hv])
      exact ⟨μ', by rw [← q1, hz, hz, hz], q2⟩
theorem mmost_eq (hN : 3000 ≤ N) {so : Nat → Bool} {l r : Nat} {d : Int} (hl : l < 128) (hr : r < 128) (hd : l &&& r = 0) (h1 : -210 ≤ d) (h2 : d ≤ 210) {μ : sw_m} (K : KI (μ.1 86) Lw n w L) (hD : hS (μ.1 86) n l 7 - hS (μ.1 86) n r 7 = zI d) : ∃ μ', fMo_mostAlike N μ (nI l) (nI r) (nI (cbP so 15)) = some (nI (mostN d (sU (cU so l r 1) 15) (sU (cU so l r (-1)) 15) (sU (cU so l r 0) 15)), μ') ∧ (∀ p j, p ≠ 106 → μ'.1 p j = μ.1 p j) := by
  obtain ⟨m, rfl⟩ : ∃ m, N = m + 4 := ⟨N - 4, by omega⟩
  rw [fMo_mostAlike, fMo_mostAlike_3, if_neg (by decide), wr_K 0 0 3 (by decide) (by decide)]
  simp only [nm]
  rw [fMo_mostAlike_3, if_neg (by decide), wr_K _ 1 3 (by decide) (by decide)]
  simp only [nm]
  rw [fMo_mostAlike_3, if_neg (by decide), wr_K _ 2 3 (by decide) (by decide)]
  simp only [nm]
  rw [fMo_mostAlike_3, if_pos (by decide)]
  generalize hμ : mI (mI (mI μ 106 0 0) 106 1 0) 106 2 0 = μ1
  have eo : ∀ p j, p ≠ 106 → μ1.1 p j = μ.1 p j := by intro p j hp; subst hμ; rw [mI_at, if_neg (by omega), mI_at, if_neg (by omega), mI_at, if_neg (by omega)]
  have ek : μ1.1 86 = μ.1 86 := funext fun j => eo 86 j (by decide)
  obtain ⟨μ', q1, q2⟩ := mmost_29 (N := m + 4) (so := so) hN hl hr hd h1 h2 K hD 15 0 (m + 4) μ1 rfl (by omega) ek (fun v hv => by
    subst hμ
    rcases (show v = 0 ∨ v = 1 ∨ v = 2 by omega) with rfl | rfl | rfl <;> simp [mI_at, sU] <;> rfl)
  refine ⟨μ', ?_, fun p j hp => by rw [q2 p j hp, eo p j hp]⟩
  rw [← most_eq hd, ← q1]
  rfl
/-- the best so far, in both writings -/
def Inv (best least left right : Int32) (a b : Nat) : Prop := (best = nI 2097152 ∧ least = 1000000 ∧ a = 0 ∧ b = 0) ∨ (∃ m x y, m < 128 ∧ x < 128 ∧ y < 128 ∧ best = nI ((m * 128 + x) * 128 + y) ∧ least = nI m ∧ left = nI x ∧ right = nI y ∧ x * 128 + y < a * 128 + b)
theorem weigh_in (hN : 3000 ≤ N) {so : Nat → Bool} {g : sw_g} {k : Nat → Int32} (K : KI k Lw n w L) (hs : ∀ s, s < 128 → g.1 81 s = hS k n s 7) {a : Nat} (ha : a < 2 ^ n) {what : Int32} {k75 : sw_g → Int32 → Int32 → Int32 → Int32 → Int32 → Int32 → Option (Int32 × sw_g)} {k28 : sw_m → Int32 → Int32 → Int32 → Int32 → Int32 → Int32 → Option (Int32 × sw_m)} : ∀ (dd b fu fm : Nat) (best least left right : Int32) (μ : sw_m), b + dd = 2 ^ n → dd < fu → dd < fm → μ.1 86 = k → Inv best least left right a b → ∃ best' least' left' right' μ', fSx_bestWeighing_85 N ln k75 fu g (nI (cbP (fun c => so (2 * c)) 7)) (nI (cbP (fun c => so (2 * c + 1)) 7)) (nI (pc15 (cbP so 15))) (nI (2 ^ n)) best (nI a) (nI b) = k75 g (nI (cbP (fun c => so (2 * c)) 7)) (nI (cbP (fun c => so (2 * c + 1)) 7)) (nI (pc15 (cbP so 15))) (nI (2 ^ n)) best' (nI (a + 1)) ∧ fMo_weigh_44 N k28 fm μ what (nI (cbP so 15)) least left right (nI a) (nI b) = k28 μ' what (nI (cbP so 15)) least' left' right' (nI (a + 1)) ∧ Inv best' least' left' right' (a + 1) 0 ∧ (∀ p j, p ≠ 106 → μ'.1 p j = μ.1 p j) := by
  have hn7 := K.n7
  have hp := pow_le7 hn7
  have hp1 := Nat.two_pow_pos n
  intro dd
  induction dd with
  | zero =>
    intro b fu fm best least left right μ h hfu hfm hk hI
    obtain ⟨fu, rfl⟩ : ∃ z, fu = z + 1 := ⟨fu - 1, by omega⟩
    obtain ⟨fm, rfl⟩ : ∃ z, fm = z + 1 := ⟨fm - 1, by omega⟩
    rw [fSx_bestWeighing_85, if_pos (nI_le (by omega) (by omega)), fMo_weigh_44, every_eq (Lw := Lw) (w := w) (L := L) (n := n) (by rw [hk]; exact K), Option.bind_some]
    simp only []
    rw [if_pos (nI_lt (by omega) (by omega))]
    simp only [nm, nI_1]
    refine ⟨best, least, left, right, μ, rfl, rfl, ?_, fun _ _ _ => rfl⟩
    rcases hI with ⟨_, _, _, q⟩ | ⟨m, x, y, q1, q2, q3, q4, q5, q6, q7, q8⟩
    · omega
    · exact .inr ⟨m, x, y, q1, q2, q3, q4, q5, q6, q7, by omega⟩
  | succ dd ih =>
    intro b fu fm best least left right μ h hfu hfm hk hI
    obtain ⟨fu, rfl⟩ : ∃ z, fu = z + 1 := ⟨fu - 1, by omega⟩
    obtain ⟨fm, rfl⟩ : ∃ z, fm = z + 1 := ⟨fm - 1, by omega⟩
    have hb : b < 2 ^ n := by omega
    rw [fSx_bestWeighing_85, if_neg (nI_ge (by omega) (by omega)), fMo_weigh_44, every_eq (Lw := Lw) (w := w) (L := L) (n := n) (by rw [hk]; exact K), Option.bind_some]
    simp only []
    rw [if_neg (nI_nlt (by omega) (by omega))]
    have hab : nI a &&& nI b = 0 ↔ a &&& b = 0 := by
      rw [nI_land]
      have : a &&& b ≤ a := Nat.and_le_left
      exact eqL 0 0 rfl (by omega) (by decide)
    by_cases hd : a &&& b = 0
    · rw [if_pos (hab.2 hd), if_pos (hab.2 hd)]
      obtain ⟨d, d1, d2, d3⟩ := hD_rng K a b
      generalize hu : sU (cU so a b 1) 15 = u
      generalize hv : sU (cU so a b (-1)) 15 = v
      generalize hl : sU (cU so a b 0) 15 = l
      have cu1 : ∀ e i, cU so a b e i ≤ 1 := fun e i => b1_le _
      have hu15 : u ≤ 15 := by rw [← hu]; exact sU_le (cu1 1) 15
      have hv15 : v ≤ 15 := by rw [← hv]; exact sU_le (cu1 (-1)) 15
      have hl15 : l ≤ 15 := by rw [← hl]; exact sU_le (cu1 0) 15
      have tot : pc15 (cbP so 15) = u + v + l := by
        rw [← hu, ← hv, ← hl, ← sU_add, ← sU_add]
        exact sU_cong 15 (fun i hi => by rw [cbP_bit 15 i hi]; exact cU_3 hd i)
      obtain ⟨μ1, m1, m2⟩ := mmost_eq (so := so) (μ := μ) (Lw := Lw) (w := w) (L := L) (n := n) hN (show a < 128 by omega) (show b < 128 by omega) hd d1 d2 (by rw [hk]; exact K) (by rw [hk]; exact d3)
      rw [hu, hv, hl] at m1
      have andlt : ∀ x y, y < 128 → x &&& y < 128 := fun x y hy => Nat.lt_of_le_of_lt Nat.and_le_right hy
      have pcs : ∀ (s' : Nat → Bool) (y : Nat), pcn (cbP s' 7 &&& y) = sU (fun c => b1 (s' c) * (y / 2 ^ c % 2)) 7 := by
        intro s' y
        rw [pcn_sU]
        exact sU_cong 7 (fun c hc => by rw [land_bit, cbP_bit 7 c hc])
      have eup : pcn (cbP (fun c => so (2 * c)) 7 &&& a) + pcn (cbP (fun c => so (2 * c + 1)) 7 &&& b) = u := by
        rw [pcs, pcs, ← sU_add, ← hu, up_eq (by omega) hd]
      have edn : pcn (cbP (fun c => so (2 * c + 1)) 7 &&& a) + pcn (cbP (fun c => so (2 * c)) 7 &&& b) = v := by
        rw [pcs, pcs, ← sU_add, ← hv, down_eq (by omega) hd]
      rw [nI_land, nI_land, nI_land, nI_land, bitCount_eq _ (andlt _ _ (by omega)), Option.bind_some, bitCount_eq _ (andlt _ _ (by omega)), Option.bind_some]
      simp only [nm]
      rw [bitCount_eq _ (andlt _ _ (by omega)), Option.bind_some, bitCount_eq _ (andlt _ _ (by omega)), Option.bind_some, rd_nI (by omega) (by decide), rd_nI (by omega) (by decide), hs a (by omega), hs b (by omega), d3, nI_add, nI_add, eup, edn, tot, pk_sub (by omega), pk_sub (by omega), show u + v + l - u - v = l by omega, xmost_eq d1 d2 hu15 hv15 hl15, Option.bind_some, m1, Option.bind_some]
      have hm : mostN d u v l < 128 := by
        unfold mostN; split
        · omega
        · split
          · omega
          · split <;> omega
      generalize mostN d u v l = m at *
      simp only []
      rw [show nI m * (128 : Int32) = nI (m * 128) from nI_mul m 128, nI_add, show nI (m * 128 + a) * (128 : Int32) = nI ((m * 128 + a) * 128) from nI_mul _ 128, nI_add, nI_1]
      have hk1 : μ1.1 86 = k := by rw [← hk]; exact funext fun j => m2 86 j (by decide)
      rcases hI with ⟨q1, q2, q3, q4⟩ | ⟨m', x, y, q1, q2, q3, q4, q5, q6, q7, q8⟩
      · -- the first of all
        subst q1 q2 q3 q4
        rw [if_pos (show nI m < 1000000 from nI_lt (b := 1000000) (by omega) (by decide)), show jmin (nI 2097152) (nI ((m * 128 + 0) * 128 + 0)) = nI ((m * 128 + 0) * 128 + 0) by unfold jmin; rw [if_pos (nI_lt (by omega) (by decide))]]
        obtain ⟨b', l', x', y', μ', r1, r2, r3, r4⟩ := ih (0 + 1) fu fm (nI ((m * 128 + 0) * 128 + 0)) (nI m) (nI 0) (nI 0) μ1 (by omega) (by omega) (by omega) hk1 (.inr ⟨m, 0, 0, hm, by omega, by omega, rfl, rfl, rfl, rfl, by omega⟩)
        rw [tot] at r1
        exact ⟨b', l', x', y', μ', r1, r2, r3, fun p j hp => by rw [r4 p j hp, m2 p j hp]⟩
      · subst q4 q5 q6 q7
        by_cases hmm : m < m'
        · rw [if_pos (nI_lt hmm (by omega)), show jmin (nI ((m' * 128 + x) * 128 + y)) (nI ((m * 128 + a) * 128 + b)) = nI ((m * 128 + a) * 128 + b) by unfold jmin; rw [if_pos (nI_lt (by omega) (by omega))]]
          obtain ⟨b', l', x', y', μ', r1, r2, r3, r4⟩ := ih (b + 1) fu fm (nI ((m * 128 + a) * 128 + b)) (nI m) (nI a) (nI b) μ1 (by omega) (by omega) (by omega) hk1 (.inr ⟨m, a, b, hm, by omega, by omega, rfl, rfl, rfl, rfl, by omega⟩)
          rw [tot] at r1
          exact ⟨b', l', x', y', μ', r1, r2, r3, fun p j hp => by rw [r4 p j hp, m2 p j hp]⟩
        · rw [if_neg (nI_nlt (by omega) (by omega)), show jmin (nI ((m' * 128 + x) * 128 + y)) (nI ((m * 128 + a) * 128 + b)) = nI ((m' * 128 + x) * 128 + y) by unfold jmin; rw [if_neg (nI_nlt (by omega) (by omega))]]
          obtain ⟨b', l', x', y', μ', r1, r2, r3, r4⟩ := ih (b + 1) fu fm (nI ((m' * 128 + x) * 128 + y)) (nI m') (nI x) (nI y) μ1 (by omega) (by omega) (by omega) hk1 (.inr ⟨m', x, y, q1, q2, q3, rfl, rfl, rfl, rfl, by omega⟩)
          rw [tot] at r1
          exact ⟨b', l', x', y', μ', r1, r2, r3, fun p j hp => by rw [r4 p j hp, m2 p j hp]⟩
    · rw [if_neg (fun q => hd (hab.1 q)), if_neg (fun q => hd (hab.1 q))]
      simp only [nm, nI_1]
      refine ih (b + 1) fu fm best least left right μ (by omega) (by omega) (by omega) hk ?_
      rcases hI with ⟨q1, q2, q3, q4⟩ | ⟨m, x, y, q1, q2, q3, q4, q5, q6, q7, q8⟩
      · subst q3 q4; exact absurd rfl hd
      · exact .inr ⟨m, x, y, q1, q2, q3, q4, q5, q6, q7, by omega⟩
theorem weigh_out (hN : 3000 ≤ N) {so : Nat → Bool} (hso : cbP so 15 ≠ 0) {g : sw_g} {k : Nat → Int32} (K : KI k Lw n w L) (hs : ∀ s, s < 128 → g.1 81 s = hS k n s 7) {what : Int32} : ∀ (dd a fu fm : Nat) (best least left right : Int32) (μ : sw_m), a + dd = 2 ^ n → dd < fu → dd < fm → μ.1 86 = k → Inv best least left right a 0 → ∃ m x y μ', m < 128 ∧ x < 128 ∧ y < 128 ∧ fSx_bestWeighing_75 N ln fu g (nI (cbP (fun c => so (2 * c)) 7)) (nI (cbP (fun c => so (2 * c + 1)) 7)) (nI (pc15 (cbP so 15))) (nI (2 ^ n)) best (nI a) = some (nI ((m * 128 + x) * 128 + y), g) ∧ fMo_weigh_28 N fm μ what (nI (cbP so 15)) least left right (nI a) = fMo_weigh_107 N μ' what (nI (cbP so 15)) (nI m) (nI x) (nI y) ∧ (∀ p j, p ≠ 106 → μ'.1 p j = μ.1 p j) := by
  have hn7 := K.n7
  have hp := pow_le7 hn7
  have hp1 := Nat.two_pow_pos n
  have hlt := cbP_lt (so := so) 15
  intro dd
  induction dd with
  | zero =>
    intro a fu fm best least left right μ h hfu hfm hk hI
    obtain ⟨fu, rfl⟩ : ∃ z, fu = z + 1 := ⟨fu - 1, by omega⟩
    obtain ⟨fm, rfl⟩ : ∃ z, fm = z + 1 := ⟨fm - 1, by omega⟩
    rcases hI with ⟨q1, q2, q3, q4⟩ | ⟨m, x, y, q1, q2, q3, q4, q5, q6, q7, q8⟩
    · omega
    · subst q4 q5 q6 q7
      rw [fSx_bestWeighing_75, if_pos (nI_le (by omega) (by omega)), fMo_weigh_28, every_eq (Lw := Lw) (w := w) (L := L) (n := n) (by rw [hk]; exact K), Option.bind_some]
      simp only []
      rw [if_pos (nI_lt (by omega) (by omega))]
      exact ⟨m, x, y, μ, q1, q2, q3, rfl, rfl, fun _ _ _ => rfl⟩
  | succ dd ih =>
    intro a fu fm best least left right μ h hfu hfm hk hI
    obtain ⟨fu, rfl⟩ : ∃ z, fu = z + 1 := ⟨fu - 1, by omega⟩
    obtain ⟨fm, rfl⟩ : ∃ z, fm = z + 1 := ⟨fm - 1, by omega⟩
    rw [fSx_bestWeighing_75, if_neg (nI_ge (by omega) (by omega)), fMo_weigh_28, every_eq (Lw := Lw) (w := w) (L := L) (n := n) (by rw [hk]; exact K), Option.bind_some]
    simp only []
    rw [if_neg (nI_nlt (by omega) (by omega)), if_neg (nI_ne0 (by omega) (by omega))]
    obtain ⟨b', l', x', y', μ', r1, r2, r3, r4⟩ := weigh_in (k75 := fSx_bestWeighing_75 N ln fu) (k28 := fMo_weigh_28 N fm) (what := what) (so := so) hN K hs (a := a) (by omega) (2 ^ n) 0 N N best least left right μ (by omega) (by omega) (by omega) hk hI
    obtain ⟨m, x, y, μ2, s0, s1, s2, s3, s4, s5⟩ := ih (a + 1) fu fm b' l' x' y' μ' (by omega) (by omega) (by omega) (by rw [← hk]; exact funext fun j => r4 86 j (by decide)) r3
    exact ⟨m, x, y, μ2, s0, s1, s2, r1.trans s3, r2.trans s4, fun p j hp => by rw [s5 p j hp, r4 p j hp]⟩
theorem best_7 {so : Nat → Bool} {g : sw_g} : ∀ (d c fu : Nat), c + d = 7 → d < fu → fSx_bestWeighing_7 N ln fu g (nI (cbP so 15)) (nI (cbP (fun c => so (2 * c)) c)) (nI (cbP (fun c => so (2 * c + 1)) c)) (nI c) = (fIn_bitCount (nI (cbP so 15))).bind fun v2 => nm ((1 : Int32) <<< ((g.1 1 0) &&& 31)) fun x3 => fSx_bestWeighing_75 N ln N g (nI (cbP (fun c => so (2 * c)) 7)) (nI (cbP (fun c => so (2 * c + 1)) 7)) v2 x3 (2097152 : Int32) (0 : Int32) := by
  intro d
  have hlt := cbP_lt (so := so) 15
  induction d with
  | zero =>
    intro c fu h hfu
    obtain ⟨fu, rfl⟩ : ∃ z, fu = z + 1 := ⟨fu - 1, by omega⟩
    obtain rfl : c = 7 := by omega
    rw [fSx_bestWeighing_7, if_pos (by decide)]
  | succ d ih =>
    intro c fu h hfu
    obtain ⟨fu, rfl⟩ : ∃ z, fu = z + 1 := ⟨fu - 1, by omega⟩
    have go : ∀ (s' : Nat → Bool) (j : Nat), j < 15 → s' c = so j → nI (cbP s' c) ||| (((nI (cbP so 15) >>> (nI j &&& 31)) &&& (1 : Int32)) <<< (nI c &&& 31)) = nI (cbP s' (c + 1)) := by
      intro s' j hj hs
      have h2 := cbP_lt (so := s') c
      have h7 := pow_le7 (show c ≤ 7 by omega)
      rw [bit_at hlt hj, cbP_bit 15 j hj, pk_shlN _ c (sh_sm c (by omega)) (by have := b1_le (so j); have : b1 (so j) * 2 ^ c ≤ 1 * 2 ^ c := Nat.mul_le_mul_right _ this; omega), nI_lor, show cbP s' (c + 1) = cbP s' c + (if s' c then 2 ^ c else 0) from rfl, hs]
      by_cases q : so j = true
      · rw [q, show b1 true = 1 from rfl, Nat.one_mul, orP h2]; rfl
      · simp at q; rw [q, show b1 false = 0 from rfl, Nat.zero_mul, Nat.or_zero]; rfl
    rw [fSx_bestWeighing_7, if_neg (show ¬ (7 : Int32) ≤ nI c from nI_ge (b := 7) (by omega) (by decide))]
    simp only [nm]
    rw [show (2 : Int32) * nI c = nI (2 * c) from nI_mul 2 c, nI_1, go (fun c => so (2 * c)) (2 * c) (by omega) rfl, go (fun c => so (2 * c + 1)) (2 * c + 1) (by omega) rfl, nI_1]
    exact ih (c + 1) fu (by omega) (by omega)
theorem weigh_CR (hN : 3000 ≤ N) {g : sw_g} {μ : sw_m} (h : RR ln M g μ) (a : Int32) : CR ln M (fSx_weigh N ln g a) (fMo_weigh N μ a) := by
  have h0 := h
  obtain ⟨Lw, n, w, L, K, P, h1, h2, h3, h4, h5⟩ := h
  have hn7 := K.n7
  have hp := pow_le7 hn7
  obtain ⟨g1, e1, e2, e3⟩ := xcanBe_eq hN K P h5.2.2
  have P1 := P.g81 e2 (by decide)
  have hlt := cbP_lt (so := soB (μ.1 86) n w) 15
  rw [fSx_weigh, fMo_weigh, e1, mcanBe_eq hN K, Option.bind_some]
  simp only []
  by_cases h0' : cbP (soB (μ.1 86) n w) 15 = 0
  · rw [h0', if_pos (show nI 0 = 0 from rfl)]
    have : ((fMo_lies a 0 2).bind fun v2 => (if v2 = 0 then some ((-1 : Int32), μ) else (some (nI 0, μ)).bind fun ⟨v5, μ4⟩ => fMo_weigh_28 N N μ4 a v5 (1000000 : Int32) (-1 : Int32) (-1 : Int32) (0 : Int32))) = some (-1, μ) := by
      rcases lies02 a with ⟨q, _⟩ | ⟨q, _⟩
      · rw [q, Option.bind_some, if_neg n10, Option.bind_some]
        simp only []
        obtain ⟨m, rfl⟩ : ∃ m, N = m + 1 := ⟨N - 1, by omega⟩
        rw [fMo_weigh_28, every_eq K, Option.bind_some]
        simp only []
        split
        · rfl
        · rw [if_pos (show nI 0 = 0 from rfl)]; rfl
      · rw [q]; rfl
    rw [this]
    exact h0.ask ⟨g1, rfl, e2.GU⟩ ⟨μ, rfl, MS.refl⟩
  · rw [if_neg (nI_ne0 (by omega) (by omega))]
    obtain ⟨m, x, y, μ', m1, m2, m3, m4, m5, m6⟩ := weigh_out (ln := ln) (what := a) hN h0' K e3 (2 ^ n) 0 N N (nI 2097152) 1000000 (-1) (-1) μ (by omega) (by omega) (by omega) rfl (.inl ⟨rfl, rfl, rfl, rfl⟩)
    have eb : fSx_bestWeighing N ln g1 (nI (cbP (soB (μ.1 86) n w) 15)) = some (nI ((m * 128 + x) * 128 + y), g1) := by
      have := best_7 (N := N) (ln := ln) (so := soB (μ.1 86) n w) (g := g1) 7 0 N rfl (by omega)
      rw [fSx_bestWeighing, show fSx_bestWeighing_7 N ln N g1 (nI (cbP (soB (μ.1 86) n w) 15)) 0 0 0 = _ from this, bitCount_15 hlt, Option.bind_some]
      simp only [nm]
      rw [show g1.1 1 0 = nI n by rw [show g1.1 1 0 = _ from P1.1, K.hn], sh_1 n (by omega)]
      exact m4
    rw [eb, Option.bind_some]
    simp only []
    generalize hc : (m * 128 + x) * 128 + y = c
    have hc' : c < 2097152 := by omega
    rw [show nI c / (128 : Int32) = nI (c / 128) from pk_div (by omega) (by decide) (by decide), show nI (c / 128) - nI (c / 128) / (128 : Int32) * (128 : Int32) = nI (c / 128 % 128) from pk_rem (by omega) (by decide) (by decide), show nI (c / 128) / (128 : Int32) = nI (c / 128 / 128) from pk_div (by omega) (by decide) (by decide), show nI c - nI (c / 128) * (128 : Int32) = nI (c % 128) by rw [← show nI c / (128 : Int32) = nI (c / 128) from pk_div (by omega) (by decide) (by decide)]; exact pk_rem (by omega) (by decide) (by decide), show c / 128 % 128 = x by omega, show c % 128 = y by omega, show c / 128 / 128 = m by omega]
    have hm : MS μ μ' := fun p j x y z => m6 p j (by omega)
    rcases lies02 a with ⟨q, ha⟩ | ⟨q, ha⟩
    · rw [q, Option.bind_some, if_neg n10, Option.bind_some]
      simp only []
      rw [show fMo_weigh_28 N N μ a (nI (cbP (soB (μ.1 86) n w) 15)) 1000000 (-1) (-1) 0 = _ from m5, fMo_weigh_107, if_neg (nI_ne0 (by omega) (by omega))]
      rcases ha with rfl | rfl | rfl
      · exact h0.ask ⟨g1, rfl, e2.GU⟩ ⟨μ', rfl, hm⟩
      · exact h0.ask ⟨g1, rfl, e2.GU⟩ ⟨μ', rfl, hm⟩
      · exact h0.ask ⟨g1, rfl, e2.GU⟩ ⟨μ', rfl, hm⟩
    · rw [q, Option.bind_some, if_pos rfl, if_neg ha.1, if_neg ha.2.1, if_neg ha.2.2]
      exact h0.ask ⟨g1, rfl, e2.GU⟩ ⟨μ, rfl, MS.refl⟩
end
