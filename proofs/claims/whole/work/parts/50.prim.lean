/-! ===== both readers: their small steps ===== -/
def mp (μ : sw_m) (i lv b : Int32) : sw_m := (fun p k => if p = 84 then (if k = 19 then i else if k = 20 then lv else if k = 21 then b else μ.1 84 k) else μ.1 p k, μ.2)
section
variable {μ : sw_m} {i lv b : Int32}
theorem mp_19 : (mp μ i lv b).1 84 19 = i := rfl
theorem mp_20 : (mp μ i lv b).1 84 20 = lv := rfl
theorem mp_21 : (mp μ i lv b).1 84 21 = b := rfl
theorem mp_8 : (mp μ i lv b).1 84 8 = μ.1 84 8 := rfl
theorem mp_9 : (mp μ i lv b).1 84 9 = μ.1 84 9 := rfl
theorem mp_10 : (mp μ i lv b).1 84 10 = μ.1 84 10 := rfl
theorem mp_93 : (mp μ i lv b).1 93 = μ.1 93 := rfl
theorem mp_94 : (mp μ i lv b).1 94 = μ.1 94 := rfl
theorem mp_95 : (mp μ i lv b).1 95 = μ.1 95 := rfl
theorem mp_w19 {v : Int32} : mI (mp μ i lv b) 84 19 v = mp μ v lv b := by
  refine Prod.ext (funext fun p => funext fun k => ?_) rfl
  simp only [mI, mp, sw_u]; grind
theorem mp_w20 {v : Int32} : mI (mp μ i lv b) 84 20 v = mp μ i v b := by
  refine Prod.ext (funext fun p => funext fun k => ?_) rfl
  simp only [mI, mp, sw_u]; grind
theorem mp_w21 {v : Int32} : mI (mp μ i lv b) 84 21 v = mp μ i lv v := by
  refine Prod.ext (funext fun p => funext fun k => ?_) rfl
  simp only [mI, mp, sw_u]; grind
end
theorem nI_nm1 {n : Nat} (h : n < 2 ^ 31) : nI n ≠ -1 := by
  intro h'
  have := nI_pos h
  rw [h'] at this
  exact this (by decide)
def GM (B : Nat → Nat) (m : Nat) (S P : Nat → Nat) (μ : sw_m) : Prop := ∀ j, j ≤ m → μ.1 95 j = nI (S j) ∧ μ.1 93 j = nI (cds B m S P j) ∧ μ.1 94 j = nI (vls B m S P j)
section
variable {N : Nat} {ln : Nat → Nat} {B : Nat → Nat} {t m : Nat} {S P : Nat → Nat} {g : sw_g} {μ : sw_m}
theorem GX.cds_lt (h : GX B t m S P g) (j : Nat) : cds B m S P j < 400 := by
  have hB := h.2.2.1
  unfold cds cdt
  split
  · split
    · rcases wix_or (b := bys B (S j) (P (j + 1))) w26 1 with h2 | ⟨_, h2⟩
      · rw [wof]; omega
      · rw [w26_l] at h2; rw [wof]; omega
    · split
      · decide
      · have := hB (S j); omega
  · decide
theorem GX.vls_lt (h : GX B t m S P g) (j : Nat) : vls B m S P j ≤ 10000300 := by
  have hB := h.2.2.1
  unfold vls vlt
  split
  · split
    · exact numR_le B _ hB _
    · exact Nat.zero_le _
  · exact Nat.zero_le _
theorem GX.m_le (h : GX B t m S P g) : m ≤ 400 := Nat.le_trans h.1.2.1 h.2.1
theorem cds_pos {j : Nat} (h : 1 ≤ cds B m S P j) : j < m := by
  unfold cds at h; split at h
  · assumption
  · omega
theorem tk_at (h : GX B t m S P g) (hM : GM B m S P μ) (c : Int32) (c' : Nat) (hc : c = nI c') (hc' : c' < 1000) {j : Nat} (hj : j ≤ m) {lv : Int32} : fMo_takes0 N (mp μ (nI j) lv (-1)) c = some (if cds B m S P j = c' then (1, mp μ (nI (j + 1)) lv (-1)) else (0, mp μ (nI j) lv (-1))) := by
  have hm := h.m_le
  have hl := h.cds_lt j
  unfold fMo_takes0 fMo_fine
  rw [mp_21, if_pos rfl, Option.bind_some]
  simp only [show ¬ ((1 : Int32) = 0) by decide, if_false]
  rw [mp_19, rd_nI (by omega) (by decide), mp_93, (hM j hj).2.1, hc]
  by_cases e : cds B m S P j = c'
  · rw [if_pos (by rw [e]), if_pos e]
    unfold fMo_takes0_25
    simp only [show ¬ ((1 : Int32) = 0) by decide, if_false, nm, mp_19, mp_w19, nI_1, tz, or_true, if_true]
  · rw [if_neg (fun h' => e ((nI_eq (by omega) (by omega)).1 h')), if_neg e]
    unfold fMo_takes0_25
    simp [tz]
theorem tk_bad {c i lv b : Int32} (hb : b ≠ -1) : fMo_takes0 N (mp μ i lv b) c = some (0, mp μ i lv b) := by
  unfold fMo_takes0 fMo_fine
  rw [mp_21, if_neg hb]
  simp [fMo_takes0_25, tz]
theorem faults_at (h : GX B t m S P g) (hM : GM B m S P μ) {j : Nat} (hj : j ≤ m) {lv : Int32} : fMo_faults (mp μ (nI j) lv (-1)) = some (mp μ (nI j) lv (nI (S j))) := by
  have hm := h.m_le
  unfold fMo_faults fMo_fine
  rw [mp_21, if_pos rfl, Option.bind_some]
  simp only [show ¬ ((1 : Int32) = 0) by decide, if_false]
  rw [mp_19, rd_nI (by omega) (by decide), mp_95, (hM j hj).1]
  simp only [nm, mp_w21]
theorem faults_bad {i lv b : Int32} (hb : b ≠ -1) : fMo_faults (mp μ i lv b) = some (mp μ i lv b) := by
  unfold fMo_faults fMo_fine
  rw [mp_21, if_neg hb]
  simp
theorem must_at (h : GX B t m S P g) (hM : GM B m S P μ) (c : Int32) (c' : Nat) (hc : c = nI c') (hc' : c' < 1000) {j : Nat} (hj : j ≤ m) {lv : Int32} : fMo_must N (mp μ (nI j) lv (-1)) c = some (if cds B m S P j = c' then mp μ (nI (j + 1)) lv (-1) else mp μ (nI j) lv (nI (S j))) := by
  unfold fMo_must
  rw [tk_at h hM c c' hc hc' hj, Option.bind_some]
  by_cases e : cds B m S P j = c'
  · simp [e]
  · simp only [e, if_false, if_true, faults_at h hM hj, Option.bind_some]
theorem must_bad {c i lv b : Int32} (hb : b ≠ -1) : fMo_must N (mp μ i lv b) c = some (mp μ i lv b) := by
  unfold fMo_must
  rw [tk_bad hb, Option.bind_some]
  simp only [if_true, faults_bad hb, Option.bind_some]
theorem mustN_bad {a c i lv b : Int32} (hb : b ≠ -1) : fMo_mustNumber N (mp μ i lv b) a c = some (mp μ i lv b) := by
  unfold fMo_mustNumber fMo_fine
  rw [mp_21, if_neg hb, Option.bind_some]
  simp only [if_true, fMo_mustNumber_42, fMo_fine, mp_21, hb, if_false, Option.bind_some]
theorem mustN_at (h : GX B t m S P g) (hM : GM B m S P μ) {lo hi j : Nat} (hlo : lo ≤ 1000) (hhi : hi ≤ 1000) (hj : j ≤ m) {lv : Int32} : fMo_mustNumber N (mp μ (nI j) lv (-1)) (nI lo) (nI hi) = some (if cds B m S P j = 50 ∧ lo ≤ vls B m S P j ∧ vls B m S P j ≤ hi then mp μ (nI (j + 1)) lv (-1) else mp μ (nI j) lv (nI (S j))) := by
  have hm := h.m_le
  have hl := h.cds_lt j
  have hv := h.vls_lt j
  have hS := h.Sle hj
  have ht := h.2.1
  have e38 : fMo_mustNumber_38 N (mp μ (nI j) lv (-1)) = some (mp μ (nI j) lv (nI (S j))) := by
    unfold fMo_mustNumber_38
    rw [faults_at h hM hj, Option.bind_some]
    unfold fMo_mustNumber_42 fMo_fine
    rw [mp_21, if_neg (nI_nm1 (by omega))]
    simp
  have e42 : fMo_mustNumber_42 N (mp μ (nI j) lv (-1)) = some (mp μ (nI (j + 1)) lv (-1)) := by
    unfold fMo_mustNumber_42 fMo_fine
    rw [mp_21, if_pos rfl, Option.bind_some]
    simp only [show ¬ ((1 : Int32) = 0) by decide, if_false, nm, mp_19, mp_w19, nI_1]
  unfold fMo_mustNumber fMo_fine
  rw [mp_21, if_pos rfl, Option.bind_some]
  simp only [show ¬ ((1 : Int32) = 0) by decide, if_false]
  rw [mp_19, rd_nI (by omega) (by decide), mp_93, (hM j hj).2.1]
  by_cases e : cds B m S P j = 50
  · rw [if_pos (by rw [e]; rfl), rd_nI (by omega) (by decide), mp_94, (hM j hj).2.2]
    unfold fMo_lies
    by_cases a : lo ≤ vls B m S P j
    · rw [if_neg (nI_nlt a (by omega))]
      by_cases b : vls B m S P j ≤ hi
      · rw [if_neg (nI_nlt b (by omega)), Option.bind_some, if_neg (by decide), e42, if_pos ⟨e, a, b⟩]
      · rw [if_pos (nI_lt (by omega) (by omega)), Option.bind_some, if_pos rfl, e38, if_neg (fun h' => b h'.2.2)]
    · rw [if_pos (nI_lt (by omega) (by omega)), Option.bind_some, if_pos rfl, e38, if_neg (fun h' => a h'.2.1)]
  · rw [if_neg (fun h' => e ((eqL 50 50 rfl (by omega) (by decide)).1 h')), e38, if_neg (fun h' => e h'.1)]
/-! the class' -/
def BX (g : sw_g) (t : Nat) (φ : Int32) (g' : sw_g) : Prop := ∃ (pt d : Int32) (u : Nat) (C : Nat → Int32), u ≤ 512 ∧ g' = rs g φ (nI t) (nI t) pt d (nI u) C
def FX (g : sw_g) (S P : Nat → Nat) (j lv d u : Nat) (C : Nat → Int32) : sw_g := rs g (-1) (nI (S j)) (nI (P (j + 1))) (nI lv) (nI d) (nI u) C
theorem fail_x (h : GX B t m S P g) {f s e pt d u : Int32} {C : Nat → Int32} : fRe_fail N ln (rs g f s e pt d u C) = some (rs g (if f = -1 then s else f) (nI t) (nI t) pt d u C) := by
  have h0 := h.2.2.2.1
  unfold fRe_fail fRe_fail_16
  rw [rs_2]
  by_cases hf : f = -1
  · simp only [hf, if_true, nm, rs_5, rs_w2, rs_0, h0, rs_w5, rs_w6]
  · simp only [hf, if_false, nm, rs_0, h0, rs_w5, rs_w6]
theorem fail_at (h : GX B t m S P g) {j lv d u : Nat} {C : Nat → Int32} (hu : u ≤ 512) : ∃ g', fRe_fail N ln (FX g S P j lv d u C) = some g' ∧ BX g t (nI (S j)) g' := ⟨_, by unfold FX; rw [fail_x h, if_pos rfl], _, _, u, _, hu, rfl⟩
theorem fail_bad (h : GX B t m S P g) {φ : Int32} (hφ : φ ≠ -1) {g' : sw_g} (hb : BX g t φ g') : fRe_fail N ln g' = some g' := by
  obtain ⟨pt, d, u, C, _, rfl⟩ := hb
  rw [fail_x h, if_neg hφ]
theorem acc_at (h : GX B t m S P g) (hN : 3000 ≤ N) {i j lv d u : Nat} {C : Nat → Int32} (hi : i < 39) (hj : j ≤ m) : fRe_accepts N ln (FX g S P j lv d u C) i = some (if cds B m S P j = ct i then (1, FX g S P (j + 1) lv d u C) else (0, FX g S P j lv d u C)) := by
  unfold fRe_accepts
  rw [show fRe_isToken N ln (FX g S P j lv d u C) i = _ from isToken_at h hN hi hj, Option.bind_some]
  by_cases e : cds B m S P j = ct i
  · have hjm : j < m := cds_pos (B := B) (S := S) (P := P) (by rw [e]; rcases w39_ct i hi with a | a <;> omega)
    simp only [e, if_true, show ¬ ((1 : Int32) = 0) by decide, if_false]
    rw [advance_at h hN (j := j + 1) hjm, Option.bind_some]
    rfl
  · simp only [e, if_false, if_true]
    rfl
theorem ist_at (h : GX B t m S P g) (hN : 3000 ≤ N) {i j lv d u : Nat} {C : Nat → Int32} (hi : i < 39) (hj : j ≤ m) : fRe_isToken N ln (FX g S P j lv d u C) i = some (if cds B m S P j = ct i then 1 else 0, FX g S P j lv d u C) := isToken_at h hN hi hj
theorem ist_bad (hN : 3000 ≤ N) {i : Nat} (hi : i < 39) {φ : Int32} {g' : sw_g} (hb : BX g t φ g') : fRe_isToken N ln g' i = some (0, g') := by
  obtain ⟨pt, d, u, C, _, rfl⟩ := hb
  exact isToken_bad hN hi
theorem acc_bad (hN : 3000 ≤ N) {i : Nat} (hi : i < 39) {φ : Int32} {g' : sw_g} (hb : BX g t φ g') : fRe_accepts N ln g' i = some (0, g') := by
  unfold fRe_accepts
  rw [ist_bad hN hi hb, Option.bind_some]
  simp
theorem adv_at (h : GX B t m S P g) (hN : 3000 ≤ N) {j lv d u : Nat} {C : Nat → Int32} (hj : j < m) : fRe_advance N ln (FX g S P j lv d u C) = some (FX g S P (j + 1) lv d u C) := advance_at h hN (j := j + 1) hj
theorem exp_at (h : GX B t m S P g) (hN : 3000 ≤ N) {i j lv d u : Nat} {C : Nat → Int32} (hi : i < 39) (hj : j ≤ m) (hu : u ≤ 512) : (cds B m S P j = ct i ∧ fRe_expect N ln (FX g S P j lv d u C) i = some (FX g S P (j + 1) lv d u C)) ∨ (cds B m S P j ≠ ct i ∧ ∃ g', fRe_expect N ln (FX g S P j lv d u C) i = some g' ∧ BX g t (nI (S j)) g') := by
  unfold fRe_expect
  rw [acc_at h hN hi hj, Option.bind_some]
  by_cases e : cds B m S P j = ct i
  · exact .inl ⟨e, by simp [e]⟩
  · refine .inr ⟨e, ?_⟩
    simp only [e, if_false, if_true]
    obtain ⟨g', h1, h2⟩ := fail_at (N := N) (ln := ln) h (j := j) (lv := lv) (d := d) (C := C) hu
    exact ⟨g', by rw [h1]; rfl, h2⟩
theorem exp_bad (h : GX B t m S P g) (hN : 3000 ≤ N) {i : Nat} (hi : i < 39) {φ : Int32} (hφ : φ ≠ -1) {g' : sw_g} (hb : BX g t φ g') : fRe_expect N ln g' i = some g' := by
  unfold fRe_expect
  rw [acc_bad hN hi hb, Option.bind_some]
  simp only [if_true, fail_bad h hφ hb, Option.bind_some]
theorem num_at (h : GX B t m S P g) (hN : 3000 ≤ N) {j lv d u lo hi : Nat} {C : Nat → Int32} (hj : j ≤ m) (hlo : lo ≤ 1000) (hhi : hi ≤ 1000) : fRe_numberFrom N ln (FX g S P j lv d u C) (nI lo) (nI hi) = some (if cds B m S P j = 50 ∧ lo ≤ vls B m S P j ∧ vls B m S P j ≤ hi then nI (vls B m S P j) else -1, FX g S P j lv d u C) := numberFrom_at h hN hj hhi hlo
theorem num_bad (h : GX B t m S P g) {lo hi φ : Int32} {g' : sw_g} (hb : BX g t φ g') : fRe_numberFrom N ln g' lo hi = some (-1, g') := by
  obtain ⟨pt, d, u, C, _, rfl⟩ := hb
  exact numberFrom_bad h
theorem expN_at (h : GX B t m S P g) (hN : 3000 ≤ N) {j lv d u lo hi : Nat} {C : Nat → Int32} (hj : j ≤ m) (hlo : lo ≤ 1000) (hhi : hi ≤ 1000) (hu : u ≤ 512) : ((cds B m S P j = 50 ∧ lo ≤ vls B m S P j ∧ vls B m S P j ≤ hi) ∧ fRe_expectNumber N ln (FX g S P j lv d u C) (nI lo) (nI hi) = some (nI (vls B m S P j), FX g S P (j + 1) lv d u C)) ∨ (¬ (cds B m S P j = 50 ∧ lo ≤ vls B m S P j ∧ vls B m S P j ≤ hi) ∧ ∃ g', fRe_expectNumber N ln (FX g S P j lv d u C) (nI lo) (nI hi) = some (-1, g') ∧ BX g t (nI (S j)) g') := by
  unfold fRe_expectNumber
  rw [num_at h hN hj hlo hhi, Option.bind_some]
  by_cases e : cds B m S P j = 50 ∧ lo ≤ vls B m S P j ∧ vls B m S P j ≤ hi
  · refine .inl ⟨e, ?_⟩
    have hjm : j < m := cds_pos (B := B) (S := S) (P := P) (by omega)
    simp only [e, and_self, if_true]
    rw [if_neg (nI_nm1 (by omega)), adv_at h hN hjm, Option.bind_some]
  · refine .inr ⟨e, ?_⟩
    simp only [e, if_false, if_true]
    obtain ⟨g', h1, h2⟩ := fail_at (N := N) (ln := ln) h (j := j) (lv := lv) (d := d) (C := C) hu
    exact ⟨g', by rw [h1]; rfl, h2⟩
theorem expN_bad (h : GX B t m S P g) {lo hi φ : Int32} (hφ : φ ≠ -1) {g' : sw_g} (hb : BX g t φ g') : fRe_expectNumber N ln g' lo hi = some (-1, g') := by
  unfold fRe_expectNumber
  rw [num_bad h hb, Option.bind_some]
  simp only [if_true, fail_bad h hφ hb, Option.bind_some]
theorem emit_at {j lv d u : Nat} {C : Nat → Int32} {a b : Int32} (hu : u < 512) : fRe_emit N ln (FX g S P j lv d u C) a b = some (FX g S P j lv d (u + 1) (updI C u (a * 2048 + b))) := by
  unfold fRe_emit FX
  rw [rs_u, if_neg (show ¬ (512 : Int32) ≤ nI u from nI_ge (b := 512) hu (by decide)), wr_nI (by omega) (by decide)]
  simp only [nm, rs_wc, rs_u, rs_wu, nI_1]
theorem emit_bad (h : GX B t m S P g) {φ a b : Int32} (hφ : φ ≠ -1) {g' : sw_g} (hb : BX g t φ g') : ∃ g'', fRe_emit N ln g' a b = some g'' ∧ BX g t φ g'' := by
  have hb' := hb
  obtain ⟨pt, d, u, C, hu, rfl⟩ := hb
  unfold fRe_emit
  rw [rs_u]
  by_cases hu' : u < 512
  · rw [if_neg (show ¬ (512 : Int32) ≤ nI u from nI_ge (b := 512) hu' (by decide)), wr_nI (by omega) (by decide)]
    simp only [nm, rs_wc, rs_u, rs_wu, nI_1]
    exact ⟨_, rfl, pt, d, u + 1, _, by omega, rfl⟩
  · rw [if_pos (show (512 : Int32) ≤ nI u from nI_le (a := 512) (by omega) (by omega)), fail_bad h hφ hb']
    exact ⟨_, rfl, hb'⟩
theorem lead_at {j lv d u x : Nat} {C : Nat → Int32} {a : Int32} (hx : x < 512) : fRe_leadHere ln (FX g S P j lv d u C) (nI x) a = some (FX g S P j lv d u (updI C x (a * 2048 + nI u))) := by
  unfold fRe_leadHere FX
  rw [if_neg (show ¬ (512 : Int32) ≤ nI x from nI_ge (b := 512) hx (by decide)), wr_nI (by omega) (by decide), rs_u, rs_wc]
theorem lead_bad {φ a : Int32} {x : Nat} (hx : x ≤ 512) {g' : sw_g} (hb : BX g t φ g') : ∃ g'', fRe_leadHere ln g' (nI x) a = some g'' ∧ BX g t φ g'' := by
  have hb' := hb
  obtain ⟨pt, d, u, C, hu, rfl⟩ := hb
  unfold fRe_leadHere
  by_cases hx' : x < 512
  · rw [if_neg (show ¬ (512 : Int32) ≤ nI x from nI_ge (b := 512) hx' (by decide)), wr_nI (by omega) (by decide), rs_u, rs_wc]
    exact ⟨_, rfl, pt, d, u, _, hu, rfl⟩
  · rw [if_pos (show (512 : Int32) ≤ nI x from nI_le (a := 512) (by omega) (by omega))]
    exact ⟨_, rfl, hb'⟩
theorem used_bad {φ : Int32} {g' : sw_g} (hb : BX g t φ g') : ∃ u, u ≤ 512 ∧ g'.1 35 6 = nI u := by
  obtain ⟨pt, d, u, C, hu, rfl⟩ := hb
  exact ⟨u, hu, rs_u⟩
theorem opens_at (h : GX B t m S P g) (hN : 3000 ≤ N) {j lv d u : Nat} {C : Nat → Int32} (hj : j < m) (hd : d < 8) : fRe_opens N ln (FX g S P j lv d u C) = some (1, FX g S P (j + 1) lv (d + 1) u C) := by
  unfold fRe_opens
  rw [show (FX g S P j lv d u C).1 33 8 = nI d from rs_8, if_pos (show nI d < (8 : Int32) from nI_lt (b := 8) hd (by decide))]
  simp only [nm, nI_1]
  rw [show gI (FX g S P j lv d u C) 33 8 (nI (d + 1)) = FX g S P j lv (d + 1) u C from rs_w8, adv_at h hN hj, Option.bind_some]
theorem opens_no (h : GX B t m S P g) {j lv u : Nat} {C : Nat → Int32} (hu : u ≤ 512) : ∃ g', fRe_opens N ln (FX g S P j lv 8 u C) = some (0, g') ∧ BX g t (nI (S j)) g' := by
  obtain ⟨g', h1, h2⟩ := fail_at (N := N) (ln := ln) h (j := j) (lv := lv) (d := 8) (C := C) hu
  refine ⟨g', ?_, h2⟩
  unfold fRe_opens
  rw [show (FX g S P j lv 8 u C).1 33 8 = nI 8 from rs_8, if_neg (by decide), h1]
  rfl
theorem closes_ex {g : sw_g} {i : Nat} : fRe_closes N ln g i = (fRe_expect N ln g i).bind fun g2 => nm (gI g2 33 8 ((g2.1 33 8) - (1 : Int32))) fun g3 => some g3 := by
  unfold fRe_closes fRe_expect fRe_accepts
  rcases fRe_isToken N ln g i with _ | ⟨v, g2⟩
  · rfl
  · by_cases hv : v = 0
    · simp only [Option.bind_some, hv, if_true]
      rcases fRe_fail N ln g2 with _ | g5 <;> rfl
    · simp only [Option.bind_some, if_neg hv]
      rcases fRe_advance N ln g2 with _ | g5 <;> rfl
theorem closes_at (h : GX B t m S P g) (hN : 3000 ≤ N) {i j lv d u : Nat} {C : Nat → Int32} (hi : i < 39) (hj : j ≤ m) (hu : u ≤ 512) : (cds B m S P j = ct i ∧ fRe_closes N ln (FX g S P j lv (d + 1) u C) i = some (FX g S P (j + 1) lv d u C)) ∨ (cds B m S P j ≠ ct i ∧ ∃ g', fRe_closes N ln (FX g S P j lv (d + 1) u C) i = some g' ∧ BX g t (nI (S j)) g') := by
  rw [closes_ex]
  rcases exp_at (N := N) (ln := ln) h hN (i := i) (j := j) (lv := lv) (d := d + 1) (C := C) hi hj hu with ⟨e, h1⟩ | ⟨e, g', h1, pt, d', u', C', h2, rfl⟩
  · refine .inl ⟨e, ?_⟩
    rw [h1, Option.bind_some]
    simp only [nm]
    rw [show (FX g S P (j + 1) lv (d + 1) u C).1 33 8 = nI (d + 1) from rs_8, nI_pred, show gI (FX g S P (j + 1) lv (d + 1) u C) 33 8 (nI d) = FX g S P (j + 1) lv d u C from rs_w8]
  · refine .inr ⟨e, _, ?_, pt, d' - 1, u', C', h2, rfl⟩
    rw [h1, Option.bind_some]
    simp only [nm, rs_8, rs_w8]
theorem closes_bad (h : GX B t m S P g) (hN : 3000 ≤ N) {i : Nat} (hi : i < 39) {φ : Int32} (hφ : φ ≠ -1) {g' : sw_g} (hb : BX g t φ g') : ∃ g'', fRe_closes N ln g' i = some g'' ∧ BX g t φ g'' := by
  rw [closes_ex]
  rw [exp_bad h hN hi hφ hb, Option.bind_some]
  obtain ⟨pt, d, u, C, hu, rfl⟩ := hb
  simp only [nm, rs_8, rs_w8]
  exact ⟨_, rfl, pt, d - 1, u, C, hu, rfl⟩
end
