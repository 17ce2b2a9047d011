/-! ===== the class' reader: its state, its tokens ===== -/
def rs (g : sw_g) (f s e pt d u : Int32) (C : Nat → Int32) : sw_g := (fun p k => if p = 33 then (if k = 2 then f else if k = 5 then s else if k = 6 then e else if k = 7 then pt else if k = 8 then d else g.1 33 k) else if p = 35 then (if k = 6 then u else g.1 35 k) else if p = 41 then C k else g.1 p k, g.2)
def updI (C : Nat → Int32) (j : Nat) (v : Int32) : Nat → Int32 := fun k => if k = j then v else C k
section
variable {g : sw_g} {f s e pt d u : Int32} {C : Nat → Int32}
theorem rs_0 : (rs g f s e pt d u C).1 33 0 = g.1 33 0 := rfl
theorem rs_4 : (rs g f s e pt d u C).1 33 4 = g.1 33 4 := rfl
theorem rs_2 : (rs g f s e pt d u C).1 33 2 = f := rfl
theorem rs_5 : (rs g f s e pt d u C).1 33 5 = s := rfl
theorem rs_6 : (rs g f s e pt d u C).1 33 6 = e := rfl
theorem rs_7 : (rs g f s e pt d u C).1 33 7 = pt := rfl
theorem rs_8 : (rs g f s e pt d u C).1 33 8 = d := rfl
theorem rs_u : (rs g f s e pt d u C).1 35 6 = u := rfl
theorem rs_34 : (rs g f s e pt d u C).1 34 = g.1 34 := rfl
theorem rs_41 : (rs g f s e pt d u C).1 41 = C := rfl
theorem rs_w2 {v : Int32} : gI (rs g f s e pt d u C) 33 2 v = rs g v s e pt d u C := by
  refine Prod.ext (funext fun p => funext fun k => ?_) rfl
  simp only [gI, rs, sw_u]; grind
theorem rs_w5 {v : Int32} : gI (rs g f s e pt d u C) 33 5 v = rs g f v e pt d u C := by
  refine Prod.ext (funext fun p => funext fun k => ?_) rfl
  simp only [gI, rs, sw_u]; grind
theorem rs_w6 {v : Int32} : gI (rs g f s e pt d u C) 33 6 v = rs g f s v pt d u C := by
  refine Prod.ext (funext fun p => funext fun k => ?_) rfl
  simp only [gI, rs, sw_u]; grind
theorem rs_w7 {v : Int32} : gI (rs g f s e pt d u C) 33 7 v = rs g f s e v d u C := by
  refine Prod.ext (funext fun p => funext fun k => ?_) rfl
  simp only [gI, rs, sw_u]; grind
theorem rs_w8 {v : Int32} : gI (rs g f s e pt d u C) 33 8 v = rs g f s e pt v u C := by
  refine Prod.ext (funext fun p => funext fun k => ?_) rfl
  simp only [gI, rs, sw_u]; grind
theorem rs_wu {v : Int32} : gI (rs g f s e pt d u C) 35 6 v = rs g f s e pt d v C := by
  refine Prod.ext (funext fun p => funext fun k => ?_) rfl
  simp only [gI, rs, sw_u]; grind
theorem rs_wc {j : Nat} {v : Int32} : gI (rs g f s e pt d u C) 41 j v = rs g f s e pt d u (updI C j v) := by
  refine Prod.ext (funext fun p => funext fun k => ?_) rfl
  simp only [gI, rs, sw_u, updI]; grind
end
/-! numbers beside written ones -/
theorem eqL {a : Nat} (c : Int32) (c' : Nat) (hc : c = nI c') (ha : a < 2 ^ 31) (hc' : c' < 2 ^ 31) : nI a = c ↔ a = c' := by rw [hc]; exact nI_eq ha hc'
theorem ltL {a : Nat} (c : Int32) (c' : Nat) (hc : c = nI c') (ha : a < 2 ^ 31) (hc' : c' < 2 ^ 31) : nI a < c ↔ a < c' := by rw [hc]; exact nI_ltI ha hc'
theorem Llt {a : Nat} (c : Int32) (c' : Nat) (hc : c = nI c') (ha : a < 2 ^ 31) (hc' : c' < 2 ^ 31) : c < nI a ↔ c' < a := by rw [hc]; exact nI_ltI hc' ha
theorem leL {a : Nat} (c : Int32) (c' : Nat) (hc : c = nI c') (ha : a < 2 ^ 31) (hc' : c' < 2 ^ 31) : nI a ≤ c ↔ a ≤ c' := by rw [hc]; exact nI_leI ha hc'
theorem Lle {a : Nat} (c : Int32) (c' : Nat) (hc : c = nI c') (ha : a < 2 ^ 31) (hc' : c' < 2 ^ 31) : c ≤ nI a ↔ c' ≤ a := by rw [hc]; exact nI_leI hc' ha
/-! strings -/
def w39 : List (List Nat) := [[99, 111, 117, 110, 116, 115], [91], [93], [99, 108, 97, 105, 109], [104, 101, 97, 118, 121], [107, 105, 110, 100], [112, 108, 97, 99, 101], [97, 114, 109], [100, 97, 121], [109, 111, 111, 100], [115, 108, 97, 99, 107], [100, 111, 110, 101], [108, 97, 116, 101, 115, 116], [116, 105, 108, 116], [111, 110], [97, 116], [42], [47], [37], [43], [45], [115, 104, 101, 100, 115], [98, 97, 114, 115], [112, 117, 116], [116, 97, 107, 101], [112, 97, 100], [116, 111], [112, 97, 115, 115], [116, 105, 109, 101, 115], [105, 102], [110, 111, 116], [40], [41], [60], [62], [61], [97, 110, 100], [111, 114], [59]]
def ct (i : Nat) : Nat := [1, 191, 193, 8, 14, 9, 10, 11, 15, 12, 13, 16, 17, 18, 19, 20, 142, 147, 137, 143, 145, 2, 3, 21, 22, 23, 24, 25, 26, 4, 7, 140, 141, 160, 162, 161, 6, 5, 159].getD i 0
theorem w39_byt : sw_byt = w39.map (fun w => w.map nI) := by decide +kernel
theorem w39_len : ∀ i, i < 39 → sw_len.getD i 0 = (w39.getD i []).length := by decide +kernel
theorem w39_ln : ∀ i, i < 39 → Int32.ofNat (sw_len.getD i 0) = nI (w39.getD i []).length := fun i hi => by rw [w39_len i hi]; rfl
theorem w39_b : ∀ i, i < 39 → ∀ j, j < (w39.getD i []).length → (sw_byt.getD i []).getD j 0 = nI ((w39.getD i []).getD j 0) := by decide +kernel
theorem w39_s : ∀ i, i < 39 → (w39.getD i []).length ≤ 6 ∧ 1 ≤ (w39.getD i []).length ∧ ∀ j, j < (w39.getD i []).length → (w39.getD i []).getD j 0 < 256 := by decide +kernel
theorem w39_ct : ∀ i, i < 39 → (1 ≤ ct i ∧ ct i ≤ 26 ∧ w26.getD (ct i - 1) [] = w39.getD i [] ∧ srt ((w39.getD i []).getD 0 0) = 1) ∨ (100 ≤ ct i ∧ w39.getD i [] = [ct i - 100] ∧ srt (ct i - 100) = 0) := by decide +kernel
theorem w26_nd : w26.Nodup := by decide +kernel
theorem wix_or {b : List Nat} : ∀ (ws : List (List Nat)) (n : Nat), wix ws b n = 0 ∨ (n ≤ wix ws b n ∧ wix ws b n < n + ws.length) := by
  intro ws
  induction ws with
  | nil => intro n; exact .inl rfl
  | cons w ws ih =>
    intro n
    simp only [wix]
    split
    · exact .inr ⟨Nat.le_refl _, by simp⟩
    · rcases ih (n + 1) with h | ⟨h1, h2⟩
      · exact .inl h
      · exact .inr ⟨by omega, by simp; omega⟩
theorem wix_at {b : List Nat} : ∀ (ws : List (List Nat)) (n : Nat), 1 ≤ n → ws.Nodup → ∀ i, i < ws.length → (wix ws b n = n + i ↔ ws.getD i [] = b) := by
  intro ws
  induction ws with
  | nil => intro n _ _ i h; simp at h
  | cons w ws ih =>
    intro n hn hd i hi
    simp only [wix]
    rw [List.nodup_cons] at hd
    cases i with
    | zero =>
      simp only [List.getD_cons_zero, Nat.add_zero]
      split
      · rename_i h; exact ⟨fun _ => h, fun _ => rfl⟩
      · rename_i h
        refine ⟨fun h' => ?_, fun h' => absurd h' h⟩
        rcases wix_or (b := b) ws (n + 1) with h2 | ⟨h2, _⟩ <;> omega
    | succ i =>
      simp only [List.getD_cons_succ]
      have hi' : i < ws.length := by simpa using hi
      split
      · rename_i h
        refine ⟨fun h' => by omega, fun h' => ?_⟩
        refine absurd ?_ hd.1
        rw [h, ← h', List.getD, List.getElem?_eq_getElem hi']
        exact List.getElem_mem hi'
      · rw [← ih (n + 1) (by omega) hd.2 i hi']
        omega
/-- a token is a string's just when its code is the string's -/
theorem tok_ct {B : Nat → Nat} {t p s e i : Nat} (hT : Tok B t p s e) (hi : i < 39) : w39.getD i [] = bys B s e ↔ cdt B s e = ct i := by
  obtain ⟨t1, t2, t3, t4, t5, t6, t7⟩ := hT
  have hb0 : w39.getD i [] = bys B s e → (w39.getD i []).getD 0 0 = B s := fun h => by
    have := (bys_eq.1 h).2 0 (by have := (w39_s i hi).2.1; omega); rwa [Nat.add_zero] at this
  rcases w39_ct i hi with ⟨a1, a2, a3, a4⟩ | ⟨a1, a2, a3⟩
  · rcases srt_cases (B s) with h | h | h
    · refine ⟨fun hb => ?_, fun hc => ?_⟩
      · rw [hb0 hb] at a4; omega
      · rw [cdt, if_neg (by omega), if_neg (by omega)] at hc; omega
    · rw [cdt, if_pos h, ← a3]
      have := wix_at (b := bys B s e) w26 1 (Nat.le_refl _) w26_nd (ct i - 1) (by rw [w26_l]; omega)
      rw [← this, wof]
      omega
    · refine ⟨fun hb => ?_, fun hc => ?_⟩
      · rw [hb0 hb] at a4; omega
      · rw [cdt, if_neg (by omega), if_pos h] at hc; omega
  · have c0 : w39.getD i [] = bys B s e → ct i - 100 = B s := fun h => by
      have := hb0 h; rw [a2] at this; exact this
    rcases srt_cases (B s) with h | h | h
    · have he := t6 h
      rw [cdt, if_neg (by omega), if_neg (by omega)]
      refine ⟨fun hb => ?_, fun hc => ?_⟩
      · have := c0 hb; omega
      · rw [a2, bys_eq]
        refine ⟨by simp; omega, fun k hk => ?_⟩
        simp at hk; subst hk
        simp; omega
    · refine ⟨fun hb => ?_, fun hc => ?_⟩
      · rw [← c0 hb] at h; omega
      · rw [cdt, if_pos h, wof] at hc
        rcases wix_or (b := bys B s e) w26 1 with h2 | ⟨_, h2⟩
        · omega
        · rw [w26_l] at h2; omega
    · refine ⟨fun hb => ?_, fun hc => ?_⟩
      · rw [← c0 hb] at h; omega
      · rw [cdt, if_neg (by omega), if_pos h] at hc; omega
/-- what the reader stands on -/
def GX (B : Nat → Nat) (t m : Nat) (S P : Nat → Nat) (g : sw_g) : Prop := Tks B t m S P ∧ t ≤ 400 ∧ (∀ k, B k < 256) ∧ g.1 33 0 = nI t ∧ (∀ j, j < t → g.1 34 j = nI (B j))
section
variable {N : Nat} {ln : Nat → Nat} {B : Nat → Nat} {t m : Nat} {S P : Nat → Nat} {g : sw_g} {f pt d u : Int32} {C : Nat → Int32}
theorem GX.Sle (h : GX B t m S P g) {j : Nat} (hj : j ≤ m) : S j ≤ t ∧ P (j + 1) ≤ t ∧ S j ≤ P (j + 1) := by
  obtain ⟨⟨h1, h2, h3, h4, h5, h6, h7⟩, _⟩ := h
  by_cases hm : j < m
  · have := h3 j hm; unfold Tok at this; omega
  · obtain rfl : j = m := by omega
    omega
theorem GX.ge (h : GX B t m S P g) : ∀ j, j ≤ m → j ≤ P j ∧ P j ≤ S j := by
  obtain ⟨⟨h1, h2, h3, h4, h5, h6, h7⟩, _⟩ := h
  intro j
  induction j with
  | zero =>
    intro hj
    refine ⟨Nat.zero_le _, ?_⟩
    by_cases hm : 0 < m
    · exact (h3 0 hm).1
    · obtain rfl : m = 0 := by omega
      omega
  | succ j ih =>
    intro hj
    have a := ih (by omega)
    have b := h3 j (by omega)
    refine ⟨by have := b.2.1; omega, ?_⟩
    by_cases hm : j + 1 < m
    · exact (h3 (j + 1) hm).1
    · obtain rfl : m = j + 1 := by omega
      omega
/-- is the token at hand this string -/
theorem isToken_loop {i s : Nat} (hi : i < 39) (hs : s + (w39.getD i []).length ≤ 400) {e : Int32} (hg : ∀ j, j < (w39.getD i []).length → g.1 34 (s + j) = nI (B (s + j))) (hB : ∀ k, B k < 256) : ∀ (dd x fu : Nat), x + dd = (w39.getD i []).length → dd < fu → (∀ y, y < x → (w39.getD i []).getD y 0 = B (s + y)) → fRe_isToken_20 N ln i fu (rs g f (nI s) e pt d u C) (nI x) = some (if (∀ y, y < (w39.getD i []).length → (w39.getD i []).getD y 0 = B (s + y)) then 1 else 0, rs g f (nI s) e pt d u C) := by
  have hl := w39_s i hi
  intro dd
  induction dd with
  | zero =>
    intro x fu h1 h2 h3
    obtain ⟨fu, rfl⟩ : ∃ x, fu = x + 1 := ⟨fu - 1, by omega⟩
    rw [fRe_isToken_20, w39_ln i hi, if_pos (nI_le (by omega) (by omega)), if_pos (fun y hy => h3 y (by omega))]
  | succ dd ih =>
    intro x fu h1 h2 h3
    obtain ⟨fu, rfl⟩ : ∃ x, fu = x + 1 := ⟨fu - 1, by omega⟩
    rw [fRe_isToken_20, w39_ln i hi, w39_len i hi, if_neg (nI_ge (by omega) (by omega)), rs_5, nI_add, rd_nI (by omega) (by decide), rd_nI (by omega) (by omega), rs_34, hg x (by omega), w39_b i hi x (by omega)]
    have hx := hl.2.2 x (by omega)
    have hBx := hB (s + x)
    by_cases he : (w39.getD i []).getD x 0 = B (s + x)
    · rw [if_pos (by rw [he]), nm, nI_1]
      refine ih (x + 1) fu (by omega) (by omega) (fun y hy => ?_)
      by_cases hyx : y = x
      · rw [hyx]; exact he
      · exact h3 y (by omega)
    · rw [if_neg (fun h => he ((nI_eq (by omega) (by omega)).1 h).symm), if_neg (fun h => he (h x (by omega)))]
theorem isToken_at (h : GX B t m S P g) (hN : 3000 ≤ N) {i j : Nat} (hi : i < 39) (hj : j ≤ m) : fRe_isToken N ln (rs g f (nI (S j)) (nI (P (j + 1))) pt d u C) i = some (if cds B m S P j = ct i then 1 else 0, rs g f (nI (S j)) (nI (P (j + 1))) pt d u C) := by
  have hS := h.Sle hj
  obtain ⟨hk, ht, hB, h0, hg⟩ := h
  have hl := w39_s i hi
  unfold fRe_isToken
  have hsub : nI (P (j + 1)) - nI (S j) = nI (P (j + 1) - S j) := by
    have : nI (P (j + 1)) = nI (S j) + nI (P (j + 1) - S j) := by rw [nI_add]; congr 1; omega
    rw [this]; lia
  rw [rs_5, rs_6, hsub, w39_ln i hi]
  by_cases hm : j < m
  · have hT := hk.2.2.1 j hm
    have hc := tok_ct hT hi
    rw [cds, if_pos hm]
    by_cases he : P (j + 1) - S j = (w39.getD i []).length
    · have lp := isToken_loop (N := N) (ln := ln) (B := B) (f := f) (pt := pt) (d := d) (u := u) (C := C) (s := S j) (e := nI (P (j + 1))) hi (by omega) (fun y hy => hg _ (by omega)) hB (w39.getD i []).length 0 N (by omega) (by omega) (fun y hy => by omega)
      rw [if_pos (by rw [he]), show fRe_isToken_20 N ln i N (rs g f (nI (S j)) (nI (P (j + 1))) pt d u C) 0 = _ from lp]
      have : (∀ y, y < (w39.getD i []).length → (w39.getD i []).getD y 0 = B (S j + y)) ↔ cdt B (S j) (P (j + 1)) = ct i := by
        rw [← hc, bys_eq]; exact ⟨fun h => ⟨he.symm, h⟩, fun h => h.2⟩
      simp only [this]
    · rw [if_neg (fun h' => he ((nI_eq (by omega) (by omega)).1 h')), if_neg (fun h' => he (bys_eq.1 (hc.2 h')).1.symm)]
  · obtain rfl : j = m := by omega
    have e0 : P (j + 1) - S j = 0 := by rw [hk.2.2.2.2.2.1, hk.2.2.2.2.1]; omega
    have hc0 : ¬ cds B j S P j = ct i := by
      unfold cds; rw [if_neg (by omega)]; rcases w39_ct i hi with a | a <;> omega
    rw [e0, if_neg hc0, if_neg (fun h' => by have := (nI_eq (by omega) (by omega)).1 h'; omega)]
/-- a reader that has failed stands at the end -/
theorem isToken_bad (hN : 3000 ≤ N) {i : Nat} (hi : i < 39) {s : Int32} : fRe_isToken N ln (rs g f s s pt d u C) i = some (0, rs g f s s pt d u C) := by
  have hl := w39_s i hi
  unfold fRe_isToken
  rw [rs_5, rs_6, w39_ln i hi, if_neg]
  intro h'
  have : s - s = nI 0 := by rw [show nI 0 = 0 from rfl]; lia
  rw [this] at h'
  have := (nI_eq (by omega) (by omega)).1 h'; omega
theorem advance_10 (ht : t ≤ 400) (hB : ∀ k, B k < 256) (h0 : g.1 33 0 = nI t) (hg : ∀ j, j < t → g.1 34 j = nI (B j)) {s : Nat} {e : Int32} (hst : s ≤ t) (hs : s < t → B s ≠ 32) : ∀ (dd x c fu : Nat), x + dd = s → dd < fu → c ≤ x → (∀ y, x ≤ y → y < s → B y = 32) → fRe_advance_10 N ln fu (rs g f (nI x) e pt d u C) (nI c) = fRe_advance_58 N ln (rs g f (nI s) e pt d u C) := by
  intro dd
  induction dd with
  | zero =>
    intro x c fu h1 h2 h3 h4
    obtain ⟨fu, rfl⟩ : ∃ x, fu = x + 1 := ⟨fu - 1, by omega⟩
    obtain rfl : x = s := by omega
    rw [fRe_advance_10, rs_0, rs_5, h0]
    split
    · rfl
    · by_cases hx : x < t
      · rw [if_neg (nI_ge hx (by omega)), rd_nI (by omega) (by decide), rs_34, hg x hx, if_neg (fun h => hs hx ((eqL 32 32 rfl (by have := hB x; omega) (by decide)).1 h))]
      · rw [if_pos (nI_le (by omega) (by omega))]
  | succ dd ih =>
    intro x c fu h1 h2 h3 h4
    obtain ⟨fu, rfl⟩ : ∃ x, fu = x + 1 := ⟨fu - 1, by omega⟩
    rw [fRe_advance_10, rs_0, rs_5, h0, if_neg (show ¬ (400 : Int32) ≤ nI c from nI_ge (b := 400) (by omega) (by decide)), if_neg (nI_ge (by omega) (by omega)), rd_nI (by omega) (by decide), rs_34, hg x (by omega), h4 x (by omega) (by omega), if_pos (show nI 32 = 32 from rfl)]
    simp only [nm, rs_w5, nI_1]
    exact ih (x + 1) (c + 1) fu (by omega) (by omega) (by omega) (fun y a b => h4 y (by omega) b)
theorem advance_102 (ht : t ≤ 400) (hB : ∀ k, B k < 256) (h0 : g.1 33 0 = nI t) (hg : ∀ j, j < t → g.1 34 j = nI (B j)) {s : Int32} {q e : Nat} (hq : q = 1 ∨ q = 2) (het : e ≤ t) (he : e < t → srt (B e) ≠ q) : ∀ (dd x c fu : Nat), x + dd = e → dd < fu → c ≤ x → (∀ y, x ≤ y → y < e → srt (B y) = q) → fRe_advance_102 N ln fu (rs g f s (nI x) pt d u C) (nI q) (nI c) = some (rs g f s (nI e) pt d u C) := by
  have hq0 : ¬ nI q = 0 := nI_ne0 (by omega) (by omega)
  intro dd
  induction dd with
  | zero =>
    intro x c fu h1 h2 h3 h4
    obtain ⟨fu, rfl⟩ : ∃ x, fu = x + 1 := ⟨fu - 1, by omega⟩
    obtain rfl : x = e := by omega
    rw [fRe_advance_102, rs_0, rs_6, h0, if_neg hq0]
    split
    · rfl
    · by_cases hx : x < t
      · rw [if_neg (nI_ge hx (by omega)), rd_nI (by omega) (by decide), rs_34, hg x hx, sortOf_b _ (hB x), Option.bind_some, if_neg (fun h => he hx ((nI_eq (by have := srt_cases (B x); omega) (by omega)).1 h))]
      · rw [if_pos (nI_le (by omega) (by omega))]
  | succ dd ih =>
    intro x c fu h1 h2 h3 h4
    obtain ⟨fu, rfl⟩ : ∃ x, fu = x + 1 := ⟨fu - 1, by omega⟩
    rw [fRe_advance_102, rs_0, rs_6, h0, if_neg hq0, if_neg (show ¬ (400 : Int32) ≤ nI c from nI_ge (b := 400) (by omega) (by decide)), if_neg (nI_ge (by omega) (by omega)), rd_nI (by omega) (by decide), rs_34, hg x (by omega), sortOf_b _ (hB x), Option.bind_some, h4 x (by omega) (by omega), if_pos rfl]
    simp only [nm, rs_w6, nI_1]
    exact ih (x + 1) (c + 1) fu (by omega) (by omega) (by omega) (fun y a b => h4 y (by omega) b)
/-- on to the next token -/
theorem advance_at (h : GX B t m S P g) (hN : 3000 ≤ N) {j : Nat} (hj : j ≤ m) {s : Int32} : fRe_advance N ln (rs g f s (nI (P j)) pt d u C) = some (rs g f (nI (S j)) (nI (P (j + 1))) pt d u C) := by
  have hS := h.Sle hj
  have hge := h.ge j hj
  obtain ⟨hk, ht, hB, h0, hg⟩ := h
  unfold fRe_advance
  simp only [nm, rs_6, rs_w5]
  rw [show (0 : Int32) = nI 0 from rfl]
  have e58 : fRe_advance_58 N ln (rs g f (nI (S j)) (nI (P j)) pt d u C) = some (rs g f (nI (S j)) (nI (P (j + 1))) pt d u C) := by
    unfold fRe_advance_58
    simp only [nm, rs_5, rs_w6, rs_0, h0, rs_34, rs_6, nI_1]
    by_cases hm : j < m
    · obtain ⟨t1, t2, t3, t4, t5, t6, t7⟩ := hk.2.2.1 j hm
      rw [if_neg (nI_ge (by omega) (by omega)), rd_nI (by omega) (by decide), hg _ (by omega), sortOf_b _ (hB _), Option.bind_some]
      rcases srt_cases (B (S j)) with hs | hs
      · obtain ⟨M, rfl⟩ : ∃ x, N = x + 1 := ⟨N - 1, by omega⟩
        rw [fRe_advance_102, hs, if_neg (by decide), if_pos (by decide), t6 hs]
      · have q := t7 (by omega)
        have hq : srt (B (S j)) = 1 ∨ srt (B (S j)) = 2 := hs
        rw [show (0 : Int32) = nI 0 from rfl]
        exact advance_102 ht hB h0 hg hq t3 q.2 (P (j + 1) - (S j + 1)) (S j + 1) 0 N (by omega) (by omega) (by omega) (fun y a b => q.1 y (by omega) b)
    · obtain rfl : j = m := by omega
      have e1 := hk.2.2.2.2.1
      have e2 := hk.2.2.2.2.2.1
      rw [if_pos (nI_le (by omega) (by omega)), e1, e2]
  rw [advance_10 (s := S j) ht hB h0 hg hS.1 ?_ (S j - P j) (P j) 0 N (by omega) (by omega) (by omega) ?_, e58]
  · intro hlt
    by_cases hm : j < m
    · exact (hk.2.2.1 j hm).2.2.2.2.1
    · obtain rfl : j = m := by omega
      have e1 := hk.2.2.2.2.1; omega
  · intro y a b
    by_cases hm : j < m
    · exact (hk.2.2.1 j hm).2.2.2.1 y a b
    · obtain rfl : j = m := by omega
      have e1 := hk.2.2.2.2.1
      exact hk.2.2.2.2.2.2 y a (by omega)
def numC (B : Nat → Nat) (s : Nat) : Nat → Nat
  | 0 => 0
  | k + 1 => min (10 * numC B s k + (B (s + k) - 48)) 1001
theorem numC_R (B : Nat → Nat) (s : Nat) : ∀ k, numC B s k = min (numR B s k) 1001 := by
  intro k
  induction k with
  | zero => rfl
  | succ k ih => unfold numC numR; rw [ih]; split <;> omega
theorem numberFrom_37 (ht : t ≤ 400) (hB : ∀ k, B k < 256) (hg : ∀ j, j < t → g.1 34 j = nI (B j)) {s e lo hi : Nat} (het : e ≤ t) (hse : s ≤ e) (hd : ∀ y, s ≤ y → y < e → srt (B y) = 2) (hlo : lo ≤ 2000) (hhi : hi ≤ 2000) {s0 : Int32} : ∀ (dd c fu : Nat), s + c + dd = e → dd < fu → fRe_numberFrom_37 N ln fu (rs g f s0 (nI e) pt d u C) (nI lo) (nI hi) (nI (numC B s c)) (nI (s + c)) = some (if lo ≤ numC B s (e - s) ∧ numC B s (e - s) ≤ hi then nI (numC B s (e - s)) else -1, rs g f s0 (nI e) pt d u C) := by
  have hb : ∀ c, numC B s c ≤ 1001 := by
    intro c; cases c with
    | zero => exact Nat.zero_le _
    | succ c => unfold numC; omega
  intro dd
  induction dd with
  | zero =>
    intro c fu h1 h2
    obtain ⟨fu, rfl⟩ : ∃ x, fu = x + 1 := ⟨fu - 1, by omega⟩
    obtain rfl : e = s + c := by omega
    have hc := hb c
    rw [fRe_numberFrom_37, rs_6, if_pos (nI_le (Nat.le_refl _) (by omega)), show s + c - s = c by omega]
    by_cases a : lo ≤ numC B s c
    · rw [if_neg (nI_nlt a (by omega))]
      by_cases b : numC B s c ≤ hi
      · rw [if_neg (nI_nlt b (by omega)), if_pos ⟨a, b⟩]
      · rw [if_pos (nI_lt (by omega) (by omega)), if_neg (fun h => b h.2)]
    · rw [if_pos (nI_lt (by omega) (by omega)), if_neg (fun h => a h.1)]
  | succ dd ih =>
    intro c fu h1 h2
    obtain ⟨fu, rfl⟩ : ∃ x, fu = x + 1 := ⟨fu - 1, by omega⟩
    have hc := hb c
    have hs2 := srt2 (hd (s + c) (by omega) (by omega))
    rw [fRe_numberFrom_37, rs_6, if_neg (nI_ge (by omega) (by omega)), rs_34, rd_nI (by omega) (by decide), hg _ (by omega)]
    have ea : jmin (nI (numC B s c) * 10 + nI (B (s + c)) - 48) 1001 = nI (numC B s (c + 1)) := by
      have e1 : nI (B (s + c)) = nI (B (s + c) - 48) + 48 := by rw [show (48 : Int32) = nI 48 from rfl, nI_add]; congr 1; omega
      have e2 : nI (numC B s c) * 10 + nI (B (s + c)) - 48 = nI (10 * numC B s c + (B (s + c) - 48)) := by
        rw [show (10 : Int32) = nI 10 from rfl, nI_mul, e1, ← nI_add, Nat.mul_comm]
        lia
      rw [e2, jmin, numC]
      by_cases hh : 1001 < 10 * numC B s c + (B (s + c) - 48)
      · rw [if_pos (show (1001 : Int32) < _ from nI_lt (a := 1001) hh (by omega)), Nat.min_eq_right (by omega)]; rfl
      · rw [if_neg (show ¬ (1001 : Int32) < _ from nI_nlt (a := 1001) (by omega) (by decide)), Nat.min_eq_left (by omega)]
    rw [ea]
    simp only [nm, nI_1]
    rw [Nat.add_assoc]
    exact ih (c + 1) fu (by omega) (by omega)
theorem numberFrom_at (h : GX B t m S P g) (hN : 3000 ≤ N) {j lo hi : Nat} (hj : j ≤ m) (hhi : hi ≤ 1000) (hlo : lo ≤ 1000) : fRe_numberFrom N ln (rs g f (nI (S j)) (nI (P (j + 1))) pt d u C) (nI lo) (nI hi) = some (if cds B m S P j = 50 ∧ lo ≤ vls B m S P j ∧ vls B m S P j ≤ hi then nI (vls B m S P j) else -1, rs g f (nI (S j)) (nI (P (j + 1))) pt d u C) := by
  have hS := h.Sle hj
  obtain ⟨hk, ht, hB, h0, hg⟩ := h
  unfold fRe_numberFrom
  rw [rs_5, rs_0, h0]
  by_cases hm : j < m
  · obtain ⟨t1, t2, t3, t4, t5, t6, t7⟩ := hk.2.2.1 j hm
    have hcc : cds B m S P j = cdt B (S j) (P (j + 1)) := if_pos hm
    have hvv : vls B m S P j = vlt B (S j) (P (j + 1)) := if_pos hm
    rw [if_neg (nI_ge (by omega) (by omega)), rs_34, rd_nI (by omega) (by decide), hg _ (by omega), sortOf_b _ (hB _), Option.bind_some, hcc, hvv]
    rcases srt_cases (B (S j)) with hs | hs | hs
    · have hne : cdt B (S j) (P (j + 1)) ≠ 50 := by
        unfold cdt; rw [if_neg (by omega), if_neg (by omega)]; have := hB (S j); omega
      rw [hs, if_neg (show ¬ nI 0 = 2 by decide), if_neg (fun h' => hne h'.1)]
    · have hne : cdt B (S j) (P (j + 1)) ≠ 50 := by
        unfold cdt wof; rw [if_pos hs]
        rcases wix_or (b := bys B (S j) (P (j + 1))) w26 1 with h2 | ⟨_, h2⟩
        · omega
        · rw [w26_l] at h2; omega
      rw [hs, if_neg (show ¬ nI 1 = 2 by decide), if_neg (fun h' => hne h'.1)]
    · have q := t7 (by omega)
      have h50 : cdt B (S j) (P (j + 1)) = 50 := by unfold cdt; rw [if_neg (by omega), if_pos hs]
      have hvl : vlt B (S j) (P (j + 1)) = numR B (S j) (P (j + 1) - S j) := by unfold vlt; rw [if_pos hs]
      have lp := numberFrom_37 (N := N) (ln := ln) (B := B) (f := f) (pt := pt) (d := d) (u := u) (C := C) (s := S j) (e := P (j + 1)) (lo := lo) (hi := hi) (s0 := nI (S j)) ht hB hg t3 (by omega) (fun y a b => (q.1 y a b).trans hs) (by omega) (by omega) (P (j + 1) - S j) 0 N (by omega) (by omega)
      rw [hs, if_pos (show nI 2 = 2 from rfl), nm, show fRe_numberFrom_37 N ln N (rs g f (nI (S j)) (nI (P (j + 1))) pt d u C) (nI lo) (nI hi) 0 (nI (S j)) = _ from lp, numC_R, hvl]
      have hr := numR_le B (S j) hB (P (j + 1) - S j)
      by_cases hv : lo ≤ numR B (S j) (P (j + 1) - S j) ∧ numR B (S j) (P (j + 1) - S j) ≤ hi
      · rw [if_pos (show lo ≤ min _ 1001 ∧ min _ 1001 ≤ hi by omega), if_pos ⟨h50, hv⟩, Nat.min_eq_left (by omega)]
      · rw [if_neg (show ¬ (lo ≤ min _ 1001 ∧ min _ 1001 ≤ hi) by omega), if_neg (fun h' => hv h'.2)]
  · obtain rfl : j = m := by omega
    have e1 := hk.2.2.2.2.1
    have hcc : cds B j S P j = 0 := if_neg (by omega)
    rw [if_pos (nI_le (by omega) (by omega)), if_neg (fun h' => by omega)]
theorem numberFrom_bad (h : GX B t m S P g) {lo hi : Int32} : fRe_numberFrom N ln (rs g f (nI t) (nI t) pt d u C) lo hi = some (-1, rs g f (nI t) (nI t) pt d u C) := by
  obtain ⟨hk, ht, hB, h0, hg⟩ := h
  unfold fRe_numberFrom
  rw [rs_5, rs_0, h0, if_pos (nI_le (Nat.le_refl _) (by omega))]
end
