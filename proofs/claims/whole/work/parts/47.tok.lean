/-! ===== TOKENS: what lies on the tape, word by word ===== -/
def srt (b : Nat) : Nat := if 97 ≤ b ∧ b ≤ 122 then 1 else if 48 ≤ b ∧ b ≤ 57 then 2 else 0
/-- a byte as the reference keeps it -/
def sx (b : Nat) : Int32 := if b < 128 then nI b else nI b - 256
def bys (B : Nat → Nat) (s e : Nat) : List Nat := (List.range (e - s)).map (fun k => B (s + k))
def w26 : List (List Nat) := [[99, 111, 117, 110, 116, 115], [115, 104, 101, 100, 115], [98, 97, 114, 115], [105, 102], [111, 114], [97, 110, 100], [110, 111, 116], [99, 108, 97, 105, 109], [107, 105, 110, 100], [112, 108, 97, 99, 101], [97, 114, 109], [109, 111, 111, 100], [115, 108, 97, 99, 107], [104, 101, 97, 118, 121], [100, 97, 121], [100, 111, 110, 101], [108, 97, 116, 101, 115, 116], [116, 105, 108, 116], [111, 110], [97, 116], [112, 117, 116], [116, 97, 107, 101], [112, 97, 100], [116, 111], [112, 97, 115, 115], [116, 105, 109, 101, 115]]
def wix : List (List Nat) → List Nat → Nat → Nat
  | [], _, _ => 0
  | w :: ws, b, n => if w = b then n else wix ws b (n + 1)
def wfl : List (List Nat) → List Nat
  | [] => []
  | w :: ws => w ++ 32 :: wfl ws
def wof (bs : List Nat) : Nat := wix w26 bs 1
/-- a token's code and its number -/
def cdt (B : Nat → Nat) (s e : Nat) : Nat := if srt (B s) = 1 then wof (bys B s e) else if srt (B s) = 2 then 50 else 100 + B s
def numR (B : Nat → Nat) (s : Nat) : Nat → Nat
  | 0 => 0
  | k + 1 => if 1000000 < numR B s k then numR B s k else 10 * numR B s k + (B (s + k) - 48)
def vlt (B : Nat → Nat) (s e : Nat) : Nat := if srt (B s) = 2 then numR B s (e - s) else 0
theorem numR_le (B : Nat → Nat) (s : Nat) (hB : ∀ k, B k < 256) : ∀ k, numR B s k ≤ 10000300 := by
  intro k
  induction k with
  | zero => exact Nat.zero_le _
  | succ k ih => unfold numR; have := hB (s + k); split <;> omega
theorem bys_len {B : Nat → Nat} {s e : Nat} : (bys B s e).length = e - s := by simp [bys]
theorem bys_get {B : Nat → Nat} {s e k : Nat} (h : k < e - s) : (bys B s e).getD k 0 = B (s + k) := by simp [bys, List.getD, List.getElem?_map, List.getElem?_range h]
theorem bys_eq {B : Nat → Nat} {s e : Nat} {w : List Nat} : w = bys B s e ↔ (w.length = e - s ∧ ∀ k, k < w.length → w.getD k 0 = B (s + k)) := by
  constructor
  · rintro rfl
    exact ⟨bys_len, fun k hk => bys_get (by rwa [bys_len] at hk)⟩
  · rintro ⟨h1, h2⟩
    apply List.ext_getElem
    · rw [bys_len, h1]
    · intro k hk hk'
      have := h2 k hk
      simp only [List.getD, List.getElem?_eq_getElem hk, Option.getD_some] at this
      rw [this]; simp [bys]
theorem sx_low {b : Nat} (h : b < 128) : sx b = nI b := if_pos h
theorem sx_255 : ∀ b, b < 256 → sx b &&& 255 = nI b := by decide +kernel
theorem sx_small : ∀ b, b < 256 → fMo_isSmall (sx b) = some (if srt b = 1 then 1 else 0) := by decide +kernel
theorem sx_digit : ∀ b, b < 256 → fMo_isDigit (sx b) = some (if srt b = 2 then 1 else 0) := by decide +kernel
theorem sx_32 : ∀ b, b < 256 → (sx b = 32 ↔ b = 32) := by decide +kernel
theorem sortOf_b : ∀ b, b < 256 → ∀ N, fRe_sortOf N (nI b) = some (nI (srt b)) := by
  intro b hb N
  unfold fRe_sortOf fRe_sortOf_14
  have h : ∀ b, b < 256 → (if nI b < (97 : Int32) then (if nI b < (48 : Int32) then some (0 : Int32) else (if (57 : Int32) < nI b then some (0 : Int32) else some (2 : Int32))) else (if (122 : Int32) < nI b then (if nI b < (48 : Int32) then some (0 : Int32) else (if (57 : Int32) < nI b then some (0 : Int32) else some (2 : Int32))) else some (1 : Int32))) = some (nI (srt b)) := by decide +kernel
  exact h b hb
section
variable {N : Nat} {μ : sw_m} {B : Nat → Nat}
theorem wo18 {k5 : sw_m → Int32 → Int32 → Int32 → Int32 → Option (Int32 × sw_m)} {u1 u2 u3 : Int32} {k n : Nat} (hk : k + n < 124) (h32 : μ.1 90 (k + n) = 32) : ∀ (d n0 fu : Nat), n0 + d = n → d < fu → (∀ j, n0 ≤ j → j < n → μ.1 90 (k + j) ≠ 32) → fMo_wordOf_18 N k5 fu μ u1 u2 u3 (nI k) (nI n0) = (if nI n = (u2 - u1) then fMo_wordOf_57 N k5 N μ u1 u2 u3 (nI k) (nI n) (1 : Int32) (0 : Int32) else fMo_wordOf_57 N k5 N μ u1 u2 u3 (nI k) (nI n) (0 : Int32) (0 : Int32)) := by
  intro d
  induction d with
  | zero =>
    intro n0 fu h1 h2 _
    obtain ⟨fu, rfl⟩ : ∃ x, fu = x + 1 := ⟨fu - 1, by omega⟩
    obtain rfl : n0 = n := by omega
    rw [fMo_wordOf_18, nI_add, rd_nI (by omega) (by decide), h32, if_pos rfl]
  | succ d ih =>
    intro n0 fu h1 h2 h3
    obtain ⟨fu, rfl⟩ : ∃ x, fu = x + 1 := ⟨fu - 1, by omega⟩
    rw [fMo_wordOf_18, nI_add, rd_nI (by omega) (by decide), if_neg (h3 n0 (by omega) (by omega)), nm, nI_1]
    exact ih (n0 + 1) fu (by omega) (by omega) (fun j a b => h3 j (by omega) b)
theorem wo57n {k5 : sw_m → Int32 → Int32 → Int32 → Int32 → Option (Int32 × sw_m)} {u1 u2 u3 : Int32} {k n i fu : Nat} : fMo_wordOf_57 N k5 (fu + 1) μ u1 u2 u3 (nI k) (nI n) 0 (nI i) = k5 μ u1 u2 (u3 + 1) (nI (k + (n + 1))) := by
  rw [fMo_wordOf_57]
  simp only [fMo_wordOf_104, nm, nI_1, nI_add, if_true, ite_self]
theorem wo57 {k5 : sw_m → Int32 → Int32 → Int32 → Int32 → Option (Int32 × sw_m)} {u2 u3 : Int32} {s k n : Nat} (hk : k + n < 124) (hs : s + n ≤ 400) : ∀ (d i fu : Nat), i + d = n → d + 1 < fu → ((∀ j, i ≤ j → j < n → μ.1 90 (k + j) = μ.1 91 (s + j)) ∧ fMo_wordOf_57 N k5 fu μ (nI s) u2 u3 (nI k) (nI n) 1 (nI i) = some (u3, μ)) ∨ ((∃ j, i ≤ j ∧ j < n ∧ μ.1 90 (k + j) ≠ μ.1 91 (s + j)) ∧ fMo_wordOf_57 N k5 fu μ (nI s) u2 u3 (nI k) (nI n) 1 (nI i) = k5 μ (nI s) u2 (u3 + 1) (nI (k + (n + 1)))) := by
  intro d
  induction d with
  | zero =>
    intro i fu h1 h2
    obtain ⟨fu, rfl⟩ : ∃ x, fu = x + 1 := ⟨fu - 1, by omega⟩
    obtain rfl : i = n := by omega
    refine .inl ⟨fun j a b => by omega, ?_⟩
    rw [fMo_wordOf_57, if_pos (nI_le (Nat.le_refl _) (by omega))]
    simp [fMo_wordOf_104]
  | succ d ih =>
    intro i fu h1 h2
    obtain ⟨fu, rfl⟩ : ∃ x, fu = x + 2 := ⟨fu - 2, by omega⟩
    have e : fMo_wordOf_57 N k5 (fu + 1 + 1) μ (nI s) u2 u3 (nI k) (nI n) 1 (nI i) = (if μ.1 90 (k + i) = μ.1 91 (s + i) then fMo_wordOf_57 N k5 (fu + 1) μ (nI s) u2 u3 (nI k) (nI n) 1 (nI (i + 1)) else fMo_wordOf_57 N k5 (fu + 1) μ (nI s) u2 u3 (nI k) (nI n) 0 (nI (i + 1))) := by
      rw [fMo_wordOf_57, if_neg (nI_ge (by omega) (by omega)), if_neg (by decide), nI_add, rd_nI (by omega) (by decide), nI_add, rd_nI (by omega) (by decide)]
      simp only [nm, nI_1]
    rw [e]
    by_cases h : μ.1 90 (k + i) = μ.1 91 (s + i)
    · rw [if_pos h]
      rcases ih (i + 1) (fu + 1) (by omega) (by omega) with ⟨h3, h4⟩ | ⟨⟨j, h3, h5, h6⟩, h4⟩
      · refine .inl ⟨fun j a b => ?_, h4⟩
        by_cases hj : j = i
        · subst hj; exact h
        · exact h3 j (by omega) b
      · exact .inr ⟨⟨j, by omega, h5, h6⟩, h4⟩
    · rw [if_neg h, wo57n]
      exact .inr ⟨⟨i, by omega, by omega, h⟩, rfl⟩
theorem wordOf_5 (hN : 3000 ≤ N) {s e : Nat} (hs : s ≤ e) (he : e ≤ 400) (ht : ∀ j, s ≤ j → j < e → μ.1 91 j = nI (B j)) (hB : ∀ k, B k < 256) : ∀ (ws : List (List Nat)) (w k fu : Nat), (∀ v ∈ ws, ∀ x ∈ v, x < 256 ∧ x ≠ 32) → k + (wfl ws).length = 124 → (∀ j, j < (wfl ws).length → μ.1 90 (k + j) = nI ((wfl ws).getD j 0)) → ws.length < fu → fMo_wordOf_5 N fu μ (nI s) (nI e) (nI w) (nI k) = some (nI (wix ws (bys B s e) w), μ) := by
  intro ws
  induction ws with
  | nil =>
    intro w k fu _ h1 _ h3
    obtain ⟨fu, rfl⟩ : ∃ x, fu = x + 1 := ⟨fu - 1, by simp at h3; omega⟩
    simp only [wfl, List.length_nil, Nat.add_zero] at h1
    subst h1
    rw [fMo_wordOf_5, if_pos (by decide)]
    rfl
  | cons v ws ih =>
    intro w k fu h0 h1 h2 h3
    obtain ⟨fu, rfl⟩ : ∃ x, fu = x + 1 := ⟨fu - 1, by simp at h3; omega⟩
    simp only [wfl, List.length_append, List.length_cons] at h1 h2
    have hv : ∀ j, j < v.length → μ.1 90 (k + j) = nI (v.getD j 0) := by
      intro j hj
      rw [h2 j (by omega)]
      simp [List.getD, List.getElem?_append_left hj]
    have hv3 : ∀ j, j < v.length → v.getD j 0 < 256 ∧ v.getD j 0 ≠ 32 := by
      intro j hj
      have : v.getD j 0 ∈ v := by simp [List.getD, List.getElem?_eq_getElem hj]
      exact h0 v (by simp) _ this
    have h32 : μ.1 90 (k + v.length) = 32 := by
      rw [h2 v.length (by omega)]
      simp [List.getD]; rfl
    have hne : ∀ j, 0 ≤ j → j < v.length → μ.1 90 (k + j) ≠ 32 := by
      intro j _ hj h
      rw [hv j hj] at h
      have h4 := hv3 j hj
      exact h4.2 ((nI_eq (b := 32) (by omega) (by decide)).1 h)
    have hrec : fMo_wordOf_5 N fu μ (nI s) (nI e) (nI w + 1) (nI (k + (v.length + 1))) = some (nI (wix ws (bys B s e) (w + 1)), μ) := by
      rw [nI_1]
      refine ih (w + 1) (k + (v.length + 1)) fu (fun x hx => h0 x (by simp [hx])) (by omega) (fun j hj => ?_) (by simp at h3; omega)
      rw [Nat.add_assoc, h2 (v.length + 1 + j) (by omega)]
      congr 1
      simp only [List.getD]
      rw [List.getElem?_append_right (by omega)]
      congr 1
      rw [show v.length + 1 + j - v.length = j + 1 by omega]
      rfl
    rw [fMo_wordOf_5, if_neg (show ¬ (124 : Int32) ≤ nI k from nI_ge (a := k) (b := 124) (by omega) (by decide)), show (0 : Int32) = nI 0 from rfl, wo18 (by omega) h32 v.length 0 N (by omega) (by omega) hne]
    have hsub : nI e - nI s = nI (e - s) := by
      have : nI e = nI s + nI (e - s) := by rw [nI_add]; congr 1; omega
      rw [this]; lia
    rw [hsub]
    by_cases hl : v.length = e - s
    · rw [if_pos (by rw [hl])]
      have hb : ∀ j, j < v.length → (μ.1 90 (k + j) = μ.1 91 (s + j) ↔ v.getD j 0 = B (s + j)) := by
        intro j hj
        rw [hv j hj, ht (s + j) (by omega) (by omega)]
        have := hv3 j hj; have := hB (s + j)
        exact nI_eq (by omega) (by omega)
      rcases wo57 (N := N) (k5 := fMo_wordOf_5 N fu) (μ := μ) (u2 := nI e) (u3 := nI w) (s := s) (k := k) (n := v.length) (by omega) (by omega) v.length 0 N (by omega) (by omega) with ⟨h4, h5⟩ | ⟨⟨j, _, h4, h6⟩, h5⟩
      · rw [show (0 : Int32) = nI 0 from rfl, h5, wix, if_pos (bys_eq.2 ⟨hl, fun j hj => (hb j hj).1 (h4 j (by omega) hj)⟩)]
      · rw [show (0 : Int32) = nI 0 from rfl, h5, hrec, wix, if_neg (fun h => h6 ((hb j h4).2 ((bys_eq.1 h).2 j h4)))]
    · rw [if_neg (fun h => hl ((nI_eq (by omega) (by omega)).1 h))]
      obtain ⟨M, rfl⟩ : ∃ x, N = x + 1 := ⟨N - 1, by omega⟩
      rw [show (0 : Int32) = nI 0 from rfl, show fMo_wordOf_57 (M + 1) (fMo_wordOf_5 (M + 1) fu) (M + 1) μ (nI s) (nI e) (nI w) (nI k) (nI v.length) (nI 0) (nI 0) = _ from wo57n, hrec, wix, if_neg (fun h => hl (bys_eq.1 h).1)]
theorem w26_ok : ∀ v ∈ w26, ∀ x ∈ v, x < 256 ∧ x ≠ 32 := by decide +kernel
theorem w26_l : w26.length = 26 := by decide +kernel
theorem w26_len : (wfl w26).length = 124 := by decide +kernel
theorem wordOf_eq (hN : 3000 ≤ N) {s e : Nat} (hs : s ≤ e) (he : e ≤ 400) (ht : ∀ j, s ≤ j → j < e → μ.1 91 j = nI (B j)) (hB : ∀ k, B k < 256) (hw : ∀ j, j < 124 → μ.1 90 j = nI ((wfl w26).getD j 0)) : fMo_wordOf N μ (nI s) (nI e) = some (nI (wof (bys B s e)), μ) := by
  unfold fMo_wordOf
  rw [show (1 : Int32) = nI 1 from rfl, show (0 : Int32) = nI 0 from rfl]
  refine wordOf_5 hN hs he ht hB w26 1 0 N w26_ok (by rw [w26_len]) (fun j hj => ?_) (by rw [w26_l]; omega)
  rw [Nat.zero_add]; exact hw j (by rw [w26_len] at hj; exact hj)
end
