/-! ===== the relation between the class' cells and the reference's ===== -/
def kI (μ : sw_m) (i : Nat) : Nat → Int32 := fun j => μ.1 87 (5654 * i + j)
def RH (g : sw_g) (μ : sw_m) (n : Nat) : Prop := ∃ h nx, g.1 29 0 = nI h ∧ μ.1 84 33 = nI h ∧ h ≤ 16 ∧ g.1 29 1 = nI nx ∧ nx < 16 ∧ (∀ i, i < h → (∀ j, j < 16 → g.1 30 (16 * ((nx + 16 - h + i) % 16) + j) = μ.1 98 (16 * i + j)) ∧ CO n (fun j => μ.1 98 (16 * i + j)))
def RT (g : sw_g) (μ : sw_m) : Prop := ∃ (t : Nat) (B : Nat → Nat), (∀ j, B j < 256) ∧ t ≤ 400 ∧ g.1 33 0 = nI t ∧ μ.1 84 13 = nI t ∧ (∀ j, j < t → g.1 34 j = nI (B j) ∧ μ.1 91 j = sx (B j)) ∧ (∀ j, j < 124 → μ.1 90 j = nI ((wfl w26).getD j 0))
def RM (g : sw_g) (μ : sw_m) : Prop := g.1 33 2 = μ.1 84 14 ∧ g.1 0 16 = μ.1 84 43 ∧ g.1 0 15 = μ.1 84 6 ∧ g.1 0 14 = μ.1 84 0 ∧ g.1 83 0 = μ.1 85 1 ∧ g.1 83 1 = μ.1 85 2 ∧ g.1 83 2 = μ.1 85 3 ∧ g.1 83 3 = μ.1 85 5 ∧ g.1 83 4 = μ.1 85 6
def RD (g : sw_g) (μ : sw_m) : Prop := (g.1 19 0 = 0 ∧ μ.1 84 51 = -1) ∨ (∃ n, n ≤ 7 ∧ g.1 19 0 = nI n ∧ μ.1 84 51 = nI n ∧ ∀ c, c < 7 → g.1 20 c = μ.1 109 c ∧ g.1 22 c = μ.1 109 (7 + c))
def RI (ln : Nat → Nat) (M : Nat) (g : sw_g) (μ : sw_m) : Prop := (∀ i, i < 2 → (μ.1 88 i = 0 ∧ g.2.2 28 i = none) ∨ (μ.1 88 i = 1 ∧ ∃ q Li n w L, g.2.2 28 i = some q ∧ 110 ≤ q ∧ q + 8 < M ∧ KI (kI μ i) Li n w L ∧ PQ ln M g q (kI μ i) Li L)) ∧ (∀ a b, g.2.2 28 0 = some a → g.2.2 28 1 = some b → a + 8 < b ∨ b + 8 < a) ∧ g.1 81 0 = 0
def RR (ln : Nat → Nat) (M : Nat) (g : sw_g) (μ : sw_m) : Prop := ∃ Lw n w L, KI (μ.1 86) Lw n w L ∧ PQ ln M g 1 (μ.1 86) Lw L ∧ RH g μ n ∧ RT g μ ∧ RM g μ ∧ RD g μ ∧ RI ln M g μ
/-- what a call that only asks may change in the reference -/
def MS (μ μ' : sw_m) : Prop := ∀ p j, (p = 84 → j = 0 ∨ j = 6 ∨ j = 13 ∨ j = 14 ∨ j = 33 ∨ j = 43 ∨ j = 51) → p ≠ 89 → (p < 92 ∨ p = 98 ∨ 108 < p) → μ'.1 p j = μ.1 p j
theorem MS.refl {μ : sw_m} : MS μ μ := fun _ _ _ _ _ => rfl
theorem MS.trans {μ μ1 μ2 : sw_m} (h1 : MS μ μ1) (h2 : MS μ1 μ2) : MS μ μ2 := fun p j a b c => (h2 p j a b c).trans (h1 p j a b c)
theorem MT.MS {μ μ' : sw_m} (h : MT μ μ') : MS μ μ' := fun p j a b c => h.2 p j (by omega) (by omega)
theorem MS.row {μ μ' : sw_m} (h : MS μ μ') {p : Nat} (h1 : p ≠ 84) (h2 : p ≠ 89) (h3 : p < 92 ∨ p = 98 ∨ 108 < p) : μ'.1 p = μ.1 p := funext fun j => h p j (fun e => absurd e h1) h2 h3
theorem MS.k {μ μ' : sw_m} (h : MS μ μ') : μ'.1 86 = μ.1 86 := h.row (by decide) (by decide) (by decide)
section
variable {ln : Nat → Nat} {M : Nat} {g g' : sw_g} {μ μ' : sw_m} {n : Nat}
theorem RH.frame (h : RH g μ n) (a : g'.1 29 = g.1 29) (b : g'.1 30 = g.1 30) (c : μ'.1 84 33 = μ.1 84 33) (d : μ'.1 98 = μ.1 98) : RH g' μ' n := by
  obtain ⟨x, nx, h1, h2, h3, h4, h5, h6⟩ := h
  exact ⟨x, nx, by rw [a, h1], by rw [c, h2], h3, by rw [a, h4], h5, by rw [b, d]; exact h6⟩
theorem RH.clear (h : RH g μ n) (n' : Nat) (a : g'.1 29 0 = 0) (b : g'.1 29 1 = g.1 29 1) (c : μ'.1 84 33 = 0) : RH g' μ' n' := by
  obtain ⟨x, nx, h1, h2, h3, h4, h5, h6⟩ := h
  exact ⟨0, nx, a, c, by decide, by rw [b, h4], h5, fun i hi => absurd hi (by omega)⟩
theorem RT.frame (h : RT g μ) (a : g'.1 33 0 = g.1 33 0) (b : g'.1 34 = g.1 34) (c : μ'.1 84 13 = μ.1 84 13) (d : μ'.1 91 = μ.1 91) (e : μ'.1 90 = μ.1 90) : RT g' μ' := by
  obtain ⟨t, B, h1, h2, h3, h4, h5, h6⟩ := h
  exact ⟨t, B, h1, h2, by rw [a, h3], by rw [c, h4], by rw [b, d]; exact h5, by rw [e]; exact h6⟩
theorem RD.frame (h : RD g μ) (a : g'.1 19 0 = g.1 19 0) (b : g'.1 20 = g.1 20) (c : g'.1 22 = g.1 22) (d : μ'.1 84 51 = μ.1 84 51) (e : μ'.1 109 = μ.1 109) : RD g' μ' := by
  unfold RD; rw [a, b, c, d, e]; exact h
theorem RI.frame' (h : RI ln M g μ) (a : ∀ p, 110 ≤ p → g'.1 p = g.1 p) (b : ∀ p, p = 28 ∨ 110 ≤ p → g'.2.2 p = g.2.2 p) (c : μ'.1 87 = μ.1 87) (d : μ'.1 88 = μ.1 88) (e : g'.1 81 0 = g.1 81 0) : RI ln M g' μ' := by
  have hk : ∀ i, kI μ' i = kI μ i := fun i => by unfold kI; rw [c]
  refine ⟨fun i hi => ?_, fun x y => by rw [b 28 (by decide)]; exact h.2.1 x y, by rw [e]; exact h.2.2⟩
  rw [d, b 28 (by decide), hk]
  rcases h.1 i hi with h1 | ⟨h1, q, Li, n, w, L, a1, a2, a3, a4, a5⟩
  · exact .inl h1
  · exact .inr ⟨h1, q, Li, n, w, L, a1, a2, a3, a4, a5.frame (fun p x y => a p (by omega)) (fun p x _ => a p x) (b (q + 8) (by omega)) (b 28 (by decide))⟩
theorem RI.frame (h : RI ln M g μ) (a : ∀ p, p = 81 ∨ 110 ≤ p → g'.1 p = g.1 p) (b : ∀ p, p = 28 ∨ 110 ≤ p → g'.2.2 p = g.2.2 p) (c : μ'.1 87 = μ.1 87) (d : μ'.1 88 = μ.1 88) : RI ln M g' μ' := h.frame' (fun p hp => a p (.inr hp)) b c d (by rw [a 81 (.inl rfl)])
/-- what a call that only asks may change in the class: the sum of none stays -/
def GU (g g' : sw_g) : Prop := GA 43 82 g g' ∧ g'.1 81 0 = g.1 81 0
theorem GU.refl {g : sw_g} : GU g g := ⟨GA.refl, rfl⟩
theorem GU.trans {g g1 g2 : sw_g} (a : GU g g1) (b : GU g1 g2) : GU g g2 := ⟨a.1.trans b.1, b.2.trans a.2⟩
theorem RR.scr (h : RR ln M g μ) (hu : GU g g') (hm : MS μ μ') : RR ln M g' μ' := by
  have hg := hu.1
  obtain ⟨Lw, n, w, L, K, P, h1, h2, h3, h4, h5⟩ := h
  have r : ∀ p, p ≠ 84 → p ≠ 89 → (p < 92 ∨ p = 98 ∨ 108 < p) → μ'.1 p = μ.1 p := fun p a b c => hm.row a b c
  refine ⟨Lw, n, w, L, by rw [hm.k]; exact K, ?_, ?_, ?_, ?_, ?_, ?_⟩
  · rw [hm.k]; exact P.ga hg (by omega) (by decide)
  · exact h1.frame (hg.1 29 (by decide)) (hg.1 30 (by decide)) (hm 84 33 (by decide) (by decide) (by decide)) (r 98 (by decide) (by decide) (by decide))
  · exact h2.frame (by rw [hg.1 33 (by decide)]) (hg.1 34 (by decide)) (hm 84 13 (by decide) (by decide) (by decide)) (r 91 (by decide) (by decide) (by decide)) (r 90 (by decide) (by decide) (by decide))
  · unfold RM
    rw [hg.1 33 (by decide), hg.1 0 (by decide), hg.1 83 (by decide), hm 84 14 (by decide) (by decide) (by decide), hm 84 43 (by decide) (by decide) (by decide), hm 84 6 (by decide) (by decide) (by decide), hm 84 0 (by decide) (by decide) (by decide), r 85 (by decide) (by decide) (by decide)]
    exact h3
  · exact h4.frame (by rw [hg.1 19 (by decide)]) (hg.1 20 (by decide)) (hg.1 22 (by decide)) (hm 84 51 (by decide) (by decide) (by decide)) (r 109 (by decide) (by decide) (by decide))
  · exact h5.frame' (fun p hp => hg.1 p (by omega)) (fun p _ => by rw [hg.2]) (r 87 (by decide) (by decide) (by decide)) (r 88 (by decide) (by decide) (by decide)) hu.2
theorem RR.misc (h : RR ln M g μ) (a : ∀ p, p ≠ 0 → p ≠ 83 → g'.1 p = g.1 p) (b : g'.2.2 = g.2.2) (c : ∀ p j, p ≠ 85 → (p = 84 → j ≠ 0 ∧ j ≠ 6 ∧ j ≠ 43) → μ'.1 p j = μ.1 p j) (d : RM g' μ') : RR ln M g' μ' := by
  obtain ⟨Lw, n, w, L, K, P, h1, h2, h3, h4, h5⟩ := h
  have r : ∀ p, p ≠ 84 → p ≠ 85 → μ'.1 p = μ.1 p := fun p x y => funext fun j => c p j y (fun e => absurd e x)
  have k : μ'.1 86 = μ.1 86 := r 86 (by decide) (by decide)
  refine ⟨Lw, n, w, L, by rw [k]; exact K, ?_, ?_, ?_, d, ?_, ?_⟩
  · rw [k]; exact P.frame (fun p x y => a p (by omega) (by omega)) (fun p x _ => a p (by omega) (by omega)) (by rw [b]) (by rw [b])
  · exact h1.frame (a 29 (by decide) (by decide)) (a 30 (by decide) (by decide)) (c 84 33 (by decide) (by decide)) (r 98 (by decide) (by decide))
  · exact h2.frame (by rw [a 33 (by decide) (by decide)]) (a 34 (by decide) (by decide)) (c 84 13 (by decide) (by decide)) (r 91 (by decide) (by decide)) (r 90 (by decide) (by decide))
  · exact h4.frame (by rw [a 19 (by decide) (by decide)]) (a 20 (by decide) (by decide)) (a 22 (by decide) (by decide)) (c 84 51 (by decide) (by decide)) (r 109 (by decide) (by decide))
  · exact h5.frame (fun p hp => a p (by omega) (by omega)) (fun p _ => by rw [b]) (r 87 (by decide) (by decide)) (r 88 (by decide) (by decide))
/-- both answer alike, and the relation holds -/
def CR (ln : Nat → Nat) (M : Nat) (x : Option (Int32 × sw_g)) (y : Option (Int32 × sw_m)) : Prop := ∃ v g' μ', x = some (v, g') ∧ y = some (v, μ') ∧ RR ln M g' μ'
theorem RR.told (h : RR ln M g μ) : RR ln M (gI g 0 14 0) (mI μ 84 0 0) := by
  refine h.misc (fun p h1 h2 => by funext j; rw [gI_at, if_neg (by omega)]) rfl (fun p j h1 h2 => by rw [mI_at, if_neg (by omega)]) ?_
  obtain ⟨Lw, n, w, L, K, P, h1, h2, ⟨a1, a2, a3, a4, a5⟩, h4, h5⟩ := h
  simp only [RM, gI_at, mI_at]
  simp [a1, a2, a3, a5]
theorem told_CR (h : RR ln M g μ) (v : Int32) : CR ln M (fSx_told ln g v) (fMo_good μ v) := ⟨v, _, _, rfl, rfl, h.told⟩
theorem refuse_x {N : Nat} {a : Int32} {s : Nat} (ha : (a = -1 ∧ s = 0) ∨ (a = -2 ∧ s = 1) ∨ (a = -3 ∧ s = 2) ∨ (a = -5 ∧ s = 3) ∨ (a = -6 ∧ s = 4)) : fSx_refuse N ln g a = some (a, gI (gI g 0 14 a) 83 s (g.1 83 s + 1)) := by
  have e : ∀ s : Nat, (gI g 0 14 a).1 83 s = g.1 83 s := fun s => by rw [gI_at, if_neg (by omega)]
  rcases ha with ⟨rfl, rfl⟩ | ⟨rfl, rfl⟩ | ⟨rfl, rfl⟩ | ⟨rfl, rfl⟩ | ⟨rfl, rfl⟩
  · rw [fSx_refuse, nm, if_neg (by decide), fSx_refuse_22, if_neg (by decide), if_neg (by decide), rd_K _ 0 5 (by decide) (by decide), wr_K _ 0 5 (by decide) (by decide), e]
  · rw [fSx_refuse, nm, if_neg (by decide), fSx_refuse_22, if_neg (by decide), if_neg (by decide), rd_K _ 1 5 (by decide) (by decide), wr_K _ 1 5 (by decide) (by decide), e]
  · rw [fSx_refuse, nm, if_neg (by decide), fSx_refuse_22, if_neg (by decide), if_neg (by decide), rd_K _ 2 5 (by decide) (by decide), wr_K _ 2 5 (by decide) (by decide), e]
  · rw [fSx_refuse, nm, if_pos (by decide), fSx_refuse_22, if_neg (by decide), if_neg (by decide), rd_K _ 3 5 (by decide) (by decide), wr_K _ 3 5 (by decide) (by decide), e]
  · rw [fSx_refuse, nm, if_pos (by decide), fSx_refuse_22, if_neg (by decide), if_neg (by decide), rd_K _ 4 5 (by decide) (by decide), wr_K _ 4 5 (by decide) (by decide), e]
theorem refuse_m {a : Int32} {r : Nat} (ha : (a = -1 ∧ r = 1) ∨ (a = -2 ∧ r = 2) ∨ (a = -3 ∧ r = 3) ∨ (a = -5 ∧ r = 5) ∨ (a = -6 ∧ r = 6)) : fMo_refuses μ a = some (a, mI (mI μ 84 0 a) 85 r (μ.1 85 r + 1)) := by
  have e : ∀ s : Nat, (mI μ 84 0 a).1 85 s = μ.1 85 s := fun s => by rw [mI_at, if_neg (by omega)]
  rcases ha with ⟨rfl, rfl⟩ | ⟨rfl, rfl⟩ | ⟨rfl, rfl⟩ | ⟨rfl, rfl⟩ | ⟨rfl, rfl⟩
  · rw [fMo_refuses, nm, nm, rd_K _ 1 7 (by decide) (by decide), wr_K _ 1 7 (by decide) (by decide), e]
  · rw [fMo_refuses, nm, nm, rd_K _ 2 7 (by decide) (by decide), wr_K _ 2 7 (by decide) (by decide), e]
  · rw [fMo_refuses, nm, nm, rd_K _ 3 7 (by decide) (by decide), wr_K _ 3 7 (by decide) (by decide), e]
  · rw [fMo_refuses, nm, nm, rd_K _ 5 7 (by decide) (by decide), wr_K _ 5 7 (by decide) (by decide), e]
  · rw [fMo_refuses, nm, nm, rd_K _ 6 7 (by decide) (by decide), wr_K _ 6 7 (by decide) (by decide), e]
theorem refuse_CR {N : Nat} (h : RR ln M g μ) {a : Int32} (ha : a = -1 ∨ a = -2 ∨ a = -3 ∨ a = -5 ∨ a = -6) : CR ln M (fSx_refuse N ln g a) (fMo_refuses μ a) := by
  have go : ∀ s r, (a = -1 ∧ s = 0 ∧ r = 1) ∨ (a = -2 ∧ s = 1 ∧ r = 2) ∨ (a = -3 ∧ s = 2 ∧ r = 3) ∨ (a = -5 ∧ s = 3 ∧ r = 5) ∨ (a = -6 ∧ s = 4 ∧ r = 6) → RR ln M (gI (gI g 0 14 a) 83 s (g.1 83 s + 1)) (mI (mI μ 84 0 a) 85 r (μ.1 85 r + 1)) := by
    intro s r hs
    refine h.misc (fun p h1 h2 => by funext j; rw [gI_at, if_neg (by omega), gI_at, if_neg (by omega)]) rfl (fun p j h1 h2 => by rw [mI_at, if_neg (by omega), mI_at, if_neg (by omega)]) ?_
    obtain ⟨Lw, n, w, L, K, P, h1, h2, ⟨a1, a2, a3, a4, a5, a6, a7, a8, a9⟩, h4, h5⟩ := h
    simp only [RM, gI_at, mI_at]
    rcases hs with ⟨rfl, rfl, rfl⟩ | ⟨rfl, rfl, rfl⟩ | ⟨rfl, rfl, rfl⟩ | ⟨rfl, rfl, rfl⟩ | ⟨rfl, rfl, rfl⟩ <;> simp [a1, a2, a3, a5, a6, a7, a8, a9]
  rcases ha with rfl | rfl | rfl | rfl | rfl
  · exact ⟨_, _, _, refuse_x (s := 0) (by simp), refuse_m (r := 1) (by simp), go 0 1 (by simp)⟩
  · exact ⟨_, _, _, refuse_x (s := 1) (by simp), refuse_m (r := 2) (by simp), go 1 2 (by simp)⟩
  · exact ⟨_, _, _, refuse_x (s := 2) (by simp), refuse_m (r := 3) (by simp), go 2 3 (by simp)⟩
  · exact ⟨_, _, _, refuse_x (s := 3) (by simp), refuse_m (r := 5) (by simp), go 3 5 (by simp)⟩
  · exact ⟨_, _, _, refuse_x (s := 4) (by simp), refuse_m (r := 6) (by simp), go 4 6 (by simp)⟩
/-- the two that wrap an answer -/
theorem CR.wrap {x : Option (Int32 × sw_g)} {y : Option (Int32 × sw_m)} (h : CR ln M x y) : CR ln M (x.bind fun ⟨a, b⟩ => some (a, b)) (y.bind fun ⟨a, b⟩ => some (a, b)) := by
  obtain ⟨v, g', μ', rfl, rfl, h⟩ := h
  exact ⟨v, g', μ', rfl, rfl, h⟩
theorem RR.ask (h : RR ln M g μ) {v : Int32} {x : Option (Int32 × sw_g)} {y : Option (Int32 × sw_m)} (hx : ∃ g', x = some (v, g') ∧ GU g g') (hy : ∃ μ', y = some (v, μ') ∧ MS μ μ') : CR ln M x y := by
  obtain ⟨g', e1, f1⟩ := hx
  obtain ⟨μ', e2, f2⟩ := hy
  exact ⟨v, g', μ', e1, e2, h.scr f1 f2⟩
end
