/-! ===== the reference goes along a sum ===== -/
def Cm (N : Nat) (μ : sw_m) (T V W : Nat → Int32) (o : Bool) (n : Nat) : Prop := μ.1 84 23 = nI n ∧ n ≤ 2800 ∧ (∀ k, k < n → μ.1 86 (54 + k) = T k) ∧ (∀ k, n ≤ k → T k = 0) ∧ (∀ k, k < 2800 → μ.1 86 (2854 + k) = V k) ∧ (μ.1 84 25 = if o then 1 else 0) ∧ (o = false → ∀ x, x < 8 → μ.1 96 (lwc x - 8) = W x) ∧ (o = true → ∀ x, x < 19 → ∀ i b, fMo_orderValue N (st μ i b) (nI (owc x)) (nI (owk x)) = some (W x, st μ i b))
section
variable {N : Nat} {μ : sw_m} {T V W : Nat → Int32} {o : Bool} {n : Nat}
theorem Cm.fe (C : Cm N μ T V W o n) : μ.1 84 23 = nI n := C.1
theorem Cm.fn (C : Cm N μ T V W o n) : n ≤ 2800 := C.2.1
theorem Cm.ft (C : Cm N μ T V W o n) : ∀ k, k < n → μ.1 86 (54 + k) = T k := C.2.2.1
theorem Cm.ft0 (C : Cm N μ T V W o n) : ∀ k, n ≤ k → T k = 0 := C.2.2.2.1
theorem Cm.fv (C : Cm N μ T V W o n) : ∀ k, k < 2800 → μ.1 86 (2854 + k) = V k := C.2.2.2.2.1
theorem Cm.fo (C : Cm N μ T V W o n) : μ.1 84 25 = if o then 1 else 0 := C.2.2.2.2.2.1
theorem Cm.fwl (C : Cm N μ T V W o n) : o = false → ∀ x, x < 8 → μ.1 96 (lwc x - 8) = W x := C.2.2.2.2.2.2.1
theorem Cm.fwo (C : Cm N μ T V W o n) : o = true → ∀ x, x < 19 → ∀ i b, fMo_orderValue N (st μ i b) (nI (owc x)) (nI (owk x)) = some (W x, st μ i b) := C.2.2.2.2.2.2.2
end
def tv (b : Int32) : Prop := b = 0 ∨ b = 1
def Rs (live b : Int32) (x : Option Int64) (v : Int64) (b' : Int32) : Prop := (live = 0 → b' = b) ∧ (b = 1 → b' = 1) ∧ (live = 1 → b = 0 → (x = none ∧ b' = 1) ∨ (x = some v ∧ b' = 0))
section
variable {N : Nat} {μ : sw_m} {T V W : Nat → Int32} {o : Bool} {n : Nat}
theorem codeAt_st (C : Cm N μ T V W o n) {i : Nat} (b : Int32) (hi : i ≤ 2800) : fMo_codeAt (st μ (nI i) b) (nI i) = some (T i, st μ (nI i) b) := by
  have hn := C.fn
  unfold fMo_codeAt
  rw [st_23, C.fe]
  by_cases h : i < n
  · rw [if_neg (nI_ge h (by omega)), show (54 : Int32) + nI i = nI (54 + i) from nI_add 54 i, rd_nI (by omega) (by decide), st_86, C.ft i h]
  · rw [if_pos (nI_le (by omega) (by omega)), C.ft0 i (by omega)]
theorem go_1 {i : Nat} {b : Int32} : mI (st μ (nI i) b) 84 22 ((st μ (nI i) b).1 84 22 + 1) = st μ (nI (i + 1)) b := by
  rw [st_22, st_w22, nI_1]
theorem passes0_st (C : Cm N μ T V W o n) {i : Nat} (b : Int32) (hi : i ≤ 2800) (c : Int32) : fMo_passes0 N (st μ (nI i) b) c = some (if T i = c then (1, st μ (nI (i + 1)) b) else (0, st μ (nI i) b)) := by
  unfold fMo_passes0
  rw [st_22, codeAt_st C b hi]
  simp only [Option.bind_some, fMo_passes0_17, nm, tz]
  by_cases h : T i = c
  · simp [h, nI_1, st_22, st_w22]
  · simp [h]
theorem lim_some {v : Int64} (h : ¬ (1000000000 < v ∨ v < -1000000000)) : lim v = some v := if_neg h
theorem lim_none {v : Int64} (h : 1000000000 < v ∨ v < -1000000000) : lim v = none := if_pos h
theorem bounded_st {live : Int32} (hl : tv live) {i b : Int32} (hb : tv b) (s : Int64) : ∃ v b', fMo_bounded N (st μ i b) s live = some (v, st μ i b') ∧ tv b' ∧ Rs live b (lim s) v b' := by
  unfold fMo_bounded
  simp only [cmp_gt, cmp_ge, nm, st_w24, fMo_bounded_25, st_24]
  rcases hl with rfl | rfl
  · rcases hb with rfl | rfl
    · exact ⟨s, 0, by simp, .inl rfl, fun _ => rfl, by simp, by simp⟩
    · exact ⟨0, 1, by simp, .inr rfl, fun _ => rfl, by simp, by simp⟩
  · simp only [show ¬ ((1 : Int32) = 0) by decide, if_false]
    by_cases h1 : 1000000000 < s
    · exact ⟨0, 1, by simp [h1], .inr rfl, by simp, by simp, fun _ _ => .inl ⟨lim_none (.inl h1), rfl⟩⟩
    · by_cases h2 : -1000000000 ≤ s
      · rcases hb with rfl | rfl
        · exact ⟨s, 0, by simp [h1, h2], .inl rfl, by simp, by simp, fun _ _ => .inr ⟨lim_some (by grind), rfl⟩⟩
        · exact ⟨0, 1, by simp [h1, h2], .inr rfl, by simp, by simp, by simp⟩
      · exact ⟨0, 1, by simp [h1, h2], .inr rfl, by simp, by simp, fun _ _ => .inl ⟨lim_none (by grind), rfl⟩⟩
theorem Rs.two {live b b1 b2 b3 : Int32} (hb : tv b) {x y : Option Int64} {v w r : Int64} {z : Option Int64} (h1 : Rs live b x v b1) (h2 : Rs live b1 y w b2) (h3 : Rs live b2 z r b3) {f : Int64 → Int64 → Option Int64} (hz : x = some v → y = some w → f v w = z) : Rs live b (bin2 f x y) r b3 := by
  refine ⟨fun h => by rw [h3.1 h, h2.1 h, h1.1 h], fun h => h3.2.1 (h2.2.1 (h1.2.1 h)), fun h h0 => ?_⟩
  rcases h1.2.2 h h0 with ⟨e1, e2⟩ | ⟨e1, e2⟩
  · subst e1; exact .inl ⟨rfl, h3.2.1 (h2.2.1 e2)⟩
  · rcases h2.2.2 h e2 with ⟨e3, e4⟩ | ⟨e3, e4⟩
    · subst e1 e3; exact .inl ⟨rfl, h3.2.1 e4⟩
    · subst e1 e3
      have := hz rfl rfl
      simp only [bin2, this]
      exact h3.2.2 h e4
def isMul (c : Int32) : Prop := c = 142 ∨ c = 147 ∨ c = 137
def isAdd (c : Int32) : Prop := c = 143 ∨ c = 145
def PartM (N d : Nat) (μ : sw_m) (W : Nat → Int32) (e : Ex) (i j : Nat) : Prop := ∀ live b, tv live → tv b → ∃ v b', fMo_partOf N (fMo_sumOf N d) (st μ (nI i) b) live = some (v, st μ (nI j) b') ∧ tv b' ∧ Rs live b (ev W e) v b'
def TermM (N d : Nat) (μ : sw_m) (W : Nat → Int32) (e : Ex) (i j : Nat) : Prop := ∀ live b, tv live → tv b → ∃ fu v b', N ≤ fu + (j - i) ∧ fMo_termOf N (fMo_sumOf N d) (st μ (nI i) b) live = fMo_termOf_6 N (fMo_sumOf N d) fu (st μ (nI j) b') live v ∧ tv b' ∧ Rs live b (ev W e) v b'
def SumM (N d : Nat) (μ : sw_m) (W : Nat → Int32) (e : Ex) (i j : Nat) : Prop := ∀ live b, tv live → tv b → ∃ fu v b', N ≤ fu + (j - i) ∧ fMo_sumOf_b N (fMo_sumOf N d) (st μ (nI i) b) live = fMo_sumOf_b_6 N (fMo_sumOf N d) fu (st μ (nI j) b') live v ∧ tv b' ∧ Rs live b (ev W e) v b'
theorem PartM.term {d : Nat} {e : Ex} {i j : Nat} (h : PartM N d μ W e i j) : TermM N d μ W e i j := by
  intro live b hl hb
  obtain ⟨v, b', h1, h2, h3⟩ := h live b hl hb
  exact ⟨N, v, b', by omega, by unfold fMo_termOf; rw [h1]; rfl, h2, h3⟩
theorem termEnd (C : Cm N μ T V W o n) {d j fu : Nat} {b live : Int32} {v : Int64} (hj : j ≤ 2800) (hm : ¬ isMul (T j)) : fMo_termOf_6 N (fMo_sumOf N d) (fu + 1) (st μ (nI j) b) live v = some (v, st μ (nI j) b) := by
  simp only [isMul, not_or] at hm
  rw [fMo_termOf_6]
  simp only [st_22, codeAt_st C b hj, Option.bind_some, fMo_sign]
  simp [hm.1, hm.2.1, hm.2.2, show (100 : Int32) + 42 = 142 from rfl, show (100 : Int32) + 47 = 147 from rfl, show (100 : Int32) + 37 = 137 from rfl]
theorem sumEnd (C : Cm N μ T V W o n) {d j fu : Nat} {b live : Int32} {v : Int64} (hj : j ≤ 2800) (hm : ¬ isAdd (T j)) : fMo_sumOf_b_6 N (fMo_sumOf N d) (fu + 1) (st μ (nI j) b) live v = some (v, st μ (nI j) b) := by
  simp only [isAdd, not_or] at hm
  rw [fMo_sumOf_b_6]
  simp only [st_22, codeAt_st C b hj, Option.bind_some, fMo_sign]
  simp [hm.1, hm.2, show (100 : Int32) + 43 = 143 from rfl, show (100 : Int32) + 45 = 145 from rfl]
theorem TermM.sum (C : Cm N μ T V W o n) (hN : 3000 ≤ N) {d : Nat} {e : Ex} {i j : Nat} (h : TermM N d μ W e i j) (hj : j ≤ 2800) (hm : ¬ isMul (T j)) : SumM N d μ W e i j := by
  intro live b hl hb
  obtain ⟨fu, v, b', h0, h1, h2, h3⟩ := h live b hl hb
  obtain ⟨fu, rfl⟩ : ∃ k, fu = k + 1 := ⟨fu - 1, by omega⟩
  exact ⟨N, v, b', by omega, by unfold fMo_sumOf_b; rw [h1, termEnd C hj hm]; rfl, h2, h3⟩
theorem SumM.ret (C : Cm N μ T V W o n) (hN : 3000 ≤ N) {d : Nat} {e : Ex} {i j : Nat} (h : SumM N d μ W e i j) (hj : j ≤ 2800) (hm : ¬ isAdd (T j)) (live b : Int32) (hl : tv live) (hb : tv b) : ∃ v b', fMo_sumOf N (d + 1) (st μ (nI i) b) live = some (v, st μ (nI j) b') ∧ tv b' ∧ Rs live b (ev W e) v b' := by
  obtain ⟨fu, v, b', h0, h1, h2, h3⟩ := h live b hl hb
  obtain ⟨fu, rfl⟩ : ∃ k, fu = k + 1 := ⟨fu - 1, by omega⟩
  exact ⟨v, b', by rw [fMo_sumOf, h1, sumEnd C hj hm], h2, h3⟩
end
