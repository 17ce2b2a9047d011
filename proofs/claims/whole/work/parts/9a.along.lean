/-! ===== orders: the reference goes along a clause ===== -/
/-- what goes along stands on -/
def OB (μ : sw_m) (Lw : Nat → List Cl) (n w L : Nat) (T V : Nat → Int32) (e : Nat) : Prop := KI (μ.1 86) Lw n w L ∧ μ.1 84 23 = nI e ∧ μ.1 84 25 = 1 ∧ e ≤ 2800 ∧ (∀ k, k < e → μ.1 86 (54 + k) = T k) ∧ (∀ k, e ≤ k → T k = 0) ∧ (∀ k, k < 2800 → μ.1 86 (2854 + k) = V k)
/-- only the cells of going along may change -/
def GF (μ μ' : sw_m) : Prop := ∀ p j, (p = 84 → j ≠ 22 ∧ j ≠ 24 ∧ j ≠ 45 ∧ j ≠ 47 ∧ j ≠ 48) → μ'.1 p j = μ.1 p j
theorem GF.refl {μ : sw_m} : GF μ μ := fun _ _ _ => rfl
theorem GF.trans {μ μ1 μ2 : sw_m} (a : GF μ μ1) (b : GF μ1 μ2) : GF μ μ2 := fun p j h => (b p j h).trans (a p j h)
theorem GF.k {μ μ' : sw_m} (a : GF μ μ') : μ'.1 86 = μ.1 86 := funext fun j => a 86 j (by omega)
theorem GF.put {μ : sw_m} {j : Nat} {v : Int32} (h : j = 22 ∨ j = 24 ∨ j = 45 ∨ j = 47 ∨ j = 48) : GF μ (mI μ 84 j v) := fun p x hp => by rw [mI_at, if_neg (fun q => by have := hp q.1; omega)]
theorem GF.st {μ : sw_m} {i b : Int32} : GF μ (st μ i b) := fun p x hp => st_at (fun e => ⟨(hp e).1, (hp e).2.1⟩)
section
variable {N : Nat} {Lw : Nat → List Cl} {n w L : Nat} {T V : Nat → Int32} {e : Nat} {μ μ' : sw_m}
theorem OB.gf (h : OB μ Lw n w L T V e) (a : GF μ μ') : OB μ' Lw n w L T V e := by
  obtain ⟨h1, h2, h3, h4, h5, h6, h7⟩ := h
  refine ⟨by rw [a.k]; exact h1, by rw [a 84 23 (by omega)]; exact h2, by rw [a 84 25 (by omega)]; exact h3, h4, fun k hk => by rw [a.k]; exact h5 k hk, h6, fun k hk => by rw [a.k]; exact h7 k hk⟩
theorem WR.gf (a : GF μ μ') : WR μ' Lw n = WR μ Lw n := by
  funext x
  unfold WR
  rw [a.k, a 84 29 (by omega), a 84 27 (by omega), a 84 28 (by omega)]
theorem OB.cm (hN : 3000 ≤ N) (h : OB μ Lw n w L T V e) : Cm N μ T V (WR μ Lw n) true e := by
  obtain ⟨h1, h2, h3, h4, h5, h6, h7⟩ := h
  exact ⟨h2, h4, h5, h6, h7, h3, fun q => absurd q (by decide), fun _ x hx i b => words_m hN h1 hx i b⟩
theorem mI_24 {i : Int32} (h : μ.1 84 22 = i) (b : Int32) : mI μ 84 24 b = st μ i b := by
  unfold st
  congr 1
  refine Prod.ext (funext fun p => funext fun j => ?_) rfl
  rw [mI_at]
  by_cases q : p = 84 ∧ j = 22
  · rw [if_pos q, q.1, q.2, h]
  · rw [if_neg q]
/-- one sum -/
theorem ga_113 (hN : 3000 ≤ N) (h : OB μ Lw n w L T V e) {ex : Ex} {i0 i1 u4 : Nat} (h22 : μ.1 84 22 = nI i0) (hd : dp ex ≤ 9) (ha : At T V true ex 0 i0 i1) (hi : i1 ≤ 2800) (hs : stopS (T i1)) (hu : u4 < 2) {live u3 : Int32} (hl : tv live) (h47 : tv (μ.1 84 47)) {k92 : sw_m → Int32 → Int32 → Int32 → Option sw_m} : ∃ μ' v, fMo_goesAlong_113 N k92 μ live u3 (nI u4) = k92 μ' live u3 (nI (u4 + 1)) ∧ μ'.1 84 22 = nI i1 ∧ μ'.2 108 u4 = v ∧ (∀ j, j ≠ u4 → μ'.2 108 j = μ.2 108 j) ∧ (live = 1 → (ev (WR μ Lw n) ex = none ∧ μ'.1 84 47 = 0) ∨ (ev (WR μ Lw n) ex = some v ∧ μ'.1 84 47 = μ.1 84 47)) ∧ tv (μ'.1 84 47) ∧ GF μ μ' := by
  obtain ⟨v, b', e1, e2, e3⟩ := sumM (h.cm hN) hN hd hi ha hs.1 hs.2 live 0 hl (.inl rfl)
  have x47 : (mL (st μ (nI i1) b') 108 u4 v).1 84 47 = μ.1 84 47 := (show (st μ (nI i1) b').1 84 47 = μ.1 84 47 from st_at (by omega))
  have x24 : (mL (st μ (nI i1) b') 108 u4 v).1 84 24 = b' := (show (st μ (nI i1) b').1 84 24 = b' from st_24)
  have key : ∀ r : Int32, (live = 1 → (ev (WR μ Lw n) ex = none ∧ r = 0) ∨ (ev (WR μ Lw n) ex = some v ∧ r = μ.1 84 47)) → tv r → ∃ μ' v', k92 (mI (mL (st μ (nI i1) b') 108 u4 v) 84 47 r) live u3 (nI (u4 + 1)) = k92 μ' live u3 (nI (u4 + 1)) ∧ μ'.1 84 22 = nI i1 ∧ μ'.2 108 u4 = v' ∧ (∀ j, j ≠ u4 → μ'.2 108 j = μ.2 108 j) ∧ (live = 1 → (ev (WR μ Lw n) ex = none ∧ μ'.1 84 47 = 0) ∨ (ev (WR μ Lw n) ex = some v' ∧ μ'.1 84 47 = μ.1 84 47)) ∧ tv (μ'.1 84 47) ∧ GF μ μ' := by
    intro r hr ht
    have y47 : (mI (mL (st μ (nI i1) b') 108 u4 v) 84 47 r).1 84 47 = r := by rw [mI_at, if_pos ⟨rfl, rfl⟩]
    refine ⟨_, v, rfl, ?_, ?_, fun j hj => ?_, by rw [y47]; exact hr, by rw [y47]; exact ht, ?_⟩
    · rw [mI_at, if_neg (by omega)]; exact (show (st μ (nI i1) b').1 84 22 = nI i1 from st_22)
    · show (mL (st μ (nI i1) b') 108 u4 v).2 108 u4 = v
      rw [mL_at, if_pos ⟨rfl, rfl⟩]
    · show (mL (st μ (nI i1) b') 108 u4 v).2 108 j = _
      rw [mL_at, if_neg (fun q => hj q.2)]; rfl
    · intro p x hp
      rw [mI_at, if_neg (fun q => by have := hp q.1; omega)]
      exact (show (st μ (nI i1) b').1 p x = μ.1 p x from st_at (fun q => ⟨(hp q).1, (hp q).2.1⟩))
  rw [fMo_goesAlong_113, nm, mI_24 h22, e1, Option.bind_some]
  simp only []
  rw [wr_nI hu (by decide), x47, x24]
  simp only [nm, nI_1]
  by_cases q : μ.1 84 47 = 0
  · rw [if_pos q]
    refine key 0 (fun hlv => ?_) (.inl rfl)
    rcases e3.2.2 hlv rfl with ⟨q1, q2⟩ | ⟨q1, q2⟩
    · exact .inl ⟨q1, rfl⟩
    · exact .inr ⟨q1, q.symm⟩
  · have q1' : μ.1 84 47 = 1 := by rcases h47 with z | z; exact absurd z q; exact z
    rw [if_neg q]
    by_cases hb : b' = 0
    · rw [if_pos hb]
      refine key 1 (fun hlv => ?_) (.inr rfl)
      rcases e3.2.2 hlv rfl with ⟨q1, q2⟩ | ⟨q1, q2⟩
      · rw [hb] at q2; exact absurd q2 (by decide)
      · exact .inr ⟨q1, q1'.symm⟩
    · rw [if_neg hb]
      refine key 0 (fun hlv => ?_) (.inl rfl)
      rcases e3.2.2 hlv rfl with ⟨q1, q2⟩ | ⟨q1, q2⟩
      · exact .inl ⟨q1, rfl⟩
      · exact absurd q2 hb
/-- the if of a clause -/
theorem ga_200 (hN : 3000 ≤ N) (h : OB μ Lw n w L T V e) {t : Option Tx} {k j : Nat} (h22 : μ.1 84 22 = nI k) (ht : AtI T V true t k j) (hj : j ≤ 2800) (hs : stopS (T j) ∧ T j ≠ 6 ∧ T j ≠ 5) {live : Int32} (hl : tv live) : ∃ μ', fMo_goesAlong_200 N μ live = some μ' ∧ μ'.1 84 22 = nI (j + 1) ∧ (live = 1 → μ'.1 84 48 = if holdsO (WR μ Lw n) t then 1 else 0) ∧ μ'.2 = μ.2 ∧ (∀ p x, (p = 84 → x ≠ 22 ∧ x ≠ 24 ∧ x ≠ 48) → μ'.1 p x = μ.1 p x) := by
  obtain ⟨s, b', s1, s2, s3, s4⟩ := if_along (h.cm hN) hN ht hj hs (fun s μ' => fMo_goesAlong_227 N μ' s) live hl
  have e0 : fMo_goesAlong_200 N μ live = fMo_goesAlong_227 N (st μ (nI j) b') s := by
    rw [← s3, fMo_goesAlong_200, nm, mI_24 h22]
  have y : ∀ r : Int32, (live = 1 → r = if holdsO (WR μ Lw n) t then 1 else 0) → ∃ μ', some (mI (mI (mI (st μ (nI j) b') 84 48 s) 84 48 r) 84 22 ((mI (mI (st μ (nI j) b') 84 48 s) 84 48 r).1 84 22 + 1)) = some μ' ∧ μ'.1 84 22 = nI (j + 1) ∧ (live = 1 → μ'.1 84 48 = if holdsO (WR μ Lw n) t then 1 else 0) ∧ μ'.2 = μ.2 ∧ (∀ p x, (p = 84 → x ≠ 22 ∧ x ≠ 24 ∧ x ≠ 48) → μ'.1 p x = μ.1 p x) := by
    intro r hr
    refine ⟨_, rfl, ?_, fun hlv => ?_, rfl, fun p x hp => ?_⟩
    · rw [mI_at, if_pos ⟨rfl, rfl⟩, mI_at, if_neg (by omega), mI_at, if_neg (by omega), st_22, nI_1]
    · rw [mI_at, if_neg (by omega), mI_at, if_pos ⟨rfl, rfl⟩]; exact hr hlv
    · rw [mI_at, if_neg (fun q => by have := hp q.1; omega), mI_at, if_neg (fun q => by have := hp q.1; omega), mI_at, if_neg (fun q => by have := hp q.1; omega)]
      exact st_at (fun q => ⟨(hp q).1, (hp q).2.1⟩)
  have x48 : (mI (st μ (nI j) b') 84 48 s).1 84 48 = s := by rw [mI_at, if_pos ⟨rfl, rfl⟩]
  have x24 : (mI (st μ (nI j) b') 84 48 s).1 84 24 = b' := by rw [mI_at, if_neg (by omega)]; exact st_24
  rw [e0, fMo_goesAlong_227, tz, if_pos (show s = 0 ∨ s = 1 from s1)]
  simp only [nm]
  rw [x48, x24]
  by_cases q : s = 0
  · rw [if_pos q]
    refine y 0 (fun hlv => ?_)
    have := (s4 hlv)
    rw [if_neg (fun z => by have := this.2 z; rw [q] at this; exact absurd this.1 (by decide))]
  · have q1 : s = 1 := by rcases s1 with z | z; exact absurd z q; exact z
    rw [if_neg q]
    by_cases hb : b' = 0
    · rw [if_pos hb]
      refine y 1 (fun hlv => ?_)
      rw [if_pos ((s4 hlv).1 ⟨q1, hb⟩)]
    · rw [if_neg hb]
      refine y 0 (fun hlv => ?_)
      rw [if_neg (fun z => hb ((s4 hlv).2 z).2)]
end
