/-! ===== orders: the reference goes along a whole clause ===== -/
/-- what the sums of a clause came to -/
def okV (W : Nat → Int32) (a b : Option Ex) (μ : sw_m) : Prop := (μ.1 84 47 = 1 ∧ (∀ x, a = some x → ev W x = some (μ.2 108 0)) ∧ (∀ x, b = some x → ev W x = some (μ.2 108 1))) ∨ (μ.1 84 47 = 0 ∧ ((∃ x, a = some x ∧ ev W x = none) ∨ (∃ x, b = some x ∧ ev W x = none)))
def GG (μ μ' : sw_m) : Prop := ∀ p j, p ≠ 96 → (p = 84 → (j < 22 ∨ 25 < j) ∧ j ≠ 29 ∧ (j < 45 ∨ 48 < j)) → μ'.1 p j = μ.1 p j
section
variable {N : Nat} {Lw : Nat → List Cl} {n w L : Nat} {T V : Nat → Int32} {e : Nat} {μ : sw_m}
theorem stop_26 : stopS 26 := by unfold stopS isMul isAdd; decide
theorem hdT_stop {t : Option Tx} {nn k k' j : Nat} (hT : HdT T V nn k k') (ht : AtI T V true t k' j) (hj : stopS (T j)) : stopS (T k) := by
  rcases hT with ⟨q, _⟩ | ⟨_, _, rfl⟩
  · rw [q]; exact stop_26
  · cases t with
    | none => obtain ⟨rfl, _⟩ := ht; exact hj
    | some t => rw [ht.1]; unfold stopS isMul isAdd; decide
theorem ga_end (hN : 3000 ≤ N) (h : OB μ Lw n w L T V e) {t : Option Tx} {nn k k' j fu u : Nat} (hu : u < 3) (h22 : μ.1 84 22 = nI k) (hT : HdT T V nn k k') (ht : AtI T V true t k' j) (hj : j ≤ 2800) (hs : stopS (T j) ∧ T j ≠ 6 ∧ T j ≠ 5) {live : Int32} (hl : tv live) : ∃ μ', fMo_goesAlong_92 N (fu + 1) μ live (nI u) (nI u) = some μ' ∧ μ'.1 84 22 = nI (j + 1) ∧ μ'.1 84 45 = nI nn ∧ (live = 1 → μ'.1 84 48 = if holdsO (WR μ Lw n) t then 1 else 0) ∧ μ'.1 84 47 = μ.1 84 47 ∧ μ'.2 = μ.2 ∧ GF μ μ' := by
  have l2 := ht.le
  have l1 := hT.le
  rw [fMo_goesAlong_92, if_pos (nI_le (Nat.le_refl _) (by omega)), nm]
  have f1 : GF μ (mI μ 84 45 1) := GF.put (.inr (.inr (.inl rfl)))
  have h1 := h.gf f1
  have a22 : (mI μ 84 45 1).1 84 22 = nI k := by rw [mI_at, if_neg (by omega)]; exact h22
  have hst : mI μ 84 45 1 = st (mI μ 84 45 1) (nI k) ((mI μ 84 45 1).1 84 24) := (st_id a22 rfl).symm
  have ep : fMo_passes0 N (mI μ 84 45 1) 26 = some (if T k = 26 then (1, st (mI μ 84 45 1) (nI (k + 1)) ((mI μ 84 45 1).1 84 24)) else (0, mI μ 84 45 1)) := by
    have := passes0_st (h1.cm hN) (i := k) ((mI μ 84 45 1).1 84 24) (by omega) 26
    rwa [← hst] at this
  rw [ep, Option.bind_some]
  rcases hT with ⟨q1, q2, q3, q4, q5⟩ | ⟨q1, q2, q3⟩
  · rw [if_pos q1]
    simp only [n10, if_false]
    generalize hμ2 : st (mI μ 84 45 1) (nI (k + 1)) ((mI μ 84 45 1).1 84 24) = μ2
    have f2 : GF (mI μ 84 45 1) μ2 := by subst hμ2; exact GF.st
    have b22 : μ2.1 84 22 = nI (k + 1) := by subst hμ2; exact st_22
    have h2 := h1.gf f2
    rw [b22, show (2854 : Int32) + nI (k + 1) = nI (2854 + (k + 1)) from nI_add 2854 _, rd_nI (by omega) (by decide), h2.2.2.2.2.2.2 (k + 1) (by omega), q2, nm, nm]
    have c22 : (mI μ2 84 45 (nI nn)).1 84 22 = nI (k + 1) := by rw [mI_at, if_neg (by omega)]; exact b22
    rw [c22, nI_1]
    generalize hμ3 : mI (mI μ2 84 45 (nI nn)) 84 22 (nI (k + 1 + 1)) = μ3
    have f3 : GF μ2 μ3 := by subst hμ3; exact (GF.put (.inr (.inr (.inl rfl)))).trans (GF.put (.inl rfl))
    have h3 := h2.gf f3
    have d22 : μ3.1 84 22 = nI k' := by subst hμ3; rw [mI_at, if_pos ⟨rfl, rfl⟩, q5]
    have d45 : μ3.1 84 45 = nI nn := by subst hμ3; rw [mI_at, if_neg (by omega), mI_at, if_pos ⟨rfl, rfl⟩]
    have d47 : μ3.1 84 47 = μ.1 84 47 := by
      subst hμ3 hμ2
      rw [mI_at, if_neg (by omega), mI_at, if_neg (by omega), st_at (by omega), mI_at, if_neg (by omega)]
    have d2 : μ3.2 = μ.2 := by subst hμ3 hμ2; rfl
    obtain ⟨μ4, r1, r2, r3, r4, r5⟩ := ga_200 hN h3 d22 ht (by omega) hs hl
    have fa := (f1.trans f2).trans f3
    refine ⟨μ4, r1, r2, by rw [r5 84 45 (by omega)]; exact d45, ?_, by rw [r5 84 47 (by omega)]; exact d47, r4.trans d2, fa.trans (fun p x hp => r5 p x (fun q => ⟨(hp q).1, (hp q).2.1, (hp q).2.2.2.2⟩))⟩
    rw [WR.gf fa] at r3
    exact r3
  · rw [if_neg q1]
    simp only [if_true]
    subst q3
    obtain ⟨μ4, r1, r2, r3, r4, r5⟩ := ga_200 hN h1 a22 ht (by omega) hs hl
    refine ⟨μ4, r1, r2, ?_, ?_, ?_, r4, f1.trans (fun p x hp => r5 p x (fun q => ⟨(hp q).1, (hp q).2.1, (hp q).2.2.2.2⟩))⟩
    · rw [r5 84 45 (by omega), mI_at, if_pos ⟨rfl, rfl⟩, q2]; rfl
    · rw [WR.gf f1] at r3; exact r3
    · rw [r5 84 47 (by omega), mI_at, if_neg (by omega)]
theorem ga_13 (hN : 3000 ≤ N) (K : KI (μ.1 86) Lw n w L) {i j : Nat} (h44 : μ.1 84 44 = nI i) (he : e ≤ 2800) (t1 : ∀ k, k < e → μ.1 86 (54 + k) = T k) (t2 : ∀ k, e ≤ k → T k = 0) (t3 : ∀ k, k < 2800 → μ.1 86 (2854 + k) = V k) {c : Cl} (hA : AtO true T V c i j) (hj : j ≤ 2800) (hs : stopS (T j) ∧ T j ≠ 6 ∧ T j ≠ 5) {live s0 : Int32} (hl : tv live) : ∃ μ', fMo_goesAlong_13 N μ (nI e) live s0 = some μ' ∧ μ'.1 84 46 = nI (ocd c.v) ∧ μ'.1 84 45 = nI c.n ∧ μ'.1 84 22 = nI (j + 1) ∧ GG μ μ' ∧ (live = 1 → μ'.1 84 48 = (if holdsO (WR (mI μ 84 29 s0) Lw n) c.t then 1 else 0) ∧ okV (WR (mI μ 84 29 s0) Lw n) c.a c.b μ') := by
  obtain ⟨k, hd, ht⟩ := hA
  unfold Hdo at hd
  rw [if_pos rfl] at hd
  obtain ⟨hc, x, hS, hT⟩ := hd
  have l1 := hS.le
  have l2 := hT.le
  have l3 := ht.le
  rw [fMo_goesAlong_13]
  simp only [nm]
  generalize hμ3 : mI (mI (mI μ 84 29 s0) 84 25 1) 84 23 (nI e) = μ3
  have f3 : ∀ p y, (p = 84 → y ≠ 29 ∧ y ≠ 25 ∧ y ≠ 23) → μ3.1 p y = μ.1 p y := by
    intro p y hp; subst hμ3
    rw [mI_at, if_neg (fun q => by have := hp q.1; omega), mI_at, if_neg (fun q => by have := hp q.1; omega), mI_at, if_neg (fun q => by have := hp q.1; omega)]
  have g29 : μ3.1 84 29 = s0 := by subst hμ3; rw [mI_at, if_neg (by omega), mI_at, if_neg (by omega), mI_at, if_pos ⟨rfl, rfl⟩]
  have g25 : μ3.1 84 25 = 1 := by subst hμ3; rw [mI_at, if_neg (by omega), mI_at, if_pos ⟨rfl, rfl⟩]
  have g23 : μ3.1 84 23 = nI e := by subst hμ3; rw [mI_at, if_pos ⟨rfl, rfl⟩]
  have k3 : μ3.1 86 = μ.1 86 := funext fun y => f3 86 y (by omega)
  have hB : OB μ3 Lw n w L T V e := ⟨by rw [k3]; exact K, g23, g25, he, fun k hk => by rw [k3]; exact t1 k hk, t2, fun k hk => by rw [k3]; exact t3 k hk⟩
  have hW : WR μ3 Lw n = WR (mI μ 84 29 s0) Lw n := by
    funext y
    have m29 : (mI μ 84 29 s0).1 84 29 = s0 := by rw [mI_at, if_pos ⟨rfl, rfl⟩]
    have m86 : (mI μ 84 29 s0).1 86 = μ.1 86 := funext fun y => by rw [mI_at, if_neg (by omega)]
    have m27 : (mI μ 84 29 s0).1 84 27 = μ.1 84 27 := by rw [mI_at, if_neg (by omega)]
    have m28 : (mI μ 84 29 s0).1 84 28 = μ.1 84 28 := by rw [mI_at, if_neg (by omega)]
    unfold WR
    rw [g29, k3, f3 84 27 (by omega), f3 84 28 (by omega), m29, m86, m27, m28]
  rw [f3 84 44 (by omega), h44]
  have q22 : (mI μ3 84 22 (nI i)).1 84 22 = nI i := by rw [mI_at, if_pos ⟨rfl, rfl⟩]
  have fq : GF μ3 (mI μ3 84 22 (nI i)) := GF.put (.inl rfl)
  have ec : fMo_codeAt (mI μ3 84 22 (nI i)) (nI i) = some (T i, mI μ3 84 22 (nI i)) := by
    have := codeAt_st ((hB.gf fq).cm hN) (i := i) ((mI μ3 84 22 (nI i)).1 84 24) (by omega)
    rwa [st_id q22 rfl] at this
  rw [q22, ec, Option.bind_some]
  simp only []
  rw [show (mI (mI μ3 84 22 (nI i)) 84 46 (T i)).1 84 22 = nI i by rw [mI_at, if_neg (by omega)]; exact q22, nI_1, hc]
  generalize hμ5 : mI (mI (mI (mI μ3 84 22 (nI i)) 84 46 (nI (ocd c.v))) 84 22 (nI (i + 1))) 84 47 1 = μ5
  have v46 : μ5.1 84 46 = nI (ocd c.v) := by subst hμ5; rw [mI_at, if_neg (by omega), mI_at, if_neg (by omega), mI_at, if_pos ⟨rfl, rfl⟩]
  have v22 : μ5.1 84 22 = nI (i + 1) := by subst hμ5; rw [mI_at, if_neg (by omega), mI_at, if_pos ⟨rfl, rfl⟩]
  have v47 : μ5.1 84 47 = 1 := by subst hμ5; rw [mI_at, if_pos ⟨rfl, rfl⟩]
  have f5 : ∀ p y, (p = 84 → y ≠ 22 ∧ y ≠ 46 ∧ y ≠ 47) → μ5.1 p y = μ3.1 p y := by
    intro p y hp; subst hμ5
    rw [mI_at, if_neg (fun q => by have := hp q.1; omega), mI_at, if_neg (fun q => by have := hp q.1; omega), mI_at, if_neg (fun q => by have := hp q.1; omega), mI_at, if_neg (fun q => by have := hp q.1; omega)]
  have k5 : μ5.1 86 = μ.1 86 := by rw [← k3]; exact funext fun y => f5 86 y (by omega)
  have h5 : OB μ5 Lw n w L T V e := ⟨by rw [k5]; exact K, by rw [f5 84 23 (by omega)]; exact g23, by rw [f5 84 25 (by omega)]; exact g25, he, fun k hk => by rw [k5]; exact t1 k hk, t2, fun k hk => by rw [k5]; exact t3 k hk⟩
  have hW5 : WR μ5 Lw n = WR (mI μ 84 29 s0) Lw n := by
    rw [← hW]; funext y; unfold WR
    rw [k5, k3, f5 84 29 (by omega), f5 84 27 (by omega), f5 84 28 (by omega)]
  have gg : ∀ {μ' : sw_m}, GF μ5 μ' → μ'.1 84 46 = nI (ocd c.v) ∧ GG μ μ' := by
    intro μ' hf
    refine ⟨by rw [hf 84 46 (by omega)]; exact v46, fun p y a b => ?_⟩
    rw [hf p y (fun q => by have := b q; omega), f5 p y (fun q => by have := b q; omega), f3 p y (fun q => by have := b q; omega)]
  have sx : stopS (T x) := hdT_stop hT ht hs.1
  rw [v46]
  obtain ⟨N', hN'⟩ : ∃ z, N = z + 1 + 1 + 1 := ⟨N - 3, by omega⟩
  rcases hS with ⟨h0, e1, e2, z, q1, q2, q3, q4, a1, a2, a3⟩ | ⟨h0, e1, q1, q2, q3, a1⟩ | ⟨h0, q1, q2, rfl⟩
  · have hz : stopS (T z) := by rw [a2]; rcases h0 with z | z <;> rw [z] <;> (unfold stopS isMul isAdd; decide)
    have lz := a1.lt
    have lz2 := a3.lt
    have hv : ¬ nI (ocd c.v) = 25 ∧ ¬ nI (ocd c.v) = 22 := by rcases h0 with z | z <;> rw [z] <;> decide
    rw [if_neg hv.1, if_neg hv.2]
    obtain ⟨μ6, v1, r1, r2, r3, r4, r5, r6, r7⟩ := ga_113 hN h5 (u4 := 0) v22 q3 a1 (by omega) hz (by decide) (u3 := 2) hl (by rw [v47]; exact .inr rfl) (k92 := fMo_goesAlong_92 N (N' + 1 + 1))
    have h6 := h5.gf r7
    have f6 : GF μ6 (mI μ6 84 22 (nI (z + 1))) := GF.put (.inl rfl)
    have h6' := h6.gf f6
    have w47 : (mI μ6 84 22 (nI (z + 1))).1 84 47 = μ6.1 84 47 := by rw [mI_at, if_neg (by omega)]
    obtain ⟨μ7, v2, s1, s2, s3, s4, s5, s6, s7⟩ := ga_113 hN h6' (u4 := 1) (by rw [mI_at, if_pos ⟨rfl, rfl⟩]) q4 a3 (by omega) sx (by decide) (u3 := 2) hl (by rw [w47]; exact r6) (k92 := fMo_goesAlong_92 N (N' + 1))
    have h7 := h6'.gf s7
    obtain ⟨μ8, m1, m2, m3, m4, m5, m6, m7⟩ := ga_end (fu := N') hN h7 (u := 2) (by decide) s2 hT ht hj hs hl
    have fall : GF μ5 μ8 := ((r7.trans f6).trans s7).trans m7
    have eW6 : WR (mI μ6 84 22 (nI (z + 1))) Lw n = WR (mI μ 84 29 s0) Lw n := by rw [WR.gf (r7.trans f6), hW5]
    have eW7 : WR μ7 Lw n = WR (mI μ 84 29 s0) Lw n := by rw [WR.gf s7, eW6]
    rw [hW5] at r5
    rw [eW6, w47] at s5
    rw [eW7] at m4
    obtain ⟨y1, y2⟩ := gg fall
    refine ⟨μ8, ?_, y1, m3, m2, y2, fun hlv => ⟨m4 hlv, ?_⟩⟩
    · have st1 : fMo_goesAlong_92 N N μ5 live 2 0 = fMo_goesAlong_92 N (N' + 1 + 1) μ6 live 2 1 := by
        conv => lhs; arg 2; rw [hN']
        rw [fMo_goesAlong_92, if_neg (by decide), if_pos (by decide)]
        exact r1
      have st2 : fMo_goesAlong_92 N (N' + 1 + 1) μ6 live 2 1 = fMo_goesAlong_92 N (N' + 1) μ7 live 2 2 := by
        rw [fMo_goesAlong_92, if_neg (by decide), if_neg (by decide), nm, r2, nI_1]
        exact s1
      rw [st1, st2]; exact m1
    · have p0 : μ8.2 108 0 = v1 := by rw [m6, s4 0 (by decide)]; exact r3
      have p1 : μ8.2 108 1 = v2 := by rw [m6]; exact s3
      unfold okV
      rw [m5, p0, p1, q1, q2]
      rcases s5 hlv with ⟨z1, z2⟩ | ⟨z1, z2⟩
      · exact .inr ⟨z2, .inr ⟨e2, rfl, z1⟩⟩
      · rcases r5 hlv with ⟨y1, y2⟩ | ⟨y1, y2⟩
        · exact .inr ⟨by rw [z2, y2], .inl ⟨e1, rfl, y1⟩⟩
        · refine .inl ⟨by rw [z2, y2, v47], fun x hx => ?_, fun x hx => ?_⟩
          · cases hx; exact y1
          · cases hx; exact z1
  · have l := a1.lt
    rw [if_neg (show ¬ nI (ocd c.v) = 25 by rw [h0]; decide), if_pos (show nI (ocd c.v) = 22 by rw [h0]; rfl)]
    obtain ⟨μ6, v1, r1, r2, r3, r4, r5, r6, r7⟩ := ga_113 hN h5 (u4 := 0) v22 q3 a1 (by omega) sx (by decide) (u3 := 1) hl (by rw [v47]; exact .inr rfl) (k92 := fMo_goesAlong_92 N (N' + 1 + 1))
    have h6 := h5.gf r7
    obtain ⟨μ8, m1, m2, m3, m4, m5, m6, m7⟩ := ga_end (fu := N' + 1) hN h6 (u := 1) (by decide) r2 hT ht hj hs hl
    have fall : GF μ5 μ8 := r7.trans m7
    rw [hW5] at r5
    rw [WR.gf r7, hW5] at m4
    obtain ⟨y1, y2⟩ := gg fall
    refine ⟨μ8, ?_, y1, m3, m2, y2, fun hlv => ⟨m4 hlv, ?_⟩⟩
    · have st1 : fMo_goesAlong_92 N N μ5 live 1 0 = fMo_goesAlong_92 N (N' + 1 + 1) μ6 live 1 1 := by
        conv => lhs; arg 2; rw [hN']
        rw [fMo_goesAlong_92, if_neg (by decide), if_pos (by decide)]
        exact r1
      rw [st1]; exact m1
    · have p0 : μ8.2 108 0 = v1 := by rw [m6]; exact r3
      unfold okV
      rw [m5, p0, q1, q2]
      rcases r5 hlv with ⟨y1, y2⟩ | ⟨y1, y2⟩
      · exact .inr ⟨y2, .inl ⟨e1, rfl, y1⟩⟩
      · refine .inl ⟨by rw [y2, v47], fun x hx => ?_, fun x hx => by cases hx⟩
        cases hx; exact y1
  · rw [if_pos (show nI (ocd c.v) = 25 by rw [h0]; rfl)]
    obtain ⟨μ8, m1, m2, m3, m4, m5, m6, m7⟩ := ga_end (fu := N' + 1 + 1) hN h5 (u := 0) (by decide) v22 hT ht hj hs hl
    rw [hW5] at m4
    obtain ⟨y1, y2⟩ := gg m7
    refine ⟨μ8, ?_, y1, m3, m2, y2, fun hlv => ⟨m4 hlv, .inl ⟨by rw [m5, v47], fun x hx => (by rw [q1] at hx; cases hx), fun x hx => (by rw [q2] at hx; cases hx)⟩⟩⟩
    have st1 : fMo_goesAlong_92 N N μ5 live 0 0 = fMo_goesAlong_92 N (N' + 1 + 1 + 1) μ5 live 0 0 := by conv => lhs; arg 2; rw [hN']
    rw [st1]; exact m1
end
