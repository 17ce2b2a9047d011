/-! ===== a law's text at another place ===== -/
section
variable {T V T' V' : Nat → Int32} {o : Bool} {a : Nat}
theorem At.shift : ∀ {e : Ex} {L i j : Nat}, At T V o e L i j → (∀ x, i ≤ x → x < j → T' (x + a) = T x ∧ V' (x + a) = V x) → At T' V' o e L (i + a) (j + a) := by
  intro e
  induction e using Ex.ind with
  | num v =>
    intro L i j h hs
    obtain ⟨h1, h2, h3, rfl⟩ := At_num.1 h
    obtain ⟨q1, q2⟩ := hs i (Nat.le_refl _) (by omega)
    exact At_num.2 ⟨h1, by rw [q1, h2], by rw [q2, h3], by omega⟩
  | word x =>
    intro L i j h hs
    have hlt := At.lt h
    simp only [At_word, AtW] at h ⊢
    cases o with
    | false =>
      simp only [Bool.false_eq_true, if_false] at h ⊢
      obtain ⟨h1, h2, h3⟩ := h
      exact ⟨h1, by rw [(hs i (Nat.le_refl _) hlt).1, h2], by omega⟩
    | true =>
      simp only [if_true] at h ⊢
      obtain ⟨h1, h2, h3⟩ := h
      refine ⟨h1, by rw [(hs i (Nat.le_refl _) hlt).1, h2], ?_⟩
      by_cases h5 : x < 5
      · rw [if_pos h5] at h3 ⊢; omega
      · rw [if_neg h5] at h3 ⊢
        refine ⟨?_, by omega⟩
        have := (hs (i + 1) (by omega) (by omega)).2
        rw [show i + a + 1 = i + 1 + a by omega, this, h3.1]
  | bin op x y ho iha ihb =>
    intro L i k h hs
    obtain ⟨j, h0, h⟩ := (At_bin ho).1 h
    rcases h with ⟨h, h3, h1, h2⟩ | ⟨h, h3, h1, h2⟩
    · have l1 := h1.lt
      have l2 := h2.lt
      refine (At_bin ho).2 ⟨j + a, by rw [(hs j (by omega) (by omega)).1, h0], .inl ⟨h, h3, iha h1 (fun x u v => hs x u (by omega)), ?_⟩⟩
      have := ihb h2 (fun x u v => hs x (by omega) v)
      rwa [show j + 1 + a = j + a + 1 by omega] at this
    · have l1 := h1.lt
      have l2 := h2.lt
      refine (At_bin ho).2 ⟨j + a, by rw [(hs j (by omega) (by omega)).1, h0], .inr ⟨h, h3, iha h1 (fun x u v => hs x u (by omega)), ?_⟩⟩
      have := ihb h2 (fun x u v => hs x (by omega) v)
      rwa [show j + 1 + a = j + a + 1 by omega] at this
  | br x iha =>
    intro L i k h hs
    obtain ⟨j, h1, h2, h3, rfl⟩ := At_br.1 h
    have l := h2.lt
    have := iha h2 (fun x u v => hs x (by omega) (by omega))
    rw [show i + 1 + a = i + a + 1 by omega] at this
    exact At_br.2 ⟨j + a, by rw [(hs i (by omega) (by omega)).1, h1], this, by rw [(hs j (by omega) (by omega)).1, h3], by omega⟩
  | oth e he => intro L i k h _; exact absurd h (At_oth he)
theorem AtT.shift : ∀ {t : Tx} {L i j : Nat}, AtT T V o t L i j → (∀ x, i ≤ x → x < j → T' (x + a) = T x ∧ V' (x + a) = V x) → AtT T' V' o t L (i + a) (j + a) := by
  intro t
  induction t using Tx.ind with
  | cmp op x y ho =>
    intro L i k h hs
    obtain ⟨h1, h2, j, h3, h4, h5⟩ := (AtT_cmp ho).1 h
    have l1 := h3.lt
    have l2 := h5.lt
    have q := h5.shift (a := a) (T' := T') (V' := V') (fun x u v => hs x (by omega) v)
    rw [show j + 1 + a = j + a + 1 by omega] at q
    exact (AtT_cmp ho).2 ⟨h1, h2, j + a, h3.shift (fun x u v => hs x u (by omega)), by rw [(hs j (by omega) (by omega)).1, h4], q⟩
  | par t ih =>
    intro L i k h hs
    obtain ⟨h1, j, h2, h3, h4, rfl⟩ := AtT_par.1 h
    have l := h3.lt
    have q := ih h3 (fun x u v => hs x (by omega) (by omega))
    rw [show i + 1 + a = i + a + 1 by omega] at q
    exact AtT_par.2 ⟨h1, j + a, by rw [(hs i (by omega) (by omega)).1, h2], q, by rw [(hs j (by omega) (by omega)).1, h4], by omega⟩
  | nots m t ih =>
    intro L i k h hs
    obtain ⟨h1, h2, h3⟩ := AtT_nots.1 h
    have l := h3.lt
    have q := ih h3 (fun x u v => hs x (by omega) v)
    rw [show i + m + a = i + a + m by omega] at q
    refine AtT_nots.2 ⟨h1, fun x hx => ?_, q⟩
    rw [show i + a + x = i + x + a by omega, (hs (i + x) (by omega) (by omega)).1, h2 x hx]
  | both x y ih1 ih2 =>
    intro L i k h hs
    obtain ⟨h1, j, h2, h3, h4⟩ := AtT_both.1 h
    have l1 := h2.lt
    have l2 := h4.lt
    have q := ih2 h4 (fun x u v => hs x (by omega) v)
    rw [show j + 1 + a = j + a + 1 by omega] at q
    exact AtT_both.2 ⟨h1, j + a, ih1 h2 (fun x u v => hs x u (by omega)), by rw [(hs j (by omega) (by omega)).1, h3], q⟩
  | alt x y ih1 ih2 =>
    intro L i k h hs
    obtain ⟨h1, j, h2, h3, h4⟩ := AtT_alt.1 h
    have l1 := h2.lt
    have l2 := h4.lt
    have q := ih2 h4 (fun x u v => hs x (by omega) v)
    rw [show j + 1 + a = j + a + 1 by omega] at q
    exact AtT_alt.2 ⟨h1, j + a, ih1 h2 (fun x u v => hs x u (by omega)), by rw [(hs j (by omega) (by omega)).1, h3], q⟩
  | oth t ht => intro L i k h _; exact absurd h (AtT_oth ht)
theorem AtI.shift {t : Option Tx} {i j : Nat} (h : AtI T V o t i j) (hs : ∀ x, i ≤ x → x < j → T' (x + a) = T x ∧ V' (x + a) = V x) (hj : T' (j + a) = T j) : AtI T' V' o t (i + a) (j + a) := by
  cases t with
  | none =>
    obtain ⟨rfl, h2⟩ := h
    exact ⟨rfl, by rw [hj]; exact h2⟩
  | some t =>
    obtain ⟨h1, h2, h3, h4⟩ := h
    have l := h2.lt
    have q := h2.shift (a := a) (T' := T') (V' := V') (fun x u v => hs x (by omega) v)
    rw [show i + 1 + a = i + a + 1 by omega] at q
    exact ⟨by rw [(hs i (Nat.le_refl _) (by omega)).1, h1], q, h3, h4⟩
theorem AtC.shift {c : Cl} {i j : Nat} (h : AtC T V c i j) (hs : ∀ x, i ≤ x → x < j → T' (x + a) = T x ∧ V' (x + a) = V x) (hj : T' (j + a) = T j) : AtC T' V' c (i + a) (j + a) := by
  have hl := h.lt
  obtain ⟨h1, h2, h3⟩ := h
  refine ⟨by rw [(hs i (Nat.le_refl _) hl).1, h1], h2, ?_⟩
  cases hc : c.a with
  | none =>
    rw [hc] at h3
    obtain ⟨h4, h5⟩ := h3
    have q := h5.shift (a := a) (T' := T') (V' := V') (fun x u v => hs x (by omega) v) hj
    rw [show i + 1 + a = i + a + 1 by omega] at q
    exact ⟨h4, q⟩
  | some e =>
    rw [hc] at h3
    obtain ⟨h4, h5, k, h6, h7, h8⟩ := h3
    have l1 := h6.lt
    have l2 := h7.le
    have q := h6.shift (a := a) (T' := T') (V' := V') (fun x u v => hs x (by omega) (by omega))
    rw [show i + 1 + a = i + a + 1 by omega] at q
    refine ⟨h4, h5, k + a, q, h7.shift (fun x u v => hs x (by omega) v) hj, ?_⟩
    by_cases hk : k < j
    · rw [(hs k (by omega) hk).1]; exact h8
    · rw [show k = j by omega, hj, show j = k by omega]; exact h8
theorem AtL.shift {n : Nat} : ∀ {cs : List Cl} {i : Nat}, AtL T V n cs i → (∀ x, i ≤ x → x < n → T' (x + a) = T x ∧ V' (x + a) = V x) → T' (n + a) = T n → AtL T' V' (n + a) cs (i + a) := by
  intro cs
  induction cs with
  | nil =>
    intro i h _ _
    simp only [AtL] at h ⊢
    omega
  | cons c cs ih =>
    intro i h hs hn
    obtain ⟨j, h1, h2, h3, h4⟩ := h
    have l := h1.lt
    have hj : T' (j + a) = T j := by
      by_cases hjn : j < n
      · exact (hs j (by omega) hjn).1
      · rw [show j = n by omega]; exact hn
    have q := ih h4 (fun x u v => hs x (by omega) v) hn
    rw [show j + 1 + a = j + a + 1 by omega] at q
    exact ⟨j + a, h1.shift (fun x u v => hs x u (by omega)) hj, by rw [hj]; rcases h2 with q | q; exact .inl q; exact .inr (by omega), by omega, q⟩
end
/-- the cells of the row that count -/
def inR (j : Nat) : Prop := j < 53 ∨ (54 ≤ j ∧ j < 2454) ∨ (2854 ≤ j ∧ j < 5254)
theorem LA.row {k k' : Nat → Int32} {f : Nat} {cs : List Cl} (h : LA k f cs) (hf : f < 6) (hk : ∀ j, inR j → k' j = k j) : LA k' f cs := by
  obtain ⟨z, z1, z2, z3, z4⟩ := h
  refine ⟨z, by rw [hk _ (by unfold inR; omega), z1], z2, z3, ?_⟩
  have q := z4.shift (a := 0) (T' := fun j => if j < 400 * f + z then k' (54 + j) else 0) (V' := fun j => k' (2854 + j)) (fun x u v => ?_) ?_
  · exact q
  · simp only [Nat.add_zero]
    refine ⟨?_, hk _ (by unfold inR; omega)⟩
    rw [if_pos v, if_pos v, hk _ (by unfold inR; omega)]
  · simp
theorem KI.row {k k' : Nat → Int32} {Lw : Nat → List Cl} {n w L : Nat} (K : KI k Lw n w L) (hk : ∀ j, inR j → k' j = k j) : KI k' Lw n w L := by
  have hl : ∀ j, j < 53 → k' j = k j := fun j hj => hk j (.inl hj)
  have hL := K.L6
  have hn := K.n7
  have hw := K.w6
  refine ⟨by rw [hl 43 (by omega)]; exact K.hn, hn, by rw [hl 44 (by omega)]; exact K.hw, hw, by rw [hl 45 (by omega)]; exact K.hL, hL, ⟨fun c hc => ?_, ?_⟩, ?_, fun i hi => ?_, fun f hf => (K.la f hf).row (by omega) hk, ?_⟩
  · rw [hl c (by omega), hl (7 + c) (by omega)]; exact K.co.1 c hc
  · rw [hl 14 (by omega)]; exact K.co.2
  · unfold TM; rw [hl 40 (by omega), hl 41 (by omega), hl 42 (by omega)]; exact K.tm
  · rw [hl (22 + 3 * i) (by omega), hl (23 + 3 * i) (by omega), hl (24 + 3 * i) (by omega)]; exact K.wo i hi
  · rw [hl 46 (by omega)]; exact K.fo
theorem PQ.row {ln : Nat → Nat} {M : Nat} {g : sw_g} {q : Nat} {k k' : Nat → Int32} {Lw : Nat → List Cl} {L : Nat} (P : PQ ln M g q k Lw L) (hl : ∀ j, j < 53 → k' j = k j) : PQ ln M g q k' Lw L := by
  obtain ⟨a1, a2, ⟨a31, a32, a33, a34⟩, a4, a5, a6, a7, a8⟩ := P
  refine ⟨by rw [hl 43 (by omega)]; exact a1, fun c hc => ?_, ⟨by rw [hl 14 (by omega)]; exact a31, by rw [hl 40 (by omega)]; exact a32, by rw [hl 41 (by omega)]; exact a33, by rw [hl 42 (by omega)]; exact a34⟩, by rw [hl 44 (by omega)]; exact a4, fun i hi => ?_, by rw [hl 45 (by omega)]; exact a6, by rw [hl 46 (by omega)]; exact a7, a8⟩
  · rw [hl c (by omega), hl (15 + c) (by omega), hl (7 + c) (by omega)]; exact a2 c hc
  · rw [hl (22 + 3 * i) (by omega), hl (23 + 3 * i) (by omega), hl (24 + 3 * i) (by omega)]; exact a5 i hi
