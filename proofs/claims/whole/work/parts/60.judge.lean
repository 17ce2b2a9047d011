/-! ===== numbers with signs, frames ===== -/
def zI (z : Int) : Int32 := Int32.ofInt z
theorem zI_nat (n : Nat) : zI (n : Int) = nI n := Int32.ofInt_eq_ofNat
theorem zI_toInt {z : Int} (h : -2147483648 ≤ z) (h' : z < 2147483648) : (zI z).toInt = z := Int32.toInt_ofInt_of_le (by omega) (by omega)
theorem zI_of (x : Int32) : zI x.toInt = x := Int32.ofInt_toInt x
theorem zI_add (a b : Int) : zI a + zI b = zI (a + b) := (Int32.ofInt_add a b).symm
theorem zI_sub (a b : Int) : zI a - zI b = zI (a - b) := (Int32.ofInt_sub a b).symm
theorem zI_mul (a b : Int) : zI a * zI b = zI (a * b) := (Int32.ofInt_mul a b).symm
theorem zI_neg (a : Int) : - zI a = zI (-a) := (Int32.ofInt_neg a).symm
theorem zI_lt {a b : Int} (h1 : -2147483648 ≤ a) (h2 : a < 2147483648) (h3 : -2147483648 ≤ b) (h4 : b < 2147483648) : zI a < zI b ↔ a < b := by
  rw [Int32.lt_iff_toInt_lt, zI_toInt h1 h2, zI_toInt h3 h4]
theorem zI_le {a b : Int} (h1 : -2147483648 ≤ a) (h2 : a < 2147483648) (h3 : -2147483648 ≤ b) (h4 : b < 2147483648) : zI a ≤ zI b ↔ a ≤ b := by
  rw [Int32.le_iff_toInt_le, zI_toInt h1 h2, zI_toInt h3 h4]
theorem zI_eq {a b : Int} (h1 : -2147483648 ≤ a) (h2 : a < 2147483648) (h3 : -2147483648 ≤ b) (h4 : b < 2147483648) : zI a = zI b ↔ a = b := by
  rw [← Int32.toInt_inj, zI_toInt h1 h2, zI_toInt h3 h4]
theorem i0 : (0 : Int32).toInt = 0 := rfl
theorem either_eq (x : Int32) : fMo_either x = some (jabs x) := by
  unfold fMo_either jabs
  split
  · rfl
  · rw [Int32.zero_sub]
theorem lesser_eq (x y : Int32) : fMo_lesser x y = some (jmin x y) := by
  unfold fMo_lesser jmin
  by_cases h : y < x
  · rw [if_pos h, if_pos (by rw [Int32.le_iff_toInt_le]; rw [Int32.lt_iff_toInt_lt] at h; omega)]
  · rw [if_neg h]
    split
    · rename_i h2
      have : y = x := Int32.toInt_inj.1 (by rw [Int32.le_iff_toInt_le] at h2; rw [Int32.lt_iff_toInt_lt] at h; omega)
      rw [this]
    · rfl
theorem greater_eq (x y : Int32) : fMo_greater x y = some (jmax x y) := by
  unfold fMo_greater jmax
  by_cases h : x < y
  · rw [if_pos h, if_pos (by rw [Int32.le_iff_toInt_le]; rw [Int32.lt_iff_toInt_lt] at h; omega)]
  · rw [if_neg h]
    split
    · rename_i h2
      have : y = x := Int32.toInt_inj.1 (by rw [Int32.le_iff_toInt_le] at h2; rw [Int32.lt_iff_toInt_lt] at h; omega)
      rw [this]
    · rfl
theorem wr_K {α β : Type} (c : Int32) (i n : Nat) (hc : ¬ (c < 0 ∨ n ≤ c.toNatClampNeg)) (hi : c.toNatClampNeg = i) {f : Nat → α} {k : α → Option β} : wr n c f k = k (f i) := by unfold wr; rw [if_neg hc, hi]
theorem rd_K {α β : Type} (c : Int32) (i n : Nat) (hc : ¬ (c < 0 ∨ n ≤ c.toNatClampNeg)) (hi : c.toNatClampNeg = i) {f : Nat → α} {k : α → Option β} : rd n c f k = k (f i) := by unfold rd; rw [if_neg hc, hi]
/-- only places from lo to hi may change -/
def GA (lo hi : Nat) (g g' : sw_g) : Prop := (∀ p, (p < lo ∨ hi < p) → g'.1 p = g.1 p) ∧ g'.2.2 = g.2.2
theorem GA.refl {lo hi : Nat} {g : sw_g} : GA lo hi g g := ⟨fun _ _ => rfl, rfl⟩
theorem GA.trans {lo hi : Nat} {g g1 g2 : sw_g} (h1 : GA lo hi g g1) (h2 : GA lo hi g1 g2) : GA lo hi g g2 := ⟨fun p h => (h2.1 p h).trans (h1.1 p h), h2.2.trans h1.2⟩
theorem GA.mono {lo hi lo' hi' : Nat} {g g1 : sw_g} (h1 : GA lo hi g g1) (a : lo' ≤ lo) (b : hi ≤ hi') : GA lo' hi' g g1 := ⟨fun p h => h1.1 p (by omega), h1.2⟩
theorem GA.put {lo hi : Nat} {g : sw_g} {p j : Nat} {v : Int32} (a : lo ≤ p) (b : p ≤ hi) : GA lo hi g (gI g p j v) := ⟨fun q h => by funext x; rw [gI_at, if_neg (by omega)], rfl⟩
theorem gS_GA {g : sw_g} {q0 : Nat} {S : Nat → Int64} {lo hi : Nat} : GA lo hi g (gS g q0 S) := ⟨fun _ _ => rfl, rfl⟩
/-! ===== the class' judge: what a law tells ===== -/
def okC (c : Cl) : Prop := c.v ≤ 2 ∧ (c.v < 2 → ∃ e, c.a = some e) ∧ (c.v = 2 → c.a = none)
/-- the class' text at place p tells these clauses -/
def TxC (ln : Nat → Nat) (g : sw_g) (p : Nat) (cs : List Cl) : Prop := g.1 p 0 = nI cs.length ∧ cs.length ≤ 12 ∧ ∃ u C, g.1 p 6 = nI u ∧ u ≤ 512 ∧ u ≤ ln (p + 6) ∧ ln (p + 6) < 2147483648 ∧ (∀ x, x < u → g.1 (p + 6) x = C x) ∧ ∀ z c, cs[z]? = some c → okC c ∧ RowC g p C u 8 z c
theorem TxC.frame {ln : Nat → Nat} {g g' : sw_g} {p : Nat} {cs : List Cl} (h : TxC ln g p cs) (hg : ∀ q, p ≤ q → q ≤ p + 6 → g'.1 q = g.1 q) : TxC ln g' p cs := by
  obtain ⟨h1, h2, u, C, h3, h4, h5, h6, h7, h8⟩ := h
  refine ⟨by rw [hg p (by omega) (by omega), h1], h2, u, C, by rw [hg p (by omega) (by omega), h3], h4, h5, h6, fun x hx => by rw [hg (p + 6) (by omega) (by omega), h7 x hx], fun z c hz => ⟨(h8 z c hz).1, (h8 z c hz).2.mono (fun x x1 x5 => ?_) (Nat.le_refl _) (fun _ _ => rfl)⟩⟩
  rw [hg (p + x) (by omega) (by omega)]
theorem TxC.GA {ln : Nat → Nat} {g g' : sw_g} {p : Nat} {cs : List Cl} {lo hi : Nat} (h : TxC ln g p cs) (hg : GA lo hi g g') (hp : hi < p) : TxC ln g' p cs := h.frame (fun q a b => hg.1 q (by omega))
theorem Cx.of {ln : Nat → Nat} {g : sw_g} {p : Nat} {C W : Nat → Int32} {u : Nat} (h3 : g.1 p 6 = nI u) (h4 : u ≤ 512) (h5 : u ≤ ln (p + 6)) (h6 : ln (p + 6) < 2147483648) (h7 : ∀ x, x < u → g.1 (p + 6) x = C x) {q3 nw : Nat} (hW : ∀ x, x < nw → g.1 q3 x = W x) (hn : nw < 2048) : Cx ln g p q3 nw C W u := ⟨h3, h4, h5, h6, h7, hW, hn⟩
theorem ev_oth {W : Nat → Int32} {e : Ex} (h : ¬ Ex.is e) : ev W e = none := by
  cases e with
  | _ => first | exact absurd trivial h | rfl
theorem lim_rng {c x : Int64} (h : lim c = some x) : x.toInt32.toInt64 = x := by
  unfold lim at h
  split at h
  · cases h
  · rename_i hn
    cases h
    apply Int64.toInt_inj.1
    rw [Int32.toInt_toInt64, Int64.toInt_toInt32]
    simp only [not_or, Int64.lt_iff_toInt_lt] at hn
    have a : (1000000000 : Int64).toInt = 1000000000 := rfl
    have b : (-1000000000 : Int64).toInt = -1000000000 := rfl
    rw [a, b] at hn
    exact Int.bmod_eq_of_le (by omega) (by omega)
theorem ev_rng {W : Nat → Int32} : ∀ {e : Ex} {x : Int64}, ev W e = some x → x.toInt32.toInt64 = x := by
  intro e
  induction e using Ex.ind with
  | num v => intro x h; rw [ev_num] at h; cases h; simp
  | word v => intro x h; rw [ev_word] at h; cases h; simp
  | bin op a b ho iha ihb =>
    intro x h
    rw [ev_bin ho] at h
    cases ha : ev W a with
    | none => rw [ha] at h; cases h
    | some p =>
      cases hb : ev W b with
      | none => rw [ha, hb] at h; cases h
      | some q =>
        rw [ha, hb] at h
        have h : cmb op p q = some x := h
        unfold cmb at h
        split at h
        · exact lim_rng h
        · split at h
          · exact lim_rng h
          · split at h
            · exact lim_rng h
            · split at h
              · cases h
              · split at h <;> exact lim_rng h
  | br a iha => intro x h; rw [ev_br] at h; exact iha h
  | oth e he => intro x h; rw [ev_oth he] at h; cases h
theorem clmp_32 {high y : Int32} (hh : 0 ≤ high) : (clmp high y.toInt64).toInt32 = jmax 0 (jmin high y) := by
  have e : ∀ z : Int32, z.toInt64.toInt32 = z := fun z => by simp
  have h1 : (0 ≤ y.toInt64) ↔ (0 ≤ y) := by rw [Int64.le_iff_toInt_le, Int32.le_iff_toInt_le, Int32.toInt_toInt64]; exact Iff.rfl
  have h2 : (y.toInt64 ≤ high.toInt64) ↔ y ≤ high := by rw [Int64.le_iff_toInt_le, Int32.le_iff_toInt_le, Int32.toInt_toInt64, Int32.toInt_toInt64]
  have z0 : (0 : Int64).toInt32 = 0 := rfl
  unfold clmp jmax jmin
  simp only [h1, h2]
  rw [Int32.le_iff_toInt_le, i0] at hh
  by_cases a : 0 ≤ y
  · by_cases b : y ≤ high
    · rw [if_pos a, if_pos b, e]
      rw [Int32.le_iff_toInt_le] at a b
      rw [i0] at a
      split
      · split
        · rfl
        · rename_i q1 q2; apply Int32.toInt_inj.1; rw [Int32.lt_iff_toInt_lt, i0] at q2; rw [i0]; omega
      · rename_i q1
        rw [Int32.lt_iff_toInt_lt] at q1
        have : y = high := Int32.toInt_inj.1 (by omega)
        subst this
        split
        · rfl
        · rename_i q2; apply Int32.toInt_inj.1; rw [Int32.lt_iff_toInt_lt, i0] at q2; rw [i0]; omega
    · rw [if_pos a, if_neg b, e]
      rw [Int32.le_iff_toInt_le] at a b
      rw [i0] at a
      rw [if_neg (show ¬ y < high by rw [Int32.lt_iff_toInt_lt]; omega)]
      split
      · rfl
      · rename_i q2; apply Int32.toInt_inj.1; rw [Int32.lt_iff_toInt_lt, i0] at q2; rw [i0]; omega
  · rw [if_neg a, z0]
    rw [Int32.le_iff_toInt_le, i0] at a
    rw [if_pos (show y < high by rw [Int32.lt_iff_toInt_lt]; omega), if_neg (show ¬ 0 < y by rw [Int32.lt_iff_toInt_lt, i0]; omega)]
theorem tellF_app {v : Nat} {high : Int32} {W : Nat → Int32} {c : Cl} : ∀ {l : List Cl} {told : Int64}, tellF v high W (l ++ [c]) told = stepC v high W c (tellF v high W l told) := by
  intro l
  induction l with
  | nil => intro told; rfl
  | cons a l ih => intro told; exact ih
theorem get_lt {α : Type} {l : List α} {z : Nat} {c : α} (h : l[z]? = some c) : z < l.length := (List.getElem?_eq_some_iff.1 h).1
section
variable {N : Nat} {ln : Nat → Nat} {g : sw_g} {p : Nat} {cs : List Cl} {W : Nat → Int32}
theorem holds_eq (hN : 3000 ≤ N) (h : TxC ln g p cs) (hW : ∀ x, x < 8 → g.1 45 x = W x) {z : Nat} {c : Cl} (hz : cs[z]? = some c) : ∃ g', fJu_holds N ln g p (nI z) = some (if holdsC W c then 1 else 0, g') ∧ GA 43 44 g g' := by
  obtain ⟨h1, h2, u, C, h3, h4, h5, h6, h7, h8⟩ := h
  have hz' := get_lt hz
  obtain ⟨_, r1, r2, r3, r4, r5⟩ := h8 z c hz
  unfold fJu_holds
  rw [rd_nI (by omega) (by decide)]
  cases ht : c.t with
  | none =>
    rw [ht] at r5
    rw [show g.1 (p + 5) z = -1 from r5, if_pos rfl]
    exact ⟨g, by simp [holdsC, holdsO, ht], GA.refl⟩
  | some e =>
    rw [ht] at r5
    obtain ⟨i, j, a1, a2, a3, a4, a5⟩ := r5
    have := a2.lt
    rw [a1, if_neg (nI_nm1 (by omega))]
    have K : Cx ln g p 45 8 C W u := Cx.of h3 h4 h5 h6 h7 hW (by decide)
    obtain ⟨S', hS⟩ := worksR (q0 := 43) K hN (runT K e i j a2 (by omega)) a3 a4 a5
    rw [hS]
    cases he : evT W e with
    | none => exact ⟨gS g 43 S', by simp [holdsC, holdsO, ht, he], gS_GA⟩
    | some r =>
      cases r with
      | false => exact ⟨_, by simp [holdsC, holdsO, ht, he, bL, gI_at]; rfl, gS_GA.trans (GA.put (by decide) (by decide))⟩
      | true => exact ⟨_, by simp [holdsC, holdsO, ht, he, bL, gI_at]; rfl, gS_GA.trans (GA.put (by decide) (by decide))⟩
theorem lastTold_20 (hN : 3000 ≤ N) (hp : 110 ≤ p) {v : Nat} (hv : v < 2) {high : Int32} (hh : 0 ≤ high) {w : Int32} : ∀ (j fu : Nat) (g : sw_g), TxC ln g p cs → (∀ x, x < 8 → g.1 45 x = W x) → j ≤ cs.length → j < fu → ∃ g', fJu_lastTold_20 N ln fu g p (nI v) high w (nI j + (-1)) = some ((tellF v high W (cs.take j) w.toInt64).toInt32, g') ∧ GA 43 44 g g' := by
  intro j
  induction j with
  | zero =>
    intro fu g T hW hj hfu
    obtain ⟨fu, rfl⟩ : ∃ z, fu = z + 1 := ⟨fu - 1, by omega⟩
    rw [fJu_lastTold_20, if_pos (by decide)]
    exact ⟨g, by simp [tellF], GA.refl⟩
  | succ j ih =>
    intro fu g T hW hj hfu
    obtain ⟨fu, rfl⟩ : ∃ z, fu = z + 1 := ⟨fu - 1, by omega⟩
    obtain ⟨h1, h2, u, C, h3, h4, h5, h6, h7, h8⟩ := T
    have T : TxC ln g p cs := ⟨h1, h2, u, C, h3, h4, h5, h6, h7, h8⟩
    obtain ⟨c, hz⟩ : ∃ c, cs[j]? = some c := ⟨cs[j]'(by omega), List.getElem?_eq_getElem (by omega)⟩
    obtain ⟨ok, r1, r2, r3, r4, r5⟩ := h8 j c hz
    have ok1 := ok.1
    rw [pk_m1, fJu_lastTold_20, if_neg (nI_pos (by omega)), rd_nI (by omega) (by decide), r1]
    have ht : cs.take (j + 1) = cs.take j ++ [c] := by rw [List.take_succ, hz]; rfl
    rw [ht, tellF_app]
    by_cases hcv : c.v = v
    · rw [if_pos (by rw [hcv])]
      obtain ⟨g5, e5, f5⟩ := holds_eq hN T hW hz
      have T5 := T.GA f5 (by omega)
      have W5 : ∀ x, x < 8 → g5.1 45 x = W x := fun x hx => by rw [f5.1 45 (by decide)]; exact hW x hx
      rw [e5, Option.bind_some]
      by_cases hh' : holdsC W c = true
      · simp only [hh', if_true, show ¬ ((1 : Int32) = 0) by decide, if_false]
        obtain ⟨e, he⟩ := ok.2.1 (by omega)
        rw [he] at r3
        obtain ⟨i, l, a1, a2, a3, a4, a5⟩ := r3
        rw [rd_nI (by omega) (by decide), f5.1 (p + 2) (by omega), a1]
        have K : Cx ln g5 p 45 8 C W u := Cx.of (by rw [f5.1 p (by omega), h3]) h4 h5 h6 (fun x hx => by rw [f5.1 (p + 6) (by omega), h7 x hx]) W5 (by decide)
        obtain ⟨S', hS⟩ := worksE (q0 := 43) K hN a2 a3 a4 a5
        rw [hS, Option.bind_some]
        cases hx : ev W e with
        | none =>
          simp only [if_true]
          obtain ⟨g', e', f'⟩ := ih fu (gS g5 43 S') (T5.GA (lo := 43) (hi := 44) gS_GA (by omega)) (fun x hx => W5 x hx) (by omega) (by omega)
          refine ⟨g', ?_, f5.trans (GA.trans gS_GA f')⟩
          rw [show nm (nI j + (-1)) (fun x12 => fJu_lastTold_20 N ln fu (gS g5 43 S') p (nI v) high w x12) = _ from e']
          simp [stepC, hcv, hh', valC, he, hx]
        | some x =>
          simp only [show ¬ ((1 : Int32) = 0) by decide, if_false]
          refine ⟨gI (gS g5 43 S') 43 0 x.toInt32, ?_, f5.trans (GA.trans gS_GA (GA.put (by decide) (by decide)))⟩
          have hr := ev_rng hx
          have : (stepC v high W c (tellF v high W (cs.take j) w.toInt64)).toInt32 = jmax 0 (jmin high x.toInt32) := by
            simp only [stepC, hcv, hh', valC, he, hx, if_true]
            rw [← clmp_32 hh, hr]
          rw [this]
          simp [gI_at]
      · simp only [hh', if_true, if_false]
        obtain ⟨g', e', f'⟩ := ih fu g5 T5 W5 (by omega) (by omega)
        refine ⟨g', ?_, f5.trans f'⟩
        rw [show nm (nI j + (-1)) (fun x7 => fJu_lastTold_20 N ln fu g5 p (nI v) high w x7) = _ from e']
        simp [stepC, hcv, hh']
    · rw [if_neg (fun h => hcv ((nI_eq (by omega) (by omega)).1 h))]
      obtain ⟨g', e', f'⟩ := ih fu g T hW (by omega) (by omega)
      refine ⟨g', ?_, f'⟩
      rw [show nm (nI j + (-1)) (fun x3 => fJu_lastTold_20 N ln fu g p (nI v) high w x3) = _ from e']
      simp [stepC, hcv]
def barB (W : Nat → Int32) (cs : List Cl) : Bool := cs.any (fun c => decide (c.v = 2) && holdsC W c)
theorem barsAt_27 (hN : 3000 ≤ N) (hp : 110 ≤ p) {q : Nat} : ∀ (d z fu : Nat) (g : sw_g), z + d = cs.length → TxC ln g p cs → (∀ x, x < 8 → g.1 45 x = W x) → d < fu → ∃ g', fJu_barsAt_27 N ln q fu g p (nI z) = some (if barB W (cs.drop z) then 1 else 0, g') ∧ GA 43 44 g g' := by
  intro d
  induction d with
  | zero =>
    intro z fu g hz T hW hfu
    obtain ⟨fu, rfl⟩ : ∃ z, fu = z + 1 := ⟨fu - 1, by omega⟩
    have hd : cs.drop z = [] := List.drop_eq_nil_of_le (by omega)
    have hl := T.2.1
    rw [fJu_barsAt_27, T.1, if_pos (nI_le (by omega) (by omega)), hd]
    exact ⟨g, rfl, GA.refl⟩
  | succ d ih =>
    intro z fu g hz T hW hfu
    obtain ⟨fu, rfl⟩ : ∃ z, fu = z + 1 := ⟨fu - 1, by omega⟩
    obtain ⟨h1, h2, u, C, h3, h4, h5, h6, h7, h8⟩ := T
    have T : TxC ln g p cs := ⟨h1, h2, u, C, h3, h4, h5, h6, h7, h8⟩
    obtain ⟨c, hc⟩ : ∃ c, cs[z]? = some c := ⟨cs[z]'(by omega), List.getElem?_eq_getElem (by omega)⟩
    obtain ⟨ok, r1, r2, r3, r4, r5⟩ := h8 z c hc
    have ok1 := ok.1
    have hd : cs.drop z = c :: cs.drop (z + 1) := by
      rw [List.drop_eq_getElem_cons (by omega)]
      congr 1
      exact (List.getElem?_eq_some_iff.1 hc).2
    rw [fJu_barsAt_27, T.1, if_neg (nI_ge (by omega) (by omega)), if_neg (show ¬ (12 : Int32) ≤ nI z from nI_ge (b := 12) (by omega) (by decide)), rd_nI (by omega) (by decide), r1, hd]
    by_cases hcv : c.v = 2
    · rw [if_pos (show nI c.v = 2 by rw [hcv]; rfl)]
      obtain ⟨g5, e5, f5⟩ := holds_eq hN T hW hc
      rw [e5, Option.bind_some]
      by_cases hh' : holdsC W c = true
      · simp only [hh', if_true, show ¬ ((1 : Int32) = 0) by decide, if_false]
        exact ⟨g5, by simp [barB, hcv, hh'], f5⟩
      · simp only [hh', if_true, if_false, nm, nI_1]
        obtain ⟨g', e', f'⟩ := ih (z + 1) fu g5 (by omega) (T.GA f5 (by omega)) (fun x hx => by rw [f5.1 45 (by decide)]; exact hW x hx) (by omega)
        refine ⟨g', ?_, f5.trans f'⟩
        rw [show (if false = true then (1 : Int32) else 0) = 0 from rfl, if_pos rfl]
        rw [e']
        simp [barB, hh']
    · rw [if_neg (show ¬ nI c.v = 2 from fun h => hcv ((eqL 2 2 rfl (by omega) (by decide)).1 h))]
      simp only [nm, nI_1]
      obtain ⟨g', e', f'⟩ := ih (z + 1) fu g (by omega) T hW (by omega)
      exact ⟨g', by rw [e']; simp [barB, hcv], f'⟩
theorem tell_bar {told : Int64} : ∀ (cs : List Cl), (∀ c ∈ cs, okC c) → ∀ told, tellF 2 1 W cs told = if barB W cs then 1 else told := by
  intro cs
  induction cs with
  | nil => intro _ told; rfl
  | cons c cs ih =>
    intro h told
    have h1 := h c (by simp)
    rw [tellF, ih (fun c hc => h c (by simp [hc]))]
    by_cases hb : barB W cs = true
    · simp [barB] at hb ⊢
      simp [hb]
    · by_cases hv : c.v = 2
      · have hv' : valC W c = some 1 := by simp [valC, h1.2.2 hv]
        by_cases hh : holdsC W c = true
        · have : clmp 1 1 = 1 := by decide
          simp [barB, stepC, hv, hh, hv', this]
        · have : barB W (c :: cs) = barB W cs := by simp [barB, hh]
          rw [this]
          simp [hb, stepC, hv, hh]
      · have : barB W (c :: cs) = barB W cs := by simp [barB, hv]
        rw [this]
        simp [hb, stepC, hv]
end
