/-! ===== a day passes, by both ===== -/
theorem tellF_rng {v h : Nat} (hh : h < 2 ^ 31) {W : Nat → Int32} : ∀ (cs : List Cl) (told : Int64), (∃ a, a ≤ h ∧ told = (nI a).toInt64) → ∃ a, a ≤ h ∧ tellF v (nI h) W cs told = (nI a).toInt64 := by
  intro cs
  induction cs with
  | nil => intro told h; exact h
  | cons c cs ih =>
    intro told ht
    refine ih _ ?_
    have hc : ∀ x : Int64, ∃ a, a ≤ h ∧ clmp (nI h) x = (nI a).toInt64 := by
      intro x
      unfold clmp
      by_cases h1 : 0 ≤ x
      · rw [if_pos h1]
        by_cases h2 : x ≤ (nI h).toInt64
        · rw [if_pos h2]
          rw [Int64.le_iff_toInt_le] at h1 h2
          rw [Int32.toInt_toInt64, nI_toInt hh] at h2
          have h1' : 0 ≤ x.toInt := h1
          refine ⟨x.toInt.toNat, by omega, Int64.toInt_inj.1 ?_⟩
          rw [Int32.toInt_toInt64, nI_toInt (by omega)]; omega
        · rw [if_neg h2]; exact ⟨h, Nat.le_refl _, rfl⟩
      · rw [if_neg h1]; exact ⟨0, Nat.zero_le _, rfl⟩
    unfold stepC
    split
    · split
      · split
        · exact hc _
        · exact ht
      · exact ht
    · exact ht
theorem tlW_rng {v h w0 : Nat} (hh : h < 2 ^ 31) (hw : w0 ≤ h) {W : Nat → Int32} {law : Option (List Cl)} : ∃ a, a ≤ h ∧ tlW W law v (nI h) (nI w0) = nI a := by
  cases law with
  | none => exact ⟨w0, hw, rfl⟩
  | some cs =>
    obtain ⟨a, h1, h2⟩ := tellF_rng (v := v) hh (W := W) cs (nI w0).toInt64 ⟨w0, hw, rfl⟩
    exact ⟨a, h1, by show (tellF v (nI h) W cs (nI w0).toInt64).toInt32 = _; rw [h2]; simp⟩
theorem cnt_rng {k : Nat → Int32} {law : Option (List Cl)} {c : Nat} {p : Int32} {a : Nat} (h : k c = nI a) (ha : a ≤ 30) : ∃ b, b ≤ 99 ∧ cntK k law c p = nI b := by
  unfold cntK
  rw [h]
  exact tlW_rng (h := 99) (by decide) (by omega)
theorem shd_rng {k : Nat → Int32} {law : Option (List Cl)} {c : Nat} {p : Int32} : ∃ b, b ≤ 9 ∧ shdK k law c p = nI b := tlW_rng (h := 9) (w0 := 0) (by decide) (by decide)
def dayH (k : Nat → Int32) (law : Option (List Cl)) (c : Nat) : Int32 := jmax 1 (k c - shdK k law c (k (7 + c)))
theorem jmax_1 {a s : Nat} (h1 : 1 ≤ a) (h2 : a ≤ 30) (hs : s ≤ 30) : ∃ b, 1 ≤ b ∧ b ≤ a ∧ jmax 1 (nI a - nI s) = nI b := by
  rw [← zI_nat a, ← zI_nat s, zI_sub, jmax, show (1 : Int32) = zI 1 from rfl]
  by_cases h : (1 : Int) < (a : Int) - s
  · rw [if_pos ((zI_lt (by omega) (by omega) (by omega) (by omega)).2 h)]
    refine ⟨a - s, by omega, by omega, ?_⟩
    rw [← zI_nat]; congr 1; omega
  · rw [if_neg (fun q => h ((zI_lt (by omega) (by omega) (by omega) (by omega)).1 q))]
    exact ⟨1, Nat.le_refl _, h1, rfl⟩
theorem dayH_eq {k : Nat → Int32} {law : Option (List Cl)} {c a : Nat} (h : k c = nI a) (h1 : 1 ≤ a) (h2 : a ≤ 30) : ∃ b, 1 ≤ b ∧ b ≤ a ∧ dayH k law c = nI b := by
  obtain ⟨s, s1, s2⟩ := shd_rng (k := k) (law := law) (c := c) (p := k (7 + c))
  unfold dayH
  rw [h, s2]
  exact jmax_1 h1 h2 (by omega)
def dk (k : Nat → Int32) (law : Option (List Cl)) (n c : Nat) : Nat → Int32 := fun j => if j < c ∧ j < n ∧ k (7 + j) ≠ -1 then dayH k law j else k j
def dyK (k : Nat → Int32) (law : Option (List Cl)) (n : Nat) : Nat → Int32 := fun j => if j = 14 then k 14 + 1 else dk k law n 7 j
def dyN (k : Nat → Int32) (law : Option (List Cl)) (n : Nat) : Nat → Nat
  | 0 => 0
  | c + 1 => dyN k law n c + (if c < n ∧ k (7 + c) ≠ -1 ∧ dayH k law c < k c then 1 else 0)
theorem dk_hi {k : Nat → Int32} {law : Option (List Cl)} {n c j : Nat} (h : c ≤ j) : dk k law n c j = k j := by unfold dk; rw [if_neg (by omega)]
theorem dk_n {k : Nat → Int32} {law : Option (List Cl)} {n c : Nat} (h : n ≤ c) : dk k law n c = dk k law n n := by
  funext j; unfold dk
  by_cases hj : j < n ∧ k (7 + j) ≠ -1
  · rw [if_pos ⟨by omega, hj⟩, if_pos ⟨hj.1, hj⟩]
  · rw [if_neg (fun q => hj q.2), if_neg (fun q => hj q.2)]
theorem dk_step {k : Nat → Int32} {law : Option (List Cl)} {n c j : Nat} : dk k law n (c + 1) j = if j = c ∧ c < n ∧ k (7 + c) ≠ -1 then dayH k law c else dk k law n c j := by
  unfold dk
  by_cases hj : j = c
  · subst hj
    by_cases h : j < n ∧ k (7 + j) ≠ -1
    · rw [if_pos ⟨by omega, h⟩, if_pos ⟨rfl, h⟩]
    · rw [if_neg (fun q => h q.2), if_neg (fun q => h q.2), if_neg (fun q => h q.2)]
  · rw [if_neg (show ¬ (j = c ∧ c < n ∧ k (7 + c) ≠ -1) from fun q => hj q.1)]
    by_cases h : j < c ∧ j < n ∧ k (7 + j) ≠ -1
    · rw [if_pos h, if_pos ⟨by omega, h.2⟩]
    · rw [if_neg h, if_neg (fun q => h ⟨by omega, q.2⟩)]
theorem dyN_n {k : Nat → Int32} {law : Option (List Cl)} {n : Nat} : ∀ d, dyN k law n (n + d) = dyN k law n n := by
  intro d
  induction d with
  | zero => rfl
  | succ d ih => rw [show dyN k law n (n + (d + 1)) = dyN k law n (n + d) + (if n + d < n ∧ k (7 + (n + d)) ≠ -1 ∧ dayH k law (n + d) < k (n + d) then 1 else 0) from rfl, if_neg (by omega), ih]; rfl
theorem dyN_7 {k : Nat → Int32} {law : Option (List Cl)} {n : Nat} (h : n ≤ 7) : dyN k law n 7 = dyN k law n n := by
  have := dyN_n (k := k) (law := law) (n := n) (7 - n)
  rwa [show n + (7 - n) = 7 by omega] at this
theorem CO_dk {k : Nat → Int32} {law : Option (List Cl)} {n c : Nat} (h : CO n k) (hn : n ≤ 7) : CO n (dk k law n c) := by
  refine ⟨fun x hx => ?_, ?_⟩
  · obtain ⟨⟨a, a1, a2, a3⟩, b⟩ := h.1 x hx
    rw [show dk k law n c (7 + x) = k (7 + x) by unfold dk; rw [if_neg (by omega)]]
    refine ⟨?_, b⟩
    unfold dk
    split
    · obtain ⟨y, y1, y2, y3⟩ := dayH_eq (law := law) a1 a2 a3
      exact ⟨y, y3, y1, by omega⟩
    · exact ⟨a, a1, a2, a3⟩
  · rw [show dk k law n c 14 = k 14 by unfold dk; rw [if_neg (by omega)]]; exact h.2
theorem KI.mv {k k' : Nat → Int32} {Lw : Nat → List Cl} {n w L : Nat} (K : KI k Lw n w L) (hk : ∀ j, 15 ≤ j → k' j = k j) (co : CO n k') : KI k' Lw n w L := by
  refine K.upd (fun j hj => hk j (by omega)) (by rw [hk 43 (by omega), K.hn]) K.n7 (by rw [hk 44 (by omega), K.hw]) K.w6 (hk 45 (by omega)) (by rw [hk 46 (by omega)]; exact K.fo) co ?_ (fun i hi => ?_)
  · unfold TM; rw [hk 40 (by omega), hk 41 (by omega), hk 42 (by omega)]; exact K.tm
  · rw [hk _ (by omega), hk _ (by omega), hk _ (by omega)]; exact K.wo i hi
theorem PQ.mv {ln : Nat → Nat} {M : Nat} {g g' : sw_g} {q : Nat} {k k' : Nat → Int32} {Lw : Nat → List Cl} {L : Nat} (P : PQ ln M g q k Lw L) (h1 : ∀ c, c < 7 → g'.1 (q + 1) c = k' c) (h3 : ∀ c, c < 7 → g'.1 (q + 3) c = k' (7 + c)) (h4 : g'.1 (q + 4) 0 = k' 14) (h4' : ∀ j, j ≠ 0 → g'.1 (q + 4) j = g.1 (q + 4) j) (hk : ∀ j, 15 ≤ j → k' j = k j) (hg : ∀ p, p ≠ q + 1 → p ≠ q + 3 → p ≠ q + 4 → ((q ≤ p ∧ p ≤ q + 7) ∨ 110 ≤ p) → g'.1 p = g.1 p) (hq : q + 8 < 110) (hr : g'.2.2 = g.2.2) : PQ ln M g' q k' Lw L := by
  obtain ⟨a1, a2, ⟨a30, a31, a32, a33⟩, a4, a5, a6, a7, a8⟩ := P
  refine ⟨?_, fun c hc => ?_, ⟨h4, ?_, ?_, ?_⟩, ?_, fun i hi => ?_, ?_, ?_, fun f hf => ?_⟩
  · rw [hg q (by omega) (by omega) (by omega) (by omega), hk 43 (by omega), a1]
  · rw [h1 c hc, h3 c hc, hg (q + 2) (by omega) (by omega) (by omega) (by omega), hk (15 + c) (by omega)]
    exact ⟨rfl, (a2 c hc).2.1, rfl⟩
  · rw [h4' 1 (by decide), hk 40 (by omega), a31]
  · rw [h4' 2 (by decide), hk 41 (by omega), a32]
  · rw [h4' 3 (by decide), hk 42 (by omega), a33]
  · rw [hg q (by omega) (by omega) (by omega) (by omega), hk 44 (by omega), a4]
  · rw [hg (q + 5) (by omega) (by omega) (by omega) (by omega), hg (q + 6) (by omega) (by omega) (by omega) (by omega), hg (q + 7) (by omega) (by omega) (by omega) (by omega), hk _ (by omega), hk _ (by omega), hk _ (by omega)]
    exact a5 i hi
  · rw [hg q (by omega) (by omega) (by omega) (by omega), hk 45 (by omega), a6]
  · rw [hg q (by omega) (by omega) (by omega) (by omega), hk 46 (by omega), a7]
  · obtain ⟨p, b1, b2, b3⟩ := a8 f hf
    have := b2.1
    exact ⟨p, by rw [hr, b1], b2.same (by rw [hr]), b3.frame (fun y y1 y2 => hg y (by omega) (by omega) (by omega) (by omega))⟩
theorem Wk_dk {k : Nat → Int32} {law : Option (List Cl)} {n c : Nat} (hc : c < 7) (p : Int32) : Wk (dk k law n c) c p = Wk k c p := by
  funext x
  unfold Wk
  rw [dk_hi (by omega), dk_hi (by omega), dk_hi (by omega), dk_hi (by omega), dk_hi (by omega)]
section
variable {N : Nat} {ln : Nat → Nat} {M : Nat} {q : Nat} {k : Nat → Int32} {Lw : Nat → List Cl} {n w L : Nat}
def DayF (q : Nat) (g g' : sw_g) : Prop := (∀ p, p ≠ q + 1 → p ≠ q + 4 → (p < 43 ∨ 45 < p) → g'.1 p = g.1 p) ∧ (∀ j, j ≠ 0 → g'.1 (q + 4) j = g.1 (q + 4) j) ∧ g'.2.2 = g.2.2

theorem passDay_14n (hN : 3000 ≤ N) (K : KI k Lw n w L) (hq : q ≤ 30) : ∀ (d c fu : Nat) (g : sw_g), c + d = 7 → d < fu → PQ ln M g q (dk k none n c) Lw L → ∃ g', fJu_passDay_14n N ln q fu g (nI (dyN k none n c)) (nI c) = some (nI (dyN k none n 7), g') ∧ PQ ln M g' q (dyK k none n) Lw L ∧ DayF q g g' := by
  intro d
  have hn7 := K.n7
  induction d with
  | zero =>
    intro c fu g hc hfu P
    obtain ⟨fu, rfl⟩ : ∃ z, fu = z + 1 := ⟨fu - 1, by omega⟩
    obtain rfl : c = 7 := by omega
    rw [fJu_passDay_14n, if_pos (by decide), rd_K 0 0 4 (by decide) (by decide), wr_K 0 0 4 (by decide) (by decide)]
    refine ⟨gI g (q + 4) 0 (g.1 (q + 4) 0 + 1), rfl, ?_, ⟨fun p a b _ => by funext j; rw [gI_at, if_neg (by omega)], fun j hj => by rw [gI_at, if_neg (by omega)], rfl⟩⟩
    have e14 : g.1 (q + 4) 0 = k 14 := by rw [P.2.2.1.1, dk_hi (by omega)]
    refine P.mv (fun c hc => ?_) (fun c hc => ?_) ?_ (fun j hj => by rw [gI_at, if_neg (by omega)]) (fun j hj => ?_) (fun p a b c _ => by funext j; rw [gI_at, if_neg (by omega)]) (by omega) rfl
    · rw [gI_at, if_neg (by omega), (P.2.1 c hc).1]; unfold dyK; rw [if_neg (by omega)]
    · rw [gI_at, if_neg (by omega), (P.2.1 c hc).2.2]; unfold dyK
      by_cases h14 : 7 + c = 14
      · omega
      · rw [if_neg h14]
    · rw [gI_at, if_pos ⟨rfl, rfl⟩, e14]; unfold dyK; rw [if_pos rfl]
    · unfold dyK; rw [if_neg (by omega)]
  | succ d ih =>
    intro c fu g hc hfu P
    obtain ⟨fu, rfl⟩ : ∃ z, fu = z + 1 := ⟨fu - 1, by omega⟩
    have hc7 : c < 7 := by omega
    have Kc : KI (dk k none n c) Lw n w L := K.mv (fun j hj => dk_hi (by omega)) (CO_dk K.co hn7)
    have e7 : dk k none n c (7 + c) = k (7 + c) := dk_hi (by omega)
    have ec : dk k none n c c = k c := dk_hi (by omega)
    rw [fJu_passDay_14n, if_neg (show ¬ (7 : Int32) ≤ nI c from nI_ge (b := 7) hc7 (by decide)), isOn_c P Kc hc7, e7, Option.bind_some]
    by_cases h : c < n ∧ k (7 + c) ≠ -1
    · simp only [h, if_true, show ¬ ((1 : Int32) = 0) by decide, if_false, and_self, ne_eq, not_false_eq_true]
      obtain ⟨⟨a, a1, a2, a3⟩, _⟩ := K.co.1 c h.1
      rw [rd_nI hc7 (by decide), (P.2.1 c hc7).2.2, e7]
      obtain ⟨g1, e1, f1, w1⟩ := ask_eq P hq hc7 (k (7 + c))
      rw [Wk_dk hc7] at w1
      have P1 := P.ga f1 (by omega) (by decide)
      obtain ⟨g3, e3, f3⟩ := lastTold_eq hN (show TO ln M g1 none none from trivial) w1 (v := 1) (by decide) (high := 9) (by decide) 0
      have P3 := P1.ga f3 (by omega) (by decide)
      rw [e1, Option.bind_some, rd_nI hc7 (by decide), (P1.2.1 c hc7).1, ec, show fJu_lastTold N ln g1 none (1 : Int32) 9 0 = _ from e3, Option.bind_some]
      simp only [nm]
      rw [show jmax 1 (k c - tlW (Wk k c (k (7 + c))) none 1 9 0) = dayH k none c from rfl, rd_nI hc7 (by decide), (P3.2.1 c hc7).1, ec]
      obtain ⟨b, b1, b2, b3⟩ := dayH_eq (law := none) a1 a2 a3
      have F3 : DayF q g g3 := ⟨fun p x y z => by rw [f3.1 p (by omega), f1.1 p (by omega)], fun j hj => by rw [f3.1 (q + 4) (by omega), f1.1 (q + 4) (by omega)], by rw [f3.2, f1.2]⟩
      by_cases hab : a = b
      · rw [if_pos (show k c ≤ dayH k none c by rw [a1, b3]; exact nI_le (by omega) (by omega)), nI_1]
        have hN' : dyN k none n (c + 1) = dyN k none n c := by
          show dyN k none n c + _ = _
          rw [if_neg (fun q => absurd q.2.2 (by rw [a1, b3]; exact nI_nlt (by omega) (by omega)))]; rfl
        have hK' : dk k none n (c + 1) = dk k none n c := by
          funext j; rw [dk_step]
          split
          · rename_i q; rw [q.1, ec, b3, a1, hab]
          · rfl
        rw [← hN']
        obtain ⟨g', q1, q2, q3⟩ := ih (c + 1) fu g3 (by omega) (by omega) (by rw [hK']; exact P3)
        exact ⟨g', q1, q2, ⟨fun p x y z => by rw [q3.1 p x y z, F3.1 p x y z], fun j hj => by rw [q3.2.1 j hj, F3.2.1 j hj], by rw [q3.2.2, F3.2.2]⟩⟩
      · rw [if_neg (show ¬ k c ≤ dayH k none c by rw [a1, b3]; exact nI_ge (by omega) (by omega)), wr_nI hc7 (by decide), nI_1, nI_1]
        have hN' : dyN k none n (c + 1) = dyN k none n c + 1 := by
          show dyN k none n c + _ = _
          rw [if_pos ⟨h.1, h.2, by rw [a1, b3]; exact nI_lt (by omega) (by omega)⟩]
        rw [← hN']
        have P4 : PQ ln M (gI g3 (q + 1) c (dayH k none c)) q (dk k none n (c + 1)) Lw L := by
          refine P3.mv (fun x hx => ?_) (fun x hx => ?_) ?_ (fun j hj => by rw [gI_at, if_neg (by omega)]) (fun j hj => by rw [dk_hi (by omega), dk_hi (by omega)]) (fun p a b c _ => by funext j; rw [gI_at, if_neg (by omega)]) (by omega) rfl
          · rw [gI_at, dk_step]
            by_cases hxc : x = c
            · rw [if_pos ⟨rfl, hxc⟩, if_pos ⟨hxc, h⟩]
            · rw [if_neg (fun q => hxc q.2), if_neg (fun q => hxc q.1), (P3.2.1 x hx).1]
          · rw [gI_at, if_neg (by omega), (P3.2.1 x hx).2.2, dk_hi (by omega), dk_hi (by omega)]
          · rw [gI_at, if_neg (by omega), P3.2.2.1.1, dk_hi (by omega), dk_hi (by omega)]
        obtain ⟨g', q1, q2, q3⟩ := ih (c + 1) fu (gI g3 (q + 1) c (dayH k none c)) (by omega) (by omega) P4
        refine ⟨g', q1, q2, ⟨fun p x y z => ?_, fun j hj => ?_, by rw [q3.2.2, ← F3.2.2]; rfl⟩⟩
        · rw [q3.1 p x y z, ← F3.1 p x y z]; funext j; rw [gI_at, if_neg (by omega)]
        · rw [q3.2.1 j hj, gI_at, if_neg (by omega), F3.2.1 j hj]
    · rw [if_neg h]
      simp only [if_true, nm, nI_1]
      have hN' : dyN k none n (c + 1) = dyN k none n c := by
        show dyN k none n c + _ = _
        rw [if_neg (fun q => h ⟨q.1, q.2.1⟩)]; rfl
      have hK' : dk k none n (c + 1) = dk k none n c := by
        funext j; rw [dk_step, if_neg (fun q => h q.2)]
      rw [← hN']
      exact ih (c + 1) fu g (by omega) (by omega) (by rw [hK']; exact P)

theorem passDay_14 (hN : 3000 ≤ N) (K : KI k Lw n w L) (hq : q ≤ 30) {p' : Nat} {cs : List Cl} : ∀ (d c fu : Nat) (g : sw_g), c + d = 7 → d < fu → PQ ln M g q (dk k (some cs) n c) Lw L → TO ln M g (some p') (some cs) → ∃ g', fJu_passDay_14 N ln q fu g p' (nI (dyN k (some cs) n c)) (nI c) = some (nI (dyN k (some cs) n 7), g') ∧ PQ ln M g' q (dyK k (some cs) n) Lw L ∧ DayF q g g' := by
  intro d
  have hn7 := K.n7
  induction d with
  | zero =>
    intro c fu g hc hfu P T
    obtain ⟨fu, rfl⟩ : ∃ z, fu = z + 1 := ⟨fu - 1, by omega⟩
    obtain rfl : c = 7 := by omega
    rw [fJu_passDay_14, if_pos (by decide), rd_K 0 0 4 (by decide) (by decide), wr_K 0 0 4 (by decide) (by decide)]
    refine ⟨gI g (q + 4) 0 (g.1 (q + 4) 0 + 1), rfl, ?_, ⟨fun p a b _ => by funext j; rw [gI_at, if_neg (by omega)], fun j hj => by rw [gI_at, if_neg (by omega)], rfl⟩⟩
    have e14 : g.1 (q + 4) 0 = k 14 := by rw [P.2.2.1.1, dk_hi (by omega)]
    refine P.mv (fun c hc => ?_) (fun c hc => ?_) ?_ (fun j hj => by rw [gI_at, if_neg (by omega)]) (fun j hj => ?_) (fun p a b c _ => by funext j; rw [gI_at, if_neg (by omega)]) (by omega) rfl
    · rw [gI_at, if_neg (by omega), (P.2.1 c hc).1]; unfold dyK; rw [if_neg (by omega)]
    · rw [gI_at, if_neg (by omega), (P.2.1 c hc).2.2]; unfold dyK
      by_cases h14 : 7 + c = 14
      · omega
      · rw [if_neg h14]
    · rw [gI_at, if_pos ⟨rfl, rfl⟩, e14]; unfold dyK; rw [if_pos rfl]
    · unfold dyK; rw [if_neg (by omega)]
  | succ d ih =>
    intro c fu g hc hfu P T
    obtain ⟨fu, rfl⟩ : ∃ z, fu = z + 1 := ⟨fu - 1, by omega⟩
    have hc7 : c < 7 := by omega
    have Kc : KI (dk k (some cs) n c) Lw n w L := K.mv (fun j hj => dk_hi (by omega)) (CO_dk K.co hn7)
    have e7 : dk k (some cs) n c (7 + c) = k (7 + c) := dk_hi (by omega)
    have ec : dk k (some cs) n c c = k c := dk_hi (by omega)
    rw [fJu_passDay_14, if_neg (show ¬ (7 : Int32) ≤ nI c from nI_ge (b := 7) hc7 (by decide)), isOn_c P Kc hc7, e7, Option.bind_some]
    by_cases h : c < n ∧ k (7 + c) ≠ -1
    · simp only [h, if_true, show ¬ ((1 : Int32) = 0) by decide, if_false, and_self, ne_eq, not_false_eq_true]
      obtain ⟨⟨a, a1, a2, a3⟩, _⟩ := K.co.1 c h.1
      rw [rd_nI hc7 (by decide), (P.2.1 c hc7).2.2, e7]
      obtain ⟨g1, e1, f1, w1⟩ := ask_eq P hq hc7 (k (7 + c))
      rw [Wk_dk hc7] at w1
      have P1 := P.ga f1 (by omega) (by decide)
      obtain ⟨g3, e3, f3⟩ := lastTold_eq hN (T.ga f1 (by decide)) w1 (v := 1) (by decide) (high := 9) (by decide) 0
      have P3 := P1.ga f3 (by omega) (by decide)
      rw [e1, Option.bind_some, rd_nI hc7 (by decide), (P1.2.1 c hc7).1, ec, show fJu_lastTold N ln g1 (some p') (1 : Int32) 9 0 = _ from e3, Option.bind_some]
      simp only [nm]
      rw [show jmax 1 (k c - tlW (Wk k c (k (7 + c))) (some cs) 1 9 0) = dayH k (some cs) c from rfl, rd_nI hc7 (by decide), (P3.2.1 c hc7).1, ec]
      obtain ⟨b, b1, b2, b3⟩ := dayH_eq (law := (some cs)) a1 a2 a3
      have F3 : DayF q g g3 := ⟨fun p x y z => by rw [f3.1 p (by omega), f1.1 p (by omega)], fun j hj => by rw [f3.1 (q + 4) (by omega), f1.1 (q + 4) (by omega)], by rw [f3.2, f1.2]⟩
      by_cases hab : a = b
      · rw [if_pos (show k c ≤ dayH k (some cs) c by rw [a1, b3]; exact nI_le (by omega) (by omega)), nI_1]
        have hN' : dyN k (some cs) n (c + 1) = dyN k (some cs) n c := by
          show dyN k (some cs) n c + _ = _
          rw [if_neg (fun q => absurd q.2.2 (by rw [a1, b3]; exact nI_nlt (by omega) (by omega)))]; rfl
        have hK' : dk k (some cs) n (c + 1) = dk k (some cs) n c := by
          funext j; rw [dk_step]
          split
          · rename_i q; rw [q.1, ec, b3, a1, hab]
          · rfl
        rw [← hN']
        obtain ⟨g', q1, q2, q3⟩ := ih (c + 1) fu g3 (by omega) (by omega) (by rw [hK']; exact P3) ((T.ga f1 (by decide)).ga f3 (by decide))
        exact ⟨g', q1, q2, ⟨fun p x y z => by rw [q3.1 p x y z, F3.1 p x y z], fun j hj => by rw [q3.2.1 j hj, F3.2.1 j hj], by rw [q3.2.2, F3.2.2]⟩⟩
      · rw [if_neg (show ¬ k c ≤ dayH k (some cs) c by rw [a1, b3]; exact nI_ge (by omega) (by omega)), wr_nI hc7 (by decide), nI_1, nI_1]
        have hN' : dyN k (some cs) n (c + 1) = dyN k (some cs) n c + 1 := by
          show dyN k (some cs) n c + _ = _
          rw [if_pos ⟨h.1, h.2, by rw [a1, b3]; exact nI_lt (by omega) (by omega)⟩]
        rw [← hN']
        have P4 : PQ ln M (gI g3 (q + 1) c (dayH k (some cs) c)) q (dk k (some cs) n (c + 1)) Lw L := by
          refine P3.mv (fun x hx => ?_) (fun x hx => ?_) ?_ (fun j hj => by rw [gI_at, if_neg (by omega)]) (fun j hj => by rw [dk_hi (by omega), dk_hi (by omega)]) (fun p a b c _ => by funext j; rw [gI_at, if_neg (by omega)]) (by omega) rfl
          · rw [gI_at, dk_step]
            by_cases hxc : x = c
            · rw [if_pos ⟨rfl, hxc⟩, if_pos ⟨hxc, h⟩]
            · rw [if_neg (fun q => hxc q.2), if_neg (fun q => hxc q.1), (P3.2.1 x hx).1]
          · rw [gI_at, if_neg (by omega), (P3.2.1 x hx).2.2, dk_hi (by omega), dk_hi (by omega)]
          · rw [gI_at, if_neg (by omega), P3.2.2.1.1, dk_hi (by omega), dk_hi (by omega)]
        obtain ⟨g', q1, q2, q3⟩ := ih (c + 1) fu (gI g3 (q + 1) c (dayH k (some cs) c)) (by omega) (by omega) P4 (TO.ga (lo := q + 1) (hi := q + 1) ((T.ga f1 (by decide)).ga f3 (by decide)) (GA.put (by omega) (by omega)) (by omega))
        refine ⟨g', q1, q2, ⟨fun p x y z => ?_, fun j hj => ?_, by rw [q3.2.2, ← F3.2.2]; rfl⟩⟩
        · rw [q3.1 p x y z, ← F3.1 p x y z]; funext j; rw [gI_at, if_neg (by omega)]
        · rw [q3.2.1 j hj, gI_at, if_neg (by omega), F3.2.1 j hj]
    · rw [if_neg h]
      simp only [if_true, nm, nI_1]
      have hN' : dyN k (some cs) n (c + 1) = dyN k (some cs) n c := by
        show dyN k (some cs) n c + _ = _
        rw [if_neg (fun q => h ⟨q.1, q.2.1⟩)]; rfl
      have hK' : dk k (some cs) n (c + 1) = dk k (some cs) n c := by
        funext j; rw [dk_step, if_neg (fun q => h q.2)]
      rw [← hN']
      exact ih (c + 1) fu g (by omega) (by omega) (by rw [hK']; exact P) T

theorem passDay_eq (hN : 3000 ≤ N) {g : sw_g} (P : PQ ln M g q k Lw L) (K : KI k Lw n w L) (hq : q ≤ 30) : ∃ g', fJu_passDay N ln g q = some (nI (dyN k (lawAt Lw (k 46)) n 7), g') ∧ PQ ln M g' q (dyK k (lawAt Lw (k 46)) n) Lw L ∧ DayF q g g' := by
  obtain ⟨t, e2, T⟩ := textOf_eq P K.hL K.L6 (a := k 46) K.fo
  have h0 : ∀ law, dk k law n 0 = k := fun law => by funext j; exact dk_hi (Nat.zero_le _)
  rw [fJu_passDay, show g.1 q 11 = k 46 from P.2.2.2.2.2.2.1, e2, Option.bind_some]
  cases t with
  | none =>
    cases hl : lawAt Lw (k 46) with
    | none => exact passDay_14n hN K hq 7 0 N g rfl (by omega) (by rw [h0]; exact P)
    | some cs => rw [hl] at T; exact T.elim
  | some p =>
    cases hl : lawAt Lw (k 46) with
    | none => rw [hl] at T; exact T.elim
    | some cs => rw [hl] at T; exact passDay_14 hN K hq 7 0 N g rfl (by omega) (by rw [h0]; exact P) T
end
