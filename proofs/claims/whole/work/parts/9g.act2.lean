/-! ===== orders: the put; all acts ===== -/
section
variable {N : Nat} {ln : Nat → Nat} {M : Nat} {g : sw_g} {μ : sw_m} {Lw : Nat → List Cl} {n w L : Nat}
theorem act_put (hN : 3000 ≤ N) (h : Co ln M g μ Lw n w L) {a b : Int32} : AC ln M Lw n w L g μ ((fSx_puts N ln g a b).bind fun ⟨v28, g27⟩ => fSx_runsOnce_185 N ln 35 g27 0 v28) ((fMo_putsKept N μ a b).bind fun ⟨v19, μ18⟩ => (if 0 ≤ v19 then nm (mI μ18 84 28 v19) fun μ20 => some (v19, μ20) else nm (mI μ18 84 28 (μ18.1 84 28)) fun μ21 => some (v19, μ21))) := by
  rcases puts_sim hN h a b with ⟨x, g1, μ1, hx, e1, e2, f1, f2⟩ | ⟨g1, μ1, e1, e2, c1, c2, c3⟩
  · rw [e1, e2, Option.bind_some, Option.bind_some]
    simp only []
    rw [r185_n (neg_cases hx), if_neg (neg_cases hx), nm]
    refine .inl ⟨x, g1, _, neg_cases hx, rfl, rfl, f1, ?_⟩
    have := f2.MH
    refine ⟨fun j hj => by rw [mI_at, if_neg (by omega)]; exact this.1 j hj, fun p j a b c d e => ?_⟩
    rw [mI_at, if_neg (fun q => (e q.1).2.2 q.2)]
    exact this.2 p j a b c d e
  · have hp := tilt_pos c1.1
    rw [e1, e2, Option.bind_some, Option.bind_some]
    simp only []
    rw [if_pos hp, nm, fSx_runsOnce_185, if_pos (by decide), rd_K 1 1 19 (by decide) (by decide), wr_K 1 1 19 (by decide) (by decide), if_pos rfl]
    have cd := c1.done (v := g1.1 48 1 + 1)
    obtain ⟨g2, y1, y2⟩ := xtilt_eq hN cd.2.1 cd.1
    rw [y1, Option.bind_some]
    simp only []
    rw [wr_K 2 2 19 (by decide) (by decide)]
    have e48 : g1.1 48 = g.1 48 := c2.1 48 (by decide) (by decide) (by decide) (by decide) (by decide) (by decide)
    have P2 := cd.2.1.ga y2 (by decide) (by decide)
    have k1 : (mI μ1 84 28 (jabs (tiltM μ1 Lw n))).1 86 = μ1.1 86 := funext fun j => by rw [mI_at, if_neg (by omega)]
    refine .inr ⟨_, _, _, hp, rfl, rfl, ⟨by rw [k1]; exact c1.1, ?_, ?_⟩, ⟨fun p a b c d e f x => ?_, ?_⟩, ⟨fun j hj => by rw [k1]; exact c3.1 j hj, fun p j a b c d e => ?_⟩, ?_, fun _ => ?_⟩
    · rw [k1]
      exact P2.ga (GA.put (lo := 48) (hi := 48) (Nat.le_refl _) (Nat.le_refl _)) (by decide) (by decide)
    · refine cd.2.2.frame (funext fun j => ?_) (funext fun j => ?_) (by rw [mI_at, if_neg (by omega)]) (funext fun j => by rw [mI_at, if_neg (by omega)])
      · rw [gI_at, if_neg (by omega), y2.1 29 (by decide)]
      · rw [gI_at, if_neg (by omega), y2.1 30 (by decide)]
    · funext j
      rw [gI_at, if_neg (fun q => x q.1), y2.1 p f, gI_at, if_neg (fun q => x q.1), c2.1 p a b c d e f]
    · show g2.2.2 = g.2.2
      rw [y2.2]; exact c2.2
    · rw [mI_at, if_neg (fun q => (e q.1).2.2 q.2)]
      exact c3.2 p j a b c d (fun q => ⟨(e q).1, (e q).2.1⟩)
    · rw [gI_at, if_neg (by omega), y2.1 48 (by decide), gI_at, if_pos ⟨rfl, rfl⟩, e48]
    · rw [gI_at, if_pos ⟨rfl, rfl⟩, mI_at, if_pos ⟨rfl, rfl⟩]; rfl
/-- the act of a clause -/
theorem act_all (hN : 3000 ≤ N) (h : Co ln M g μ Lw n w L) {v : Nat} (hv : v ≤ 3) {x1 : Int32} (h46 : μ.1 84 46 = nI (ocd v)) (r1 : v ≠ 3 → (μ.2 108 0).toInt32.toInt64 = μ.2 108 0 ∧ x1 = (μ.2 108 0).toInt32) (r2 : v = 0 ∨ v = 2 → (μ.2 108 1).toInt32.toInt64 = μ.2 108 1 ∧ g.1 46 0 = (μ.2 108 1).toInt32) : AC ln M Lw n w L g μ (fSx_runsOnce_124 N ln 35 g (nI v) x1) (fMo_obeys N μ) := by
  have K := h.1
  have P := h.2.1
  rw [fSx_runsOnce_124, nm, fMo_obeys, rd_K 0 0 2 (by decide) (by decide)]
  rcases (show v = 0 ∨ v = 1 ∨ v = 2 ∨ v = 3 by omega) with rfl | rfl | rfl | rfl
  · obtain ⟨q1, q2⟩ := r1 (by decide)
    obtain ⟨q3, q4⟩ := r2 (.inl rfl)
    obtain ⟨a', s1, s2⟩ := small_eq q1
    obtain ⟨b', s3, s4⟩ := small_eq q3
    rw [s1, Option.bind_some, nm, h46, if_pos (show nI 0 = 0 from rfl), if_neg (by decide), if_neg (by decide), if_neg (by decide), if_neg (by decide), fMo_obeys_70, rd_K 1 1 2 (by decide) (by decide), s3, Option.bind_some, q2, q4, puts_x K P s2 s4]
    exact act_put hN h
  · obtain ⟨q1, q2⟩ := r1 (by decide)
    obtain ⟨a', s1, s2⟩ := small_eq q1
    rw [s1, Option.bind_some, nm, h46, if_neg (by decide), if_pos (show nI 1 = 1 from rfl), if_pos (show nI (ocd 1) = 22 from rfl), q2, takes_x K P s2]
    refine act_o (show ¬ nI 1 = 0 by decide) ?_
    rcases takes_sim hN h a' with q | ⟨g', μ', e1, e2, c1, c2, c3⟩
    · exact .inl q
    · exact .inr ⟨0, _, g', μ', by decide, tilt_pos c1.1, e1, e2, c1, c2, c3⟩
  · obtain ⟨q1, q2⟩ := r1 (by decide)
    obtain ⟨q3, q4⟩ := r2 (.inr rfl)
    obtain ⟨a', s1, s2⟩ := small_eq q1
    obtain ⟨b', s3, s4⟩ := small_eq q3
    rw [s1, Option.bind_some, nm, h46, if_neg (by decide), if_neg (by decide), if_pos (show nI 2 = 2 from rfl), if_neg (by decide), if_pos (show nI (ocd 2) = 23 from rfl), rd_K 1 1 2 (by decide) (by decide), s3, Option.bind_some, q2, q4, pads_x K P s2 s4]
    refine act_o (show ¬ nI 2 = 0 by decide) ?_
    rcases pads_sim hN h a' b' with q | ⟨s, g', μ', e0, e1, e2, c1, c2, c3⟩
    · exact .inl q
    · exact .inr ⟨s, s, g', μ', e0, e0, e1, e2, c1, c2, c3⟩
  · obtain ⟨a', s1⟩ := small_tot (μ.2 108 0)
    rw [s1, Option.bind_some, nm, h46, if_neg (by decide), if_neg (by decide), if_neg (by decide), if_neg (by decide), if_neg (by decide), if_neg (by decide), if_pos (show nI (ocd 3) = 25 from rfl)]
    refine act_o (show ¬ nI 3 = 0 by decide) ?_
    rcases passes_sim hN h with q | ⟨s, g', μ', e0, e1, e2, c1, c2, c3⟩
    · exact .inl q
    · exact .inr ⟨s, s, g', μ', e0, e0, e1, e2, c1, c2, c3⟩
end
