/-! ===== ROWS of the class alone: rows of references, copies, the static row, texts, Math ===== -/
def jmax (x y : Int32) : Int32 := if x < y then y else x
def jmin (x y : Int32) : Int32 := if y < x then y else x
def jabs (x : Int32) : Int32 := if 0 ≤ x then x else 0 - x
/-- a row of whole numbers laid anew -/
def gW (g : sw_g) (q : Nat) (f : Nat → Int32) : sw_g := (fun x => if x = q then f else g.1 x, g.2)
def cp {β : Type} (n0 n1 : Nat) (sp dp n : Int32) (f : Nat → Nat → Nat → sw_g) (k : sw_g → Option β) : Option β := if sp < 0 ∨ dp < 0 ∨ n < 0 ∨ n0 < sp.toNatClampNeg + n.toNatClampNeg ∨ n1 < dp.toNatClampNeg + n.toNatClampNeg then none else k (f sp.toNatClampNeg dp.toNatClampNeg n.toNatClampNeg)
theorem ob_cp {β : Type} {n0 n1 : Nat} {sp dp n : Int32} {f : Nat → Nat → Nat → sw_g} {k : sw_g → Option β} {res : β} (h : cp n0 n1 sp dp n f k = some res) : (¬ sp < 0 ∧ ¬ dp < 0 ∧ ¬ n < 0 ∧ sp.toNatClampNeg + n.toNatClampNeg ≤ n0 ∧ dp.toNatClampNeg + n.toNatClampNeg ≤ n1) ∧ k (f sp.toNatClampNeg dp.toNatClampNeg n.toNatClampNeg) = some res := by
  unfold cp at h
  split at h
  · cases h
  · rename_i hn
    simp only [not_or, Nat.not_lt] at hn
    exact ⟨hn, h⟩
theorem is_r52 {ξ : sw_x} {R : Nat → Nat → Option Nat} (hf : sw_wf ξ R) {j : Nat} (h : j < 7) : sw_is ξ (52 + 1 + j) 10 7 := by
  have h1 := wf_is hf (52 + 1 + j) (by omega)
  rcases (show j = 0 ∨ j = 1 ∨ j = 2 ∨ j = 3 ∨ j = 4 ∨ j = 5 ∨ j = 6 by omega) with rfl | rfl | rfl | rfl | rfl | rfl | rfl <;> exact h1
theorem is_r60 {ξ : sw_x} {R : Nat → Nat → Option Nat} (hf : sw_wf ξ R) {j : Nat} (h : j < 7) : sw_is ξ (60 + 1 + j) 10 7 := by
  have h1 := wf_is hf (60 + 1 + j) (by omega)
  rcases (show j = 0 ∨ j = 1 ∨ j = 2 ∨ j = 3 ∨ j = 4 ∨ j = 5 ∨ j = 6 by omega) with rfl | rfl | rfl | rfl | rfl | rfl | rfl <;> exact h1
theorem is_r68 {ξ : sw_x} {R : Nat → Nat → Option Nat} (hf : sw_wf ξ R) {j : Nat} (h : j < 7) : sw_is ξ (68 + 1 + j) 10 7 := by
  have h1 := wf_is hf (68 + 1 + j) (by omega)
  rcases (show j = 0 ∨ j = 1 ∨ j = 2 ∨ j = 3 ∨ j = 4 ∨ j = 5 ∨ j = 6 by omega) with rfl | rfl | rfl | rfl | rfl | rfl | rfl <;> exact h1
theorem is_r76 {ξ : sw_x} {R : Nat → Nat → Option Nat} (hf : sw_wf ξ R) {j : Nat} (h : j < 4) : sw_is ξ (76 + 1 + j) 10 1784 := by
  have h1 := wf_is hf (76 + 1 + j) (by omega)
  rcases (show j = 0 ∨ j = 1 ∨ j = 2 ∨ j = 3 by omega) with rfl | rfl | rfl | rfl <;> exact h1
theorem wf_gR {ξ : sw_x} {g : sw_g} {q j t : Nat} (hf : sw_wf ξ g.2.2) (h : (sw_ik ξ q 12 ∧ sw_ik ξ t 7) ∨ (sw_ik ξ q 13 ∧ sw_ik ξ t 3)) : sw_wf ξ (gR g q j (some t)).2.2 := by
  refine ⟨hf.1, hf.2.1, hf.2.2.1, hf.2.2.2.1, fun x k z hx hz => ?_, fun x k z hx hz => ?_⟩
  · by_cases e : x = q ∧ k = j
    · obtain ⟨rfl, rfl⟩ := e
      have hz : some t = some z := by simpa [gR, sw_u] using hz
      cases hz
      rcases h with h | h
      · exact h.2
      · exact absurd (hx.2.symm.trans h.1.2) (by decide)
    · exact hf.2.2.2.2.1 x k z hx (by simpa [gR, sw_u, e] using hz)
  · by_cases e : x = q ∧ k = j
    · obtain ⟨rfl, rfl⟩ := e
      have hz : some t = some z := by simpa [gR, sw_u] using hz
      cases hz
      rcases h with h | h
      · exact absurd (hx.2.symm.trans h.1.2) (by decide)
      · exact h.2
    · exact hf.2.2.2.2.2 x k z hx (by simpa [gR, sw_u, e] using hz)
theorem wf_gN {ξ : sw_x} {g : sw_g} {q j : Nat} (hf : sw_wf ξ g.2.2) : sw_wf ξ (gR g q j none).2.2 := by
  refine ⟨hf.1, hf.2.1, hf.2.2.1, hf.2.2.2.1, fun x k z hx hz => ?_, fun x k z hx hz => ?_⟩
  · by_cases e : x = q ∧ k = j
    · exact absurd hz (by simp [gR, sw_u, e])
    · exact hf.2.2.2.2.1 x k z hx (by simpa [gR, sw_u, e] using hz)
  · by_cases e : x = q ∧ k = j
    · exact absurd hz (by simp [gR, sw_u, e])
    · exact hf.2.2.2.2.2 x k z hx (by simpa [gR, sw_u, e] using hz)
section SWX
variable {p : Program} {l : Launch} {e : Env} {R : Room} {s : State} {m : MethodId} {args : Array Value} {below : List Frame} {meth : Method} {c : Code} {H : Heap} {locs : List Loc} {cells slots : Nat} {Q : State → Prop}
variable {cc : ByteArray} {pc nL index : Nat} {ls : Array Slot} {rest : List Value} {Γ : sw_C} {A : Nat → Prop} {ξ : sw_x} {g : sw_g} {μ : sw_m} {w0 : Cond} {own : String} {q n : Nat} {ρ : Type} {res : ρ}
theorem E_gW {f : Nat → Int32} {x : Nat} (h : x ≠ q) : sw_E Γ ξ (gW g q f) μ x = sw_E Γ ξ g μ x := by show sw_cell Γ ξ (if x = q then f else g.1 x) _ _ _ _ x = _; rw [if_neg h]; rfl
theorem sw_qret {t : Option Nat} {mc ms : Nat} {Λ : Prop} {rt : String} (S : CallFix p m c cc nL s args (w0 :: sw_tb) own) (hr : meth.sig.returnType = some (.object rt)) (hlk : meth.locks = false) (hw : sw_S Γ A ξ g μ s H locs) (hΛ : Λ) (hdg : decode cc pc = .ok (.areturn, 1)) : W p l e R s m args below meth c H locs mc ms (MQ below (sw_Qq Γ A ξ g μ (Option.map ξ.2.2.2.1 t) Λ) args s mc ms A) (F0 m pc ls [va_rf (Option.map ξ.2.2.2.1 t)]) :=
  W.aret S.1 S.2.1 hr (Or.inl ⟨_, rfl⟩) (by cases t with | none => exact Or.inl rfl | some a => exact Or.inr ⟨_, rfl⟩) (fun t' ht hW => ⟨⟨_, (), rfl, rfl, ⟨sw_end hw ht hW, hΛ⟩⟩, hw.2.2.2.1.F ht⟩) hw.2.2.2.1.2.2 hdg
theorem map_up {f : Nat → Option Nat} {a : Nat → Nat} {j t : Nat} : (fun k => Option.map a (if k = j then some t else f k)) = va_up (fun k => Option.map a (f k)) j (some (a t)) := by
  funext k
  by_cases h : k = j <;> simp [va_up, h]
theorem map_upN {f : Nat → Option Nat} {a : Nat → Nat} {j : Nat} : (fun k => Option.map a (if k = j then none else f k)) = va_up (fun k => Option.map a (f k)) j none := by
  funext k
  by_cases h : k = j <;> simp [va_up, h]
theorem sx_tast {t : Nat} (S : CallFix p m c cc nL s args (w0 :: sw_tb) own) (hw : sw_S Γ A ξ g μ s H locs) (hf : sw_wf ξ g.2.2) (hi : sw_is ξ q 12 n) (ht : sw_ik ξ t 7) {i : Int32} {k : sw_g → Option ρ} (hm : wr n i (fun j => gR g q j (some t)) k = some res) (hdg : decode cc pc = .ok (.aastore, 1))
    (kk : ∀ (g' : sw_g) (H1 : Heap) (locs1 : List Loc), sw_wf ξ g'.2.2 → k g' = some res → sw_S Γ A ξ g' μ s H1 locs1 → W p l e R s m args below meth c H1 locs1 cells slots Q (F0 m (pc + 1) ls rest)) : W p l e R s m args below meth c H locs cells slots Q (F0 m pc ls (.ref (ξ.2.2.2.1 t) :: .int i :: .ref (ξ.2.2.2.1 q) :: rest)) := by
  obtain ⟨h1, h2⟩ := ob_wr hm
  exact va_astq S.1 S.2.1 hw.2.1 hw.1 hw.2.2.1 hw.2.2.2.1 q 4 t 6 (sw_at hw hi.1 (e_12 hi)) (r := (R_Te, F_Te, 8)) rfl (sw_at hw ht.1 (e_Te ht)) rfl h1 hdg (fun H1 locs1 a1 a2 a3 => kk (gR g q i.toNatClampNeg (some t)) H1 locs1 (wf_gR hf (Or.inl ⟨⟨hi.1, hi.2.1⟩, ht⟩)) h2 (sw_put hw hi.1 (by rw [e_12 hi]; show Sum.inl (_, _, Sum.inr (Sum.inr (Sum.inr (Sum.inr (fun k => Option.map _ (sw_u g.2.2 q _ _ q k)))))) = _; rw [sw_u_at, map_up]) (fun x hx => E_gR hx) a1 a2 a3))
theorem sx_tastN (S : CallFix p m c cc nL s args (w0 :: sw_tb) own) (hw : sw_S Γ A ξ g μ s H locs) (hf : sw_wf ξ g.2.2) (hi : sw_is ξ q 12 n) {i : Int32} {k : sw_g → Option ρ} (hm : wr n i (fun j => gR g q j none) k = some res) (hdg : decode cc pc = .ok (.aastore, 1))
    (kk : ∀ (g' : sw_g) (H1 : Heap) (locs1 : List Loc), sw_wf ξ g'.2.2 → k g' = some res → sw_S Γ A ξ g' μ s H1 locs1 → W p l e R s m args below meth c H1 locs1 cells slots Q (F0 m (pc + 1) ls rest)) : W p l e R s m args below meth c H locs cells slots Q (F0 m pc ls (.null :: .int i :: .ref (ξ.2.2.2.1 q) :: rest)) := by
  obtain ⟨h1, h2⟩ := ob_wr hm
  exact va_astqN S.1 S.2.1 hw.2.1 hw.1 hw.2.2.1 hw.2.2.2.1 q 4 (sw_at hw hi.1 (e_12 hi)) rfl h1 hdg (fun H1 locs1 a1 a2 a3 => kk (gR g q i.toNatClampNeg none) H1 locs1 (wf_gN hf) h2 (sw_put hw hi.1 (by rw [e_12 hi]; show Sum.inl (_, _, Sum.inr (Sum.inr (Sum.inr (Sum.inr (fun k => Option.map _ (sw_u g.2.2 q _ _ q k)))))) = _; rw [sw_u_at, map_upN]) (fun x hx => E_gR hx) a1 a2 a3))
theorem sx_past {t : Nat} (S : CallFix p m c cc nL s args (w0 :: sw_tb) own) (hw : sw_S Γ A ξ g μ s H locs) (hf : sw_wf ξ g.2.2) (hi : sw_is ξ q 13 n) (ht : sw_ik ξ t 3) {i : Int32} {k : sw_g → Option ρ} (hm : wr n i (fun j => gR g q j (some t)) k = some res) (hdg : decode cc pc = .ok (.aastore, 1))
    (kk : ∀ (g' : sw_g) (H1 : Heap) (locs1 : List Loc), sw_wf ξ g'.2.2 → k g' = some res → sw_S Γ A ξ g' μ s H1 locs1 → W p l e R s m args below meth c H1 locs1 cells slots Q (F0 m (pc + 1) ls rest)) : W p l e R s m args below meth c H locs cells slots Q (F0 m pc ls (.ref (ξ.2.2.2.1 t) :: .int i :: .ref (ξ.2.2.2.1 q) :: rest)) := by
  obtain ⟨h1, h2⟩ := ob_wr hm
  exact va_astq S.1 S.2.1 hw.2.1 hw.1 hw.2.2.1 hw.2.2.2.1 q 5 t 2 (sw_at hw hi.1 (e_13 hi)) (r := (R_Pl, F_Pl, 12)) rfl (sw_at hw ht.1 (e_Pl ht)) rfl h1 hdg (fun H1 locs1 a1 a2 a3 => kk (gR g q i.toNatClampNeg (some t)) H1 locs1 (wf_gR hf (Or.inr ⟨⟨hi.1, hi.2.1⟩, ht⟩)) h2 (sw_put hw hi.1 (by rw [e_13 hi]; show Sum.inl (_, _, Sum.inr (Sum.inr (Sum.inr (Sum.inr (fun k => Option.map _ (sw_u g.2.2 q _ _ q k)))))) = _; rw [sw_u_at, map_up]) (fun x hx => E_gR hx) a1 a2 a3))
theorem wa_link {own : String} {i : Nat} : True := trivial
theorem wN_copy : Cond.native arraycopyName ∈ sw_tb := tb_mem 665 (by decide +kernel) (by decide +kernel)
theorem wS_copy : Cond.static arraycopyName ∈ sw_tb := tb_mem 664 (by decide +kernel) (by decide +kernel)
theorem wI_sys : Cond.initialized "java/lang/System" ∈ sw_tb := tb_mem 15 (by decide +kernel) (by decide +kernel)
theorem sx_copy {q0 q1 n0 n1 : Nat} (S : CallFix p m c cc nL s args (w0 :: sw_tb) own) (hw : sw_S Γ A ξ g μ s H locs) (hf : sw_wf ξ g.2.2) (hz : ls.size = nL) (hl : Cond.methodLink own index arraycopyName ∈ sw_tb) (h0 : sw_is ξ q0 10 n0) (h1 : sw_is ξ q1 10 n1) {sp dp k : Int32} {kt : sw_g → Option ρ} (hm : cp n0 n1 sp dp k (fun a b c => gW g q1 (va_cpy (g.1 q0) (g.1 q1) a b c)) kt = some res) (hfr : 1 ≤ R.frames) (hlo : (rest.map fun v => v.category).sum + (nativeFrameWords "java/lang/System" "arraycopy" 5 + 11) ≤ R.locals) (hdg : decode cc pc = .ok (.invokestatic index, 3))
    (kk : ∀ (g' : sw_g) (H1 : Heap) (locs1 : List Loc), sw_wf ξ g'.2.2 → kt g' = some res → sw_S Γ A ξ g' μ s H1 locs1 → W p l e R s m args below meth c H1 locs1 cells slots Q (F0 m (pc + 3) ls rest)) : W p l e R s m args below meth c H locs cells slots Q (F0 m pc ls (.int k :: .int dp :: .ref (ξ.2.2.2.1 q1) :: .int sp :: .ref (ξ.2.2.2.1 q0) :: rest)) := by
  obtain ⟨⟨b1, b2, b3, b4, b5⟩, h2⟩ := ob_cp hm
  exact va_copyi S.1 S.2.1 (S.2.2.1.trans hz.symm) S.2.2.2.1 (sw_word S hl) (sw_word S wN_copy) (sw_word S wS_copy) (sw_word S wI_sys) hw.2.1 hw.1 hw.2.2.1 hw.2.2.2.1 q0 q1 0 0 (sw_at hw h0.1 (e_10 h0)) (sw_at hw h1.1 (e_10 h1)) rfl rfl rfl b1 b2 b3 b4 b5 (fun _ _ => rfl) hfr hlo hdg
    (fun H1 locs1 a1 a2 a3 => kk (gW g q1 _) H1 locs1 hf h2 (sw_put hw h1.1 (by rw [e_10 h1]; show Sum.inl (_, _, Sum.inl (if q1 = q1 then _ else _)) = _; rw [if_pos rfl]) (fun x hx => E_gW hx) a1 a2 a3))
theorem sw_tald (S : CallFix p m c cc nL s args (w0 :: sw_tb) own) (hw : sw_S Γ A ξ g μ s H locs) {i : Int32} {k : Int32 → Option ρ} (hm : rd 4 i (fun j => ([999, 10, 9, 9] : List Int32).getD j 0) k = some res) (hdg : decode cc pc = .ok (.iaload, 1))
    (kk : ∀ v, k v = some res → W p l e R s m args below meth c H locs cells slots Q (F0 m (pc + 1) ls (.int v :: rest))) : W p l e R s m args below meth c H locs cells slots Q (F0 m pc ls (.int i :: .ref Γ.2.2.2.2 :: rest)) := by
  obtain ⟨h1, h2⟩ := ob_rd hm
  exact va_ti S.1 S.2.1 hw.2.2.2.2.2.2.2.2.2.2.1 hw.2.2.2.1 h1 rfl hdg (kk _ h2)
theorem wI_math : Cond.initialized "java/lang/Math" ∈ sw_tb := tb_mem 6 (by decide +kernel) (by decide +kernel)
theorem wS_max : Cond.static Lib.Math.max.name ∈ sw_tb := tb_mem 122 (by decide +kernel) (by decide +kernel)
theorem wS_min : Cond.static Lib.Math.min.name ∈ sw_tb := tb_mem 378 (by decide +kernel) (by decide +kernel)
theorem wS_abs : Cond.static Lib.Math.abs.name ∈ sw_tb := tb_mem 429 (by decide +kernel) (by decide +kernel)
theorem wC_max : Cond.code Lib.Math.max.name Lib.Math.max.code 2 (some .int) ∈ sw_tb := tb_mem 123 (by decide +kernel) (by decide +kernel)
theorem wC_min : Cond.code Lib.Math.min.name Lib.Math.min.code 2 (some .int) ∈ sw_tb := tb_mem 379 (by decide +kernel) (by decide +kernel)
theorem wC_abs : Cond.code Lib.Math.abs.name Lib.Math.abs.code 1 (some .int) ∈ sw_tb := tb_mem 430 (by decide +kernel) (by decide +kernel)
theorem sw_max (S : CallFix p m c cc nL s args (w0 :: sw_tb) own) (hz : ls.size = nL) (hl : Cond.methodLink own index Lib.Math.max.name ∈ sw_tb) (hfr : 1 ≤ R.frames) (hlo : (rest.map fun v => v.category).sum + 13 ≤ R.locals) (hc : cells ≤ R.cells) (hs : slots ≤ R.slots) {x y : Int32} (hdg : decode cc pc = .ok (.invokestatic index, 3)) (kk : W p l e R s m args below meth c H locs cells slots Q (F0 m (pc + 3) ls (.int (jmax x y) :: rest))) : W p l e R s m args below meth c H locs cells slots Q (F0 m pc ls (.int y :: .int x :: rest)) :=
  va_mmax S.1 S.2.1 (S.2.2.1.trans hz.symm) S.2.2.2.1 (sw_word S hl) (sw_word S wS_max) (sw_word S wI_math) (sw_word S wC_max) hfr hlo hc hs hdg kk
theorem sw_min (S : CallFix p m c cc nL s args (w0 :: sw_tb) own) (hz : ls.size = nL) (hl : Cond.methodLink own index Lib.Math.min.name ∈ sw_tb) (hfr : 1 ≤ R.frames) (hlo : (rest.map fun v => v.category).sum + 13 ≤ R.locals) (hc : cells ≤ R.cells) (hs : slots ≤ R.slots) {x y : Int32} (hdg : decode cc pc = .ok (.invokestatic index, 3)) (kk : W p l e R s m args below meth c H locs cells slots Q (F0 m (pc + 3) ls (.int (jmin x y) :: rest))) : W p l e R s m args below meth c H locs cells slots Q (F0 m pc ls (.int y :: .int x :: rest)) :=
  va_mmin S.1 S.2.1 (S.2.2.1.trans hz.symm) S.2.2.2.1 (sw_word S hl) (sw_word S wS_min) (sw_word S wI_math) (sw_word S wC_min) hfr hlo hc hs hdg kk
theorem sw_abs (S : CallFix p m c cc nL s args (w0 :: sw_tb) own) (hz : ls.size = nL) (hl : Cond.methodLink own index Lib.Math.abs.name ∈ sw_tb) (hfr : 1 ≤ R.frames) (hlo : (rest.map fun v => v.category).sum + 13 ≤ R.locals) (hc : cells ≤ R.cells) (hs : slots ≤ R.slots) {x : Int32} (hdg : decode cc pc = .ok (.invokestatic index, 3)) (kk : W p l e R s m args below meth c H locs cells slots Q (F0 m (pc + 3) ls (.int (jabs x) :: rest))) : W p l e R s m args below meth c H locs cells slots Q (F0 m pc ls (.int x :: rest)) :=
  va_mabs S.1 S.2.1 (S.2.2.1.trans hz.symm) S.2.2.2.1 (sw_word S hl) (sw_word S wS_abs) (sw_word S wI_math) (sw_word S wC_abs) hfr hlo hc hs hdg kk
end SWX
