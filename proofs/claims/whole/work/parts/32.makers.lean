/-! ===== the four methods that make cells ===== -/
/-- lengths behind a new text -/
def lT (ξ : sw_x) (n : Nat) : Nat → Nat := fun q => if q < ξ.1 then ξ.2.2.1 q else if q = ξ.1 + 6 then n else 12
def lP (ξ : sw_x) : Nat → Nat := fun q => if q < ξ.1 then ξ.2.2.1 q else xPl (q - ξ.1)
def lF (ξ : sw_x) (n : Nat) : Nat → Nat := fun q => if q < ξ.1 then ξ.2.2.1 q else n
abbrev sw_QT (Γ : sw_C) (A : Nat → Prop) (ξ : sw_x) (n : Nat) (g : sw_g) (μ : sw_m) : Array Value → State → Outcome → State → Prop := va_Qq (fun r (w : Nat × (Nat → Nat)) => r = some w.1) (fun w t => sw_W Γ A (xT ξ w.1 w.2 n) g μ t ∧ sw_wf (xT ξ w.1 w.2 n) g.2.2) A
theorem wl_Te_10 : Cond.classLink R_Te 10 R_Te ∈ sw_tb := tb_mem 661 (by decide +kernel) (by decide +kernel)
theorem wn_Te : Cond.instantiable R_Te 8 ∈ sw_tb := tb_mem 116 (by decide +kernel) (by decide +kernel)
theorem wi_Te : Cond.initialized R_Te ∈ sw_tb := tb_mem 5 (by decide +kernel) (by decide +kernel)
theorem wv_Te : Cond.instanceMethod yTe_init ∈ sw_tb := tb_mem 118 (by decide +kernel) (by decide +kernel)
theorem wm_Te_40 : Cond.methodLink R_Te 40 yTe_init ∈ sw_tb := tb_mem 662 (by decide +kernel) (by decide +kernel)
set_option maxHeartbeats 4000000 in
set_option maxRecDepth 100000 in
theorem cTe_copy (l : Launch) (N : Nat) {Γ : sw_C} {A : Nat → Prop} {ξ : sw_x} {g : sw_g} {μ : sw_m} (hf : sw_wf ξ g.2.2) (hd : sw_dyn ξ) (q0 : Nat) (h0 : sw_ik ξ q0 7) {n : Nat} (hn0 : ¬ jmax (0 : Int32) (g.1 q0 6) < 0) (hn1 : (jmax (0 : Int32) (g.1 q0 6)).toNatClampNeg = n) (hn2 : n ≤ 1000) {res : sw_g} (hm : fTe_copy_t_12t N (lT ξ n) q0 ξ.1 (gZ g ξ.1) = some (some ξ.1, res)) : Met l yTe_copy (Cond.code yTe_copy prog_8_method_2_code 2 (some (.object "SeeSaws$Text")) :: sw_tb) (rmTe_copy n) (va_Pc [.ref (ξ.2.2.2.1 q0)] (sw_V Γ A ξ g μ)) (sw_QT Γ A ξ n res μ) 7 (68 + n) A := by
  refine Met.ofW (cc := prog_8_method_2_code) (maxL := 2) (ret := some (.object "SeeSaws$Text")) (by decide) rfl ?_
  intro p e s m args below meth c s₁ B hml hv
  obtain ⟨rfl, hv⟩ := hv
  have S : CallFix p m c prog_8_method_2_code 2 s _ (Cond.code yTe_copy prog_8_method_2_code 2 (some (.object "SeeSaws$Text")) :: sw_tb) R_Te := ⟨B.exec, B.bytes, hml, findClass_of_methodNamed B.named, atoms_spec (ws := Cond.code yTe_copy prog_8_method_2_code 2 (some (.object "SeeSaws$Text")) :: sw_tb) B.pre⟩
  have hr := B.returns
  have hlk := B.notSynchronized
  have hw0 := sw_begin hv
  have hl := lv_entry [.ref (ξ.2.2.2.1 q0)] (n := 2) (Nat.le_of_ble_eq_true rfl)
  rw [lg_entry_eq]
  generalize (lg_sl [.ref (ξ.2.2.2.1 q0)] ++ List.replicate (2 - (lg_sl [.ref (ξ.2.2.2.1 q0)]).length) Slot.unset).toArray = ls at hl ⊢
  have hl : lv_has ls 2 [(0, .ref (ξ.2.2.2.1 q0))] := hl
  have hw := sk_of hw0
  refine sk_new (ci := 6) (fs := [.int 0, .null, .null, .null, .null, .null, .int 0, .null]) S hw i_Te t_Te t_Te_ok wl_Te_10 wn_Te wi_Te rfl df_Te (Nat.le_of_ble_eq_true rfl) (by show 0 + 8 ≤ 68 + n; omega) dTe_copy_0 (fun h H hw => ?_)
  refine lv_dup S.1 S.2.1 dTe_copy_3 rfl ?_
  refine lv_aload_n S.1 S.2.1 dTe_copy_4 rfl (lv_at hl 0 rfl) ?_
  refine sk_getW (v := .int (g.1 q0 6)) S hw i_Te (by rw [wl_get h0.1, e_Te h0]) rfl 6 (by decide) wf_Te_36 rfl rfl dTe_copy_5 ?_
  refine sk_ctor (x0 := []) (rest := [.ref h]) S sk_Tg hw (cTe_init l sk_Tg (a1 := g.1 q0 6) (n := n) hn0 hn1 hn2) y_Te wm_Te_40 wv_Te rfl rfl rfl hl.1 (Nat.le_of_ble_eq_true rfl) ⟨rfl, rfl, Nat.le_of_ble_eq_true rfl, Nat.le_of_ble_eq_true rfl⟩ ⟨Nat.le_of_ble_eq_true rfl, by show 0 + 8 + (60 + n) ≤ 68 + n; omega⟩ dTe_copy_8 (fun u H locs _ hw => ?_)
  have hw1 : sw_S Γ A (xT ξ h u n) (gZ g ξ.1) μ s H locs := sw_of hw hw0.2.2.2.2.2 (wl_xT hf hd)
  have eh : (xT ξ h u n).2.2.2.1 ξ.1 = h := (xT_tag (k := 0) (by omega)).2
  have eq : (xT ξ h u n).2.2.2.1 q0 = ξ.2.2.2.1 q0 := (le_xT.2 q0 h0.1).2.2.1
  refine lv_astore_n (lv' := [(1, .ref h), (0, .ref (ξ.2.2.2.1 q0))]) S.1 S.2.1 dTe_copy_11 rfl hl (by decide) rfl (fun ls hl => ?_)
  refine W.cs (cells' := 7) (slots' := 68 + n) rfl (by omega) ?_
  refine W.mono (MQ.mono (Qa := sw_Qq Γ A (xT ξ h u n) res μ (Option.map (xT ξ h u n).2.2.2.1 (some ξ.1)) (sw_wf (xT ξ h u n) res.2.2 ∧ ∀ q, some ξ.1 = some q → sw_ik (xT ξ h u n) q 7)) (fun o t hq => ?_)) (wTe_copy_12t (n := n) (res := (some ξ.1, res)) S hr hlk q0 ξ.1 (le_xT.ik h0) ⟨(xT_tag (k := 0) (by omega)).1.1, (xT_tag (k := 0) (by omega)).1.2.1⟩ N (gZ g ξ.1) H locs ls hm hw1 (wf_xT hf) (by rw [eh, eq]; exact lv_sub hl [1, 0] rfl))
  obtain ⟨⟨r, _, a1, a2, a3⟩, a4⟩ := hq
  exact ⟨⟨r, (h, u), a1, a2.trans (congrArg some eh), a3.1, a3.2.1⟩, a4⟩
