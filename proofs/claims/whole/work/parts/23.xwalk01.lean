set_option maxHeartbeats 4000000 in
set_option maxRecDepth 100000 in
theorem cSx_end (l : Launch) {Γ : sw_C} {A : Nat → Prop} {ξ : sw_x} {g : sw_g} {μ : sw_m} (hf : sw_wf ξ g.2.2) (a1 : Int32) {res : Int32 × sw_g} (hm : fSx_end ξ.2.2.1 g a1 = some res) : Met l ySx_end (Cond.code ySx_end prog_1_method_8_code 2 (some .int) :: sw_tb) rmSx_end (va_Pc [.ref (ξ.2.2.2.1 0), .int a1] (sw_V Γ A ξ g μ)) (sw_Qi Γ A ξ res.2 μ res.1 (sw_wf ξ res.2.2.2)) 0 0 A := by
  refine Met.ofW (cc := prog_1_method_8_code) (maxL := 2) (ret := some .int) (by decide) rfl ?_
  intro p e s m args below meth c s₁ B hml hv
  obtain ⟨rfl, hv⟩ := hv
  have S : CallFix p m c prog_1_method_8_code 2 s _ (Cond.code ySx_end prog_1_method_8_code 2 (some .int) :: sw_tb) R_Sx := ⟨B.exec, B.bytes, hml, findClass_of_methodNamed B.named, atoms_spec (ws := (Cond.code ySx_end prog_1_method_8_code 2 (some .int) :: sw_tb)) B.pre⟩
  have hr := B.returns
  have hlk := B.notSynchronized
  have hw := sw_begin hv
  have hl := lv_entry [.ref (ξ.2.2.2.1 0), .int a1] (n := 2) (Nat.le_of_ble_eq_true rfl)
  rw [lg_entry_eq]
  generalize (lg_sl [.ref (ξ.2.2.2.1 0), .int a1] ++ List.replicate (2 - (lg_sl [.ref (ξ.2.2.2.1 0), .int a1]).length) Slot.unset).toArray = ls at hl ⊢
  have hl : lv_has ls 2 [(0, .ref (ξ.2.2.2.1 0)), (1, .int a1)] := hl
  unfold fSx_end at hm
  refine lv_iload_n S.1 S.2.1 dSx_end_0 rfl (lv_at hl 1 rfl) ?_
  refine bif_lt (tgt := 15) S.1 S.2.1 hm dSx_end_1 (by decide) (fun hm => ?_) (fun hm => ?_)
  · refine lv_iconst (v := (-1 : Int32)) S.1 S.2.1 dSx_end_15 (by decide) ?_
    obtain rfl := Option.some.inj hm
    exact sw_iret S hr hlk hw hf dSx_end_16
  · refine lv_iload_n S.1 S.2.1 dSx_end_4 rfl (lv_at hl 1 rfl) ?_
    refine lv_aload_n S.1 S.2.1 dSx_end_5 rfl (lv_at hl 0 rfl) ?_
    refine get_Sx (v := .ref (ξ.2.2.2.1 33)) S hw (is_0 hf) 6 (by decide) rfl wf_Sx_39 dSx_end_6 ?_
    refine get_Re (v := .int (g.1 33 0)) S hw (is_33 hf) 0 (by decide) rfl wf_Sx_156 dSx_end_9 ?_
    refine bicmp_le (tgt := 17) S.1 S.2.1 hm dSx_end_12 (by decide) (fun hm => ?_) (fun hm => ?_)
    · refine lv_aload_n S.1 S.2.1 dSx_end_17 rfl (lv_at hl 0 rfl) ?_
      refine get_Sx (v := .ref (ξ.2.2.2.1 33)) S hw (is_0 hf) 6 (by decide) rfl wf_Sx_39 dSx_end_18 ?_
      refine lv_iload_n S.1 S.2.1 dSx_end_21 rfl (lv_at hl 1 rfl) ?_
      refine put_Re S hw hf (is_33 hf) 0 (by decide) ps_Re_0 rfl rfl rfl wf_Sx_156 hm dSx_end_22 (fun g1 H locs hf hm hw => ?_)
      refine lv_iload_n S.1 S.2.1 dSx_end_25 rfl (lv_at hl 1 rfl) ?_
      obtain rfl := Option.some.inj hm
      exact sw_iret S hr hlk hw hf dSx_end_26
    · refine lv_iconst (v := (-1 : Int32)) S.1 S.2.1 dSx_end_15 (by decide) ?_
      obtain rfl := Option.some.inj hm
      exact sw_iret S hr hlk hw hf dSx_end_16
set_option maxHeartbeats 4000000 in
set_option maxRecDepth 100000 in
theorem cSx_sawdust (l : Launch) {Γ : sw_C} {A : Nat → Prop} {ξ : sw_x} {g : sw_g} {μ : sw_m} (hf : sw_wf ξ g.2.2) {res : Int32 × sw_g} (hm : fSx_sawdust ξ.2.2.1 g = some res) : Met l ySx_sawdust (Cond.code ySx_sawdust prog_1_method_10_code 1 (some .int) :: sw_tb) rmSx_sawdust (va_Pc [.ref (ξ.2.2.2.1 0)] (sw_V Γ A ξ g μ)) (sw_Qi Γ A ξ res.2 μ res.1 (sw_wf ξ res.2.2.2)) 0 0 A := by
  refine Met.ofW (cc := prog_1_method_10_code) (maxL := 1) (ret := some .int) (by decide) rfl ?_
  intro p e s m args below meth c s₁ B hml hv
  obtain ⟨rfl, hv⟩ := hv
  have S : CallFix p m c prog_1_method_10_code 1 s _ (Cond.code ySx_sawdust prog_1_method_10_code 1 (some .int) :: sw_tb) R_Sx := ⟨B.exec, B.bytes, hml, findClass_of_methodNamed B.named, atoms_spec (ws := (Cond.code ySx_sawdust prog_1_method_10_code 1 (some .int) :: sw_tb)) B.pre⟩
  have hr := B.returns
  have hlk := B.notSynchronized
  have hw := sw_begin hv
  have hl := lv_entry [.ref (ξ.2.2.2.1 0)] (n := 1) (Nat.le_of_ble_eq_true rfl)
  rw [lg_entry_eq]
  generalize (lg_sl [.ref (ξ.2.2.2.1 0)] ++ List.replicate (1 - (lg_sl [.ref (ξ.2.2.2.1 0)]).length) Slot.unset).toArray = ls at hl ⊢
  have hl : lv_has ls 1 [(0, .ref (ξ.2.2.2.1 0))] := hl
  unfold fSx_sawdust at hm
  refine lv_aload_n S.1 S.2.1 dSx_sawdust_0 rfl (lv_at hl 0 rfl) ?_
  refine get_Sx (v := .int (g.1 0 15)) S hw (is_0 hf) 15 (by decide) rfl wf_Sx_163 dSx_sawdust_1 ?_
  obtain rfl := Option.some.inj hm
  exact sw_iret S hr hlk hw hf dSx_sawdust_4
set_option maxHeartbeats 4000000 in
set_option maxRecDepth 100000 in
theorem cSx_fault (l : Launch) {Γ : sw_C} {A : Nat → Prop} {ξ : sw_x} {g : sw_g} {μ : sw_m} (hf : sw_wf ξ g.2.2) {res : Int32 × sw_g} (hm : fSx_fault ξ.2.2.1 g = some res) : Met l ySx_fault (Cond.code ySx_fault prog_1_method_13_code 1 (some .int) :: sw_tb) rmSx_fault (va_Pc [.ref (ξ.2.2.2.1 0)] (sw_V Γ A ξ g μ)) (sw_Qi Γ A ξ res.2 μ res.1 (sw_wf ξ res.2.2.2)) 0 0 A := by
  refine Met.ofW (cc := prog_1_method_13_code) (maxL := 1) (ret := some .int) (by decide) rfl ?_
  intro p e s m args below meth c s₁ B hml hv
  obtain ⟨rfl, hv⟩ := hv
  have S : CallFix p m c prog_1_method_13_code 1 s _ (Cond.code ySx_fault prog_1_method_13_code 1 (some .int) :: sw_tb) R_Sx := ⟨B.exec, B.bytes, hml, findClass_of_methodNamed B.named, atoms_spec (ws := (Cond.code ySx_fault prog_1_method_13_code 1 (some .int) :: sw_tb)) B.pre⟩
  have hr := B.returns
  have hlk := B.notSynchronized
  have hw := sw_begin hv
  have hl := lv_entry [.ref (ξ.2.2.2.1 0)] (n := 1) (Nat.le_of_ble_eq_true rfl)
  rw [lg_entry_eq]
  generalize (lg_sl [.ref (ξ.2.2.2.1 0)] ++ List.replicate (1 - (lg_sl [.ref (ξ.2.2.2.1 0)]).length) Slot.unset).toArray = ls at hl ⊢
  have hl : lv_has ls 1 [(0, .ref (ξ.2.2.2.1 0))] := hl
  unfold fSx_fault at hm
  refine lv_aload_n S.1 S.2.1 dSx_fault_0 rfl (lv_at hl 0 rfl) ?_
  refine get_Sx (v := .ref (ξ.2.2.2.1 33)) S hw (is_0 hf) 6 (by decide) rfl wf_Sx_39 dSx_fault_1 ?_
  refine get_Re (v := .int (g.1 33 2)) S hw (is_33 hf) 2 (by decide) rfl wf_Sx_207 dSx_fault_4 ?_
  obtain rfl := Option.some.inj hm
  exact sw_iret S hr hlk hw hf dSx_fault_7
set_option maxHeartbeats 4000000 in
set_option maxRecDepth 100000 in
theorem cSx_stopped (l : Launch) {Γ : sw_C} {A : Nat → Prop} {ξ : sw_x} {g : sw_g} {μ : sw_m} (hf : sw_wf ξ g.2.2) {res : Int32 × sw_g} (hm : fSx_stopped ξ.2.2.1 g = some res) : Met l ySx_stopped (Cond.code ySx_stopped prog_1_method_14_code 1 (some .int) :: sw_tb) rmSx_stopped (va_Pc [.ref (ξ.2.2.2.1 0)] (sw_V Γ A ξ g μ)) (sw_Qi Γ A ξ res.2 μ res.1 (sw_wf ξ res.2.2.2)) 0 0 A := by
  refine Met.ofW (cc := prog_1_method_14_code) (maxL := 1) (ret := some .int) (by decide) rfl ?_
  intro p e s m args below meth c s₁ B hml hv
  obtain ⟨rfl, hv⟩ := hv
  have S : CallFix p m c prog_1_method_14_code 1 s _ (Cond.code ySx_stopped prog_1_method_14_code 1 (some .int) :: sw_tb) R_Sx := ⟨B.exec, B.bytes, hml, findClass_of_methodNamed B.named, atoms_spec (ws := (Cond.code ySx_stopped prog_1_method_14_code 1 (some .int) :: sw_tb)) B.pre⟩
  have hr := B.returns
  have hlk := B.notSynchronized
  have hw := sw_begin hv
  have hl := lv_entry [.ref (ξ.2.2.2.1 0)] (n := 1) (Nat.le_of_ble_eq_true rfl)
  rw [lg_entry_eq]
  generalize (lg_sl [.ref (ξ.2.2.2.1 0)] ++ List.replicate (1 - (lg_sl [.ref (ξ.2.2.2.1 0)]).length) Slot.unset).toArray = ls at hl ⊢
  have hl : lv_has ls 1 [(0, .ref (ξ.2.2.2.1 0))] := hl
  unfold fSx_stopped at hm
  refine lv_aload_n S.1 S.2.1 dSx_stopped_0 rfl (lv_at hl 0 rfl) ?_
  refine get_Sx (v := .int (g.1 0 16)) S hw (is_0 hf) 16 (by decide) rfl wf_Sx_77 dSx_stopped_1 ?_
  obtain rfl := Option.some.inj hm
  exact sw_iret S hr hlk hw hf dSx_stopped_4
set_option maxHeartbeats 4000000 in
set_option maxRecDepth 100000 in
theorem cSx_forget (l : Launch) {Γ : sw_C} {A : Nat → Prop} {ξ : sw_x} {g : sw_g} {μ : sw_m} (hf : sw_wf ξ g.2.2) {res : Int32 × sw_g} (hm : fSx_forget ξ.2.2.1 g = some res) : Met l ySx_forget (Cond.code ySx_forget prog_1_method_30_code 2 (some .int) :: sw_tb) rmSx_forget (va_Pc [.ref (ξ.2.2.2.1 0)] (sw_V Γ A ξ g μ)) (sw_Qi Γ A ξ res.2 μ res.1 (sw_wf ξ res.2.2.2)) 0 0 A := by
  refine Met.ofW (cc := prog_1_method_30_code) (maxL := 2) (ret := some .int) (by decide) rfl ?_
  intro p e s m args below meth c s₁ B hml hv
  obtain ⟨rfl, hv⟩ := hv
  have S : CallFix p m c prog_1_method_30_code 2 s _ (Cond.code ySx_forget prog_1_method_30_code 2 (some .int) :: sw_tb) R_Sx := ⟨B.exec, B.bytes, hml, findClass_of_methodNamed B.named, atoms_spec (ws := (Cond.code ySx_forget prog_1_method_30_code 2 (some .int) :: sw_tb)) B.pre⟩
  have hr := B.returns
  have hlk := B.notSynchronized
  have hw := sw_begin hv
  have hl := lv_entry [.ref (ξ.2.2.2.1 0)] (n := 2) (Nat.le_of_ble_eq_true rfl)
  rw [lg_entry_eq]
  generalize (lg_sl [.ref (ξ.2.2.2.1 0)] ++ List.replicate (2 - (lg_sl [.ref (ξ.2.2.2.1 0)]).length) Slot.unset).toArray = ls at hl ⊢
  have hl : lv_has ls 2 [(0, .ref (ξ.2.2.2.1 0))] := hl
  unfold fSx_forget at hm
  refine lv_aload_n S.1 S.2.1 dSx_forget_0 rfl (lv_at hl 0 rfl) ?_
  refine get_Sx (v := .ref (ξ.2.2.2.1 1)) S hw (is_0 hf) 0 (by decide) rfl wf_Sx_12 dSx_forget_1 ?_
  refine get_Pl (v := .int (g.1 1 5)) S hw (is_1 hf) 5 (by decide) rfl wf_Sx_289 dSx_forget_4 ?_
  refine nm_i hm (fun x1 hm => ?_)
  refine lv_istore_n (lv' := [(1, .int x1), (0, .ref (ξ.2.2.2.1 0))]) S.1 S.2.1 dSx_forget_7 rfl hl (by decide) rfl (fun ls hl => ?_)
  refine lv_aload_n S.1 S.2.1 dSx_forget_8 rfl (lv_at hl 1 rfl) ?_
  refine get_Sx (v := .ref (ξ.2.2.2.1 1)) S hw (is_0 hf) 0 (by decide) rfl wf_Sx_12 dSx_forget_9 ?_
  refine lv_iconst (v := (0 : Int32)) S.1 S.2.1 dSx_forget_12 (by decide) ?_
  refine put_Pl S hw hf (is_1 hf) 5 (by decide) ps_Pl_5 rfl rfl rfl wf_Sx_289 hm dSx_forget_13 (fun g2 H locs hf hm hw => ?_)
  refine lv_iload_n S.1 S.2.1 dSx_forget_16 rfl (lv_at hl 0 rfl) ?_
  obtain rfl := Option.some.inj hm
  exact sw_iret S hr hlk hw hf dSx_forget_17
set_option maxHeartbeats 4000000 in
set_option maxRecDepth 100000 in
theorem cSx_drawn (l : Launch) {Γ : sw_C} {A : Nat → Prop} {ξ : sw_x} {g : sw_g} {μ : sw_m} (hf : sw_wf ξ g.2.2) (a1 : Int32) (a2 : Int32) {res : Int32 × sw_g} (hm : fSx_drawn ξ.2.2.1 g a1 a2 = some res) : Met l ySx_drawn (Cond.code ySx_drawn prog_1_method_36_code 3 (some .int) :: sw_tb) rmSx_drawn (va_Pc [.ref (ξ.2.2.2.1 0), .int a1, .int a2] (sw_V Γ A ξ g μ)) (sw_Qi Γ A ξ res.2 μ res.1 (sw_wf ξ res.2.2.2)) 0 0 A := by
  refine Met.ofW (cc := prog_1_method_36_code) (maxL := 3) (ret := some .int) (by decide) rfl ?_
  intro p e s m args below meth c s₁ B hml hv
  obtain ⟨rfl, hv⟩ := hv
  have S : CallFix p m c prog_1_method_36_code 3 s _ (Cond.code ySx_drawn prog_1_method_36_code 3 (some .int) :: sw_tb) R_Sx := ⟨B.exec, B.bytes, hml, findClass_of_methodNamed B.named, atoms_spec (ws := (Cond.code ySx_drawn prog_1_method_36_code 3 (some .int) :: sw_tb)) B.pre⟩
  have hr := B.returns
  have hlk := B.notSynchronized
  have hw := sw_begin hv
  have hl := lv_entry [.ref (ξ.2.2.2.1 0), .int a1, .int a2] (n := 3) (Nat.le_of_ble_eq_true rfl)
  rw [lg_entry_eq]
  generalize (lg_sl [.ref (ξ.2.2.2.1 0), .int a1, .int a2] ++ List.replicate (3 - (lg_sl [.ref (ξ.2.2.2.1 0), .int a1, .int a2]).length) Slot.unset).toArray = ls at hl ⊢
  have hl : lv_has ls 3 [(0, .ref (ξ.2.2.2.1 0)), (1, .int a1), (2, .int a2)] := hl
  unfold fSx_drawn at hm
  refine lv_aload_n S.1 S.2.1 dSx_drawn_0 rfl (lv_at hl 0 rfl) ?_
  refine get_Sx (v := .ref (ξ.2.2.2.1 19)) S hw (is_0 hf) 2 (by decide) rfl wf_Sx_19 dSx_drawn_1 ?_
  refine lv_iload_n S.1 S.2.1 dSx_drawn_4 rfl (lv_at hl 1 rfl) ?_
  obtain ⟨⟨v3, g2⟩, h1, hm⟩ := ob hm
  refine sw_Vi (q := 19) (rest := []) S hw (cPl_hasClaim l  hf 19 (is_19 hf) a1 h1) kPl_hasClaim wm_Sx_102 (is_19 hf).1 (e_Pl (is_19 hf)) rfl rfl rfl rfl hl.1 (Nat.le_of_ble_eq_true rfl) ⟨rfl, rfl, Nat.le_of_ble_eq_true rfl, Nat.le_of_ble_eq_true rfl⟩ ⟨Nat.le_of_ble_eq_true rfl, Nat.le_of_ble_eq_true rfl⟩ dSx_drawn_5 (fun H locs hw hf => ?_)
  refine bif_ne (tgt := 13) S.1 S.2.1 hm dSx_drawn_8 (by decide) (fun hm => ?_) (fun hm => ?_)
  · refine lv_iload_n S.1 S.2.1 dSx_drawn_13 rfl (lv_at hl 2 rfl) ?_
    by_cases c0 : a2 = (0 : Int32)
    · have hm := sw_it c0 hm
      refine lv_lookup (off := 26) (tgt := 40) S.1 S.2.1 dSx_drawn_14 (by decide) (by rw [c0]; decide) (by decide) ?_
      refine lv_aload_n S.1 S.2.1 dSx_drawn_40 rfl (lv_at hl 0 rfl) ?_
      refine get_Sx (v := .ref (ξ.2.2.2.1 19)) S hw (is_0 hf) 2 (by decide) rfl wf_Sx_19 dSx_drawn_41 ?_
      refine get_Pl (v := .ref (ξ.2.2.2.1 20)) S hw (is_19 hf) 1 (by decide) rfl wf_Sx_109 dSx_drawn_44 ?_
      refine lv_iload_n S.1 S.2.1 dSx_drawn_47 rfl (lv_at hl 1 rfl) ?_
      refine sx_iald S hw (is_20 hf) hm dSx_drawn_48 (fun v4 hm => ?_)
      obtain rfl := Option.some.inj hm
      exact sw_iret S hr hlk hw hf dSx_drawn_49
    · have hm := sw_if c0 hm
      by_cases c1 : a2 = (1 : Int32)
      · have hm := sw_it c1 hm
        refine lv_lookup (off := 36) (tgt := 50) S.1 S.2.1 dSx_drawn_14 (by decide) (by rw [c1]; decide) (by decide) ?_
        refine lv_aload_n S.1 S.2.1 dSx_drawn_50 rfl (lv_at hl 0 rfl) ?_
        refine get_Sx (v := .ref (ξ.2.2.2.1 19)) S hw (is_0 hf) 2 (by decide) rfl wf_Sx_19 dSx_drawn_51 ?_
        refine get_Pl (v := .ref (ξ.2.2.2.1 22)) S hw (is_19 hf) 3 (by decide) rfl wf_Sx_106 dSx_drawn_54 ?_
        refine lv_iload_n S.1 S.2.1 dSx_drawn_57 rfl (lv_at hl 1 rfl) ?_
        refine sx_iald S hw (is_22 hf) hm dSx_drawn_58 (fun v5 hm => ?_)
        obtain rfl := Option.some.inj hm
        exact sw_iret S hr hlk hw hf dSx_drawn_59
      · have hm := sw_if c1 hm
        refine lv_lookup (off := 46) (tgt := 60) S.1 S.2.1 dSx_drawn_14 (by decide) ((lv_osw c0 rfl).trans ((lv_osw c1 rfl).trans rfl)) (by decide) ?_
        refine lv_iconst (v := (-1 : Int32)) S.1 S.2.1 dSx_drawn_60 (by decide) ?_
        obtain rfl := Option.some.inj hm
        exact sw_iret S hr hlk hw hf dSx_drawn_61
  · refine lv_iconst (v := (-1 : Int32)) S.1 S.2.1 dSx_drawn_11 (by decide) ?_
    obtain rfl := Option.some.inj hm
    exact sw_iret S hr hlk hw hf dSx_drawn_12
set_option maxHeartbeats 4000000 in
set_option maxRecDepth 100000 in
theorem wSx_count_47 {l : Launch} {p : Program} {e : Env} {s : State} {m : MethodId} {args : Array Value} {below : List Frame} {meth : Method} {c : Code} {Γ : sw_C} {A : Nat → Prop} {ξ : sw_x} {μ : sw_m} {res : Int32 × sw_g} (S : CallFix p m c prog_1_method_39_code 2 s args (Cond.code ySx_count prog_1_method_39_code 2 (some .int) :: sw_tb) R_Sx) (hr : meth.sig.returnType = some .int) (hlk : meth.locks = false) (N : Nat) : ∀ (g : sw_g) (u1 : Int32) (H : Heap) (locs : List Loc) (ls : Array Slot), fSx_count_47 N ξ.2.2.1  g u1 = some res → sw_S Γ A ξ g μ s H locs → sw_wf ξ g.2.2 → lv_has ls 2 [(0, .ref (ξ.2.2.2.1 0)), (1, .int u1)] → W p l e (headSpec (Cond.code ySx_count prog_1_method_39_code 2 (some .int) :: sw_tb) rmSx_count).room s m args below meth c H locs 0 0 (MQ below (sw_Qi Γ A ξ res.2 μ res.1 (sw_wf ξ res.2.2.2)) args s 0 0 A) (F0 m 47 ls []) := by
  intro g u1 H locs ls hm hw hf hl
  unfold fSx_count_47 at hm
  refine lv_iload_n S.1 S.2.1 dSx_count_47 rfl (lv_at hl 1 rfl) ?_
  by_cases c0 : u1 = (0 : Int32)
  · have hm := sw_it c0 hm
    refine lv_tableIn (off := 68) (tgt := 116) S.1 S.2.1 dSx_count_48 (by rw [c0]; decide) (by rw [c0]; decide) (by rw [c0]; decide) (by decide) ?_
    refine lv_aload_n S.1 S.2.1 dSx_count_116 rfl (lv_at hl 0 rfl) ?_
    refine get_Sx (v := .ref (ξ.2.2.2.1 1)) S hw (is_0 hf) 0 (by decide) rfl wf_Sx_12 dSx_count_117 ?_
    refine get_Pl (v := .int (g.1 1 0)) S hw (is_1 hf) 0 (by decide) rfl wf_Sx_89 dSx_count_120 ?_
    obtain rfl := Option.some.inj hm
    exact sw_iret S hr hlk hw hf dSx_count_123
  · have hm := sw_if c0 hm
    by_cases c1 : u1 = (1 : Int32)
    · have hm := sw_it c1 hm
      refine lv_tableIn (off := 76) (tgt := 124) S.1 S.2.1 dSx_count_48 (by rw [c1]; decide) (by rw [c1]; decide) (by rw [c1]; decide) (by decide) ?_
      refine lv_aload_n S.1 S.2.1 dSx_count_124 rfl (lv_at hl 0 rfl) ?_
      refine get_Sx (v := .ref (ξ.2.2.2.1 1)) S hw (is_0 hf) 0 (by decide) rfl wf_Sx_12 dSx_count_125 ?_
      obtain ⟨⟨v3, g2⟩, h1, hm⟩ := ob hm
      refine sw_Vi (q := 1) (rest := []) S hw (cPl_onBits l N hf 1 (is_1 hf) h1) kPl_onBits wm_Sx_263 (is_1 hf).1 (e_Pl (is_1 hf)) rfl rfl rfl rfl hl.1 (Nat.le_of_ble_eq_true rfl) ⟨rfl, rfl, Nat.le_of_ble_eq_true rfl, Nat.le_of_ble_eq_true rfl⟩ ⟨Nat.le_of_ble_eq_true rfl, Nat.le_of_ble_eq_true rfl⟩ dSx_count_128 (fun H locs hw hf => ?_)
      obtain ⟨v5, h4, hm⟩ := ob hm
      refine sw_Si (rest := []) S hw (cIn_bitCount l  hf v3 h4) kIn_bitCount wm_Sx_272 rfl rfl hl.1 (Nat.le_of_ble_eq_true rfl) ⟨rfl, rfl, Nat.le_of_ble_eq_true rfl, Nat.le_of_ble_eq_true rfl⟩ ⟨Nat.le_of_ble_eq_true rfl, Nat.le_of_ble_eq_true rfl⟩ dSx_count_131 (fun H locs hw _ => ?_)
      obtain rfl := Option.some.inj hm
      exact sw_iret S hr hlk hw hf dSx_count_134
    · have hm := sw_if c1 hm
      by_cases c2 : u1 = (2 : Int32)
      · have hm := sw_it c2 hm
        refine lv_tableIn (off := 87) (tgt := 135) S.1 S.2.1 dSx_count_48 (by rw [c2]; decide) (by rw [c2]; decide) (by rw [c2]; decide) (by decide) ?_
        refine lv_aload_n S.1 S.2.1 dSx_count_135 rfl (lv_at hl 0 rfl) ?_
        refine get_Sx (v := .ref (ξ.2.2.2.1 1)) S hw (is_0 hf) 0 (by decide) rfl wf_Sx_12 dSx_count_136 ?_
        obtain ⟨⟨v8, g7⟩, h6, hm⟩ := ob hm
        refine sw_Vi (q := 1) (rest := []) S hw (cPl_heavyOfAll l N hf 1 (is_1 hf) h6) kPl_heavyOfAll wm_Sx_330 (is_1 hf).1 (e_Pl (is_1 hf)) rfl rfl rfl rfl hl.1 (Nat.le_of_ble_eq_true rfl) ⟨rfl, rfl, Nat.le_of_ble_eq_true rfl, Nat.le_of_ble_eq_true rfl⟩ ⟨Nat.le_of_ble_eq_true rfl, Nat.le_of_ble_eq_true rfl⟩ dSx_count_139 (fun H locs hw hf => ?_)
        obtain rfl := Option.some.inj hm
        exact sw_iret S hr hlk hw hf dSx_count_142
      · have hm := sw_if c2 hm
        by_cases c3 : u1 = (3 : Int32)
        · have hm := sw_it c3 hm
          refine lv_tableIn (off := 95) (tgt := 143) S.1 S.2.1 dSx_count_48 (by rw [c3]; decide) (by rw [c3]; decide) (by rw [c3]; decide) (by decide) ?_
          refine lv_aload_n S.1 S.2.1 dSx_count_143 rfl (lv_at hl 0 rfl) ?_
          refine get_Sx (v := .ref (ξ.2.2.2.1 1)) S hw (is_0 hf) 0 (by decide) rfl wf_Sx_12 dSx_count_144 ?_
          refine get_Pl (v := .int (g.1 1 5)) S hw (is_1 hf) 5 (by decide) rfl wf_Sx_289 dSx_count_147 ?_
          obtain rfl := Option.some.inj hm
          exact sw_iret S hr hlk hw hf dSx_count_150
        · have hm := sw_if c3 hm
          by_cases c4 : u1 = (4 : Int32)
          · have hm := sw_it c4 hm
            refine lv_tableIn (off := 103) (tgt := 151) S.1 S.2.1 dSx_count_48 (by rw [c4]; decide) (by rw [c4]; decide) (by rw [c4]; decide) (by decide) ?_
            refine lv_aload_n S.1 S.2.1 dSx_count_151 rfl (lv_at hl 0 rfl) ?_
            refine get_Sx (v := .ref (ξ.2.2.2.1 1)) S hw (is_0 hf) 0 (by decide) rfl wf_Sx_12 dSx_count_152 ?_
            refine get_Pl (v := .int (g.1 1 9)) S hw (is_1 hf) 9 (by decide) rfl wf_Sx_169 dSx_count_155 ?_
            obtain rfl := Option.some.inj hm
            exact sw_iret S hr hlk hw hf dSx_count_158
          · have hm := sw_if c4 hm
            by_cases c5 : u1 = (5 : Int32)
            · have hm := sw_it c5 hm
              refine lv_tableIn (off := 111) (tgt := 159) S.1 S.2.1 dSx_count_48 (by rw [c5]; decide) (by rw [c5]; decide) (by rw [c5]; decide) (by decide) ?_
              refine lv_aload_n S.1 S.2.1 dSx_count_159 rfl (lv_at hl 0 rfl) ?_
              refine get_Sx (v := .ref (ξ.2.2.2.1 29)) S hw (is_0 hf) 4 (by decide) rfl wf_Sx_29 dSx_count_160 ?_
              refine get_Hi (v := .int (g.1 29 0)) S hw (is_29 hf) 0 (by decide) rfl wf_Sx_228 dSx_count_163 ?_
              obtain rfl := Option.some.inj hm
              exact sw_iret S hr hlk hw hf dSx_count_166
            · have hm := sw_if c5 hm
              by_cases c6 : u1 = (6 : Int32)
              · have hm := sw_it c6 hm
                refine lv_tableIn (off := 119) (tgt := 167) S.1 S.2.1 dSx_count_48 (by rw [c6]; decide) (by rw [c6]; decide) (by rw [c6]; decide) (by decide) ?_
                refine lv_aload_n S.1 S.2.1 dSx_count_167 rfl (lv_at hl 0 rfl) ?_
                refine get_Sx (v := .ref (ξ.2.2.2.1 33)) S hw (is_0 hf) 6 (by decide) rfl wf_Sx_39 dSx_count_168 ?_
                refine get_Re (v := .int (g.1 33 0)) S hw (is_33 hf) 0 (by decide) rfl wf_Sx_156 dSx_count_171 ?_
                obtain rfl := Option.some.inj hm
                exact sw_iret S hr hlk hw hf dSx_count_174
              · have hm := sw_if c6 hm
                by_cases c7 : u1 = (7 : Int32)
                · have hm := sw_it c7 hm
                  refine lv_tableIn (off := 135) (tgt := 183) S.1 S.2.1 dSx_count_48 (by rw [c7]; decide) (by rw [c7]; decide) (by rw [c7]; decide) (by decide) ?_
                  refine lv_iconst (v := (-1 : Int32)) S.1 S.2.1 dSx_count_183 (by decide) ?_
                  obtain rfl := Option.some.inj hm
                  exact sw_iret S hr hlk hw hf dSx_count_184
                · have hm := sw_if c7 hm
                  by_cases c8 : u1 = (8 : Int32)
                  · have hm := sw_it c8 hm
                    refine lv_tableIn (off := 135) (tgt := 183) S.1 S.2.1 dSx_count_48 (by rw [c8]; decide) (by rw [c8]; decide) (by rw [c8]; decide) (by decide) ?_
                    refine lv_iconst (v := (-1 : Int32)) S.1 S.2.1 dSx_count_183 (by decide) ?_
                    obtain rfl := Option.some.inj hm
                    exact sw_iret S hr hlk hw hf dSx_count_184
                  · have hm := sw_if c8 hm
                    by_cases c9 : u1 = (9 : Int32)
                    · have hm := sw_it c9 hm
                      refine lv_tableIn (off := 135) (tgt := 183) S.1 S.2.1 dSx_count_48 (by rw [c9]; decide) (by rw [c9]; decide) (by rw [c9]; decide) (by decide) ?_
                      refine lv_iconst (v := (-1 : Int32)) S.1 S.2.1 dSx_count_183 (by decide) ?_
                      obtain rfl := Option.some.inj hm
                      exact sw_iret S hr hlk hw hf dSx_count_184
                    · have hm := sw_if c9 hm
                      by_cases c10 : u1 = (10 : Int32)
                      · have hm := sw_it c10 hm
                        refine lv_tableIn (off := 135) (tgt := 183) S.1 S.2.1 dSx_count_48 (by rw [c10]; decide) (by rw [c10]; decide) (by rw [c10]; decide) (by decide) ?_
                        refine lv_iconst (v := (-1 : Int32)) S.1 S.2.1 dSx_count_183 (by decide) ?_
                        obtain rfl := Option.some.inj hm
                        exact sw_iret S hr hlk hw hf dSx_count_184
                      · have hm := sw_if c10 hm
                        by_cases c11 : u1 = (11 : Int32)
                        · have hm := sw_it c11 hm
                          refine lv_tableIn (off := 135) (tgt := 183) S.1 S.2.1 dSx_count_48 (by rw [c11]; decide) (by rw [c11]; decide) (by rw [c11]; decide) (by decide) ?_
                          refine lv_iconst (v := (-1 : Int32)) S.1 S.2.1 dSx_count_183 (by decide) ?_
                          obtain rfl := Option.some.inj hm
                          exact sw_iret S hr hlk hw hf dSx_count_184
                        · have hm := sw_if c11 hm
                          by_cases c12 : u1 = (12 : Int32)
                          · have hm := sw_it c12 hm
                            refine lv_tableIn (off := 127) (tgt := 175) S.1 S.2.1 dSx_count_48 (by rw [c12]; decide) (by rw [c12]; decide) (by rw [c12]; decide) (by decide) ?_
                            refine lv_aload_n S.1 S.2.1 dSx_count_175 rfl (lv_at hl 0 rfl) ?_
                            refine get_Sx (v := .ref (ξ.2.2.2.1 1)) S hw (is_0 hf) 0 (by decide) rfl wf_Sx_12 dSx_count_176 ?_
                            refine get_Pl (v := .int (g.1 1 11)) S hw (is_1 hf) 11 (by decide) rfl wf_Sx_213 dSx_count_179 ?_
                            obtain rfl := Option.some.inj hm
                            exact sw_iret S hr hlk hw hf dSx_count_182
                          · have hm := sw_if c12 hm
                            refine lv_tableOut (tgt := 183) S.1 S.2.1 dSx_count_48 (by have := lv_neT c0 (show ((0 : Int32)).toInt = 0 from rfl); have := lv_neT c1 (show ((1 : Int32)).toInt = 1 from rfl); have := lv_neT c2 (show ((2 : Int32)).toInt = 2 from rfl); have := lv_neT c3 (show ((3 : Int32)).toInt = 3 from rfl); have := lv_neT c4 (show ((4 : Int32)).toInt = 4 from rfl); have := lv_neT c5 (show ((5 : Int32)).toInt = 5 from rfl); have := lv_neT c6 (show ((6 : Int32)).toInt = 6 from rfl); have := lv_neT c7 (show ((7 : Int32)).toInt = 7 from rfl); have := lv_neT c8 (show ((8 : Int32)).toInt = 8 from rfl); have := lv_neT c9 (show ((9 : Int32)).toInt = 9 from rfl); have := lv_neT c10 (show ((10 : Int32)).toInt = 10 from rfl); have := lv_neT c11 (show ((11 : Int32)).toInt = 11 from rfl); have := lv_neT c12 (show ((12 : Int32)).toInt = 12 from rfl); omega) (by decide) ?_
                            refine lv_iconst (v := (-1 : Int32)) S.1 S.2.1 dSx_count_183 (by decide) ?_
                            obtain rfl := Option.some.inj hm
                            exact sw_iret S hr hlk hw hf dSx_count_184
set_option maxHeartbeats 4000000 in
set_option maxRecDepth 100000 in
theorem wSx_count_22 {l : Launch} {p : Program} {e : Env} {s : State} {m : MethodId} {args : Array Value} {below : List Frame} {meth : Method} {c : Code} {Γ : sw_C} {A : Nat → Prop} {ξ : sw_x} {μ : sw_m} {res : Int32 × sw_g} (S : CallFix p m c prog_1_method_39_code 2 s args (Cond.code ySx_count prog_1_method_39_code 2 (some .int) :: sw_tb) R_Sx) (hr : meth.sig.returnType = some .int) (hlk : meth.locks = false) (N : Nat) : ∀ (g : sw_g) (u1 : Int32) (H : Heap) (locs : List Loc) (ls : Array Slot), fSx_count_22 N ξ.2.2.1  g u1 = some res → sw_S Γ A ξ g μ s H locs → sw_wf ξ g.2.2 → lv_has ls 2 [(0, .ref (ξ.2.2.2.1 0)), (1, .int u1)] → W p l e (headSpec (Cond.code ySx_count prog_1_method_39_code 2 (some .int) :: sw_tb) rmSx_count).room s m args below meth c H locs 0 0 (MQ below (sw_Qi Γ A ξ res.2 μ res.1 (sw_wf ξ res.2.2.2)) args s 0 0 A) (F0 m 22 ls []) := by
  intro g u1 H locs ls hm hw hf hl
  unfold fSx_count_22 at hm
  refine lv_iload_n S.1 S.2.1 dSx_count_22 rfl (lv_at hl 1 rfl) ?_
  refine lv_bipush (v := (13 : Int32)) S.1 S.2.1 dSx_count_23 (by decide) ?_
  refine bicmp_lt (tgt := 47) S.1 S.2.1 hm dSx_count_25 (by decide) (fun hm => ?_) (fun hm => ?_)
  · exact wSx_count_47 S hr hlk N  g u1 _ _ _ hm hw hf (lv_sub hl [0, 1] rfl)
  · refine lv_iload_n S.1 S.2.1 dSx_count_28 rfl (lv_at hl 1 rfl) ?_
    refine lv_bipush (v := (17 : Int32)) S.1 S.2.1 dSx_count_29 (by decide) ?_
    refine bicmp_ge (tgt := 47) S.1 S.2.1 hm dSx_count_31 (by decide) (fun hm => ?_) (fun hm => ?_)
    · exact wSx_count_47 S hr hlk N  g u1 _ _ _ hm hw hf (lv_sub hl [0, 1] rfl)
    · refine lv_aload_n S.1 S.2.1 dSx_count_34 rfl (lv_at hl 0 rfl) ?_
      refine get_Sx (v := .ref (ξ.2.2.2.1 1)) S hw (is_0 hf) 0 (by decide) rfl wf_Sx_12 dSx_count_35 ?_
      refine get_Pl (v := .ref (ξ.2.2.2.1 5)) S hw (is_1 hf) 4 (by decide) rfl wf_Sx_153 dSx_count_38 ?_
      refine lv_iload_n S.1 S.2.1 dSx_count_41 rfl (lv_at hl 1 rfl) ?_
      refine lv_bipush (v := (13 : Int32)) S.1 S.2.1 dSx_count_42 (by decide) ?_
      refine lv_isub S.1 S.2.1 dSx_count_44 ?_
      refine sx_iald S hw (is_5 hf) hm dSx_count_45 (fun v9 hm => ?_)
      obtain rfl := Option.some.inj hm
      exact sw_iret S hr hlk hw hf dSx_count_46
set_option maxHeartbeats 4000000 in
set_option maxRecDepth 100000 in
theorem cSx_count (l : Launch) (N : Nat) {Γ : sw_C} {A : Nat → Prop} {ξ : sw_x} {g : sw_g} {μ : sw_m} (hf : sw_wf ξ g.2.2) (a1 : Int32) {res : Int32 × sw_g} (hm : fSx_count N ξ.2.2.1 g a1 = some res) : Met l ySx_count (Cond.code ySx_count prog_1_method_39_code 2 (some .int) :: sw_tb) rmSx_count (va_Pc [.ref (ξ.2.2.2.1 0), .int a1] (sw_V Γ A ξ g μ)) (sw_Qi Γ A ξ res.2 μ res.1 (sw_wf ξ res.2.2.2)) 0 0 A := by
  refine Met.ofW (cc := prog_1_method_39_code) (maxL := 2) (ret := some .int) (by decide) rfl ?_
  intro p e s m args below meth c s₁ B hml hv
  obtain ⟨rfl, hv⟩ := hv
  have S : CallFix p m c prog_1_method_39_code 2 s _ (Cond.code ySx_count prog_1_method_39_code 2 (some .int) :: sw_tb) R_Sx := ⟨B.exec, B.bytes, hml, findClass_of_methodNamed B.named, atoms_spec (ws := (Cond.code ySx_count prog_1_method_39_code 2 (some .int) :: sw_tb)) B.pre⟩
  have hr := B.returns
  have hlk := B.notSynchronized
  have hw := sw_begin hv
  have hl := lv_entry [.ref (ξ.2.2.2.1 0), .int a1] (n := 2) (Nat.le_of_ble_eq_true rfl)
  rw [lg_entry_eq]
  generalize (lg_sl [.ref (ξ.2.2.2.1 0), .int a1] ++ List.replicate (2 - (lg_sl [.ref (ξ.2.2.2.1 0), .int a1]).length) Slot.unset).toArray = ls at hl ⊢
  have hl : lv_has ls 2 [(0, .ref (ξ.2.2.2.1 0)), (1, .int a1)] := hl
  unfold fSx_count at hm
  refine lv_iload_n S.1 S.2.1 dSx_count_0 rfl (lv_at hl 1 rfl) ?_
  refine lv_bipush (v := (7 : Int32)) S.1 S.2.1 dSx_count_1 (by decide) ?_
  refine bicmp_lt (tgt := 22) S.1 S.2.1 hm dSx_count_3 (by decide) (fun hm => ?_) (fun hm => ?_)
  · exact wSx_count_22 S hr hlk N  g a1 _ _ _ hm hw hf (lv_sub hl [0, 1] rfl)
  · refine lv_iload_n S.1 S.2.1 dSx_count_6 rfl (lv_at hl 1 rfl) ?_
    refine lv_bipush (v := (12 : Int32)) S.1 S.2.1 dSx_count_7 (by decide) ?_
    refine bicmp_ge (tgt := 22) S.1 S.2.1 hm dSx_count_9 (by decide) (fun hm => ?_) (fun hm => ?_)
    · exact wSx_count_22 S hr hlk N  g a1 _ _ _ hm hw hf (lv_sub hl [0, 1] rfl)
    · refine lv_aload_n S.1 S.2.1 dSx_count_12 rfl (lv_at hl 0 rfl) ?_
      refine get_Sx (v := .ref (ξ.2.2.2.1 83)) S hw (is_0 hf) 13 (by decide) rfl wf_Sx_74 dSx_count_13 ?_
      refine lv_iload_n S.1 S.2.1 dSx_count_16 rfl (lv_at hl 1 rfl) ?_
      refine lv_bipush (v := (7 : Int32)) S.1 S.2.1 dSx_count_17 (by decide) ?_
      refine lv_isub S.1 S.2.1 dSx_count_19 ?_
      refine sx_iald S hw (is_83 hf) hm dSx_count_20 (fun v10 hm => ?_)
      obtain rfl := Option.some.inj hm
      exact sw_iret S hr hlk hw hf dSx_count_21
set_option maxHeartbeats 4000000 in
set_option maxRecDepth 100000 in
theorem cSx_status (l : Launch) {Γ : sw_C} {A : Nat → Prop} {ξ : sw_x} {g : sw_g} {μ : sw_m} (hf : sw_wf ξ g.2.2) {res : Int32 × sw_g} (hm : fSx_status ξ.2.2.1 g = some res) : Met l ySx_status (Cond.code ySx_status prog_1_method_40_code 1 (some .int) :: sw_tb) rmSx_status (va_Pc [.ref (ξ.2.2.2.1 0)] (sw_V Γ A ξ g μ)) (sw_Qi Γ A ξ res.2 μ res.1 (sw_wf ξ res.2.2.2)) 0 0 A := by
  refine Met.ofW (cc := prog_1_method_40_code) (maxL := 1) (ret := some .int) (by decide) rfl ?_
  intro p e s m args below meth c s₁ B hml hv
  obtain ⟨rfl, hv⟩ := hv
  have S : CallFix p m c prog_1_method_40_code 1 s _ (Cond.code ySx_status prog_1_method_40_code 1 (some .int) :: sw_tb) R_Sx := ⟨B.exec, B.bytes, hml, findClass_of_methodNamed B.named, atoms_spec (ws := (Cond.code ySx_status prog_1_method_40_code 1 (some .int) :: sw_tb)) B.pre⟩
  have hr := B.returns
  have hlk := B.notSynchronized
  have hw := sw_begin hv
  have hl := lv_entry [.ref (ξ.2.2.2.1 0)] (n := 1) (Nat.le_of_ble_eq_true rfl)
  rw [lg_entry_eq]
  generalize (lg_sl [.ref (ξ.2.2.2.1 0)] ++ List.replicate (1 - (lg_sl [.ref (ξ.2.2.2.1 0)]).length) Slot.unset).toArray = ls at hl ⊢
  have hl : lv_has ls 1 [(0, .ref (ξ.2.2.2.1 0))] := hl
  unfold fSx_status at hm
  refine lv_aload_n S.1 S.2.1 dSx_status_0 rfl (lv_at hl 0 rfl) ?_
  refine get_Sx (v := .int (g.1 0 14)) S hw (is_0 hf) 14 (by decide) rfl wf_Sx_333 dSx_status_1 ?_
  obtain rfl := Option.some.inj hm
  exact sw_iret S hr hlk hw hf dSx_status_4
set_option maxHeartbeats 4000000 in
set_option maxRecDepth 100000 in
theorem cSx_told (l : Launch) {Γ : sw_C} {A : Nat → Prop} {ξ : sw_x} {g : sw_g} {μ : sw_m} (hf : sw_wf ξ g.2.2) (a1 : Int32) {res : Int32 × sw_g} (hm : fSx_told ξ.2.2.1 g a1 = some res) : Met l ySx_told (Cond.code ySx_told prog_1_method_41_code 2 (some .int) :: sw_tb) rmSx_told (va_Pc [.ref (ξ.2.2.2.1 0), .int a1] (sw_V Γ A ξ g μ)) (sw_Qi Γ A ξ res.2 μ res.1 (sw_wf ξ res.2.2.2)) 0 0 A := by
  refine Met.ofW (cc := prog_1_method_41_code) (maxL := 2) (ret := some .int) (by decide) rfl ?_
  intro p e s m args below meth c s₁ B hml hv
  obtain ⟨rfl, hv⟩ := hv
  have S : CallFix p m c prog_1_method_41_code 2 s _ (Cond.code ySx_told prog_1_method_41_code 2 (some .int) :: sw_tb) R_Sx := ⟨B.exec, B.bytes, hml, findClass_of_methodNamed B.named, atoms_spec (ws := (Cond.code ySx_told prog_1_method_41_code 2 (some .int) :: sw_tb)) B.pre⟩
  have hr := B.returns
  have hlk := B.notSynchronized
  have hw := sw_begin hv
  have hl := lv_entry [.ref (ξ.2.2.2.1 0), .int a1] (n := 2) (Nat.le_of_ble_eq_true rfl)
  rw [lg_entry_eq]
  generalize (lg_sl [.ref (ξ.2.2.2.1 0), .int a1] ++ List.replicate (2 - (lg_sl [.ref (ξ.2.2.2.1 0), .int a1]).length) Slot.unset).toArray = ls at hl ⊢
  have hl : lv_has ls 2 [(0, .ref (ξ.2.2.2.1 0)), (1, .int a1)] := hl
  unfold fSx_told at hm
  refine lv_aload_n S.1 S.2.1 dSx_told_0 rfl (lv_at hl 0 rfl) ?_
  refine lv_iconst (v := (0 : Int32)) S.1 S.2.1 dSx_told_1 (by decide) ?_
  refine put_Sx S hw hf (is_0 hf) 14 (by decide) ps_Sx_14 rfl rfl rfl wf_Sx_333 hm dSx_told_2 (fun g1 H locs hf hm hw => ?_)
  refine lv_iload_n S.1 S.2.1 dSx_told_5 rfl (lv_at hl 1 rfl) ?_
  obtain rfl := Option.some.inj hm
  exact sw_iret S hr hlk hw hf dSx_told_6
set_option maxHeartbeats 4000000 in
set_option maxRecDepth 100000 in
theorem wSx_refuse_22 {l : Launch} {p : Program} {e : Env} {s : State} {m : MethodId} {args : Array Value} {below : List Frame} {meth : Method} {c : Code} {Γ : sw_C} {A : Nat → Prop} {ξ : sw_x} {μ : sw_m} {res : Int32 × sw_g} (S : CallFix p m c prog_1_method_42_code 3 s args (Cond.code ySx_refuse prog_1_method_42_code 3 (some .int) :: sw_tb) R_Sx) (hr : meth.sig.returnType = some .int) (hlk : meth.locks = false) (N : Nat) : ∀ (g : sw_g) (u1 : Int32) (s0 : Int32) (H : Heap) (locs : List Loc) (ls : Array Slot), fSx_refuse_22 N ξ.2.2.1  g u1 s0 = some res → sw_S Γ A ξ g μ s H locs → sw_wf ξ g.2.2 → lv_has ls 3 [(0, .ref (ξ.2.2.2.1 0)), (1, .int u1)] → W p l e (headSpec (Cond.code ySx_refuse prog_1_method_42_code 3 (some .int) :: sw_tb) rmSx_refuse).room s m args below meth c H locs 0 0 (MQ below (sw_Qi Γ A ξ res.2 μ res.1 (sw_wf ξ res.2.2.2)) args s 0 0 A) (F0 m 22 ls [.int s0]) := by
  intro g u1 s0 H locs ls hm hw hf hl
  unfold fSx_refuse_22 at hm
  refine lv_istore_n (lv' := [(2, .int s0), (0, .ref (ξ.2.2.2.1 0)), (1, .int u1)]) S.1 S.2.1 dSx_refuse_22 rfl hl (by decide) rfl (fun ls hl => ?_)
  refine lv_iload_n S.1 S.2.1 dSx_refuse_23 rfl (lv_at hl 0 rfl) ?_
  refine bif_lt (tgt := 42) S.1 S.2.1 hm dSx_refuse_24 (by decide) (fun hm => ?_) (fun hm => ?_)
  · refine lv_iload_n S.1 S.2.1 dSx_refuse_42 rfl (lv_at hl 2 rfl) ?_
    obtain rfl := Option.some.inj hm
    exact sw_iret S hr hlk hw hf dSx_refuse_43
  · refine lv_iload_n S.1 S.2.1 dSx_refuse_27 rfl (lv_at hl 0 rfl) ?_
    refine lv_iconst (v := (5 : Int32)) S.1 S.2.1 dSx_refuse_28 (by decide) ?_
    refine bicmp_ge (tgt := 42) S.1 S.2.1 hm dSx_refuse_29 (by decide) (fun hm => ?_) (fun hm => ?_)
    · refine lv_iload_n S.1 S.2.1 dSx_refuse_42 rfl (lv_at hl 2 rfl) ?_
      obtain rfl := Option.some.inj hm
      exact sw_iret S hr hlk hw hf dSx_refuse_43
    · refine lv_aload_n S.1 S.2.1 dSx_refuse_32 rfl (lv_at hl 1 rfl) ?_
      refine get_Sx (v := .ref (ξ.2.2.2.1 83)) S hw (is_0 hf) 13 (by decide) rfl wf_Sx_74 dSx_refuse_33 ?_
      refine lv_iload_n S.1 S.2.1 dSx_refuse_36 rfl (lv_at hl 0 rfl) ?_
      refine lv_dup2_11 S.1 S.2.1 dSx_refuse_37 rfl rfl ?_
      refine sx_iald S hw (is_83 hf) hm dSx_refuse_38 (fun v2 hm => ?_)
      refine lv_iconst (v := (1 : Int32)) S.1 S.2.1 dSx_refuse_39 (by decide) ?_
      refine lv_iadd S.1 S.2.1 dSx_refuse_40 ?_
      refine sx_iast S hw hf (is_83 hf) hm dSx_refuse_41 (fun g3 H locs hf hm hw => ?_)
      refine lv_iload_n S.1 S.2.1 dSx_refuse_42 rfl (lv_at hl 2 rfl) ?_
      obtain rfl := Option.some.inj hm
      exact sw_iret S hr hlk hw hf dSx_refuse_43
set_option maxHeartbeats 4000000 in
set_option maxRecDepth 100000 in
theorem cSx_refuse (l : Launch) (N : Nat) {Γ : sw_C} {A : Nat → Prop} {ξ : sw_x} {g : sw_g} {μ : sw_m} (hf : sw_wf ξ g.2.2) (a1 : Int32) {res : Int32 × sw_g} (hm : fSx_refuse N ξ.2.2.1 g a1 = some res) : Met l ySx_refuse (Cond.code ySx_refuse prog_1_method_42_code 3 (some .int) :: sw_tb) rmSx_refuse (va_Pc [.ref (ξ.2.2.2.1 0), .int a1] (sw_V Γ A ξ g μ)) (sw_Qi Γ A ξ res.2 μ res.1 (sw_wf ξ res.2.2.2)) 0 0 A := by
  refine Met.ofW (cc := prog_1_method_42_code) (maxL := 3) (ret := some .int) (by decide) rfl ?_
  intro p e s m args below meth c s₁ B hml hv
  obtain ⟨rfl, hv⟩ := hv
  have S : CallFix p m c prog_1_method_42_code 3 s _ (Cond.code ySx_refuse prog_1_method_42_code 3 (some .int) :: sw_tb) R_Sx := ⟨B.exec, B.bytes, hml, findClass_of_methodNamed B.named, atoms_spec (ws := (Cond.code ySx_refuse prog_1_method_42_code 3 (some .int) :: sw_tb)) B.pre⟩
  have hr := B.returns
  have hlk := B.notSynchronized
  have hw := sw_begin hv
  have hl := lv_entry [.ref (ξ.2.2.2.1 0), .int a1] (n := 3) (Nat.le_of_ble_eq_true rfl)
  rw [lg_entry_eq]
  generalize (lg_sl [.ref (ξ.2.2.2.1 0), .int a1] ++ List.replicate (3 - (lg_sl [.ref (ξ.2.2.2.1 0), .int a1]).length) Slot.unset).toArray = ls at hl ⊢
  have hl : lv_has ls 3 [(0, .ref (ξ.2.2.2.1 0)), (1, .int a1)] := hl
  unfold fSx_refuse at hm
  refine lv_aload_n S.1 S.2.1 dSx_refuse_0 rfl (lv_at hl 0 rfl) ?_
  refine lv_iload_n S.1 S.2.1 dSx_refuse_1 rfl (lv_at hl 1 rfl) ?_
  refine put_Sx S hw hf (is_0 hf) 14 (by decide) ps_Sx_14 rfl rfl rfl wf_Sx_333 hm dSx_refuse_2 (fun g1 H locs hf hm hw => ?_)
  refine lv_iload_n S.1 S.2.1 dSx_refuse_5 rfl (lv_at hl 1 rfl) ?_
  refine lv_bipush (v := (-3 : Int32)) S.1 S.2.1 dSx_refuse_6 (by decide) ?_
  refine bicmp_lt (tgt := 18) S.1 S.2.1 hm dSx_refuse_8 (by decide) (fun hm => ?_) (fun hm => ?_)
  · refine lv_iload_n S.1 S.2.1 dSx_refuse_18 rfl (lv_at hl 1 rfl) ?_
    refine lv_ineg S.1 S.2.1 dSx_refuse_19 ?_
    refine lv_iconst (v := (2 : Int32)) S.1 S.2.1 dSx_refuse_20 (by decide) ?_
    refine lv_isub S.1 S.2.1 dSx_refuse_21 ?_
    exact wSx_refuse_22 S hr hlk N  g1 a1 ((-a1) - (2 : Int32)) _ _ _ hm hw hf (lv_sub hl [0, 1] rfl)
  · refine lv_iload_n S.1 S.2.1 dSx_refuse_11 rfl (lv_at hl 1 rfl) ?_
    refine lv_ineg S.1 S.2.1 dSx_refuse_12 ?_
    refine lv_iconst (v := (1 : Int32)) S.1 S.2.1 dSx_refuse_13 (by decide) ?_
    refine lv_isub S.1 S.2.1 dSx_refuse_14 ?_
    refine lv_goto (tgt := 22) S.1 S.2.1 dSx_refuse_15 (by decide) ?_
    exact wSx_refuse_22 S hr hlk N  g1 a1 ((-a1) - (1 : Int32)) _ _ _ hm hw hf (lv_sub hl [0, 1] rfl)
set_option maxHeartbeats 4000000 in
set_option maxRecDepth 100000 in
theorem cSx_canBeHeavy (l : Launch) {Γ : sw_C} {A : Nat → Prop} {ξ : sw_x} {g : sw_g} {μ : sw_m} (hf : sw_wf ξ g.2.2) (a1 : Int32) {res : Int32} (hm : fSx_canBeHeavy a1 = some res) : Met l ySx_canBeHeavy (Cond.code ySx_canBeHeavy prog_1_method_44_code 1 (some .boolean) :: sw_tb) rmSx_canBeHeavy (va_Pc [.int a1] (sw_V Γ A ξ g μ)) (sw_Qi Γ A ξ g μ res (True)) 0 0 A := by
  refine Met.ofW (cc := prog_1_method_44_code) (maxL := 1) (ret := some .boolean) (by decide) rfl ?_
  intro p e s m args below meth c s₁ B hml hv
  obtain ⟨rfl, hv⟩ := hv
  have S : CallFix p m c prog_1_method_44_code 1 s _ (Cond.code ySx_canBeHeavy prog_1_method_44_code 1 (some .boolean) :: sw_tb) R_Sx := ⟨B.exec, B.bytes, hml, findClass_of_methodNamed B.named, atoms_spec (ws := (Cond.code ySx_canBeHeavy prog_1_method_44_code 1 (some .boolean) :: sw_tb)) B.pre⟩
  have hr := B.returns
  have hlk := B.notSynchronized
  have hw := sw_begin hv
  have hl := lv_entry [.int a1] (n := 1) (Nat.le_of_ble_eq_true rfl)
  rw [lg_entry_eq]
  generalize (lg_sl [.int a1] ++ List.replicate (1 - (lg_sl [.int a1]).length) Slot.unset).toArray = ls at hl ⊢
  have hl : lv_has ls 1 [(0, .int a1)] := hl
  unfold fSx_canBeHeavy at hm
  refine lv_iload_n S.1 S.2.1 dSx_canBeHeavy_0 rfl (lv_at hl 0 rfl) ?_
  refine lv_iconst (v := (1 : Int32)) S.1 S.2.1 dSx_canBeHeavy_1 (by decide) ?_
  refine bicmp_lt (tgt := 15) S.1 S.2.1 hm dSx_canBeHeavy_2 (by decide) (fun hm => ?_) (fun hm => ?_)
  · refine lv_iconst (v := (0 : Int32)) S.1 S.2.1 dSx_canBeHeavy_15 (by decide) ?_
    obtain rfl := Option.some.inj hm
    exact sw_zret S hr hlk (Or.inl rfl) hw trivial dSx_canBeHeavy_16
  · refine lv_iload_n S.1 S.2.1 dSx_canBeHeavy_5 rfl (lv_at hl 0 rfl) ?_
    refine lv_bipush (v := (30 : Int32)) S.1 S.2.1 dSx_canBeHeavy_6 (by decide) ?_
    refine bicmp_gt (tgt := 15) S.1 S.2.1 hm dSx_canBeHeavy_8 (by decide) (fun hm => ?_) (fun hm => ?_)
    · refine lv_iconst (v := (0 : Int32)) S.1 S.2.1 dSx_canBeHeavy_15 (by decide) ?_
      obtain rfl := Option.some.inj hm
      exact sw_zret S hr hlk (Or.inl rfl) hw trivial dSx_canBeHeavy_16
    · refine lv_iconst (v := (1 : Int32)) S.1 S.2.1 dSx_canBeHeavy_11 (by decide) ?_
      refine lv_goto (tgt := 16) S.1 S.2.1 dSx_canBeHeavy_12 (by decide) ?_
      obtain rfl := Option.some.inj hm
      exact sw_zret S hr hlk (Or.inr rfl) hw trivial dSx_canBeHeavy_16
set_option maxHeartbeats 4000000 in
set_option maxRecDepth 100000 in
theorem cSx_isPlace (l : Launch) {Γ : sw_C} {A : Nat → Prop} {ξ : sw_x} {g : sw_g} {μ : sw_m} (hf : sw_wf ξ g.2.2) (a1 : Int32) {res : Int32} (hm : fSx_isPlace a1 = some res) : Met l ySx_isPlace (Cond.code ySx_isPlace prog_1_method_45_code 1 (some .boolean) :: sw_tb) rmSx_isPlace (va_Pc [.int a1] (sw_V Γ A ξ g μ)) (sw_Qi Γ A ξ g μ res (True)) 0 0 A := by
  refine Met.ofW (cc := prog_1_method_45_code) (maxL := 1) (ret := some .boolean) (by decide) rfl ?_
  intro p e s m args below meth c s₁ B hml hv
  obtain ⟨rfl, hv⟩ := hv
  have S : CallFix p m c prog_1_method_45_code 1 s _ (Cond.code ySx_isPlace prog_1_method_45_code 1 (some .boolean) :: sw_tb) R_Sx := ⟨B.exec, B.bytes, hml, findClass_of_methodNamed B.named, atoms_spec (ws := (Cond.code ySx_isPlace prog_1_method_45_code 1 (some .boolean) :: sw_tb)) B.pre⟩
  have hr := B.returns
  have hlk := B.notSynchronized
  have hw := sw_begin hv
  have hl := lv_entry [.int a1] (n := 1) (Nat.le_of_ble_eq_true rfl)
  rw [lg_entry_eq]
  generalize (lg_sl [.int a1] ++ List.replicate (1 - (lg_sl [.int a1]).length) Slot.unset).toArray = ls at hl ⊢
  have hl : lv_has ls 1 [(0, .int a1)] := hl
  unfold fSx_isPlace at hm
  refine lv_iload_n S.1 S.2.1 dSx_isPlace_0 rfl (lv_at hl 0 rfl) ?_
  refine bif_lt (tgt := 14) S.1 S.2.1 hm dSx_isPlace_1 (by decide) (fun hm => ?_) (fun hm => ?_)
  · refine lv_iconst (v := (0 : Int32)) S.1 S.2.1 dSx_isPlace_14 (by decide) ?_
    obtain rfl := Option.some.inj hm
    exact sw_zret S hr hlk (Or.inl rfl) hw trivial dSx_isPlace_15
  · refine lv_iload_n S.1 S.2.1 dSx_isPlace_4 rfl (lv_at hl 0 rfl) ?_
    refine lv_bipush (v := (7 : Int32)) S.1 S.2.1 dSx_isPlace_5 (by decide) ?_
    refine bicmp_ge (tgt := 14) S.1 S.2.1 hm dSx_isPlace_7 (by decide) (fun hm => ?_) (fun hm => ?_)
    · refine lv_iconst (v := (0 : Int32)) S.1 S.2.1 dSx_isPlace_14 (by decide) ?_
      obtain rfl := Option.some.inj hm
      exact sw_zret S hr hlk (Or.inl rfl) hw trivial dSx_isPlace_15
    · refine lv_iconst (v := (1 : Int32)) S.1 S.2.1 dSx_isPlace_10 (by decide) ?_
      refine lv_goto (tgt := 15) S.1 S.2.1 dSx_isPlace_11 (by decide) ?_
      obtain rfl := Option.some.inj hm
      exact sw_zret S hr hlk (Or.inr rfl) hw trivial dSx_isPlace_15
set_option maxHeartbeats 4000000 in
set_option maxRecDepth 100000 in
theorem cSx_areBits (l : Launch) {Γ : sw_C} {A : Nat → Prop} {ξ : sw_x} {g : sw_g} {μ : sw_m} (hf : sw_wf ξ g.2.2) (a1 : Int32) {res : Int32} (hm : fSx_areBits a1 = some res) : Met l ySx_areBits (Cond.code ySx_areBits prog_1_method_46_code 1 (some .boolean) :: sw_tb) rmSx_areBits (va_Pc [.int a1] (sw_V Γ A ξ g μ)) (sw_Qi Γ A ξ g μ res (True)) 0 0 A := by
  refine Met.ofW (cc := prog_1_method_46_code) (maxL := 1) (ret := some .boolean) (by decide) rfl ?_
  intro p e s m args below meth c s₁ B hml hv
  obtain ⟨rfl, hv⟩ := hv
  have S : CallFix p m c prog_1_method_46_code 1 s _ (Cond.code ySx_areBits prog_1_method_46_code 1 (some .boolean) :: sw_tb) R_Sx := ⟨B.exec, B.bytes, hml, findClass_of_methodNamed B.named, atoms_spec (ws := (Cond.code ySx_areBits prog_1_method_46_code 1 (some .boolean) :: sw_tb)) B.pre⟩
  have hr := B.returns
  have hlk := B.notSynchronized
  have hw := sw_begin hv
  have hl := lv_entry [.int a1] (n := 1) (Nat.le_of_ble_eq_true rfl)
  rw [lg_entry_eq]
  generalize (lg_sl [.int a1] ++ List.replicate (1 - (lg_sl [.int a1]).length) Slot.unset).toArray = ls at hl ⊢
  have hl : lv_has ls 1 [(0, .int a1)] := hl
  unfold fSx_areBits at hm
  refine lv_iload_n S.1 S.2.1 dSx_areBits_0 rfl (lv_at hl 0 rfl) ?_
  refine bif_lt (tgt := 15) S.1 S.2.1 hm dSx_areBits_1 (by decide) (fun hm => ?_) (fun hm => ?_)
  · refine lv_iconst (v := (0 : Int32)) S.1 S.2.1 dSx_areBits_15 (by decide) ?_
    obtain rfl := Option.some.inj hm
    exact sw_zret S hr hlk (Or.inl rfl) hw trivial dSx_areBits_16
  · refine lv_iload_n S.1 S.2.1 dSx_areBits_4 rfl (lv_at hl 0 rfl) ?_
    refine lv_sipush (v := (128 : Int32)) S.1 S.2.1 dSx_areBits_5 (by decide) ?_
    refine bicmp_ge (tgt := 15) S.1 S.2.1 hm dSx_areBits_8 (by decide) (fun hm => ?_) (fun hm => ?_)
    · refine lv_iconst (v := (0 : Int32)) S.1 S.2.1 dSx_areBits_15 (by decide) ?_
      obtain rfl := Option.some.inj hm
      exact sw_zret S hr hlk (Or.inl rfl) hw trivial dSx_areBits_16
    · refine lv_iconst (v := (1 : Int32)) S.1 S.2.1 dSx_areBits_11 (by decide) ?_
      refine lv_goto (tgt := 16) S.1 S.2.1 dSx_areBits_12 (by decide) ?_
      obtain rfl := Option.some.inj hm
      exact sw_zret S hr hlk (Or.inr rfl) hw trivial dSx_areBits_16
set_option maxHeartbeats 4000000 in
set_option maxRecDepth 100000 in
theorem cSx_takes (l : Launch) {Γ : sw_C} {A : Nat → Prop} {ξ : sw_x} {g : sw_g} {μ : sw_m} (hf : sw_wf ξ g.2.2) (a1 : Int32) {res : Int32 × sw_g} (hm : fSx_takes ξ.2.2.1 g a1 = some res) : Met l ySx_takes (Cond.code ySx_takes prog_1_method_48_code 2 (some .int) :: sw_tb) rmSx_takes (va_Pc [.ref (ξ.2.2.2.1 0), .int a1] (sw_V Γ A ξ g μ)) (sw_Qi Γ A ξ res.2 μ res.1 (sw_wf ξ res.2.2.2)) 0 0 A := by
  refine Met.ofW (cc := prog_1_method_48_code) (maxL := 2) (ret := some .int) (by decide) rfl ?_
  intro p e s m args below meth c s₁ B hml hv
  obtain ⟨rfl, hv⟩ := hv
  have S : CallFix p m c prog_1_method_48_code 2 s _ (Cond.code ySx_takes prog_1_method_48_code 2 (some .int) :: sw_tb) R_Sx := ⟨B.exec, B.bytes, hml, findClass_of_methodNamed B.named, atoms_spec (ws := (Cond.code ySx_takes prog_1_method_48_code 2 (some .int) :: sw_tb)) B.pre⟩
  have hr := B.returns
  have hlk := B.notSynchronized
  have hw := sw_begin hv
  have hl := lv_entry [.ref (ξ.2.2.2.1 0), .int a1] (n := 2) (Nat.le_of_ble_eq_true rfl)
  rw [lg_entry_eq]
  generalize (lg_sl [.ref (ξ.2.2.2.1 0), .int a1] ++ List.replicate (2 - (lg_sl [.ref (ξ.2.2.2.1 0), .int a1]).length) Slot.unset).toArray = ls at hl ⊢
  have hl : lv_has ls 2 [(0, .ref (ξ.2.2.2.1 0)), (1, .int a1)] := hl
  unfold fSx_takes at hm
  refine lv_aload_n S.1 S.2.1 dSx_takes_0 rfl (lv_at hl 0 rfl) ?_
  refine get_Sx (v := .ref (ξ.2.2.2.1 1)) S hw (is_0 hf) 0 (by decide) rfl wf_Sx_12 dSx_takes_1 ?_
  refine lv_iload_n S.1 S.2.1 dSx_takes_4 rfl (lv_at hl 1 rfl) ?_
  obtain ⟨⟨v3, g2⟩, h1, hm⟩ := ob hm
  refine sw_Vi (q := 1) (rest := []) S hw (cPl_hasClaim l  hf 1 (is_1 hf) a1 h1) kPl_hasClaim wm_Sx_102 (is_1 hf).1 (e_Pl (is_1 hf)) rfl rfl rfl rfl hl.1 (Nat.le_of_ble_eq_true rfl) ⟨rfl, rfl, Nat.le_of_ble_eq_true rfl, Nat.le_of_ble_eq_true rfl⟩ ⟨Nat.le_of_ble_eq_true rfl, Nat.le_of_ble_eq_true rfl⟩ dSx_takes_5 (fun H locs hw hf => ?_)
  refine bif_ne (tgt := 14) S.1 S.2.1 hm dSx_takes_8 (by decide) (fun hm => ?_) (fun hm => ?_)
  · refine lv_aload_n S.1 S.2.1 dSx_takes_14 rfl (lv_at hl 0 rfl) ?_
    refine get_Sx (v := .ref (ξ.2.2.2.1 1)) S hw (is_0 hf) 0 (by decide) rfl wf_Sx_12 dSx_takes_15 ?_
    refine lv_iload_n S.1 S.2.1 dSx_takes_18 rfl (lv_at hl 1 rfl) ?_
    obtain ⟨⟨v6, g5⟩, h4, hm⟩ := ob hm
    refine sw_Vi (q := 1) (rest := []) S hw (cPl_isOn l  hf 1 (is_1 hf) a1 h4) kPl_isOn wm_Sx_115 (is_1 hf).1 (e_Pl (is_1 hf)) rfl rfl rfl rfl hl.1 (Nat.le_of_ble_eq_true rfl) ⟨rfl, rfl, Nat.le_of_ble_eq_true rfl, Nat.le_of_ble_eq_true rfl⟩ ⟨Nat.le_of_ble_eq_true rfl, Nat.le_of_ble_eq_true rfl⟩ dSx_takes_19 (fun H locs hw hf => ?_)
    refine bif_ne (tgt := 28) S.1 S.2.1 hm dSx_takes_22 (by decide) (fun hm => ?_) (fun hm => ?_)
    · refine lv_aload_n S.1 S.2.1 dSx_takes_28 rfl (lv_at hl 0 rfl) ?_
      refine get_Sx (v := .ref (ξ.2.2.2.1 29)) S hw (is_0 hf) 4 (by decide) rfl wf_Sx_29 dSx_takes_29 ?_
      refine lv_iconst (v := (1 : Int32)) S.1 S.2.1 dSx_takes_32 (by decide) ?_
      refine lv_aload_n S.1 S.2.1 dSx_takes_33 rfl (lv_at hl 0 rfl) ?_
      refine get_Sx (v := .ref (ξ.2.2.2.1 1)) S hw (is_0 hf) 0 (by decide) rfl wf_Sx_12 dSx_takes_34 ?_
      obtain ⟨g8, h7, hm⟩ := ob hm
      refine sw_Vv (q := 29) (rest := []) S hw (cHi_keep l  hf 29 1 (is_29 hf) (is_30 hf) (is_1 hf) (1 : Int32) h7) kHi_keep wm_Sx_342 (is_29 hf).1 (e_Hi (is_29 hf)) rfl rfl rfl rfl hl.1 (Nat.le_of_ble_eq_true rfl) ⟨rfl, rfl, Nat.le_of_ble_eq_true rfl, Nat.le_of_ble_eq_true rfl⟩ ⟨Nat.le_of_ble_eq_true rfl, Nat.le_of_ble_eq_true rfl⟩ dSx_takes_37 (fun H locs hw hf => ?_)
      refine lv_aload_n S.1 S.2.1 dSx_takes_40 rfl (lv_at hl 0 rfl) ?_
      refine get_Sx (v := .ref (ξ.2.2.2.1 1)) S hw (is_0 hf) 0 (by decide) rfl wf_Sx_12 dSx_takes_41 ?_
      refine get_Pl (v := .ref (ξ.2.2.2.1 4)) S hw (is_1 hf) 3 (by decide) rfl wf_Sx_106 dSx_takes_44 ?_
      refine lv_iload_n S.1 S.2.1 dSx_takes_47 rfl (lv_at hl 1 rfl) ?_
      refine lv_iconst (v := (-1 : Int32)) S.1 S.2.1 dSx_takes_48 (by decide) ?_
      refine sx_iast S hw hf (is_4 hf) hm dSx_takes_49 (fun g9 H locs hf hm hw => ?_)
      refine lv_iconst (v := (0 : Int32)) S.1 S.2.1 dSx_takes_50 (by decide) ?_
      obtain rfl := Option.some.inj hm
      exact sw_iret S hr hlk hw hf dSx_takes_51
    · refine lv_bipush (v := (-3 : Int32)) S.1 S.2.1 dSx_takes_25 (by decide) ?_
      obtain rfl := Option.some.inj hm
      exact sw_iret S hr hlk hw hf dSx_takes_27
  · refine lv_bipush (v := (-2 : Int32)) S.1 S.2.1 dSx_takes_11 (by decide) ?_
    obtain rfl := Option.some.inj hm
    exact sw_iret S hr hlk hw hf dSx_takes_13
set_option maxHeartbeats 4000000 in
set_option maxRecDepth 100000 in
theorem cSx_pads (l : Launch) {Γ : sw_C} {A : Nat → Prop} {ξ : sw_x} {g : sw_g} {μ : sw_m} (hf : sw_wf ξ g.2.2) (a1 : Int32) (a2 : Int32) {res : Int32 × sw_g} (hm : fSx_pads ξ.2.2.1 g a1 a2 = some res) : Met l ySx_pads (Cond.code ySx_pads prog_1_method_49_code 4 (some .int) :: sw_tb) rmSx_pads (va_Pc [.ref (ξ.2.2.2.1 0), .int a1, .int a2] (sw_V Γ A ξ g μ)) (sw_Qi Γ A ξ res.2 μ res.1 (sw_wf ξ res.2.2.2)) 0 0 A := by
  refine Met.ofW (cc := prog_1_method_49_code) (maxL := 4) (ret := some .int) (by decide) rfl ?_
  intro p e s m args below meth c s₁ B hml hv
  obtain ⟨rfl, hv⟩ := hv
  have S : CallFix p m c prog_1_method_49_code 4 s _ (Cond.code ySx_pads prog_1_method_49_code 4 (some .int) :: sw_tb) R_Sx := ⟨B.exec, B.bytes, hml, findClass_of_methodNamed B.named, atoms_spec (ws := (Cond.code ySx_pads prog_1_method_49_code 4 (some .int) :: sw_tb)) B.pre⟩
  have hr := B.returns
  have hlk := B.notSynchronized
  have hw := sw_begin hv
  have hl := lv_entry [.ref (ξ.2.2.2.1 0), .int a1, .int a2] (n := 4) (Nat.le_of_ble_eq_true rfl)
  rw [lg_entry_eq]
  generalize (lg_sl [.ref (ξ.2.2.2.1 0), .int a1, .int a2] ++ List.replicate (4 - (lg_sl [.ref (ξ.2.2.2.1 0), .int a1, .int a2]).length) Slot.unset).toArray = ls at hl ⊢
  have hl : lv_has ls 4 [(0, .ref (ξ.2.2.2.1 0)), (1, .int a1), (2, .int a2)] := hl
  unfold fSx_pads at hm
  refine lv_iload_n S.1 S.2.1 dSx_pads_0 rfl (lv_at hl 2 rfl) ?_
  obtain ⟨v2, h1, hm⟩ := ob hm
  refine sw_Si (rest := []) S hw (cSx_canBeHeavy l  hf a2 h1) kSx_canBeHeavy wm_Sx_336 rfl rfl hl.1 (Nat.le_of_ble_eq_true rfl) ⟨rfl, rfl, Nat.le_of_ble_eq_true rfl, Nat.le_of_ble_eq_true rfl⟩ ⟨Nat.le_of_ble_eq_true rfl, Nat.le_of_ble_eq_true rfl⟩ dSx_pads_1 (fun H locs hw _ => ?_)
  refine bif_ne (tgt := 9) S.1 S.2.1 hm dSx_pads_4 (by decide) (fun hm => ?_) (fun hm => ?_)
  · refine lv_aload_n S.1 S.2.1 dSx_pads_9 rfl (lv_at hl 0 rfl) ?_
    refine get_Sx (v := .ref (ξ.2.2.2.1 1)) S hw (is_0 hf) 0 (by decide) rfl wf_Sx_12 dSx_pads_10 ?_
    refine lv_iload_n S.1 S.2.1 dSx_pads_13 rfl (lv_at hl 1 rfl) ?_
    obtain ⟨⟨v5, g4⟩, h3, hm⟩ := ob hm
    refine sw_Vi (q := 1) (rest := []) S hw (cPl_hasClaim l  hf 1 (is_1 hf) a1 h3) kPl_hasClaim wm_Sx_102 (is_1 hf).1 (e_Pl (is_1 hf)) rfl rfl rfl rfl hl.1 (Nat.le_of_ble_eq_true rfl) ⟨rfl, rfl, Nat.le_of_ble_eq_true rfl, Nat.le_of_ble_eq_true rfl⟩ ⟨Nat.le_of_ble_eq_true rfl, Nat.le_of_ble_eq_true rfl⟩ dSx_pads_14 (fun H locs hw hf => ?_)
    refine bif_ne (tgt := 23) S.1 S.2.1 hm dSx_pads_17 (by decide) (fun hm => ?_) (fun hm => ?_)
    · refine lv_aload_n S.1 S.2.1 dSx_pads_23 rfl (lv_at hl 0 rfl) ?_
      refine get_Sx (v := .ref (ξ.2.2.2.1 1)) S hw (is_0 hf) 0 (by decide) rfl wf_Sx_12 dSx_pads_24 ?_
      refine get_Pl (v := .ref (ξ.2.2.2.1 2)) S hw (is_1 hf) 1 (by decide) rfl wf_Sx_109 dSx_pads_27 ?_
      refine lv_iload_n S.1 S.2.1 dSx_pads_30 rfl (lv_at hl 1 rfl) ?_
      refine sx_iald S hw (is_2 hf) hm dSx_pads_31 (fun v6 hm => ?_)
      refine lv_istore_n (lv' := [(3, .int v6), (0, .ref (ξ.2.2.2.1 0)), (1, .int a1), (2, .int a2)]) S.1 S.2.1 dSx_pads_32 rfl hl (by decide) rfl (fun ls hl => ?_)
      refine lv_iload_n S.1 S.2.1 dSx_pads_33 rfl (lv_at hl 0 rfl) ?_
      refine lv_iload_n S.1 S.2.1 dSx_pads_34 rfl (lv_at hl 3 rfl) ?_
      refine bicmp_ne (tgt := 41) S.1 S.2.1 hm dSx_pads_35 (by decide) (fun hm => ?_) (fun hm => ?_)
      · refine lv_aload_n S.1 S.2.1 dSx_pads_41 rfl (lv_at hl 1 rfl) ?_
        refine get_Sx (v := .ref (ξ.2.2.2.1 29)) S hw (is_0 hf) 4 (by decide) rfl wf_Sx_29 dSx_pads_42 ?_
        refine lv_iconst (v := (2 : Int32)) S.1 S.2.1 dSx_pads_45 (by decide) ?_
        refine lv_aload_n S.1 S.2.1 dSx_pads_46 rfl (lv_at hl 1 rfl) ?_
        refine get_Sx (v := .ref (ξ.2.2.2.1 1)) S hw (is_0 hf) 0 (by decide) rfl wf_Sx_12 dSx_pads_47 ?_
        obtain ⟨g8, h7, hm⟩ := ob hm
        refine sw_Vv (q := 29) (rest := []) S hw (cHi_keep l  hf 29 1 (is_29 hf) (is_30 hf) (is_1 hf) (2 : Int32) h7) kHi_keep wm_Sx_342 (is_29 hf).1 (e_Hi (is_29 hf)) rfl rfl rfl rfl hl.1 (Nat.le_of_ble_eq_true rfl) ⟨rfl, rfl, Nat.le_of_ble_eq_true rfl, Nat.le_of_ble_eq_true rfl⟩ ⟨Nat.le_of_ble_eq_true rfl, Nat.le_of_ble_eq_true rfl⟩ dSx_pads_50 (fun H locs hw hf => ?_)
        refine lv_aload_n S.1 S.2.1 dSx_pads_53 rfl (lv_at hl 1 rfl) ?_
        refine get_Sx (v := .ref (ξ.2.2.2.1 1)) S hw (is_0 hf) 0 (by decide) rfl wf_Sx_12 dSx_pads_54 ?_
        refine get_Pl (v := .ref (ξ.2.2.2.1 2)) S hw (is_1 hf) 1 (by decide) rfl wf_Sx_109 dSx_pads_57 ?_
        refine lv_iload_n S.1 S.2.1 dSx_pads_60 rfl (lv_at hl 2 rfl) ?_
        refine lv_iload_n S.1 S.2.1 dSx_pads_61 rfl (lv_at hl 3 rfl) ?_
        refine sx_iast S hw hf (is_2 hf) hm dSx_pads_62 (fun g9 H locs hf hm hw => ?_)
        refine lv_iload_n S.1 S.2.1 dSx_pads_63 rfl (lv_at hl 0 rfl) ?_
        obtain rfl := Option.some.inj hm
        exact sw_iret S hr hlk hw hf dSx_pads_64
      · refine lv_bipush (v := (-3 : Int32)) S.1 S.2.1 dSx_pads_38 (by decide) ?_
        obtain rfl := Option.some.inj hm
        exact sw_iret S hr hlk hw hf dSx_pads_40
    · refine lv_bipush (v := (-2 : Int32)) S.1 S.2.1 dSx_pads_20 (by decide) ?_
      obtain rfl := Option.some.inj hm
      exact sw_iret S hr hlk hw hf dSx_pads_22
  · refine lv_iconst (v := (-1 : Int32)) S.1 S.2.1 dSx_pads_7 (by decide) ?_
    obtain rfl := Option.some.inj hm
    exact sw_iret S hr hlk hw hf dSx_pads_8
set_option maxHeartbeats 4000000 in
set_option maxRecDepth 100000 in
theorem cSx_isLevel (l : Launch) {Γ : sw_C} {A : Nat → Prop} {ξ : sw_x} {g : sw_g} {μ : sw_m} (hf : sw_wf ξ g.2.2) (a1 : Int32) {res : Int32 × sw_g} (hm : fSx_isLevel ξ.2.2.1 g a1 = some res) : Met l ySx_isLevel (Cond.code ySx_isLevel prog_1_method_55_code 2 (some .boolean) :: sw_tb) rmSx_isLevel (va_Pc [.ref (ξ.2.2.2.1 0), .int a1] (sw_V Γ A ξ g μ)) (sw_Qi Γ A ξ res.2 μ res.1 (sw_wf ξ res.2.2.2)) 0 0 A := by
  refine Met.ofW (cc := prog_1_method_55_code) (maxL := 2) (ret := some .boolean) (by decide) rfl ?_
  intro p e s m args below meth c s₁ B hml hv
  obtain ⟨rfl, hv⟩ := hv
  have S : CallFix p m c prog_1_method_55_code 2 s _ (Cond.code ySx_isLevel prog_1_method_55_code 2 (some .boolean) :: sw_tb) R_Sx := ⟨B.exec, B.bytes, hml, findClass_of_methodNamed B.named, atoms_spec (ws := (Cond.code ySx_isLevel prog_1_method_55_code 2 (some .boolean) :: sw_tb)) B.pre⟩
  have hr := B.returns
  have hlk := B.notSynchronized
  have hw := sw_begin hv
  have hl := lv_entry [.ref (ξ.2.2.2.1 0), .int a1] (n := 2) (Nat.le_of_ble_eq_true rfl)
  rw [lg_entry_eq]
  generalize (lg_sl [.ref (ξ.2.2.2.1 0), .int a1] ++ List.replicate (2 - (lg_sl [.ref (ξ.2.2.2.1 0), .int a1]).length) Slot.unset).toArray = ls at hl ⊢
  have hl : lv_has ls 2 [(0, .ref (ξ.2.2.2.1 0)), (1, .int a1)] := hl
  unfold fSx_isLevel at hm
  refine lv_iload_n S.1 S.2.1 dSx_isLevel_0 rfl (lv_at hl 1 rfl) ?_
  refine sw_abs (rest := []) S hl.1 wm_Sx_138 (Nat.le_of_ble_eq_true rfl) (Nat.le_of_ble_eq_true rfl) (Nat.le_of_ble_eq_true rfl) (Nat.le_of_ble_eq_true rfl) dSx_isLevel_1 ?_
  refine lv_aload_n S.1 S.2.1 dSx_isLevel_4 rfl (lv_at hl 0 rfl) ?_
  refine get_Sx (v := .ref (ξ.2.2.2.1 1)) S hw (is_0 hf) 0 (by decide) rfl wf_Sx_12 dSx_isLevel_5 ?_
  refine get_Pl (v := .ref (ξ.2.2.2.1 5)) S hw (is_1 hf) 4 (by decide) rfl wf_Sx_153 dSx_isLevel_8 ?_
  refine lv_iconst (v := (3 : Int32)) S.1 S.2.1 dSx_isLevel_11 (by decide) ?_
  refine sx_iald S hw (is_5 hf) hm dSx_isLevel_12 (fun v1 hm => ?_)
  refine bicmp_gt (tgt := 20) S.1 S.2.1 hm dSx_isLevel_13 (by decide) (fun hm => ?_) (fun hm => ?_)
  · refine lv_iconst (v := (0 : Int32)) S.1 S.2.1 dSx_isLevel_20 (by decide) ?_
    obtain rfl := Option.some.inj hm
    exact sw_zret S hr hlk (Or.inl rfl) hw hf dSx_isLevel_21
  · refine lv_iconst (v := (1 : Int32)) S.1 S.2.1 dSx_isLevel_16 (by decide) ?_
    refine lv_goto (tgt := 21) S.1 S.2.1 dSx_isLevel_17 (by decide) ?_
    obtain rfl := Option.some.inj hm
    exact sw_zret S hr hlk (Or.inr rfl) hw hf dSx_isLevel_21
set_option maxHeartbeats 4000000 in
set_option maxRecDepth 100000 in
theorem wSx_sumWith_7 {l : Launch} {p : Program} {e : Env} {s : State} {m : MethodId} {args : Array Value} {below : List Frame} {meth : Method} {c : Code} {Γ : sw_C} {A : Nat → Prop} {ξ : sw_x} {μ : sw_m} {res : sw_g} (S : CallFix p m c prog_1_method_64_code 5 s args (Cond.code ySx_sumWith prog_1_method_64_code 5 (none) :: sw_tb) R_Sx) (hr : meth.sig.returnType = none) (hlk : meth.locks = false) (N : Nat) : ∀ (fu : Nat) (g : sw_g) (u2 : Int32) (u3 : Int32) (u4 : Int32) (H : Heap) (locs : List Loc) (ls : Array Slot), fSx_sumWith_7 N ξ.2.2.1  fu g u2 u3 u4 = some res → sw_S Γ A ξ g μ s H locs → sw_wf ξ g.2.2 → lv_has ls 5 [(0, .ref (ξ.2.2.2.1 0)), (2, .int u2), (3, .int u3), (4, .int u4)] → W p l e (headSpec (Cond.code ySx_sumWith prog_1_method_64_code 5 (none) :: sw_tb) rmSx_sumWith).room s m args below meth c H locs 0 0 (MQ below (sw_Qv Γ A ξ res μ (sw_wf ξ res.2.2)) args s 0 0 A) (F0 m 7 ls []) := by
  intro fu
  induction fu with
  | zero => intro g u2 u3 u4 H locs ls hm; rw [fSx_sumWith_7.eq_1] at hm; cases hm
  | succ fu ih =>
    intro g u2 u3 u4 H locs ls hm hw hf hl
    rw [fSx_sumWith_7.eq_2] at hm
    refine lv_iload S.1 S.2.1 dSx_sumWith_7 (lv_at hl 3 rfl) ?_
    refine lv_iload_n S.1 S.2.1 dSx_sumWith_9 rfl (lv_at hl 2 rfl) ?_
    refine bicmp_ge (tgt := 37) S.1 S.2.1 hm dSx_sumWith_10 (by decide) (fun hm => ?_) (fun hm => ?_)
    · obtain rfl := Option.some.inj hm
      exact sw_vret S hr hlk hw hf dSx_sumWith_37
    · refine lv_aload_n S.1 S.2.1 dSx_sumWith_13 rfl (lv_at hl 0 rfl) ?_
      refine get_Sx (v := .ref (ξ.2.2.2.1 81)) S hw (is_0 hf) 11 (by decide) rfl wf_Sx_68 dSx_sumWith_14 ?_
      refine lv_iload_n S.1 S.2.1 dSx_sumWith_17 rfl (lv_at hl 2 rfl) ?_
      refine lv_iload S.1 S.2.1 dSx_sumWith_18 (lv_at hl 3 rfl) ?_
      refine lv_iadd S.1 S.2.1 dSx_sumWith_20 ?_
      refine lv_aload_n S.1 S.2.1 dSx_sumWith_21 rfl (lv_at hl 0 rfl) ?_
      refine get_Sx (v := .ref (ξ.2.2.2.1 81)) S hw (is_0 hf) 11 (by decide) rfl wf_Sx_68 dSx_sumWith_22 ?_
      refine lv_iload S.1 S.2.1 dSx_sumWith_25 (lv_at hl 3 rfl) ?_
      refine sx_iald S hw (is_81 hf) hm dSx_sumWith_27 (fun v2 hm => ?_)
      refine lv_iload_n S.1 S.2.1 dSx_sumWith_28 rfl (lv_at hl 1 rfl) ?_
      refine lv_iadd S.1 S.2.1 dSx_sumWith_29 ?_
      refine sx_iast S hw hf (is_81 hf) hm dSx_sumWith_30 (fun g3 H locs hf hm hw => ?_)
      obtain ⟨x4, ex4, hm⟩ := nm_x hm
      refine lv_iinc (v := x4) (lv' := [(4, .int x4), (0, .ref (ξ.2.2.2.1 0)), (2, .int u2), (3, .int u3)]) S.1 S.2.1 dSx_sumWith_31 hl (k := 3) rfl (by rw [ex4]; rfl) (by decide) rfl (fun ls hl => ?_)
      refine lv_goto (tgt := 7) S.1 S.2.1 dSx_sumWith_34 (by decide) ?_
      exact ih g3 u2 u3 x4 _ _ _ hm hw hf (lv_sub hl [1, 2, 3, 0] rfl)
set_option maxHeartbeats 4000000 in
set_option maxRecDepth 100000 in
theorem cSx_sumWith (l : Launch) (N : Nat) {Γ : sw_C} {A : Nat → Prop} {ξ : sw_x} {g : sw_g} {μ : sw_m} (hf : sw_wf ξ g.2.2) (a1 : Int32) (a2 : Int32) {res : sw_g} (hm : fSx_sumWith N ξ.2.2.1 g a1 a2 = some res) : Met l ySx_sumWith (Cond.code ySx_sumWith prog_1_method_64_code 5 (none) :: sw_tb) rmSx_sumWith (va_Pc [.ref (ξ.2.2.2.1 0), .int a1, .int a2] (sw_V Γ A ξ g μ)) (sw_Qv Γ A ξ res μ (sw_wf ξ res.2.2)) 0 0 A := by
  refine Met.ofW (cc := prog_1_method_64_code) (maxL := 5) (ret := none) (by decide) rfl ?_
  intro p e s m args below meth c s₁ B hml hv
  obtain ⟨rfl, hv⟩ := hv
  have S : CallFix p m c prog_1_method_64_code 5 s _ (Cond.code ySx_sumWith prog_1_method_64_code 5 (none) :: sw_tb) R_Sx := ⟨B.exec, B.bytes, hml, findClass_of_methodNamed B.named, atoms_spec (ws := (Cond.code ySx_sumWith prog_1_method_64_code 5 (none) :: sw_tb)) B.pre⟩
  have hr := B.returns
  have hlk := B.notSynchronized
  have hw := sw_begin hv
  have hl := lv_entry [.ref (ξ.2.2.2.1 0), .int a1, .int a2] (n := 5) (Nat.le_of_ble_eq_true rfl)
  rw [lg_entry_eq]
  generalize (lg_sl [.ref (ξ.2.2.2.1 0), .int a1, .int a2] ++ List.replicate (5 - (lg_sl [.ref (ξ.2.2.2.1 0), .int a1, .int a2]).length) Slot.unset).toArray = ls at hl ⊢
  have hl : lv_has ls 5 [(0, .ref (ξ.2.2.2.1 0)), (1, .int a1), (2, .int a2)] := hl
  unfold fSx_sumWith at hm
  refine lv_iconst (v := (1 : Int32)) S.1 S.2.1 dSx_sumWith_0 (by decide) ?_
  refine lv_iload_n S.1 S.2.1 dSx_sumWith_1 rfl (lv_at hl 1 rfl) ?_
  refine lv_ishl S.1 S.2.1 dSx_sumWith_2 ?_
  refine nm_i hm (fun x1 hm => ?_)
  refine lv_istore_n (lv' := [(3, .int x1), (0, .ref (ξ.2.2.2.1 0)), (1, .int a1), (2, .int a2)]) S.1 S.2.1 dSx_sumWith_3 rfl hl (by decide) rfl (fun ls hl => ?_)
  refine lv_iconst (v := (0 : Int32)) S.1 S.2.1 dSx_sumWith_4 (by decide) ?_
  refine lv_istore (lv' := [(4, .int (0 : Int32)), (3, .int x1), (0, .ref (ξ.2.2.2.1 0)), (1, .int a1), (2, .int a2)]) S.1 S.2.1 dSx_sumWith_5 hl (by decide) rfl (fun ls hl => ?_)
  exact wSx_sumWith_7 S hr hlk N  N g a2 x1 (0 : Int32) _ _ _ hm hw hf (lv_sub hl [2, 4, 1, 0] rfl)
set_option maxHeartbeats 4000000 in
set_option maxRecDepth 100000 in
theorem cSx_canTake (l : Launch) {Γ : sw_C} {A : Nat → Prop} {ξ : sw_x} {g : sw_g} {μ : sw_m} (hf : sw_wf ξ g.2.2) (a1 : Int32) (a2 : Int32) {res : Int32 × sw_g} (hm : fSx_canTake ξ.2.2.1 g a1 a2 = some res) : Met l ySx_canTake (Cond.code ySx_canTake prog_1_method_65_code 4 (some .boolean) :: sw_tb) rmSx_canTake (va_Pc [.ref (ξ.2.2.2.1 0), .int a1, .int a2] (sw_V Γ A ξ g μ)) (sw_Qi Γ A ξ res.2 μ res.1 (sw_wf ξ res.2.2.2)) 0 0 A := by
  refine Met.ofW (cc := prog_1_method_65_code) (maxL := 4) (ret := some .boolean) (by decide) rfl ?_
  intro p e s m args below meth c s₁ B hml hv
  obtain ⟨rfl, hv⟩ := hv
  have S : CallFix p m c prog_1_method_65_code 4 s _ (Cond.code ySx_canTake prog_1_method_65_code 4 (some .boolean) :: sw_tb) R_Sx := ⟨B.exec, B.bytes, hml, findClass_of_methodNamed B.named, atoms_spec (ws := (Cond.code ySx_canTake prog_1_method_65_code 4 (some .boolean) :: sw_tb)) B.pre⟩
  have hr := B.returns
  have hlk := B.notSynchronized
  have hw := sw_begin hv
  have hl := lv_entry [.ref (ξ.2.2.2.1 0), .int a1, .int a2] (n := 4) (Nat.le_of_ble_eq_true rfl)
  rw [lg_entry_eq]
  generalize (lg_sl [.ref (ξ.2.2.2.1 0), .int a1, .int a2] ++ List.replicate (4 - (lg_sl [.ref (ξ.2.2.2.1 0), .int a1, .int a2]).length) Slot.unset).toArray = ls at hl ⊢
  have hl : lv_has ls 4 [(0, .ref (ξ.2.2.2.1 0)), (1, .int a1), (2, .int a2)] := hl
  unfold fSx_canTake at hm
  refine lv_iconst (v := (1 : Int32)) S.1 S.2.1 dSx_canTake_0 (by decide) ?_
  refine lv_iload_n S.1 S.2.1 dSx_canTake_1 rfl (lv_at hl 2 rfl) ?_
  refine lv_ishl S.1 S.2.1 dSx_canTake_2 ?_
  refine nm_i hm (fun x1 hm => ?_)
  refine lv_istore_n (lv' := [(3, .int x1), (0, .ref (ξ.2.2.2.1 0)), (1, .int a1), (2, .int a2)]) S.1 S.2.1 dSx_canTake_3 rfl hl (by decide) rfl (fun ls hl => ?_)
  refine lv_iload_n S.1 S.2.1 dSx_canTake_4 rfl (lv_at hl 2 rfl) ?_
  refine lv_iload_n S.1 S.2.1 dSx_canTake_5 rfl (lv_at hl 0 rfl) ?_
  refine lv_iand S.1 S.2.1 dSx_canTake_6 ?_
  refine bif_eq (tgt := 29) S.1 S.2.1 hm dSx_canTake_7 (by decide) (fun hm => ?_) (fun hm => ?_)
  · refine lv_iconst (v := (0 : Int32)) S.1 S.2.1 dSx_canTake_29 (by decide) ?_
    obtain rfl := Option.some.inj hm
    exact sw_zret S hr hlk (Or.inl rfl) hw hf dSx_canTake_30
  · refine lv_aload_n S.1 S.2.1 dSx_canTake_10 rfl (lv_at hl 1 rfl) ?_
    refine lv_aload_n S.1 S.2.1 dSx_canTake_11 rfl (lv_at hl 1 rfl) ?_
    refine get_Sx (v := .ref (ξ.2.2.2.1 81)) S hw (is_0 hf) 11 (by decide) rfl wf_Sx_68 dSx_canTake_12 ?_
    refine lv_iload_n S.1 S.2.1 dSx_canTake_15 rfl (lv_at hl 2 rfl) ?_
    refine lv_iload_n S.1 S.2.1 dSx_canTake_16 rfl (lv_at hl 0 rfl) ?_
    refine lv_isub S.1 S.2.1 dSx_canTake_17 ?_
    refine sx_iald S hw (is_81 hf) hm dSx_canTake_18 (fun v2 hm => ?_)
    obtain ⟨⟨v5, g4⟩, h3, hm⟩ := ob hm
    refine sw_Vi (q := 0) (rest := []) S hw (cSx_isLevel l  hf v2 h3) kSx_isLevel wm_Sx_147 (is_0 hf).1 (e_Sx (is_0 hf)) rfl rfl rfl rfl hl.1 (Nat.le_of_ble_eq_true rfl) ⟨rfl, rfl, Nat.le_of_ble_eq_true rfl, Nat.le_of_ble_eq_true rfl⟩ ⟨Nat.le_of_ble_eq_true rfl, Nat.le_of_ble_eq_true rfl⟩ dSx_canTake_19 (fun H locs hw hf => ?_)
    refine bif_eq (tgt := 29) S.1 S.2.1 hm dSx_canTake_22 (by decide) (fun hm => ?_) (fun hm => ?_)
    · refine lv_iconst (v := (0 : Int32)) S.1 S.2.1 dSx_canTake_29 (by decide) ?_
      obtain rfl := Option.some.inj hm
      exact sw_zret S hr hlk (Or.inl rfl) hw hf dSx_canTake_30
    · refine lv_iconst (v := (1 : Int32)) S.1 S.2.1 dSx_canTake_25 (by decide) ?_
      refine lv_goto (tgt := 30) S.1 S.2.1 dSx_canTake_26 (by decide) ?_
      obtain rfl := Option.some.inj hm
      exact sw_zret S hr hlk (Or.inr rfl) hw hf dSx_canTake_30
set_option maxHeartbeats 4000000 in
set_option maxRecDepth 100000 in
theorem wSx_findOrders_19 {l : Launch} {p : Program} {e : Env} {s : State} {m : MethodId} {args : Array Value} {below : List Frame} {meth : Method} {c : Code} {Γ : sw_C} {A : Nat → Prop} {ξ : sw_x} {μ : sw_m} {res : sw_g} (S : CallFix p m c prog_1_method_66_code 5 s args (Cond.code ySx_findOrders prog_1_method_66_code 5 (none) :: sw_tb) R_Sx) (hr : meth.sig.returnType = none) (hlk : meth.locks = false) (N : Nat) (k9 : sw_g → Int32 → Int32 → Option (sw_g)) (hk9 : ∀ (g : sw_g) (u1 : Int32) (u2 : Int32) (H : Heap) (locs : List Loc) (ls : Array Slot), k9 g u1 u2 = some res → sw_S Γ A ξ g μ s H locs → sw_wf ξ g.2.2 → lv_has ls 5 [(0, .ref (ξ.2.2.2.1 0)), (1, .int u1), (2, .int u2)] → W p l e (headSpec (Cond.code ySx_findOrders prog_1_method_66_code 5 (none) :: sw_tb) rmSx_findOrders).room s m args below meth c H locs 0 0 (MQ below (sw_Qv Γ A ξ res μ (sw_wf ξ res.2.2)) args s 0 0 A) (F0 m 9 ls [])) : ∀ (fu : Nat) (g : sw_g) (u1 : Int32) (u2 : Int32) (u3 : Int32) (u4 : Int32) (H : Heap) (locs : List Loc) (ls : Array Slot), fSx_findOrders_19 N ξ.2.2.1 k9 fu g u1 u2 u3 u4 = some res → sw_S Γ A ξ g μ s H locs → sw_wf ξ g.2.2 → lv_has ls 5 [(0, .ref (ξ.2.2.2.1 0)), (1, .int u1), (2, .int u2), (3, .int u3), (4, .int u4)] → W p l e (headSpec (Cond.code ySx_findOrders prog_1_method_66_code 5 (none) :: sw_tb) rmSx_findOrders).room s m args below meth c H locs 0 0 (MQ below (sw_Qv Γ A ξ res μ (sw_wf ξ res.2.2)) args s 0 0 A) (F0 m 19 ls []) := by
  intro fu
  induction fu with
  | zero => intro g u1 u2 u3 u4 H locs ls hm; rw [fSx_findOrders_19.eq_1] at hm; cases hm
  | succ fu ih =>
    intro g u1 u2 u3 u4 H locs ls hm hw hf hl
    rw [fSx_findOrders_19.eq_2] at hm
    refine lv_iload S.1 S.2.1 dSx_findOrders_19 (lv_at hl 4 rfl) ?_
    refine lv_bipush (v := (7 : Int32)) S.1 S.2.1 dSx_findOrders_21 (by decide) ?_
    refine bicmp_ge (tgt := 56) S.1 S.2.1 hm dSx_findOrders_23 (by decide) (fun hm => ?_) (fun hm => ?_)
    · refine lv_aload_n S.1 S.2.1 dSx_findOrders_56 rfl (lv_at hl 0 rfl) ?_
      refine get_Sx (v := .ref (ξ.2.2.2.1 82)) S hw (is_0 hf) 12 (by decide) rfl wf_Sx_71 dSx_findOrders_57 ?_
      refine lv_iload_n S.1 S.2.1 dSx_findOrders_60 rfl (lv_at hl 2 rfl) ?_
      refine lv_iload_n S.1 S.2.1 dSx_findOrders_61 rfl (lv_at hl 3 rfl) ?_
      refine sx_iast S hw hf (is_82 hf) hm dSx_findOrders_62 (fun g2 H locs hf hm hw => ?_)
      obtain ⟨x3, ex3, hm⟩ := nm_x hm
      refine lv_iinc (v := x3) (lv' := [(2, .int x3), (0, .ref (ξ.2.2.2.1 0)), (1, .int u1), (3, .int u3), (4, .int u4)]) S.1 S.2.1 dSx_findOrders_63 hl (k := 2) rfl (by rw [ex3]; rfl) (by decide) rfl (fun ls hl => ?_)
      refine lv_goto (tgt := 9) S.1 S.2.1 dSx_findOrders_66 (by decide) ?_
      exact hk9 g2 u1 x3 _ _ _ hm hw hf (lv_sub hl [1, 2, 0] rfl)
    · refine lv_aload_n S.1 S.2.1 dSx_findOrders_26 rfl (lv_at hl 0 rfl) ?_
      refine lv_iload_n S.1 S.2.1 dSx_findOrders_27 rfl (lv_at hl 2 rfl) ?_
      refine lv_iload S.1 S.2.1 dSx_findOrders_28 (lv_at hl 4 rfl) ?_
      obtain ⟨⟨v6, g5⟩, h4, hm⟩ := ob hm
      refine sw_Vi (q := 0) (rest := []) S hw (cSx_canTake l  hf u2 u4 h4) kSx_canTake wm_Sx_378 (is_0 hf).1 (e_Sx (is_0 hf)) rfl rfl rfl rfl hl.1 (Nat.le_of_ble_eq_true rfl) ⟨rfl, rfl, Nat.le_of_ble_eq_true rfl, Nat.le_of_ble_eq_true rfl⟩ ⟨Nat.le_of_ble_eq_true rfl, Nat.le_of_ble_eq_true rfl⟩ dSx_findOrders_30 (fun H locs hw hf => ?_)
      refine bif_eq (tgt := 50) S.1 S.2.1 hm dSx_findOrders_33 (by decide) (fun hm => ?_) (fun hm => ?_)
      · obtain ⟨x7, ex7, hm⟩ := nm_x hm
        refine lv_iinc (v := x7) (lv' := [(4, .int x7), (0, .ref (ξ.2.2.2.1 0)), (1, .int u1), (2, .int u2), (3, .int u3)]) S.1 S.2.1 dSx_findOrders_50 hl (k := 4) rfl (by rw [ex7]; rfl) (by decide) rfl (fun ls hl => ?_)
        refine lv_goto (tgt := 19) S.1 S.2.1 dSx_findOrders_53 (by decide) ?_
        exact ih g5 u1 u2 u3 x7 _ _ _ hm hw hf (lv_sub hl [1, 2, 3, 4, 0] rfl)
      · refine lv_iload_n S.1 S.2.1 dSx_findOrders_36 rfl (lv_at hl 3 rfl) ?_
        refine lv_aload_n S.1 S.2.1 dSx_findOrders_37 rfl (lv_at hl 0 rfl) ?_
        refine get_Sx (v := .ref (ξ.2.2.2.1 82)) S hw (is_0 hf) 12 (by decide) rfl wf_Sx_71 dSx_findOrders_38 ?_
        refine lv_iload_n S.1 S.2.1 dSx_findOrders_41 rfl (lv_at hl 2 rfl) ?_
        refine lv_iconst (v := (1 : Int32)) S.1 S.2.1 dSx_findOrders_42 (by decide) ?_
        refine lv_iload S.1 S.2.1 dSx_findOrders_43 (lv_at hl 4 rfl) ?_
        refine lv_ishl S.1 S.2.1 dSx_findOrders_45 ?_
        refine lv_isub S.1 S.2.1 dSx_findOrders_46 ?_
        refine sx_iald S hw (is_82 hf) hm dSx_findOrders_47 (fun v8 hm => ?_)
        refine lv_iadd S.1 S.2.1 dSx_findOrders_48 ?_
        refine nm_i hm (fun x9 hm => ?_)
        refine lv_istore_n (lv' := [(3, .int x9), (0, .ref (ξ.2.2.2.1 0)), (1, .int u1), (2, .int u2), (4, .int u4)]) S.1 S.2.1 dSx_findOrders_49 rfl hl (by decide) rfl (fun ls hl => ?_)
        obtain ⟨x10, ex10, hm⟩ := nm_x hm
        refine lv_iinc (v := x10) (lv' := [(4, .int x10), (3, .int x9), (0, .ref (ξ.2.2.2.1 0)), (1, .int u1), (2, .int u2)]) S.1 S.2.1 dSx_findOrders_50 hl (k := 4) rfl (by rw [ex10]; rfl) (by decide) rfl (fun ls hl => ?_)
        refine lv_goto (tgt := 19) S.1 S.2.1 dSx_findOrders_53 (by decide) ?_
        exact ih g5 u1 u2 x9 x10 _ _ _ hm hw hf (lv_sub hl [2, 3, 4, 1, 0] rfl)
set_option maxHeartbeats 4000000 in
set_option maxRecDepth 100000 in
theorem wSx_findOrders_9 {l : Launch} {p : Program} {e : Env} {s : State} {m : MethodId} {args : Array Value} {below : List Frame} {meth : Method} {c : Code} {Γ : sw_C} {A : Nat → Prop} {ξ : sw_x} {μ : sw_m} {res : sw_g} (S : CallFix p m c prog_1_method_66_code 5 s args (Cond.code ySx_findOrders prog_1_method_66_code 5 (none) :: sw_tb) R_Sx) (hr : meth.sig.returnType = none) (hlk : meth.locks = false) (N : Nat) : ∀ (fu : Nat) (g : sw_g) (u1 : Int32) (u2 : Int32) (H : Heap) (locs : List Loc) (ls : Array Slot), fSx_findOrders_9 N ξ.2.2.1  fu g u1 u2 = some res → sw_S Γ A ξ g μ s H locs → sw_wf ξ g.2.2 → lv_has ls 5 [(0, .ref (ξ.2.2.2.1 0)), (1, .int u1), (2, .int u2)] → W p l e (headSpec (Cond.code ySx_findOrders prog_1_method_66_code 5 (none) :: sw_tb) rmSx_findOrders).room s m args below meth c H locs 0 0 (MQ below (sw_Qv Γ A ξ res μ (sw_wf ξ res.2.2)) args s 0 0 A) (F0 m 9 ls []) := by
  intro fu
  induction fu with
  | zero => intro g u1 u2 H locs ls hm; rw [fSx_findOrders_9.eq_1] at hm; cases hm
  | succ fu ih =>
    intro g u1 u2 H locs ls hm hw hf hl
    rw [fSx_findOrders_9.eq_2] at hm
    refine lv_iload_n S.1 S.2.1 dSx_findOrders_9 rfl (lv_at hl 2 rfl) ?_
    refine lv_iload_n S.1 S.2.1 dSx_findOrders_10 rfl (lv_at hl 1 rfl) ?_
    refine bicmp_gt (tgt := 69) S.1 S.2.1 hm dSx_findOrders_11 (by decide) (fun hm => ?_) (fun hm => ?_)
    · obtain rfl := Option.some.inj hm
      exact sw_vret S hr hlk hw hf dSx_findOrders_69
    · refine lv_iconst (v := (0 : Int32)) S.1 S.2.1 dSx_findOrders_14 (by decide) ?_
      refine lv_istore_n (lv' := [(3, .int (0 : Int32)), (0, .ref (ξ.2.2.2.1 0)), (1, .int u1), (2, .int u2)]) S.1 S.2.1 dSx_findOrders_15 rfl hl (by decide) rfl (fun ls hl => ?_)
      refine lv_iconst (v := (0 : Int32)) S.1 S.2.1 dSx_findOrders_16 (by decide) ?_
      refine lv_istore (lv' := [(4, .int (0 : Int32)), (3, .int (0 : Int32)), (0, .ref (ξ.2.2.2.1 0)), (1, .int u1), (2, .int u2)]) S.1 S.2.1 dSx_findOrders_17 hl (by decide) rfl (fun ls hl => ?_)
      exact wSx_findOrders_19 S hr hlk N (fSx_findOrders_9 N ξ.2.2.1  fu) ih N g u1 u2 (0 : Int32) (0 : Int32) _ _ _ hm hw hf (lv_sub hl [2, 3, 4, 1, 0] rfl)
set_option maxHeartbeats 4000000 in
set_option maxRecDepth 100000 in
theorem cSx_findOrders (l : Launch) (N : Nat) {Γ : sw_C} {A : Nat → Prop} {ξ : sw_x} {g : sw_g} {μ : sw_m} (hf : sw_wf ξ g.2.2) (a1 : Int32) {res : sw_g} (hm : fSx_findOrders N ξ.2.2.1 g a1 = some res) : Met l ySx_findOrders (Cond.code ySx_findOrders prog_1_method_66_code 5 (none) :: sw_tb) rmSx_findOrders (va_Pc [.ref (ξ.2.2.2.1 0), .int a1] (sw_V Γ A ξ g μ)) (sw_Qv Γ A ξ res μ (sw_wf ξ res.2.2)) 0 0 A := by
  refine Met.ofW (cc := prog_1_method_66_code) (maxL := 5) (ret := none) (by decide) rfl ?_
  intro p e s m args below meth c s₁ B hml hv
  obtain ⟨rfl, hv⟩ := hv
  have S : CallFix p m c prog_1_method_66_code 5 s _ (Cond.code ySx_findOrders prog_1_method_66_code 5 (none) :: sw_tb) R_Sx := ⟨B.exec, B.bytes, hml, findClass_of_methodNamed B.named, atoms_spec (ws := (Cond.code ySx_findOrders prog_1_method_66_code 5 (none) :: sw_tb)) B.pre⟩
  have hr := B.returns
  have hlk := B.notSynchronized
  have hw := sw_begin hv
  have hl := lv_entry [.ref (ξ.2.2.2.1 0), .int a1] (n := 5) (Nat.le_of_ble_eq_true rfl)
  rw [lg_entry_eq]
  generalize (lg_sl [.ref (ξ.2.2.2.1 0), .int a1] ++ List.replicate (5 - (lg_sl [.ref (ξ.2.2.2.1 0), .int a1]).length) Slot.unset).toArray = ls at hl ⊢
  have hl : lv_has ls 5 [(0, .ref (ξ.2.2.2.1 0)), (1, .int a1)] := hl
  unfold fSx_findOrders at hm
  refine lv_aload_n S.1 S.2.1 dSx_findOrders_0 rfl (lv_at hl 0 rfl) ?_
  refine get_Sx (v := .ref (ξ.2.2.2.1 82)) S hw (is_0 hf) 12 (by decide) rfl wf_Sx_71 dSx_findOrders_1 ?_
  refine lv_iconst (v := (0 : Int32)) S.1 S.2.1 dSx_findOrders_4 (by decide) ?_
  refine lv_iconst (v := (1 : Int32)) S.1 S.2.1 dSx_findOrders_5 (by decide) ?_
  refine sx_iast S hw hf (is_82 hf) hm dSx_findOrders_6 (fun g1 H locs hf hm hw => ?_)
  refine lv_iconst (v := (1 : Int32)) S.1 S.2.1 dSx_findOrders_7 (by decide) ?_
  refine lv_istore_n (lv' := [(2, .int (1 : Int32)), (0, .ref (ξ.2.2.2.1 0)), (1, .int a1)]) S.1 S.2.1 dSx_findOrders_8 rfl hl (by decide) rfl (fun ls hl => ?_)
  exact wSx_findOrders_9 S hr hlk N  N g1 a1 (1 : Int32) _ _ _ hm hw hf (lv_sub hl [1, 2, 0] rfl)
set_option maxHeartbeats 4000000 in
set_option maxRecDepth 100000 in
theorem wSx_firstWithOrders_2 {l : Launch} {p : Program} {e : Env} {s : State} {m : MethodId} {args : Array Value} {below : List Frame} {meth : Method} {c : Code} {Γ : sw_C} {A : Nat → Prop} {ξ : sw_x} {μ : sw_m} {res : Int32 × sw_g} (S : CallFix p m c prog_1_method_67_code 3 s args (Cond.code ySx_firstWithOrders prog_1_method_67_code 3 (some .int) :: sw_tb) R_Sx) (hr : meth.sig.returnType = some .int) (hlk : meth.locks = false) (N : Nat) : ∀ (fu : Nat) (g : sw_g) (u1 : Int32) (u2 : Int32) (H : Heap) (locs : List Loc) (ls : Array Slot), fSx_firstWithOrders_2 N ξ.2.2.1  fu g u1 u2 = some res → sw_S Γ A ξ g μ s H locs → sw_wf ξ g.2.2 → lv_has ls 3 [(0, .ref (ξ.2.2.2.1 0)), (1, .int u1), (2, .int u2)] → W p l e (headSpec (Cond.code ySx_firstWithOrders prog_1_method_67_code 3 (some .int) :: sw_tb) rmSx_firstWithOrders).room s m args below meth c H locs 0 0 (MQ below (sw_Qi Γ A ξ res.2 μ res.1 (sw_wf ξ res.2.2.2)) args s 0 0 A) (F0 m 2 ls []) := by
  intro fu
  induction fu with
  | zero => intro g u1 u2 H locs ls hm; rw [fSx_firstWithOrders_2.eq_1] at hm; cases hm
  | succ fu ih =>
    intro g u1 u2 H locs ls hm hw hf hl
    rw [fSx_firstWithOrders_2.eq_2] at hm
    refine lv_iload_n S.1 S.2.1 dSx_firstWithOrders_2 rfl (lv_at hl 2 rfl) ?_
    refine lv_bipush (v := (7 : Int32)) S.1 S.2.1 dSx_firstWithOrders_3 (by decide) ?_
    refine bicmp_ge (tgt := 38) S.1 S.2.1 hm dSx_firstWithOrders_5 (by decide) (fun hm => ?_) (fun hm => ?_)
    · refine lv_iconst (v := (-1 : Int32)) S.1 S.2.1 dSx_firstWithOrders_38 (by decide) ?_
      obtain rfl := Option.some.inj hm
      exact sw_iret S hr hlk hw hf dSx_firstWithOrders_39
    · refine lv_aload_n S.1 S.2.1 dSx_firstWithOrders_8 rfl (lv_at hl 0 rfl) ?_
      refine lv_iload_n S.1 S.2.1 dSx_firstWithOrders_9 rfl (lv_at hl 1 rfl) ?_
      refine lv_iload_n S.1 S.2.1 dSx_firstWithOrders_10 rfl (lv_at hl 2 rfl) ?_
      obtain ⟨⟨v3, g2⟩, h1, hm⟩ := ob hm
      refine sw_Vi (q := 0) (rest := []) S hw (cSx_canTake l  hf u1 u2 h1) kSx_canTake wm_Sx_378 (is_0 hf).1 (e_Sx (is_0 hf)) rfl rfl rfl rfl hl.1 (Nat.le_of_ble_eq_true rfl) ⟨rfl, rfl, Nat.le_of_ble_eq_true rfl, Nat.le_of_ble_eq_true rfl⟩ ⟨Nat.le_of_ble_eq_true rfl, Nat.le_of_ble_eq_true rfl⟩ dSx_firstWithOrders_11 (fun H locs hw hf => ?_)
      refine bif_eq (tgt := 32) S.1 S.2.1 hm dSx_firstWithOrders_14 (by decide) (fun hm => ?_) (fun hm => ?_)
      · obtain ⟨x4, ex4, hm⟩ := nm_x hm
        refine lv_iinc (v := x4) (lv' := [(2, .int x4), (0, .ref (ξ.2.2.2.1 0)), (1, .int u1)]) S.1 S.2.1 dSx_firstWithOrders_32 hl (k := 2) rfl (by rw [ex4]; rfl) (by decide) rfl (fun ls hl => ?_)
        refine lv_goto (tgt := 2) S.1 S.2.1 dSx_firstWithOrders_35 (by decide) ?_
        exact ih g2 u1 x4 _ _ _ hm hw hf (lv_sub hl [1, 2, 0] rfl)
      · refine lv_aload_n S.1 S.2.1 dSx_firstWithOrders_17 rfl (lv_at hl 0 rfl) ?_
        refine get_Sx (v := .ref (ξ.2.2.2.1 82)) S hw (is_0 hf) 12 (by decide) rfl wf_Sx_71 dSx_firstWithOrders_18 ?_
        refine lv_iload_n S.1 S.2.1 dSx_firstWithOrders_21 rfl (lv_at hl 1 rfl) ?_
        refine lv_iconst (v := (1 : Int32)) S.1 S.2.1 dSx_firstWithOrders_22 (by decide) ?_
        refine lv_iload_n S.1 S.2.1 dSx_firstWithOrders_23 rfl (lv_at hl 2 rfl) ?_
        refine lv_ishl S.1 S.2.1 dSx_firstWithOrders_24 ?_
        refine lv_isub S.1 S.2.1 dSx_firstWithOrders_25 ?_
        refine sx_iald S hw (is_82 hf) hm dSx_firstWithOrders_26 (fun v5 hm => ?_)
        refine bif_le (tgt := 32) S.1 S.2.1 hm dSx_firstWithOrders_27 (by decide) (fun hm => ?_) (fun hm => ?_)
        · obtain ⟨x6, ex6, hm⟩ := nm_x hm
          refine lv_iinc (v := x6) (lv' := [(2, .int x6), (0, .ref (ξ.2.2.2.1 0)), (1, .int u1)]) S.1 S.2.1 dSx_firstWithOrders_32 hl (k := 2) rfl (by rw [ex6]; rfl) (by decide) rfl (fun ls hl => ?_)
          refine lv_goto (tgt := 2) S.1 S.2.1 dSx_firstWithOrders_35 (by decide) ?_
          exact ih g2 u1 x6 _ _ _ hm hw hf (lv_sub hl [1, 2, 0] rfl)
        · refine lv_iload_n S.1 S.2.1 dSx_firstWithOrders_30 rfl (lv_at hl 2 rfl) ?_
          obtain rfl := Option.some.inj hm
          exact sw_iret S hr hlk hw hf dSx_firstWithOrders_31
set_option maxHeartbeats 4000000 in
set_option maxRecDepth 100000 in
theorem cSx_firstWithOrders (l : Launch) (N : Nat) {Γ : sw_C} {A : Nat → Prop} {ξ : sw_x} {g : sw_g} {μ : sw_m} (hf : sw_wf ξ g.2.2) (a1 : Int32) {res : Int32 × sw_g} (hm : fSx_firstWithOrders N ξ.2.2.1 g a1 = some res) : Met l ySx_firstWithOrders (Cond.code ySx_firstWithOrders prog_1_method_67_code 3 (some .int) :: sw_tb) rmSx_firstWithOrders (va_Pc [.ref (ξ.2.2.2.1 0), .int a1] (sw_V Γ A ξ g μ)) (sw_Qi Γ A ξ res.2 μ res.1 (sw_wf ξ res.2.2.2)) 0 0 A := by
  refine Met.ofW (cc := prog_1_method_67_code) (maxL := 3) (ret := some .int) (by decide) rfl ?_
  intro p e s m args below meth c s₁ B hml hv
  obtain ⟨rfl, hv⟩ := hv
  have S : CallFix p m c prog_1_method_67_code 3 s _ (Cond.code ySx_firstWithOrders prog_1_method_67_code 3 (some .int) :: sw_tb) R_Sx := ⟨B.exec, B.bytes, hml, findClass_of_methodNamed B.named, atoms_spec (ws := (Cond.code ySx_firstWithOrders prog_1_method_67_code 3 (some .int) :: sw_tb)) B.pre⟩
  have hr := B.returns
  have hlk := B.notSynchronized
  have hw := sw_begin hv
  have hl := lv_entry [.ref (ξ.2.2.2.1 0), .int a1] (n := 3) (Nat.le_of_ble_eq_true rfl)
  rw [lg_entry_eq]
  generalize (lg_sl [.ref (ξ.2.2.2.1 0), .int a1] ++ List.replicate (3 - (lg_sl [.ref (ξ.2.2.2.1 0), .int a1]).length) Slot.unset).toArray = ls at hl ⊢
  have hl : lv_has ls 3 [(0, .ref (ξ.2.2.2.1 0)), (1, .int a1)] := hl
  unfold fSx_firstWithOrders at hm
  refine lv_iconst (v := (0 : Int32)) S.1 S.2.1 dSx_firstWithOrders_0 (by decide) ?_
  refine lv_istore_n (lv' := [(2, .int (0 : Int32)), (0, .ref (ξ.2.2.2.1 0)), (1, .int a1)]) S.1 S.2.1 dSx_firstWithOrders_1 rfl hl (by decide) rfl (fun ls hl => ?_)
  exact wSx_firstWithOrders_2 S hr hlk N  N g a1 (0 : Int32) _ _ _ hm hw hf (lv_sub hl [1, 2, 0] rfl)
set_option maxHeartbeats 4000000 in
set_option maxRecDepth 100000 in
theorem wSx_winningClaim_2 {l : Launch} {p : Program} {e : Env} {s : State} {m : MethodId} {args : Array Value} {below : List Frame} {meth : Method} {c : Code} {Γ : sw_C} {A : Nat → Prop} {ξ : sw_x} {μ : sw_m} {res : Int32 × sw_g} (S : CallFix p m c prog_1_method_69_code 3 s args (Cond.code ySx_winningClaim prog_1_method_69_code 3 (some .int) :: sw_tb) R_Sx) (hr : meth.sig.returnType = some .int) (hlk : meth.locks = false) (N : Nat) : ∀ (fu : Nat) (g : sw_g) (u1 : Int32) (u2 : Int32) (H : Heap) (locs : List Loc) (ls : Array Slot), fSx_winningClaim_2 N ξ.2.2.1  fu g u1 u2 = some res → sw_S Γ A ξ g μ s H locs → sw_wf ξ g.2.2 → lv_has ls 3 [(0, .ref (ξ.2.2.2.1 0)), (1, .int u1), (2, .int u2)] → W p l e (headSpec (Cond.code ySx_winningClaim prog_1_method_69_code 3 (some .int) :: sw_tb) rmSx_winningClaim).room s m args below meth c H locs 0 0 (MQ below (sw_Qi Γ A ξ res.2 μ res.1 (sw_wf ξ res.2.2.2)) args s 0 0 A) (F0 m 2 ls []) := by
  intro fu
  induction fu with
  | zero => intro g u1 u2 H locs ls hm; rw [fSx_winningClaim_2.eq_1] at hm; cases hm
  | succ fu ih =>
    intro g u1 u2 H locs ls hm hw hf hl
    rw [fSx_winningClaim_2.eq_2] at hm
    refine lv_iload_n S.1 S.2.1 dSx_winningClaim_2 rfl (lv_at hl 2 rfl) ?_
    refine lv_bipush (v := (7 : Int32)) S.1 S.2.1 dSx_winningClaim_3 (by decide) ?_
    refine bicmp_ge (tgt := 38) S.1 S.2.1 hm dSx_winningClaim_5 (by decide) (fun hm => ?_) (fun hm => ?_)
    · refine lv_iconst (v := (-1 : Int32)) S.1 S.2.1 dSx_winningClaim_38 (by decide) ?_
      obtain rfl := Option.some.inj hm
      exact sw_iret S hr hlk hw hf dSx_winningClaim_39
    · refine lv_aload_n S.1 S.2.1 dSx_winningClaim_8 rfl (lv_at hl 0 rfl) ?_
      refine lv_iload_n S.1 S.2.1 dSx_winningClaim_9 rfl (lv_at hl 1 rfl) ?_
      refine lv_iload_n S.1 S.2.1 dSx_winningClaim_10 rfl (lv_at hl 2 rfl) ?_
      obtain ⟨⟨v3, g2⟩, h1, hm⟩ := ob hm
      refine sw_Vi (q := 0) (rest := []) S hw (cSx_canTake l  hf u1 u2 h1) kSx_canTake wm_Sx_378 (is_0 hf).1 (e_Sx (is_0 hf)) rfl rfl rfl rfl hl.1 (Nat.le_of_ble_eq_true rfl) ⟨rfl, rfl, Nat.le_of_ble_eq_true rfl, Nat.le_of_ble_eq_true rfl⟩ ⟨Nat.le_of_ble_eq_true rfl, Nat.le_of_ble_eq_true rfl⟩ dSx_winningClaim_11 (fun H locs hw hf => ?_)
      refine bif_eq (tgt := 32) S.1 S.2.1 hm dSx_winningClaim_14 (by decide) (fun hm => ?_) (fun hm => ?_)
      · obtain ⟨x4, ex4, hm⟩ := nm_x hm
        refine lv_iinc (v := x4) (lv' := [(2, .int x4), (0, .ref (ξ.2.2.2.1 0)), (1, .int u1)]) S.1 S.2.1 dSx_winningClaim_32 hl (k := 2) rfl (by rw [ex4]; rfl) (by decide) rfl (fun ls hl => ?_)
        refine lv_goto (tgt := 2) S.1 S.2.1 dSx_winningClaim_35 (by decide) ?_
        exact ih g2 u1 x4 _ _ _ hm hw hf (lv_sub hl [1, 2, 0] rfl)
      · refine lv_aload_n S.1 S.2.1 dSx_winningClaim_17 rfl (lv_at hl 0 rfl) ?_
        refine get_Sx (v := .ref (ξ.2.2.2.1 82)) S hw (is_0 hf) 12 (by decide) rfl wf_Sx_71 dSx_winningClaim_18 ?_
        refine lv_iload_n S.1 S.2.1 dSx_winningClaim_21 rfl (lv_at hl 1 rfl) ?_
        refine lv_iconst (v := (1 : Int32)) S.1 S.2.1 dSx_winningClaim_22 (by decide) ?_
        refine lv_iload_n S.1 S.2.1 dSx_winningClaim_23 rfl (lv_at hl 2 rfl) ?_
        refine lv_ishl S.1 S.2.1 dSx_winningClaim_24 ?_
        refine lv_isub S.1 S.2.1 dSx_winningClaim_25 ?_
        refine sx_iald S hw (is_82 hf) hm dSx_winningClaim_26 (fun v5 hm => ?_)
        refine bif_ne (tgt := 32) S.1 S.2.1 hm dSx_winningClaim_27 (by decide) (fun hm => ?_) (fun hm => ?_)
        · obtain ⟨x6, ex6, hm⟩ := nm_x hm
          refine lv_iinc (v := x6) (lv' := [(2, .int x6), (0, .ref (ξ.2.2.2.1 0)), (1, .int u1)]) S.1 S.2.1 dSx_winningClaim_32 hl (k := 2) rfl (by rw [ex6]; rfl) (by decide) rfl (fun ls hl => ?_)
          refine lv_goto (tgt := 2) S.1 S.2.1 dSx_winningClaim_35 (by decide) ?_
          exact ih g2 u1 x6 _ _ _ hm hw hf (lv_sub hl [1, 2, 0] rfl)
        · refine lv_iload_n S.1 S.2.1 dSx_winningClaim_30 rfl (lv_at hl 2 rfl) ?_
          obtain rfl := Option.some.inj hm
          exact sw_iret S hr hlk hw hf dSx_winningClaim_31
set_option maxHeartbeats 4000000 in
set_option maxRecDepth 100000 in
theorem cSx_winningClaim (l : Launch) (N : Nat) {Γ : sw_C} {A : Nat → Prop} {ξ : sw_x} {g : sw_g} {μ : sw_m} (hf : sw_wf ξ g.2.2) (a1 : Int32) {res : Int32 × sw_g} (hm : fSx_winningClaim N ξ.2.2.1 g a1 = some res) : Met l ySx_winningClaim (Cond.code ySx_winningClaim prog_1_method_69_code 3 (some .int) :: sw_tb) rmSx_winningClaim (va_Pc [.ref (ξ.2.2.2.1 0), .int a1] (sw_V Γ A ξ g μ)) (sw_Qi Γ A ξ res.2 μ res.1 (sw_wf ξ res.2.2.2)) 0 0 A := by
  refine Met.ofW (cc := prog_1_method_69_code) (maxL := 3) (ret := some .int) (by decide) rfl ?_
  intro p e s m args below meth c s₁ B hml hv
  obtain ⟨rfl, hv⟩ := hv
  have S : CallFix p m c prog_1_method_69_code 3 s _ (Cond.code ySx_winningClaim prog_1_method_69_code 3 (some .int) :: sw_tb) R_Sx := ⟨B.exec, B.bytes, hml, findClass_of_methodNamed B.named, atoms_spec (ws := (Cond.code ySx_winningClaim prog_1_method_69_code 3 (some .int) :: sw_tb)) B.pre⟩
  have hr := B.returns
  have hlk := B.notSynchronized
  have hw := sw_begin hv
  have hl := lv_entry [.ref (ξ.2.2.2.1 0), .int a1] (n := 3) (Nat.le_of_ble_eq_true rfl)
  rw [lg_entry_eq]
  generalize (lg_sl [.ref (ξ.2.2.2.1 0), .int a1] ++ List.replicate (3 - (lg_sl [.ref (ξ.2.2.2.1 0), .int a1]).length) Slot.unset).toArray = ls at hl ⊢
  have hl : lv_has ls 3 [(0, .ref (ξ.2.2.2.1 0)), (1, .int a1)] := hl
  unfold fSx_winningClaim at hm
  refine lv_iconst (v := (0 : Int32)) S.1 S.2.1 dSx_winningClaim_0 (by decide) ?_
  refine lv_istore_n (lv' := [(2, .int (0 : Int32)), (0, .ref (ξ.2.2.2.1 0)), (1, .int a1)]) S.1 S.2.1 dSx_winningClaim_1 rfl hl (by decide) rfl (fun ls hl => ?_)
  exact wSx_winningClaim_2 S hr hlk N  N g a1 (0 : Int32) _ _ _ hm hw hf (lv_sub hl [1, 2, 0] rfl)
set_option maxHeartbeats 4000000 in
set_option maxRecDepth 100000 in
theorem wSx_fits_106 {l : Launch} {p : Program} {e : Env} {s : State} {m : MethodId} {args : Array Value} {below : List Frame} {meth : Method} {c : Code} {Γ : sw_C} {A : Nat → Prop} {ξ : sw_x} {μ : sw_m} {res : Int32 × sw_g} (S : CallFix p m c prog_1_method_70_code 6 s args (Cond.code ySx_fits prog_1_method_70_code 6 (some .boolean) :: sw_tb) R_Sx) (hr : meth.sig.returnType = some .boolean) (hlk : meth.locks = false) (N : Nat) (k2 : sw_g → Int32 → Int32 → Int32 → Option (Int32 × sw_g)) (hk2 : ∀ (g : sw_g) (u1 : Int32) (u2 : Int32) (u3 : Int32) (H : Heap) (locs : List Loc) (ls : Array Slot), k2 g u1 u2 u3 = some res → sw_S Γ A ξ g μ s H locs → sw_wf ξ g.2.2 → lv_has ls 6 [(0, .ref (ξ.2.2.2.1 0)), (1, .int u1), (2, .int u2), (3, .int u3)] → W p l e (headSpec (Cond.code ySx_fits prog_1_method_70_code 6 (some .boolean) :: sw_tb) rmSx_fits).room s m args below meth c H locs 0 0 (MQ below (sw_Qi Γ A ξ res.2 μ res.1 (sw_wf ξ res.2.2.2)) args s 0 0 A) (F0 m 2 ls [])) : ∀ (g : sw_g) (u1 : Int32) (u2 : Int32) (u3 : Int32) (s0 : Int32) (H : Heap) (locs : List Loc) (ls : Array Slot), fSx_fits_106 N ξ.2.2.1 k2 g u1 u2 u3 s0 = some res → sw_S Γ A ξ g μ s H locs → sw_wf ξ g.2.2 → lv_has ls 6 [(0, .ref (ξ.2.2.2.1 0)), (1, .int u1), (2, .int u2), (3, .int u3)] → W p l e (headSpec (Cond.code ySx_fits prog_1_method_70_code 6 (some .boolean) :: sw_tb) rmSx_fits).room s m args below meth c H locs 0 0 (MQ below (sw_Qi Γ A ξ res.2 μ res.1 (sw_wf ξ res.2.2.2)) args s 0 0 A) (F0 m 106 ls [.int s0]) := by
  intro g u1 u2 u3 s0 H locs ls hm hw hf hl
  unfold fSx_fits_106 at hm
  refine lv_istore (lv' := [(5, .int s0), (0, .ref (ξ.2.2.2.1 0)), (1, .int u1), (2, .int u2), (3, .int u3)]) S.1 S.2.1 dSx_fits_106 hl (by decide) rfl (fun ls hl => ?_)
  refine lv_iload S.1 S.2.1 dSx_fits_108 (lv_at hl 0 rfl) ?_
  refine lv_aload_n S.1 S.2.1 dSx_fits_110 rfl (lv_at hl 1 rfl) ?_
  refine get_Sx (v := .ref (ξ.2.2.2.1 1)) S hw (is_0 hf) 0 (by decide) rfl wf_Sx_12 dSx_fits_111 ?_
  refine get_Pl (v := .ref (ξ.2.2.2.1 8)) S hw (is_1 hf) 8 (by decide) rfl wf_Sx_387 dSx_fits_114 ?_
  refine lv_iload_n S.1 S.2.1 dSx_fits_117 rfl (lv_at hl 4 rfl) ?_
  refine sx_iald S hw (is_8 hf) hm dSx_fits_118 (fun v8 hm => ?_)
  refine bicmp_eq (tgt := 124) S.1 S.2.1 hm dSx_fits_119 (by decide) (fun hm => ?_) (fun hm => ?_)
  · obtain ⟨x9, ex9, hm⟩ := nm_x hm
    refine lv_iinc (v := x9) (lv' := [(3, .int x9), (5, .int s0), (0, .ref (ξ.2.2.2.1 0)), (1, .int u1), (2, .int u2)]) S.1 S.2.1 dSx_fits_124 hl (k := 4) rfl (by rw [ex9]; rfl) (by decide) rfl (fun ls hl => ?_)
    refine lv_goto (tgt := 2) S.1 S.2.1 dSx_fits_127 (by decide) ?_
    exact hk2 g u1 u2 x9 _ _ _ hm hw hf (lv_sub hl [2, 3, 4, 0] rfl)
  · refine lv_iconst (v := (0 : Int32)) S.1 S.2.1 dSx_fits_122 (by decide) ?_
    obtain rfl := Option.some.inj hm
    exact sw_zret S hr hlk (Or.inl rfl) hw hf dSx_fits_123
set_option maxHeartbeats 4000000 in
set_option maxRecDepth 100000 in
theorem wSx_fits_87 {l : Launch} {p : Program} {e : Env} {s : State} {m : MethodId} {args : Array Value} {below : List Frame} {meth : Method} {c : Code} {Γ : sw_C} {A : Nat → Prop} {ξ : sw_x} {μ : sw_m} {res : Int32 × sw_g} (S : CallFix p m c prog_1_method_70_code 6 s args (Cond.code ySx_fits prog_1_method_70_code 6 (some .boolean) :: sw_tb) R_Sx) (hr : meth.sig.returnType = some .boolean) (hlk : meth.locks = false) (N : Nat) (k2 : sw_g → Int32 → Int32 → Int32 → Option (Int32 × sw_g)) (hk2 : ∀ (g : sw_g) (u1 : Int32) (u2 : Int32) (u3 : Int32) (H : Heap) (locs : List Loc) (ls : Array Slot), k2 g u1 u2 u3 = some res → sw_S Γ A ξ g μ s H locs → sw_wf ξ g.2.2 → lv_has ls 6 [(0, .ref (ξ.2.2.2.1 0)), (1, .int u1), (2, .int u2), (3, .int u3)] → W p l e (headSpec (Cond.code ySx_fits prog_1_method_70_code 6 (some .boolean) :: sw_tb) rmSx_fits).room s m args below meth c H locs 0 0 (MQ below (sw_Qi Γ A ξ res.2 μ res.1 (sw_wf ξ res.2.2.2)) args s 0 0 A) (F0 m 2 ls [])) : ∀ (g : sw_g) (u1 : Int32) (u2 : Int32) (u3 : Int32) (u4 : Int32) (H : Heap) (locs : List Loc) (ls : Array Slot), fSx_fits_87 N ξ.2.2.1 k2 g u1 u2 u3 u4 = some res → sw_S Γ A ξ g μ s H locs → sw_wf ξ g.2.2 → lv_has ls 6 [(0, .ref (ξ.2.2.2.1 0)), (1, .int u1), (2, .int u2), (3, .int u3), (4, .int u4)] → W p l e (headSpec (Cond.code ySx_fits prog_1_method_70_code 6 (some .boolean) :: sw_tb) rmSx_fits).room s m args below meth c H locs 0 0 (MQ below (sw_Qi Γ A ξ res.2 μ res.1 (sw_wf ξ res.2.2.2)) args s 0 0 A) (F0 m 87 ls []) := by
  intro g u1 u2 u3 u4 H locs ls hm hw hf hl
  unfold fSx_fits_87 at hm
  refine lv_iload S.1 S.2.1 dSx_fits_87 (lv_at hl 4 rfl) ?_
  refine bif_ne (tgt := 96) S.1 S.2.1 hm dSx_fits_89 (by decide) (fun hm => ?_) (fun hm => ?_)
  · refine lv_iload S.1 S.2.1 dSx_fits_96 (lv_at hl 4 rfl) ?_
    refine bif_le (tgt := 105) S.1 S.2.1 hm dSx_fits_98 (by decide) (fun hm => ?_) (fun hm => ?_)
    · refine lv_iconst (v := (2 : Int32)) S.1 S.2.1 dSx_fits_105 (by decide) ?_
      exact wSx_fits_106 S hr hlk N k2 hk2 g u1 u2 u3 (2 : Int32) _ _ _ hm hw hf (lv_sub hl [0, 1, 2, 3] rfl)
    · refine lv_iconst (v := (1 : Int32)) S.1 S.2.1 dSx_fits_101 (by decide) ?_
      refine lv_goto (tgt := 106) S.1 S.2.1 dSx_fits_102 (by decide) ?_
      exact wSx_fits_106 S hr hlk N k2 hk2 g u1 u2 u3 (1 : Int32) _ _ _ hm hw hf (lv_sub hl [0, 1, 2, 3] rfl)
  · refine lv_iconst (v := (0 : Int32)) S.1 S.2.1 dSx_fits_92 (by decide) ?_
    refine lv_goto (tgt := 106) S.1 S.2.1 dSx_fits_93 (by decide) ?_
    exact wSx_fits_106 S hr hlk N k2 hk2 g u1 u2 u3 (0 : Int32) _ _ _ hm hw hf (lv_sub hl [0, 1, 2, 3] rfl)
set_option maxHeartbeats 4000000 in
set_option maxRecDepth 100000 in
theorem wSx_fits_2 {l : Launch} {p : Program} {e : Env} {s : State} {m : MethodId} {args : Array Value} {below : List Frame} {meth : Method} {c : Code} {Γ : sw_C} {A : Nat → Prop} {ξ : sw_x} {μ : sw_m} {res : Int32 × sw_g} (S : CallFix p m c prog_1_method_70_code 6 s args (Cond.code ySx_fits prog_1_method_70_code 6 (some .boolean) :: sw_tb) R_Sx) (hr : meth.sig.returnType = some .boolean) (hlk : meth.locks = false) (N : Nat) : ∀ (fu : Nat) (g : sw_g) (u1 : Int32) (u2 : Int32) (u3 : Int32) (H : Heap) (locs : List Loc) (ls : Array Slot), fSx_fits_2 N ξ.2.2.1  fu g u1 u2 u3 = some res → sw_S Γ A ξ g μ s H locs → sw_wf ξ g.2.2 → lv_has ls 6 [(0, .ref (ξ.2.2.2.1 0)), (1, .int u1), (2, .int u2), (3, .int u3)] → W p l e (headSpec (Cond.code ySx_fits prog_1_method_70_code 6 (some .boolean) :: sw_tb) rmSx_fits).room s m args below meth c H locs 0 0 (MQ below (sw_Qi Γ A ξ res.2 μ res.1 (sw_wf ξ res.2.2.2)) args s 0 0 A) (F0 m 2 ls []) := by
  intro fu
  induction fu with
  | zero => intro g u1 u2 u3 H locs ls hm; rw [fSx_fits_2.eq_1] at hm; cases hm
  | succ fu ih =>
    intro g u1 u2 u3 H locs ls hm hw hf hl
    rw [fSx_fits_2.eq_2] at hm
    refine lv_iload_n S.1 S.2.1 dSx_fits_2 rfl (lv_at hl 3 rfl) ?_
    refine lv_aload_n S.1 S.2.1 dSx_fits_3 rfl (lv_at hl 0 rfl) ?_
    refine get_Sx (v := .ref (ξ.2.2.2.1 1)) S hw (is_0 hf) 0 (by decide) rfl wf_Sx_12 dSx_fits_4 ?_
    refine get_Pl (v := .int (g.1 1 5)) S hw (is_1 hf) 5 (by decide) rfl wf_Sx_289 dSx_fits_7 ?_
    refine bicmp_ge (tgt := 130) S.1 S.2.1 hm dSx_fits_10 (by decide) (fun hm => ?_) (fun hm => ?_)
    · refine lv_iconst (v := (1 : Int32)) S.1 S.2.1 dSx_fits_130 (by decide) ?_
      obtain rfl := Option.some.inj hm
      exact sw_zret S hr hlk (Or.inr rfl) hw hf dSx_fits_131
    · refine lv_aload_n S.1 S.2.1 dSx_fits_13 rfl (lv_at hl 0 rfl) ?_
      refine get_Sx (v := .ref (ξ.2.2.2.1 81)) S hw (is_0 hf) 11 (by decide) rfl wf_Sx_68 dSx_fits_14 ?_
      refine lv_aload_n S.1 S.2.1 dSx_fits_17 rfl (lv_at hl 0 rfl) ?_
      refine get_Sx (v := .ref (ξ.2.2.2.1 1)) S hw (is_0 hf) 0 (by decide) rfl wf_Sx_12 dSx_fits_18 ?_
      refine get_Pl (v := .ref (ξ.2.2.2.1 6)) S hw (is_1 hf) 6 (by decide) rfl wf_Sx_381 dSx_fits_21 ?_
      refine lv_iload_n S.1 S.2.1 dSx_fits_24 rfl (lv_at hl 3 rfl) ?_
      refine sx_iald S hw (is_6 hf) hm dSx_fits_25 (fun v1 hm => ?_)
      refine sx_iald S hw (is_81 hf) hm dSx_fits_26 (fun v2 hm => ?_)
      refine lv_aload_n S.1 S.2.1 dSx_fits_27 rfl (lv_at hl 0 rfl) ?_
      refine get_Sx (v := .ref (ξ.2.2.2.1 81)) S hw (is_0 hf) 11 (by decide) rfl wf_Sx_68 dSx_fits_28 ?_
      refine lv_aload_n S.1 S.2.1 dSx_fits_31 rfl (lv_at hl 0 rfl) ?_
      refine get_Sx (v := .ref (ξ.2.2.2.1 1)) S hw (is_0 hf) 0 (by decide) rfl wf_Sx_12 dSx_fits_32 ?_
      refine get_Pl (v := .ref (ξ.2.2.2.1 7)) S hw (is_1 hf) 7 (by decide) rfl wf_Sx_384 dSx_fits_35 ?_
      refine lv_iload_n S.1 S.2.1 dSx_fits_38 rfl (lv_at hl 3 rfl) ?_
      refine sx_iald S hw (is_7 hf) hm dSx_fits_39 (fun v3 hm => ?_)
      refine sx_iald S hw (is_81 hf) hm dSx_fits_40 (fun v4 hm => ?_)
      refine lv_isub S.1 S.2.1 dSx_fits_41 ?_
      refine nm_i hm (fun x5 hm => ?_)
      refine lv_istore (lv' := [(4, .int x5), (0, .ref (ξ.2.2.2.1 0)), (1, .int u1), (2, .int u2), (3, .int u3)]) S.1 S.2.1 dSx_fits_42 hl (by decide) rfl (fun ls hl => ?_)
      refine lv_aload_n S.1 S.2.1 dSx_fits_44 rfl (lv_at hl 1 rfl) ?_
      refine get_Sx (v := .ref (ξ.2.2.2.1 1)) S hw (is_0 hf) 0 (by decide) rfl wf_Sx_12 dSx_fits_45 ?_
      refine get_Pl (v := .ref (ξ.2.2.2.1 6)) S hw (is_1 hf) 6 (by decide) rfl wf_Sx_381 dSx_fits_48 ?_
      refine lv_iload_n S.1 S.2.1 dSx_fits_51 rfl (lv_at hl 4 rfl) ?_
      refine sx_iald S hw (is_6 hf) hm dSx_fits_52 (fun v6 hm => ?_)
      refine lv_iload_n S.1 S.2.1 dSx_fits_53 rfl (lv_at hl 2 rfl) ?_
      refine lv_iand S.1 S.2.1 dSx_fits_54 ?_
      refine bif_eq (tgt := 67) S.1 S.2.1 hm dSx_fits_55 (by decide) (fun hm => ?_) (fun hm => ?_)
      · refine lv_aload_n S.1 S.2.1 dSx_fits_67 rfl (lv_at hl 1 rfl) ?_
        refine get_Sx (v := .ref (ξ.2.2.2.1 1)) S hw (is_0 hf) 0 (by decide) rfl wf_Sx_12 dSx_fits_68 ?_
        refine get_Pl (v := .ref (ξ.2.2.2.1 7)) S hw (is_1 hf) 7 (by decide) rfl wf_Sx_384 dSx_fits_71 ?_
        refine lv_iload_n S.1 S.2.1 dSx_fits_74 rfl (lv_at hl 4 rfl) ?_
        refine sx_iald S hw (is_7 hf) hm dSx_fits_75 (fun v7 hm => ?_)
        refine lv_iload_n S.1 S.2.1 dSx_fits_76 rfl (lv_at hl 2 rfl) ?_
        refine lv_iand S.1 S.2.1 dSx_fits_77 ?_
        refine bif_eq (tgt := 87) S.1 S.2.1 hm dSx_fits_78 (by decide) (fun hm => ?_) (fun hm => ?_)
        · exact wSx_fits_87 S hr hlk N (fSx_fits_2 N ξ.2.2.1  fu) ih g u1 u2 u3 x5 _ _ _ hm hw hf (lv_sub hl [1, 2, 3, 4, 0] rfl)
        · refine lv_iload S.1 S.2.1 dSx_fits_81 (lv_at hl 0 rfl) ?_
          refine lv_iload_n S.1 S.2.1 dSx_fits_83 rfl (lv_at hl 3 rfl) ?_
          refine lv_isub S.1 S.2.1 dSx_fits_84 ?_
          refine nm_i hm (fun x10 hm => ?_)
          refine lv_istore (lv' := [(4, .int x10), (0, .ref (ξ.2.2.2.1 0)), (1, .int u1), (2, .int u2), (3, .int u3)]) S.1 S.2.1 dSx_fits_85 hl (by decide) rfl (fun ls hl => ?_)
          exact wSx_fits_87 S hr hlk N (fSx_fits_2 N ξ.2.2.1  fu) ih g u1 u2 u3 x10 _ _ _ hm hw hf (lv_sub hl [1, 2, 3, 4, 0] rfl)
      · refine lv_iload S.1 S.2.1 dSx_fits_58 (lv_at hl 0 rfl) ?_
        refine lv_iload_n S.1 S.2.1 dSx_fits_60 rfl (lv_at hl 3 rfl) ?_
        refine lv_iadd S.1 S.2.1 dSx_fits_61 ?_
        refine nm_i hm (fun x11 hm => ?_)
        refine lv_istore (lv' := [(4, .int x11), (0, .ref (ξ.2.2.2.1 0)), (1, .int u1), (2, .int u2), (3, .int u3)]) S.1 S.2.1 dSx_fits_62 hl (by decide) rfl (fun ls hl => ?_)
        refine lv_goto (tgt := 87) S.1 S.2.1 dSx_fits_64 (by decide) ?_
        exact wSx_fits_87 S hr hlk N (fSx_fits_2 N ξ.2.2.1  fu) ih g u1 u2 u3 x11 _ _ _ hm hw hf (lv_sub hl [1, 2, 3, 4, 0] rfl)
set_option maxHeartbeats 4000000 in
set_option maxRecDepth 100000 in
theorem cSx_fits (l : Launch) (N : Nat) {Γ : sw_C} {A : Nat → Prop} {ξ : sw_x} {g : sw_g} {μ : sw_m} (hf : sw_wf ξ g.2.2) (a1 : Int32) (a2 : Int32) {res : Int32 × sw_g} (hm : fSx_fits N ξ.2.2.1 g a1 a2 = some res) : Met l ySx_fits (Cond.code ySx_fits prog_1_method_70_code 6 (some .boolean) :: sw_tb) rmSx_fits (va_Pc [.ref (ξ.2.2.2.1 0), .int a1, .int a2] (sw_V Γ A ξ g μ)) (sw_Qi Γ A ξ res.2 μ res.1 (sw_wf ξ res.2.2.2)) 0 0 A := by
  refine Met.ofW (cc := prog_1_method_70_code) (maxL := 6) (ret := some .boolean) (by decide) rfl ?_
  intro p e s m args below meth c s₁ B hml hv
  obtain ⟨rfl, hv⟩ := hv
  have S : CallFix p m c prog_1_method_70_code 6 s _ (Cond.code ySx_fits prog_1_method_70_code 6 (some .boolean) :: sw_tb) R_Sx := ⟨B.exec, B.bytes, hml, findClass_of_methodNamed B.named, atoms_spec (ws := (Cond.code ySx_fits prog_1_method_70_code 6 (some .boolean) :: sw_tb)) B.pre⟩
  have hr := B.returns
  have hlk := B.notSynchronized
  have hw := sw_begin hv
  have hl := lv_entry [.ref (ξ.2.2.2.1 0), .int a1, .int a2] (n := 6) (Nat.le_of_ble_eq_true rfl)
  rw [lg_entry_eq]
  generalize (lg_sl [.ref (ξ.2.2.2.1 0), .int a1, .int a2] ++ List.replicate (6 - (lg_sl [.ref (ξ.2.2.2.1 0), .int a1, .int a2]).length) Slot.unset).toArray = ls at hl ⊢
  have hl : lv_has ls 6 [(0, .ref (ξ.2.2.2.1 0)), (1, .int a1), (2, .int a2)] := hl
  unfold fSx_fits at hm
  refine lv_iconst (v := (0 : Int32)) S.1 S.2.1 dSx_fits_0 (by decide) ?_
  refine lv_istore_n (lv' := [(3, .int (0 : Int32)), (0, .ref (ξ.2.2.2.1 0)), (1, .int a1), (2, .int a2)]) S.1 S.2.1 dSx_fits_1 rfl hl (by decide) rfl (fun ls hl => ?_)
  exact wSx_fits_2 S hr hlk N  N g a1 a2 (0 : Int32) _ _ _ hm hw hf (lv_sub hl [1, 2, 3, 0] rfl)
set_option maxHeartbeats 4000000 in
set_option maxRecDepth 100000 in
theorem cSx_mostAlike (l : Launch) {Γ : sw_C} {A : Nat → Prop} {ξ : sw_x} {g : sw_g} {μ : sw_m} (hf : sw_wf ξ g.2.2) (a1 : Int32) (a2 : Int32) (a3 : Int32) (a4 : Int32) {res : Int32} (hm : fSx_mostAlike a1 a2 a3 a4 = some res) : Met l ySx_mostAlike (Cond.code ySx_mostAlike prog_1_method_72_code 4 (some .int) :: sw_tb) rmSx_mostAlike (va_Pc [.int a1, .int a2, .int a3, .int a4] (sw_V Γ A ξ g μ)) (sw_Qi Γ A ξ g μ res (True)) 0 0 A := by
  refine Met.ofW (cc := prog_1_method_72_code) (maxL := 4) (ret := some .int) (by decide) rfl ?_
  intro p e s m args below meth c s₁ B hml hv
  obtain ⟨rfl, hv⟩ := hv
  have S : CallFix p m c prog_1_method_72_code 4 s _ (Cond.code ySx_mostAlike prog_1_method_72_code 4 (some .int) :: sw_tb) R_Sx := ⟨B.exec, B.bytes, hml, findClass_of_methodNamed B.named, atoms_spec (ws := (Cond.code ySx_mostAlike prog_1_method_72_code 4 (some .int) :: sw_tb)) B.pre⟩
  have hr := B.returns
  have hlk := B.notSynchronized
  have hw := sw_begin hv
  have hl := lv_entry [.int a1, .int a2, .int a3, .int a4] (n := 4) (Nat.le_of_ble_eq_true rfl)
  rw [lg_entry_eq]
  generalize (lg_sl [.int a1, .int a2, .int a3, .int a4] ++ List.replicate (4 - (lg_sl [.int a1, .int a2, .int a3, .int a4]).length) Slot.unset).toArray = ls at hl ⊢
  have hl : lv_has ls 4 [(0, .int a1), (1, .int a2), (2, .int a3), (3, .int a4)] := hl
  unfold fSx_mostAlike at hm
  refine lv_iload_n S.1 S.2.1 dSx_mostAlike_0 rfl (lv_at hl 0 rfl) ?_
  by_cases c0 : a1 = (-1 : Int32)
  · have hm := sw_it c0 hm
    refine lv_tableIn (off := 45) (tgt := 46) S.1 S.2.1 dSx_mostAlike_1 (by rw [c0]; decide) (by rw [c0]; decide) (by rw [c0]; decide) (by decide) ?_
    refine lv_iload_n S.1 S.2.1 dSx_mostAlike_46 rfl (lv_at hl 3 rfl) ?_
    refine lv_iload_n S.1 S.2.1 dSx_mostAlike_47 rfl (lv_at hl 2 rfl) ?_
    refine lv_iadd S.1 S.2.1 dSx_mostAlike_48 ?_
    refine lv_iload_n S.1 S.2.1 dSx_mostAlike_49 rfl (lv_at hl 1 rfl) ?_
    refine sw_max (rest := []) S hl.1 wm_Sx_398 (Nat.le_of_ble_eq_true rfl) (Nat.le_of_ble_eq_true rfl) (Nat.le_of_ble_eq_true rfl) (Nat.le_of_ble_eq_true rfl) dSx_mostAlike_50 ?_
    obtain rfl := Option.some.inj hm
    exact sw_iret S hr hlk hw trivial dSx_mostAlike_53
  · have hm := sw_if c0 hm
    by_cases c1 : a1 = (0 : Int32)
    · have hm := sw_it c1 hm
      refine lv_tableIn (off := 27) (tgt := 28) S.1 S.2.1 dSx_mostAlike_1 (by rw [c1]; decide) (by rw [c1]; decide) (by rw [c1]; decide) (by decide) ?_
      refine lv_iload_n S.1 S.2.1 dSx_mostAlike_28 rfl (lv_at hl 3 rfl) ?_
      refine lv_iload_n S.1 S.2.1 dSx_mostAlike_29 rfl (lv_at hl 1 rfl) ?_
      refine lv_iload_n S.1 S.2.1 dSx_mostAlike_30 rfl (lv_at hl 2 rfl) ?_
      refine sw_max (rest := [.int a4]) S hl.1 wm_Sx_398 (Nat.le_of_ble_eq_true rfl) (Nat.le_of_ble_eq_true rfl) (Nat.le_of_ble_eq_true rfl) (Nat.le_of_ble_eq_true rfl) dSx_mostAlike_31 ?_
      refine sw_max (rest := []) S hl.1 wm_Sx_398 (Nat.le_of_ble_eq_true rfl) (Nat.le_of_ble_eq_true rfl) (Nat.le_of_ble_eq_true rfl) (Nat.le_of_ble_eq_true rfl) dSx_mostAlike_34 ?_
      obtain rfl := Option.some.inj hm
      exact sw_iret S hr hlk hw trivial dSx_mostAlike_37
    · have hm := sw_if c1 hm
      by_cases c2 : a1 = (1 : Int32)
      · have hm := sw_it c2 hm
        refine lv_tableIn (off := 37) (tgt := 38) S.1 S.2.1 dSx_mostAlike_1 (by rw [c2]; decide) (by rw [c2]; decide) (by rw [c2]; decide) (by decide) ?_
        refine lv_iload_n S.1 S.2.1 dSx_mostAlike_38 rfl (lv_at hl 3 rfl) ?_
        refine lv_iload_n S.1 S.2.1 dSx_mostAlike_39 rfl (lv_at hl 1 rfl) ?_
        refine lv_iadd S.1 S.2.1 dSx_mostAlike_40 ?_
        refine lv_iload_n S.1 S.2.1 dSx_mostAlike_41 rfl (lv_at hl 2 rfl) ?_
        refine sw_max (rest := []) S hl.1 wm_Sx_398 (Nat.le_of_ble_eq_true rfl) (Nat.le_of_ble_eq_true rfl) (Nat.le_of_ble_eq_true rfl) (Nat.le_of_ble_eq_true rfl) dSx_mostAlike_42 ?_
        obtain rfl := Option.some.inj hm
        exact sw_iret S hr hlk hw trivial dSx_mostAlike_45
      · have hm := sw_if c2 hm
        refine lv_tableOut (tgt := 54) S.1 S.2.1 dSx_mostAlike_1 (by have := lv_neT c0 (show ((-1 : Int32)).toInt = -1 from rfl); have := lv_neT c1 (show ((0 : Int32)).toInt = 0 from rfl); have := lv_neT c2 (show ((1 : Int32)).toInt = 1 from rfl); omega) (by decide) ?_
        refine lv_iload_n S.1 S.2.1 dSx_mostAlike_54 rfl (lv_at hl 3 rfl) ?_
        refine lv_iload_n S.1 S.2.1 dSx_mostAlike_55 rfl (lv_at hl 1 rfl) ?_
        refine lv_iadd S.1 S.2.1 dSx_mostAlike_56 ?_
        refine lv_iload_n S.1 S.2.1 dSx_mostAlike_57 rfl (lv_at hl 2 rfl) ?_
        refine lv_iadd S.1 S.2.1 dSx_mostAlike_58 ?_
        obtain rfl := Option.some.inj hm
        exact sw_iret S hr hlk hw trivial dSx_mostAlike_59
set_option maxHeartbeats 4000000 in
set_option maxRecDepth 100000 in
theorem cSx_nextSeed (l : Launch) {Γ : sw_C} {A : Nat → Prop} {ξ : sw_x} {g : sw_g} {μ : sw_m} (hf : sw_wf ξ g.2.2) (a1 : Int32) {res : Int32} (hm : fSx_nextSeed a1 = some res) : Met l ySx_nextSeed (Cond.code ySx_nextSeed prog_1_method_73_code 1 (some .int) :: sw_tb) rmSx_nextSeed (va_Pc [.int a1] (sw_V Γ A ξ g μ)) (sw_Qi Γ A ξ g μ res (True)) 0 0 A := by
  refine Met.ofW (cc := prog_1_method_73_code) (maxL := 1) (ret := some .int) (by decide) rfl ?_
  intro p e s m args below meth c s₁ B hml hv
  obtain ⟨rfl, hv⟩ := hv
  have S : CallFix p m c prog_1_method_73_code 1 s _ (Cond.code ySx_nextSeed prog_1_method_73_code 1 (some .int) :: sw_tb) R_Sx := ⟨B.exec, B.bytes, hml, findClass_of_methodNamed B.named, atoms_spec (ws := (Cond.code ySx_nextSeed prog_1_method_73_code 1 (some .int) :: sw_tb)) B.pre⟩
  have hr := B.returns
  have hlk := B.notSynchronized
  have hw := sw_begin hv
  have hl := lv_entry [.int a1] (n := 1) (Nat.le_of_ble_eq_true rfl)
  rw [lg_entry_eq]
  generalize (lg_sl [.int a1] ++ List.replicate (1 - (lg_sl [.int a1]).length) Slot.unset).toArray = ls at hl ⊢
  have hl : lv_has ls 1 [(0, .int a1)] := hl
  unfold fSx_nextSeed at hm
  refine lv_iload_n S.1 S.2.1 dSx_nextSeed_0 rfl (lv_at hl 0 rfl) ?_
  refine lv_sipush (v := (1103 : Int32)) S.1 S.2.1 dSx_nextSeed_1 (by decide) ?_
  refine lv_imul S.1 S.2.1 dSx_nextSeed_4 ?_
  refine lv_sipush (v := (12345 : Int32)) S.1 S.2.1 dSx_nextSeed_5 (by decide) ?_
  refine lv_iadd S.1 S.2.1 dSx_nextSeed_8 ?_
  refine lv_ldcw S.1 S.2.1 S.2.2.2.1 (sw_word S wc_Sx_401) dSx_nextSeed_9 ?_
  refine lv_irem S.1 S.2.1 dSx_nextSeed_12 (by decide) ?_
  obtain rfl := Option.some.inj hm
  exact sw_iret S hr hlk hw trivial dSx_nextSeed_13
set_option maxHeartbeats 4000000 in
set_option maxRecDepth 100000 in
theorem wRk_works_94 {l : Launch} {p : Program} {e : Env} {s : State} {m : MethodId} {args : Array Value} {below : List Frame} {meth : Method} {c : Code} {Γ : sw_C} {A : Nat → Prop} {ξ : sw_x} {μ : sw_m} {res : Int32 × sw_g} (S : CallFix p m c prog_6_method_2_code 11 s args (Cond.code yRk_works prog_6_method_2_code 11 (some .boolean) :: sw_tb) R_Rk) (hr : meth.sig.returnType = some .boolean) (hlk : meth.locks = false) (q0 : Nat) (q1 : Nat) (q3 : Nat) (n3 : Nat) (h0 : sw_ik ξ q0 5) (h0r : sw_is ξ (q0 + 1) 11 40) (hq1 : sw_ik ξ q1 7) (hq3 : sw_is ξ q3 10 n3) (N : Nat) (k9 : sw_g → Int32 → Int32 → Int32 → Option (Int32 × sw_g)) (hk9 : ∀ (g : sw_g) (u4 : Int32) (u5 : Int32) (u6 : Int32) (H : Heap) (locs : List Loc) (ls : Array Slot), k9 g u4 u5 u6 = some res → sw_S Γ A ξ g μ s H locs → sw_wf ξ g.2.2 → lv_has ls 11 [(0, .ref (ξ.2.2.2.1 q0)), (1, .ref (ξ.2.2.2.1 q1)), (3, .ref (ξ.2.2.2.1 q3)), (4, .int u4), (5, .int u5), (6, .int u6)] → W p l e (headSpec (Cond.code yRk_works prog_6_method_2_code 11 (some .boolean) :: sw_tb) rmRk_works).room s m args below meth c H locs 0 0 (MQ below (sw_Qi Γ A ξ res.2 μ res.1 (sw_wf ξ res.2.2.2)) args s 0 0 A) (F0 m 9 ls [])) : ∀ (g : sw_g) (u4 : Int32) (u5 : Int32) (u6 : Int32) (u7 : Int32) (u8 : Int32) (H : Heap) (locs : List Loc) (ls : Array Slot), fRk_works_94 N ξ.2.2.1 q0 q1 q3 n3 k9 g u4 u5 u6 u7 u8 = some res → sw_S Γ A ξ g μ s H locs → sw_wf ξ g.2.2 → lv_has ls 11 [(0, .ref (ξ.2.2.2.1 q0)), (1, .ref (ξ.2.2.2.1 q1)), (3, .ref (ξ.2.2.2.1 q3)), (4, .int u4), (5, .int u5), (6, .int u6), (7, .int u7), (8, .int u8)] → W p l e (headSpec (Cond.code yRk_works prog_6_method_2_code 11 (some .boolean) :: sw_tb) rmRk_works).room s m args below meth c H locs 0 0 (MQ below (sw_Qi Γ A ξ res.2 μ res.1 (sw_wf ξ res.2.2.2)) args s 0 0 A) (F0 m 94 ls []) := by
  intro g u4 u5 u6 u7 u8 H locs ls hm hw hf hl
  unfold fRk_works_94 at hm
  refine lv_aload_n S.1 S.2.1 dRk_works_94 rfl (lv_at hl 0 rfl) ?_
  refine get_Rk (v := .ref (ξ.2.2.2.1 (q0 + 1))) S hw h0 1 (by decide) rfl wf_Rk_9 dRk_works_95 ?_
  refine lv_iload S.1 S.2.1 dRk_works_98 (lv_at hl 3 rfl) ?_
  refine lv_iload S.1 S.2.1 dRk_works_100 (lv_at hl 6 rfl) ?_
  refine lv_iconst (v := (1 : Int32)) S.1 S.2.1 dRk_works_102 (by decide) ?_
  refine bicmp_ne (tgt := 112) S.1 S.2.1 hm dRk_works_103 (by decide) (fun hm => ?_) (fun hm => ?_)
  · refine lv_aload_n S.1 S.2.1 dRk_works_112 rfl (lv_at hl 2 rfl) ?_
    refine lv_iload S.1 S.2.1 dRk_works_113 (lv_at hl 7 rfl) ?_
    refine sx_iald S hw hq3 hm dRk_works_115 (fun v6 hm => ?_)
    refine lv_i2l (v := (v6).toInt64) S.1 S.2.1 dRk_works_116 rfl ?_
    refine sx_last S hw hf h0r hm dRk_works_117 (fun g7 H locs hf hm hw => ?_)
    obtain ⟨x8, ex8, hm⟩ := nm_x hm
    refine lv_iinc (v := x8) (lv' := [(4, .int x8), (0, .ref (ξ.2.2.2.1 q0)), (1, .ref (ξ.2.2.2.1 q1)), (3, .ref (ξ.2.2.2.1 q3)), (5, .int u5), (6, .int u6), (7, .int u7), (8, .int u8)]) S.1 S.2.1 dRk_works_118 hl (k := 3) rfl (by rw [ex8]; rfl) (by decide) rfl (fun ls hl => ?_)
    refine lv_goto (tgt := 309) S.1 S.2.1 dRk_works_121 (by decide) ?_
    obtain ⟨x9, ex9, hm⟩ := nm_x hm
    refine lv_iinc (v := x9) (lv' := [(6, .int x9), (4, .int x8), (0, .ref (ξ.2.2.2.1 q0)), (1, .ref (ξ.2.2.2.1 q1)), (3, .ref (ξ.2.2.2.1 q3)), (5, .int u5), (7, .int u7), (8, .int u8)]) S.1 S.2.1 dRk_works_309 hl (k := 5) rfl (by rw [ex9]; rfl) (by decide) rfl (fun ls hl => ?_)
    refine lv_goto (tgt := 9) S.1 S.2.1 dRk_works_312 (by decide) ?_
    exact hk9 g7 x8 u5 x9 _ _ _ hm hw hf (lv_sub hl [2, 3, 4, 1, 5, 0] rfl)
  · refine lv_iload S.1 S.2.1 dRk_works_106 (lv_at hl 7 rfl) ?_
    refine lv_i2l (v := (u8).toInt64) S.1 S.2.1 dRk_works_108 rfl ?_
    refine lv_goto (tgt := 117) S.1 S.2.1 dRk_works_109 (by decide) ?_
    refine sx_last S hw hf h0r hm dRk_works_117 (fun g10 H locs hf hm hw => ?_)
    obtain ⟨x11, ex11, hm⟩ := nm_x hm
    refine lv_iinc (v := x11) (lv' := [(4, .int x11), (0, .ref (ξ.2.2.2.1 q0)), (1, .ref (ξ.2.2.2.1 q1)), (3, .ref (ξ.2.2.2.1 q3)), (5, .int u5), (6, .int u6), (7, .int u7), (8, .int u8)]) S.1 S.2.1 dRk_works_118 hl (k := 3) rfl (by rw [ex11]; rfl) (by decide) rfl (fun ls hl => ?_)
    refine lv_goto (tgt := 309) S.1 S.2.1 dRk_works_121 (by decide) ?_
    obtain ⟨x12, ex12, hm⟩ := nm_x hm
    refine lv_iinc (v := x12) (lv' := [(6, .int x12), (4, .int x11), (0, .ref (ξ.2.2.2.1 q0)), (1, .ref (ξ.2.2.2.1 q1)), (3, .ref (ξ.2.2.2.1 q3)), (5, .int u5), (7, .int u7), (8, .int u8)]) S.1 S.2.1 dRk_works_309 hl (k := 5) rfl (by rw [ex12]; rfl) (by decide) rfl (fun ls hl => ?_)
    refine lv_goto (tgt := 9) S.1 S.2.1 dRk_works_312 (by decide) ?_
    exact hk9 g10 x11 u5 x12 _ _ _ hm hw hf (lv_sub hl [2, 3, 4, 1, 5, 0] rfl)
set_option maxHeartbeats 4000000 in
set_option maxRecDepth 100000 in
theorem wRk_works_72 {l : Launch} {p : Program} {e : Env} {s : State} {m : MethodId} {args : Array Value} {below : List Frame} {meth : Method} {c : Code} {Γ : sw_C} {A : Nat → Prop} {ξ : sw_x} {μ : sw_m} {res : Int32 × sw_g} (S : CallFix p m c prog_6_method_2_code 11 s args (Cond.code yRk_works prog_6_method_2_code 11 (some .boolean) :: sw_tb) R_Rk) (hr : meth.sig.returnType = some .boolean) (hlk : meth.locks = false) (q0 : Nat) (q1 : Nat) (q3 : Nat) (n3 : Nat) (h0 : sw_ik ξ q0 5) (h0r : sw_is ξ (q0 + 1) 11 40) (hq1 : sw_ik ξ q1 7) (hq3 : sw_is ξ q3 10 n3) (N : Nat) (k9 : sw_g → Int32 → Int32 → Int32 → Option (Int32 × sw_g)) (hk9 : ∀ (g : sw_g) (u4 : Int32) (u5 : Int32) (u6 : Int32) (H : Heap) (locs : List Loc) (ls : Array Slot), k9 g u4 u5 u6 = some res → sw_S Γ A ξ g μ s H locs → sw_wf ξ g.2.2 → lv_has ls 11 [(0, .ref (ξ.2.2.2.1 q0)), (1, .ref (ξ.2.2.2.1 q1)), (3, .ref (ξ.2.2.2.1 q3)), (4, .int u4), (5, .int u5), (6, .int u6)] → W p l e (headSpec (Cond.code yRk_works prog_6_method_2_code 11 (some .boolean) :: sw_tb) rmRk_works).room s m args below meth c H locs 0 0 (MQ below (sw_Qi Γ A ξ res.2 μ res.1 (sw_wf ξ res.2.2.2)) args s 0 0 A) (F0 m 9 ls [])) : ∀ (g : sw_g) (u4 : Int32) (u5 : Int32) (u6 : Int32) (u7 : Int32) (u8 : Int32) (H : Heap) (locs : List Loc) (ls : Array Slot), fRk_works_72 N ξ.2.2.1 q0 q1 q3 n3 k9 g u4 u5 u6 u7 u8 = some res → sw_S Γ A ξ g μ s H locs → sw_wf ξ g.2.2 → lv_has ls 11 [(0, .ref (ξ.2.2.2.1 q0)), (1, .ref (ξ.2.2.2.1 q1)), (3, .ref (ξ.2.2.2.1 q3)), (4, .int u4), (5, .int u5), (6, .int u6), (7, .int u7), (8, .int u8)] → W p l e (headSpec (Cond.code yRk_works prog_6_method_2_code 11 (some .boolean) :: sw_tb) rmRk_works).room s m args below meth c H locs 0 0 (MQ below (sw_Qi Γ A ξ res.2 μ res.1 (sw_wf ξ res.2.2.2)) args s 0 0 A) (F0 m 72 ls []) := by
  intro g u4 u5 u6 u7 u8 H locs ls hm hw hf hl
  unfold fRk_works_72 at hm
  refine lv_iload S.1 S.2.1 dRk_works_72 (lv_at hl 3 rfl) ?_
  refine lv_bipush (v := (40 : Int32)) S.1 S.2.1 dRk_works_74 (by decide) ?_
  refine bicmp_ge (tgt := 92) S.1 S.2.1 hm dRk_works_76 (by decide) (fun hm => ?_) (fun hm => ?_)
  · refine lv_iconst (v := (0 : Int32)) S.1 S.2.1 dRk_works_92 (by decide) ?_
    obtain rfl := Option.some.inj hm
    exact sw_zret S hr hlk (Or.inl rfl) hw hf dRk_works_93
  · refine lv_iload S.1 S.2.1 dRk_works_79 (lv_at hl 6 rfl) ?_
    refine lv_iconst (v := (2 : Int32)) S.1 S.2.1 dRk_works_81 (by decide) ?_
    refine bicmp_ne (tgt := 94) S.1 S.2.1 hm dRk_works_82 (by decide) (fun hm => ?_) (fun hm => ?_)
    · exact wRk_works_94 S hr hlk q0 q1 q3 n3 h0 h0r hq1 hq3 N k9 hk9 g u4 u5 u6 u7 u8 _ _ _ hm hw hf (lv_sub hl [0, 1, 2, 3, 4, 5, 6, 7] rfl)
    · refine lv_iload S.1 S.2.1 dRk_works_85 (lv_at hl 7 rfl) ?_
      refine lv_aload_n S.1 S.2.1 dRk_works_87 rfl (lv_at hl 2 rfl) ?_
      refine sx_ilen (v := (Int32.ofNat n3)) S hw hq3 rfl dRk_works_88 ?_
      refine bicmp_lt (tgt := 94) S.1 S.2.1 hm dRk_works_89 (by decide) (fun hm => ?_) (fun hm => ?_)
      · exact wRk_works_94 S hr hlk q0 q1 q3 n3 h0 h0r hq1 hq3 N k9 hk9 g u4 u5 u6 u7 u8 _ _ _ hm hw hf (lv_sub hl [0, 1, 2, 3, 4, 5, 6, 7] rfl)
      · refine lv_iconst (v := (0 : Int32)) S.1 S.2.1 dRk_works_92 (by decide) ?_
        obtain rfl := Option.some.inj hm
        exact sw_zret S hr hlk (Or.inl rfl) hw hf dRk_works_93
set_option maxHeartbeats 4000000 in
set_option maxRecDepth 100000 in
theorem wRk_works_228 {l : Launch} {p : Program} {e : Env} {s : State} {m : MethodId} {args : Array Value} {below : List Frame} {meth : Method} {c : Code} {Γ : sw_C} {A : Nat → Prop} {ξ : sw_x} {μ : sw_m} {res : Int32 × sw_g} (S : CallFix p m c prog_6_method_2_code 11 s args (Cond.code yRk_works prog_6_method_2_code 11 (some .boolean) :: sw_tb) R_Rk) (hr : meth.sig.returnType = some .boolean) (hlk : meth.locks = false) (q0 : Nat) (q1 : Nat) (q3 : Nat) (n3 : Nat) (h0 : sw_ik ξ q0 5) (h0r : sw_is ξ (q0 + 1) 11 40) (hq1 : sw_ik ξ q1 7) (hq3 : sw_is ξ q3 10 n3) (N : Nat) (k9 : sw_g → Int32 → Int32 → Int32 → Option (Int32 × sw_g)) (hk9 : ∀ (g : sw_g) (u4 : Int32) (u5 : Int32) (u6 : Int32) (H : Heap) (locs : List Loc) (ls : Array Slot), k9 g u4 u5 u6 = some res → sw_S Γ A ξ g μ s H locs → sw_wf ξ g.2.2 → lv_has ls 11 [(0, .ref (ξ.2.2.2.1 q0)), (1, .ref (ξ.2.2.2.1 q1)), (3, .ref (ξ.2.2.2.1 q3)), (4, .int u4), (5, .int u5), (6, .int u6)] → W p l e (headSpec (Cond.code yRk_works prog_6_method_2_code 11 (some .boolean) :: sw_tb) rmRk_works).room s m args below meth c H locs 0 0 (MQ below (sw_Qi Γ A ξ res.2 μ res.1 (sw_wf ξ res.2.2.2)) args s 0 0 A) (F0 m 9 ls [])) : ∀ (g : sw_g) (u4 : Int32) (u5 : Int32) (u6 : Int32) (u8 : Int32) (s0 : Int32) (s1 : Int32) (H : Heap) (locs : List Loc) (ls : Array Slot), fRk_works_228 N ξ.2.2.1 q0 q1 q3 n3 k9 g u4 u5 u6 u8 s0 s1 = some res → sw_S Γ A ξ g μ s H locs → sw_wf ξ g.2.2 → lv_has ls 11 [(0, .ref (ξ.2.2.2.1 q0)), (1, .ref (ξ.2.2.2.1 q1)), (3, .ref (ξ.2.2.2.1 q3)), (4, .int u4), (5, .int u5), (6, .int u6), (8, .int u8)] → W p l e (headSpec (Cond.code yRk_works prog_6_method_2_code 11 (some .boolean) :: sw_tb) rmRk_works).room s m args below meth c H locs 0 0 (MQ below (sw_Qi Γ A ξ res.2 μ res.1 (sw_wf ξ res.2.2.2)) args s 0 0 A) (F0 m 228 ls [.int s0, .int s1]) := by
  intro g u4 u5 u6 u8 s0 s1 H locs ls hm hw hf hl
  unfold fRk_works_228 at hm
  refine bicmp_ne (tgt := 238) S.1 S.2.1 hm dRk_works_228 (by decide) (fun hm => ?_) (fun hm => ?_)
  · obtain ⟨x14, ex14, hm⟩ := nm_x hm
    refine lv_iinc (v := x14) (lv' := [(4, .int x14), (0, .ref (ξ.2.2.2.1 q0)), (1, .ref (ξ.2.2.2.1 q1)), (3, .ref (ξ.2.2.2.1 q3)), (5, .int u5), (6, .int u6), (8, .int u8)]) S.1 S.2.1 dRk_works_238 hl (k := 3) rfl (by rw [ex14]; rfl) (by decide) rfl (fun ls hl => ?_)
    refine lv_goto (tgt := 309) S.1 S.2.1 dRk_works_241 (by decide) ?_
    obtain ⟨x15, ex15, hm⟩ := nm_x hm
    refine lv_iinc (v := x15) (lv' := [(6, .int x15), (4, .int x14), (0, .ref (ξ.2.2.2.1 q0)), (1, .ref (ξ.2.2.2.1 q1)), (3, .ref (ξ.2.2.2.1 q3)), (5, .int u5), (8, .int u8)]) S.1 S.2.1 dRk_works_309 hl (k := 5) rfl (by rw [ex15]; rfl) (by decide) rfl (fun ls hl => ?_)
    refine lv_goto (tgt := 9) S.1 S.2.1 dRk_works_312 (by decide) ?_
    exact hk9 g x14 u5 x15 _ _ _ hm hw hf (lv_sub hl [2, 3, 4, 1, 5, 0] rfl)
  · refine lv_iload S.1 S.2.1 dRk_works_231 (lv_at hl 6 rfl) ?_
    refine lv_istore (lv' := [(5, .int u8), (0, .ref (ξ.2.2.2.1 q0)), (1, .ref (ξ.2.2.2.1 q1)), (3, .ref (ξ.2.2.2.1 q3)), (4, .int u4), (6, .int u6), (8, .int u8)]) S.1 S.2.1 dRk_works_233 hl (by decide) rfl (fun ls hl => ?_)
    refine lv_goto (tgt := 241) S.1 S.2.1 dRk_works_235 (by decide) ?_
    refine lv_goto (tgt := 309) S.1 S.2.1 dRk_works_241 (by decide) ?_
    obtain ⟨x16, ex16, hm⟩ := nm_x hm
    refine lv_iinc (v := x16) (lv' := [(6, .int x16), (5, .int u8), (0, .ref (ξ.2.2.2.1 q0)), (1, .ref (ξ.2.2.2.1 q1)), (3, .ref (ξ.2.2.2.1 q3)), (4, .int u4), (8, .int u8)]) S.1 S.2.1 dRk_works_309 hl (k := 5) rfl (by rw [ex16]; rfl) (by decide) rfl (fun ls hl => ?_)
    refine lv_goto (tgt := 9) S.1 S.2.1 dRk_works_312 (by decide) ?_
    exact hk9 g u4 u8 x16 _ _ _ hm hw hf (lv_sub hl [2, 3, 4, 5, 1, 0] rfl)
set_option maxHeartbeats 4000000 in
set_option maxRecDepth 100000 in
theorem wRk_works_213 {l : Launch} {p : Program} {e : Env} {s : State} {m : MethodId} {args : Array Value} {below : List Frame} {meth : Method} {c : Code} {Γ : sw_C} {A : Nat → Prop} {ξ : sw_x} {μ : sw_m} {res : Int32 × sw_g} (S : CallFix p m c prog_6_method_2_code 11 s args (Cond.code yRk_works prog_6_method_2_code 11 (some .boolean) :: sw_tb) R_Rk) (hr : meth.sig.returnType = some .boolean) (hlk : meth.locks = false) (q0 : Nat) (q1 : Nat) (q3 : Nat) (n3 : Nat) (h0 : sw_ik ξ q0 5) (h0r : sw_is ξ (q0 + 1) 11 40) (hq1 : sw_ik ξ q1 7) (hq3 : sw_is ξ q3 10 n3) (N : Nat) (k9 : sw_g → Int32 → Int32 → Int32 → Option (Int32 × sw_g)) (hk9 : ∀ (g : sw_g) (u4 : Int32) (u5 : Int32) (u6 : Int32) (H : Heap) (locs : List Loc) (ls : Array Slot), k9 g u4 u5 u6 = some res → sw_S Γ A ξ g μ s H locs → sw_wf ξ g.2.2 → lv_has ls 11 [(0, .ref (ξ.2.2.2.1 q0)), (1, .ref (ξ.2.2.2.1 q1)), (3, .ref (ξ.2.2.2.1 q3)), (4, .int u4), (5, .int u5), (6, .int u6)] → W p l e (headSpec (Cond.code yRk_works prog_6_method_2_code 11 (some .boolean) :: sw_tb) rmRk_works).room s m args below meth c H locs 0 0 (MQ below (sw_Qi Γ A ξ res.2 μ res.1 (sw_wf ξ res.2.2.2)) args s 0 0 A) (F0 m 9 ls [])) : ∀ (g : sw_g) (u4 : Int32) (u5 : Int32) (u6 : Int32) (u7 : Int32) (u8 : Int32) (s0 : Int32) (H : Heap) (locs : List Loc) (ls : Array Slot), fRk_works_213 N ξ.2.2.1 q0 q1 q3 n3 k9 g u4 u5 u6 u7 u8 s0 = some res → sw_S Γ A ξ g μ s H locs → sw_wf ξ g.2.2 → lv_has ls 11 [(0, .ref (ξ.2.2.2.1 q0)), (1, .ref (ξ.2.2.2.1 q1)), (3, .ref (ξ.2.2.2.1 q3)), (4, .int u4), (5, .int u5), (6, .int u6), (7, .int u7), (8, .int u8)] → W p l e (headSpec (Cond.code yRk_works prog_6_method_2_code 11 (some .boolean) :: sw_tb) rmRk_works).room s m args below meth c H locs 0 0 (MQ below (sw_Qi Γ A ξ res.2 μ res.1 (sw_wf ξ res.2.2.2)) args s 0 0 A) (F0 m 213 ls [.int s0]) := by
  intro g u4 u5 u6 u7 u8 s0 H locs ls hm hw hf hl
  unfold fRk_works_213 at hm
  refine lv_istore (lv' := [(9, .int s0), (0, .ref (ξ.2.2.2.1 q0)), (1, .ref (ξ.2.2.2.1 q1)), (3, .ref (ξ.2.2.2.1 q3)), (4, .int u4), (5, .int u5), (6, .int u6), (7, .int u7), (8, .int u8)]) S.1 S.2.1 dRk_works_213 hl (by decide) rfl (fun ls hl => ?_)
  refine lv_iload S.1 S.2.1 dRk_works_215 (lv_at hl 0 rfl) ?_
  refine lv_iload S.1 S.2.1 dRk_works_217 (lv_at hl 7 rfl) ?_
  refine lv_iconst (v := (4 : Int32)) S.1 S.2.1 dRk_works_219 (by decide) ?_
  refine bicmp_ne (tgt := 227) S.1 S.2.1 hm dRk_works_220 (by decide) (fun hm => ?_) (fun hm => ?_)
  · refine lv_iconst (v := (0 : Int32)) S.1 S.2.1 dRk_works_227 (by decide) ?_
    exact wRk_works_228 S hr hlk q0 q1 q3 n3 h0 h0r hq1 hq3 N k9 hk9 g u4 u5 u6 u8 (0 : Int32) s0 _ _ _ hm hw hf (lv_sub hl [1, 2, 3, 4, 5, 6, 8] rfl)
  · refine lv_iconst (v := (1 : Int32)) S.1 S.2.1 dRk_works_223 (by decide) ?_
    refine lv_goto (tgt := 228) S.1 S.2.1 dRk_works_224 (by decide) ?_
    exact wRk_works_228 S hr hlk q0 q1 q3 n3 h0 h0r hq1 hq3 N k9 hk9 g u4 u5 u6 u8 (1 : Int32) s0 _ _ _ hm hw hf (lv_sub hl [1, 2, 3, 4, 5, 6, 8] rfl)
set_option maxHeartbeats 4000000 in
set_option maxRecDepth 100000 in
theorem wRk_works_194 {l : Launch} {p : Program} {e : Env} {s : State} {m : MethodId} {args : Array Value} {below : List Frame} {meth : Method} {c : Code} {Γ : sw_C} {A : Nat → Prop} {ξ : sw_x} {μ : sw_m} {res : Int32 × sw_g} (S : CallFix p m c prog_6_method_2_code 11 s args (Cond.code yRk_works prog_6_method_2_code 11 (some .boolean) :: sw_tb) R_Rk) (hr : meth.sig.returnType = some .boolean) (hlk : meth.locks = false) (q0 : Nat) (q1 : Nat) (q3 : Nat) (n3 : Nat) (h0 : sw_ik ξ q0 5) (h0r : sw_is ξ (q0 + 1) 11 40) (hq1 : sw_ik ξ q1 7) (hq3 : sw_is ξ q3 10 n3) (N : Nat) (k9 : sw_g → Int32 → Int32 → Int32 → Option (Int32 × sw_g)) (hk9 : ∀ (g : sw_g) (u4 : Int32) (u5 : Int32) (u6 : Int32) (H : Heap) (locs : List Loc) (ls : Array Slot), k9 g u4 u5 u6 = some res → sw_S Γ A ξ g μ s H locs → sw_wf ξ g.2.2 → lv_has ls 11 [(0, .ref (ξ.2.2.2.1 q0)), (1, .ref (ξ.2.2.2.1 q1)), (3, .ref (ξ.2.2.2.1 q3)), (4, .int u4), (5, .int u5), (6, .int u6)] → W p l e (headSpec (Cond.code yRk_works prog_6_method_2_code 11 (some .boolean) :: sw_tb) rmRk_works).room s m args below meth c H locs 0 0 (MQ below (sw_Qi Γ A ξ res.2 μ res.1 (sw_wf ξ res.2.2.2)) args s 0 0 A) (F0 m 9 ls [])) : ∀ (g : sw_g) (u4 : Int32) (u5 : Int32) (u6 : Int32) (u7 : Int32) (u8 : Int32) (H : Heap) (locs : List Loc) (ls : Array Slot), fRk_works_194 N ξ.2.2.1 q0 q1 q3 n3 k9 g u4 u5 u6 u7 u8 = some res → sw_S Γ A ξ g μ s H locs → sw_wf ξ g.2.2 → lv_has ls 11 [(0, .ref (ξ.2.2.2.1 q0)), (1, .ref (ξ.2.2.2.1 q1)), (3, .ref (ξ.2.2.2.1 q3)), (4, .int u4), (5, .int u5), (6, .int u6), (7, .int u7), (8, .int u8)] → W p l e (headSpec (Cond.code yRk_works prog_6_method_2_code 11 (some .boolean) :: sw_tb) rmRk_works).room s m args below meth c H locs 0 0 (MQ below (sw_Qi Γ A ξ res.2 μ res.1 (sw_wf ξ res.2.2.2)) args s 0 0 A) (F0 m 194 ls []) := by
  intro g u4 u5 u6 u7 u8 H locs ls hm hw hf hl
  unfold fRk_works_194 at hm
  refine lv_aload_n S.1 S.2.1 dRk_works_194 rfl (lv_at hl 0 rfl) ?_
  refine get_Rk (v := .ref (ξ.2.2.2.1 (q0 + 1))) S hw h0 1 (by decide) rfl wf_Rk_9 dRk_works_195 ?_
  refine lv_iload S.1 S.2.1 dRk_works_198 (lv_at hl 3 rfl) ?_
  refine lv_iconst (v := (1 : Int32)) S.1 S.2.1 dRk_works_200 (by decide) ?_
  refine lv_isub S.1 S.2.1 dRk_works_201 ?_
  refine sx_lald S hw h0r hm dRk_works_202 (fun v13 hm => ?_)
  refine lv_lconst (v := (0 : Int64)) S.1 S.2.1 dRk_works_203 (by decide) ?_
  refine W.lcmp S.1 S.2.1 dRk_works_204 ?_
  refine bif_eq (tgt := 212) S.1 S.2.1 hm dRk_works_205 (by decide) (fun hm => ?_) (fun hm => ?_)
  · refine lv_iconst (v := (0 : Int32)) S.1 S.2.1 dRk_works_212 (by decide) ?_
    exact wRk_works_213 S hr hlk q0 q1 q3 n3 h0 h0r hq1 hq3 N k9 hk9 g u4 u5 u6 u7 u8 (0 : Int32) _ _ _ hm hw hf (lv_sub hl [0, 1, 2, 3, 4, 5, 6, 7] rfl)
  · refine lv_iconst (v := (1 : Int32)) S.1 S.2.1 dRk_works_208 (by decide) ?_
    refine lv_goto (tgt := 213) S.1 S.2.1 dRk_works_209 (by decide) ?_
    exact wRk_works_213 S hr hlk q0 q1 q3 n3 h0 h0r hq1 hq3 N k9 hk9 g u4 u5 u6 u7 u8 (1 : Int32) _ _ _ hm hw hf (lv_sub hl [0, 1, 2, 3, 4, 5, 6, 7] rfl)
set_option maxHeartbeats 4000000 in
set_option maxRecDepth 100000 in
theorem wRk_works_9 {l : Launch} {p : Program} {e : Env} {s : State} {m : MethodId} {args : Array Value} {below : List Frame} {meth : Method} {c : Code} {Γ : sw_C} {A : Nat → Prop} {ξ : sw_x} {μ : sw_m} {res : Int32 × sw_g} (S : CallFix p m c prog_6_method_2_code 11 s args (Cond.code yRk_works prog_6_method_2_code 11 (some .boolean) :: sw_tb) R_Rk) (hr : meth.sig.returnType = some .boolean) (hlk : meth.locks = false) (q0 : Nat) (q1 : Nat) (q3 : Nat) (n3 : Nat) (h0 : sw_ik ξ q0 5) (h0r : sw_is ξ (q0 + 1) 11 40) (hq1 : sw_ik ξ q1 7) (hq3 : sw_is ξ q3 10 n3) (N : Nat) : ∀ (fu : Nat) (g : sw_g) (u4 : Int32) (u5 : Int32) (u6 : Int32) (H : Heap) (locs : List Loc) (ls : Array Slot), fRk_works_9 N ξ.2.2.1 q0 q1 q3 n3  fu g u4 u5 u6 = some res → sw_S Γ A ξ g μ s H locs → sw_wf ξ g.2.2 → lv_has ls 11 [(0, .ref (ξ.2.2.2.1 q0)), (1, .ref (ξ.2.2.2.1 q1)), (3, .ref (ξ.2.2.2.1 q3)), (4, .int u4), (5, .int u5), (6, .int u6)] → W p l e (headSpec (Cond.code yRk_works prog_6_method_2_code 11 (some .boolean) :: sw_tb) rmRk_works).room s m args below meth c H locs 0 0 (MQ below (sw_Qi Γ A ξ res.2 μ res.1 (sw_wf ξ res.2.2.2)) args s 0 0 A) (F0 m 9 ls []) := by
  intro fu
  induction fu with
  | zero => intro g u4 u5 u6 H locs ls hm; rw [fRk_works_9.eq_1] at hm; cases hm
  | succ fu ih =>
    intro g u4 u5 u6 H locs ls hm hw hf hl
    rw [fRk_works_9.eq_2] at hm
    refine lv_iload S.1 S.2.1 dRk_works_9 (lv_at hl 5 rfl) ?_
    refine lv_sipush (v := (512 : Int32)) S.1 S.2.1 dRk_works_11 (by decide) ?_
    refine bicmp_ge (tgt := 315) S.1 S.2.1 hm dRk_works_14 (by decide) (fun hm => ?_) (fun hm => ?_)
    · refine lv_iconst (v := (0 : Int32)) S.1 S.2.1 dRk_works_315 (by decide) ?_
      obtain rfl := Option.some.inj hm
      exact sw_zret S hr hlk (Or.inl rfl) hw hf dRk_works_316
    · refine lv_iload S.1 S.2.1 dRk_works_17 (lv_at hl 4 rfl) ?_
      refine bif_lt (tgt := 315) S.1 S.2.1 hm dRk_works_19 (by decide) (fun hm => ?_) (fun hm => ?_)
      · refine lv_iconst (v := (0 : Int32)) S.1 S.2.1 dRk_works_315 (by decide) ?_
        obtain rfl := Option.some.inj hm
        exact sw_zret S hr hlk (Or.inl rfl) hw hf dRk_works_316
      · refine lv_iload S.1 S.2.1 dRk_works_22 (lv_at hl 4 rfl) ?_
        refine lv_aload_n S.1 S.2.1 dRk_works_24 rfl (lv_at hl 1 rfl) ?_
        refine get_Te (v := .int (g.1 q1 6)) S hw hq1 6 (by decide) rfl wf_Rk_15 dRk_works_25 ?_
        refine bicmp_ge (tgt := 315) S.1 S.2.1 hm dRk_works_28 (by decide) (fun hm => ?_) (fun hm => ?_)
        · refine lv_iconst (v := (0 : Int32)) S.1 S.2.1 dRk_works_315 (by decide) ?_
          obtain rfl := Option.some.inj hm
          exact sw_zret S hr hlk (Or.inl rfl) hw hf dRk_works_316
        · refine lv_aload_n S.1 S.2.1 dRk_works_31 rfl (lv_at hl 1 rfl) ?_
          refine get_Te (v := .ref (ξ.2.2.2.1 (q1 + 6))) S hw hq1 7 (by decide) rfl wf_Rk_21 dRk_works_32 ?_
          refine lv_iload S.1 S.2.1 dRk_works_35 (lv_at hl 4 rfl) ?_
          refine sx_iald S hw (is_Te_code hf hq1) hm dRk_works_37 (fun v1 hm => ?_)
          refine lv_sipush (v := (2048 : Int32)) S.1 S.2.1 dRk_works_38 (by decide) ?_
          refine lv_idiv S.1 S.2.1 dRk_works_41 (by decide) ?_
          refine nm_i hm (fun x2 hm => ?_)
          refine lv_istore (lv' := [(7, .int x2), (0, .ref (ξ.2.2.2.1 q0)), (1, .ref (ξ.2.2.2.1 q1)), (3, .ref (ξ.2.2.2.1 q3)), (4, .int u4), (5, .int u5), (6, .int u6)]) S.1 S.2.1 dRk_works_42 hl (by decide) rfl (fun ls hl => ?_)
          refine lv_aload_n S.1 S.2.1 dRk_works_44 rfl (lv_at hl 2 rfl) ?_
          refine get_Te (v := .ref (ξ.2.2.2.1 (q1 + 6))) S hw hq1 7 (by decide) rfl wf_Rk_21 dRk_works_45 ?_
          refine lv_iload S.1 S.2.1 dRk_works_48 (lv_at hl 5 rfl) ?_
          refine sx_iald S hw (is_Te_code hf hq1) hm dRk_works_50 (fun v3 hm => ?_)
          refine lv_sipush (v := (2048 : Int32)) S.1 S.2.1 dRk_works_51 (by decide) ?_
          refine lv_irem S.1 S.2.1 dRk_works_54 (by decide) ?_
          refine nm_i hm (fun x4 hm => ?_)
          refine lv_istore (lv' := [(8, .int x4), (7, .int x2), (0, .ref (ξ.2.2.2.1 q0)), (1, .ref (ξ.2.2.2.1 q1)), (3, .ref (ξ.2.2.2.1 q3)), (4, .int u4), (5, .int u5), (6, .int u6)]) S.1 S.2.1 dRk_works_55 hl (by decide) rfl (fun ls hl => ?_)
          obtain ⟨x5, ex5, hm⟩ := nm_x hm
          refine lv_iinc (v := x5) (lv' := [(5, .int x5), (8, .int x4), (7, .int x2), (0, .ref (ξ.2.2.2.1 q0)), (1, .ref (ξ.2.2.2.1 q1)), (3, .ref (ξ.2.2.2.1 q3)), (4, .int u4), (6, .int u6)]) S.1 S.2.1 dRk_works_57 hl (k := 6) rfl (by rw [ex5]; rfl) (by decide) rfl (fun ls hl => ?_)
          refine lv_iload S.1 S.2.1 dRk_works_60 (lv_at hl 2 rfl) ?_
          refine lv_iconst (v := (1 : Int32)) S.1 S.2.1 dRk_works_62 (by decide) ?_
          refine bicmp_eq (tgt := 72) S.1 S.2.1 hm dRk_works_63 (by decide) (fun hm => ?_) (fun hm => ?_)
          · exact wRk_works_72 S hr hlk q0 q1 q3 n3 h0 h0r hq1 hq3 N (fRk_works_9 N ξ.2.2.1 q0 q1 q3 n3  fu) ih g u4 x5 u6 x2 x4 _ _ _ hm hw hf (lv_sub hl [3, 4, 5, 6, 0, 7, 2, 1] rfl)
          · refine lv_iload S.1 S.2.1 dRk_works_66 (lv_at hl 2 rfl) ?_
            refine lv_iconst (v := (2 : Int32)) S.1 S.2.1 dRk_works_68 (by decide) ?_
            refine bicmp_ne (tgt := 124) S.1 S.2.1 hm dRk_works_69 (by decide) (fun hm => ?_) (fun hm => ?_)
            · refine lv_iload S.1 S.2.1 dRk_works_124 (lv_at hl 6 rfl) ?_
              refine lv_iconst (v := (1 : Int32)) S.1 S.2.1 dRk_works_126 (by decide) ?_
              refine bicmp_ge (tgt := 132) S.1 S.2.1 hm dRk_works_127 (by decide) (fun hm => ?_) (fun hm => ?_)
              · refine lv_iload S.1 S.2.1 dRk_works_132 (lv_at hl 2 rfl) ?_
                refine bif_ne (tgt := 153) S.1 S.2.1 hm dRk_works_134 (by decide) (fun hm => ?_) (fun hm => ?_)
                · refine lv_iload S.1 S.2.1 dRk_works_153 (lv_at hl 2 rfl) ?_
                  refine lv_iconst (v := (3 : Int32)) S.1 S.2.1 dRk_works_155 (by decide) ?_
                  refine bicmp_ne (tgt := 182) S.1 S.2.1 hm dRk_works_156 (by decide) (fun hm => ?_) (fun hm => ?_)
                  · refine lv_iload S.1 S.2.1 dRk_works_182 (lv_at hl 2 rfl) ?_
                    refine lv_iconst (v := (4 : Int32)) S.1 S.2.1 dRk_works_184 (by decide) ?_
                    refine bicmp_eq (tgt := 194) S.1 S.2.1 hm dRk_works_185 (by decide) (fun hm => ?_) (fun hm => ?_)
                    · exact wRk_works_194 S hr hlk q0 q1 q3 n3 h0 h0r hq1 hq3 N (fRk_works_9 N ξ.2.2.1 q0 q1 q3 n3  fu) ih g u4 x5 u6 x2 x4 _ _ _ hm hw hf (lv_sub hl [3, 4, 5, 6, 0, 7, 2, 1] rfl)
                    · refine lv_iload S.1 S.2.1 dRk_works_188 (lv_at hl 2 rfl) ?_
                      refine lv_iconst (v := (5 : Int32)) S.1 S.2.1 dRk_works_190 (by decide) ?_
                      refine bicmp_ne (tgt := 244) S.1 S.2.1 hm dRk_works_191 (by decide) (fun hm => ?_) (fun hm => ?_)
                      · refine lv_iload S.1 S.2.1 dRk_works_244 (lv_at hl 6 rfl) ?_
                        refine lv_iconst (v := (2 : Int32)) S.1 S.2.1 dRk_works_246 (by decide) ?_
                        refine bicmp_ge (tgt := 252) S.1 S.2.1 hm dRk_works_247 (by decide) (fun hm => ?_) (fun hm => ?_)
                        · obtain ⟨x17, ex17, hm⟩ := nm_x hm
                          refine lv_iinc (v := x17) (lv' := [(4, .int x17), (5, .int x5), (8, .int x4), (7, .int x2), (0, .ref (ξ.2.2.2.1 q0)), (1, .ref (ξ.2.2.2.1 q1)), (3, .ref (ξ.2.2.2.1 q3)), (6, .int u6)]) S.1 S.2.1 dRk_works_252 hl (k := 6) rfl (by rw [ex17]; rfl) (by decide) rfl (fun ls hl => ?_)
                          refine lv_iload S.1 S.2.1 dRk_works_255 (lv_at hl 3 rfl) ?_
                          refine lv_aload_n S.1 S.2.1 dRk_works_257 rfl (lv_at hl 4 rfl) ?_
                          refine get_Rk (v := .ref (ξ.2.2.2.1 (q0 + 1))) S hw h0 1 (by decide) rfl wf_Rk_9 dRk_works_258 ?_
                          refine lv_iload S.1 S.2.1 dRk_works_261 (lv_at hl 0 rfl) ?_
                          refine lv_iconst (v := (1 : Int32)) S.1 S.2.1 dRk_works_263 (by decide) ?_
                          refine lv_isub S.1 S.2.1 dRk_works_264 ?_
                          refine sx_lald S hw h0r hm dRk_works_265 (fun v18 hm => ?_)
                          refine lv_aload_n S.1 S.2.1 dRk_works_266 rfl (lv_at hl 4 rfl) ?_
                          refine get_Rk (v := .ref (ξ.2.2.2.1 (q0 + 1))) S hw h0 1 (by decide) rfl wf_Rk_9 dRk_works_267 ?_
                          refine lv_iload S.1 S.2.1 dRk_works_270 (lv_at hl 0 rfl) ?_
                          refine sx_lald S hw h0r hm dRk_works_272 (fun v19 hm => ?_)
                          obtain ⟨v21, h20, hm⟩ := ob hm
                          refine sw_Sl (rest := []) S hw (cRk_combine l  hf x2 v18 v19 h20) kRk_combine wm_Rk_28 rfl rfl hl.1 (Nat.le_of_ble_eq_true rfl) ⟨rfl, rfl, Nat.le_of_ble_eq_true rfl, Nat.le_of_ble_eq_true rfl⟩ ⟨Nat.le_of_ble_eq_true rfl, Nat.le_of_ble_eq_true rfl⟩ dRk_works_273 (fun H locs hw _ => ?_)
                          refine lv_lstore (lv' := [(9, .long v21), (4, .int x17), (5, .int x5), (8, .int x4), (7, .int x2), (0, .ref (ξ.2.2.2.1 q0)), (1, .ref (ξ.2.2.2.1 q1)), (3, .ref (ξ.2.2.2.1 q3)), (6, .int u6)]) S.1 S.2.1 dRk_works_276 hl (by decide) rfl (fun ls hl => ?_)
                          refine lv_lload S.1 S.2.1 dRk_works_278 (lv_at hl 0 rfl) ?_
                          refine lv_ldc2 S.1 S.2.1 S.2.2.2.1 (sw_word S wc_Rk_32) dRk_works_280 ?_
                          refine W.lcmp S.1 S.2.1 dRk_works_283 ?_
                          refine bif_gt (tgt := 296) S.1 S.2.1 hm dRk_works_284 (by decide) (fun hm => ?_) (fun hm => ?_)
                          · refine lv_iconst (v := (0 : Int32)) S.1 S.2.1 dRk_works_296 (by decide) ?_
                            obtain rfl := Option.some.inj hm
                            exact sw_zret S hr hlk (Or.inl rfl) hw hf dRk_works_297
                          · refine lv_lload S.1 S.2.1 dRk_works_287 (lv_at hl 0 rfl) ?_
                            refine lv_ldc2 S.1 S.2.1 S.2.2.2.1 (sw_word S wc_Rk_34) dRk_works_289 ?_
                            refine W.lcmp S.1 S.2.1 dRk_works_292 ?_
                            refine bif_ge (tgt := 298) S.1 S.2.1 hm dRk_works_293 (by decide) (fun hm => ?_) (fun hm => ?_)
                            · refine lv_aload_n S.1 S.2.1 dRk_works_298 rfl (lv_at hl 5 rfl) ?_
                              refine get_Rk (v := .ref (ξ.2.2.2.1 (q0 + 1))) S hw h0 1 (by decide) rfl wf_Rk_9 dRk_works_299 ?_
                              refine lv_iload S.1 S.2.1 dRk_works_302 (lv_at hl 1 rfl) ?_
                              refine lv_iconst (v := (1 : Int32)) S.1 S.2.1 dRk_works_304 (by decide) ?_
                              refine lv_isub S.1 S.2.1 dRk_works_305 ?_
                              refine lv_lload S.1 S.2.1 dRk_works_306 (lv_at hl 0 rfl) ?_
                              refine sx_last S hw hf h0r hm dRk_works_308 (fun g22 H locs hf hm hw => ?_)
                              obtain ⟨x23, ex23, hm⟩ := nm_x hm
                              refine lv_iinc (v := x23) (lv' := [(6, .int x23), (9, .long v21), (4, .int x17), (5, .int x5), (8, .int x4), (7, .int x2), (0, .ref (ξ.2.2.2.1 q0)), (1, .ref (ξ.2.2.2.1 q1)), (3, .ref (ξ.2.2.2.1 q3))]) S.1 S.2.1 dRk_works_309 hl (k := 8) rfl (by rw [ex23]; rfl) (by decide) rfl (fun ls hl => ?_)
                              refine lv_goto (tgt := 9) S.1 S.2.1 dRk_works_312 (by decide) ?_
                              exact ih g22 x17 x5 x23 _ _ _ hm hw hf (lv_sub hl [6, 7, 8, 2, 3, 0] rfl)
                            · refine lv_iconst (v := (0 : Int32)) S.1 S.2.1 dRk_works_296 (by decide) ?_
                              obtain rfl := Option.some.inj hm
                              exact sw_zret S hr hlk (Or.inl rfl) hw hf dRk_works_297
                        · refine lv_iconst (v := (0 : Int32)) S.1 S.2.1 dRk_works_250 (by decide) ?_
                          obtain rfl := Option.some.inj hm
                          exact sw_zret S hr hlk (Or.inl rfl) hw hf dRk_works_251
                      · exact wRk_works_194 S hr hlk q0 q1 q3 n3 h0 h0r hq1 hq3 N (fRk_works_9 N ξ.2.2.1 q0 q1 q3 n3  fu) ih g u4 x5 u6 x2 x4 _ _ _ hm hw hf (lv_sub hl [3, 4, 5, 6, 0, 7, 2, 1] rfl)
                  · refine lv_aload_n S.1 S.2.1 dRk_works_159 rfl (lv_at hl 3 rfl) ?_
                    refine get_Rk (v := .ref (ξ.2.2.2.1 (q0 + 1))) S hw h0 1 (by decide) rfl wf_Rk_9 dRk_works_160 ?_
                    refine lv_iload S.1 S.2.1 dRk_works_163 (lv_at hl 6 rfl) ?_
                    refine lv_iconst (v := (1 : Int32)) S.1 S.2.1 dRk_works_165 (by decide) ?_
                    refine lv_isub S.1 S.2.1 dRk_works_166 ?_
                    refine lv_lconst (v := (1 : Int64)) S.1 S.2.1 dRk_works_167 (by decide) ?_
                    refine lv_aload_n S.1 S.2.1 dRk_works_168 rfl (lv_at hl 3 rfl) ?_
                    refine get_Rk (v := .ref (ξ.2.2.2.1 (q0 + 1))) S hw h0 1 (by decide) rfl wf_Rk_9 dRk_works_169 ?_
                    refine lv_iload S.1 S.2.1 dRk_works_172 (lv_at hl 6 rfl) ?_
                    refine lv_iconst (v := (1 : Int32)) S.1 S.2.1 dRk_works_174 (by decide) ?_
                    refine lv_isub S.1 S.2.1 dRk_works_175 ?_
                    refine sx_lald S hw h0r hm dRk_works_176 (fun v24 hm => ?_)
                    refine lv_lsub S.1 S.2.1 dRk_works_177 ?_
                    refine sx_last S hw hf h0r hm dRk_works_178 (fun g25 H locs hf hm hw => ?_)
                    refine lv_goto (tgt := 309) S.1 S.2.1 dRk_works_179 (by decide) ?_
                    obtain ⟨x26, ex26, hm⟩ := nm_x hm
                    refine lv_iinc (v := x26) (lv' := [(6, .int x26), (5, .int x5), (8, .int x4), (7, .int x2), (0, .ref (ξ.2.2.2.1 q0)), (1, .ref (ξ.2.2.2.1 q1)), (3, .ref (ξ.2.2.2.1 q3)), (4, .int u4)]) S.1 S.2.1 dRk_works_309 hl (k := 7) rfl (by rw [ex26]; rfl) (by decide) rfl (fun ls hl => ?_)
                    refine lv_goto (tgt := 9) S.1 S.2.1 dRk_works_312 (by decide) ?_
                    exact ih g25 u4 x5 x26 _ _ _ hm hw hf (lv_sub hl [4, 5, 6, 7, 1, 0] rfl)
                · refine lv_aload_n S.1 S.2.1 dRk_works_137 rfl (lv_at hl 3 rfl) ?_
                  refine lv_aload_n S.1 S.2.1 dRk_works_138 rfl (lv_at hl 3 rfl) ?_
                  refine get_Rk (v := .ref (ξ.2.2.2.1 (q0 + 1))) S hw h0 1 (by decide) rfl wf_Rk_9 dRk_works_139 ?_
                  refine lv_iload S.1 S.2.1 dRk_works_142 (lv_at hl 6 rfl) ?_
                  refine lv_iconst (v := (1 : Int32)) S.1 S.2.1 dRk_works_144 (by decide) ?_
                  refine lv_isub S.1 S.2.1 dRk_works_145 ?_
                  refine sx_lald S hw h0r hm dRk_works_146 (fun v27 hm => ?_)
                  refine lv_l2i (v := (v27).toInt32) S.1 S.2.1 dRk_works_147 rfl ?_
                  refine put_Rk S hw hf h0 0 (by decide) ps_Rk_0 rfl rfl rfl wf_Rk_25 hm dRk_works_148 (fun g28 H locs hf hm hw => ?_)
                  refine lv_iconst (v := (1 : Int32)) S.1 S.2.1 dRk_works_151 (by decide) ?_
                  obtain rfl := Option.some.inj hm
                  exact sw_zret S hr hlk (Or.inr rfl) hw hf dRk_works_152
              · refine lv_iconst (v := (0 : Int32)) S.1 S.2.1 dRk_works_130 (by decide) ?_
                obtain rfl := Option.some.inj hm
                exact sw_zret S hr hlk (Or.inl rfl) hw hf dRk_works_131
            · exact wRk_works_72 S hr hlk q0 q1 q3 n3 h0 h0r hq1 hq3 N (fRk_works_9 N ξ.2.2.1 q0 q1 q3 n3  fu) ih g u4 x5 u6 x2 x4 _ _ _ hm hw hf (lv_sub hl [3, 4, 5, 6, 0, 7, 2, 1] rfl)
set_option maxHeartbeats 4000000 in
set_option maxRecDepth 100000 in
theorem cRk_works (l : Launch) (N : Nat) {Γ : sw_C} {A : Nat → Prop} {ξ : sw_x} {g : sw_g} {μ : sw_m} (hf : sw_wf ξ g.2.2) (q0 : Nat) (q1 : Nat) (q3 : Nat) (n3 : Nat) (h0 : sw_ik ξ q0 5) (h0r : sw_is ξ (q0 + 1) 11 40) (hq1 : sw_ik ξ q1 7) (hq3 : sw_is ξ q3 10 n3) (a2 : Int32) {res : Int32 × sw_g} (hm : fRk_works N ξ.2.2.1 g q0 q1 q3 n3 a2 = some res) : Met l yRk_works (Cond.code yRk_works prog_6_method_2_code 11 (some .boolean) :: sw_tb) rmRk_works (va_Pc [.ref (ξ.2.2.2.1 q0), .ref (ξ.2.2.2.1 q1), .int a2, .ref (ξ.2.2.2.1 q3)] (sw_V Γ A ξ g μ)) (sw_Qi Γ A ξ res.2 μ res.1 (sw_wf ξ res.2.2.2)) 0 0 A := by
  refine Met.ofW (cc := prog_6_method_2_code) (maxL := 11) (ret := some .boolean) (by decide) rfl ?_
  intro p e s m args below meth c s₁ B hml hv
  obtain ⟨rfl, hv⟩ := hv
  have S : CallFix p m c prog_6_method_2_code 11 s _ (Cond.code yRk_works prog_6_method_2_code 11 (some .boolean) :: sw_tb) R_Rk := ⟨B.exec, B.bytes, hml, findClass_of_methodNamed B.named, atoms_spec (ws := (Cond.code yRk_works prog_6_method_2_code 11 (some .boolean) :: sw_tb)) B.pre⟩
  have hr := B.returns
  have hlk := B.notSynchronized
  have hw := sw_begin hv
  have hl := lv_entry [.ref (ξ.2.2.2.1 q0), .ref (ξ.2.2.2.1 q1), .int a2, .ref (ξ.2.2.2.1 q3)] (n := 11) (Nat.le_of_ble_eq_true rfl)
  rw [lg_entry_eq]
  generalize (lg_sl [.ref (ξ.2.2.2.1 q0), .ref (ξ.2.2.2.1 q1), .int a2, .ref (ξ.2.2.2.1 q3)] ++ List.replicate (11 - (lg_sl [.ref (ξ.2.2.2.1 q0), .ref (ξ.2.2.2.1 q1), .int a2, .ref (ξ.2.2.2.1 q3)]).length) Slot.unset).toArray = ls at hl ⊢
  have hl : lv_has ls 11 [(0, .ref (ξ.2.2.2.1 q0)), (1, .ref (ξ.2.2.2.1 q1)), (2, .int a2), (3, .ref (ξ.2.2.2.1 q3))] := hl
  unfold fRk_works at hm
  refine lv_iconst (v := (0 : Int32)) S.1 S.2.1 dRk_works_0 (by decide) ?_
  refine lv_istore (lv' := [(4, .int (0 : Int32)), (0, .ref (ξ.2.2.2.1 q0)), (1, .ref (ξ.2.2.2.1 q1)), (2, .int a2), (3, .ref (ξ.2.2.2.1 q3))]) S.1 S.2.1 dRk_works_1 hl (by decide) rfl (fun ls hl => ?_)
  refine lv_iload_n S.1 S.2.1 dRk_works_3 rfl (lv_at hl 3 rfl) ?_
  refine lv_istore (lv' := [(5, .int a2), (4, .int (0 : Int32)), (0, .ref (ξ.2.2.2.1 q0)), (1, .ref (ξ.2.2.2.1 q1)), (2, .int a2), (3, .ref (ξ.2.2.2.1 q3))]) S.1 S.2.1 dRk_works_4 hl (by decide) rfl (fun ls hl => ?_)
  refine lv_iconst (v := (0 : Int32)) S.1 S.2.1 dRk_works_6 (by decide) ?_
  refine lv_istore (lv' := [(6, .int (0 : Int32)), (5, .int a2), (4, .int (0 : Int32)), (0, .ref (ξ.2.2.2.1 q0)), (1, .ref (ξ.2.2.2.1 q1)), (2, .int a2), (3, .ref (ξ.2.2.2.1 q3))]) S.1 S.2.1 dRk_works_7 hl (by decide) rfl (fun ls hl => ?_)
  exact wRk_works_9 S hr hlk q0 q1 q3 n3 h0 h0r hq1 hq3 N  N g (0 : Int32) a2 (0 : Int32) _ _ _ hm hw hf (lv_sub hl [3, 4, 6, 2, 1, 0] rfl)
set_option maxHeartbeats 4000000 in
set_option maxRecDepth 100000 in
theorem cJu_holds (l : Launch) (N : Nat) {Γ : sw_C} {A : Nat → Prop} {ξ : sw_x} {g : sw_g} {μ : sw_m} (hf : sw_wf ξ g.2.2) (q1 : Nat) (hq1 : sw_ik ξ q1 7) (a2 : Int32) {res : Int32 × sw_g} (hm : fJu_holds N ξ.2.2.1 g q1 a2 = some res) : Met l yJu_holds (Cond.code yJu_holds prog_3_method_9_code 4 (some .boolean) :: sw_tb) rmJu_holds (va_Pc [.ref (ξ.2.2.2.1 42), .ref (ξ.2.2.2.1 q1), .int a2] (sw_V Γ A ξ g μ)) (sw_Qi Γ A ξ res.2 μ res.1 (sw_wf ξ res.2.2.2)) 0 0 A := by
  refine Met.ofW (cc := prog_3_method_9_code) (maxL := 4) (ret := some .boolean) (by decide) rfl ?_
  intro p e s m args below meth c s₁ B hml hv
  obtain ⟨rfl, hv⟩ := hv
  have S : CallFix p m c prog_3_method_9_code 4 s _ (Cond.code yJu_holds prog_3_method_9_code 4 (some .boolean) :: sw_tb) R_Ju := ⟨B.exec, B.bytes, hml, findClass_of_methodNamed B.named, atoms_spec (ws := (Cond.code yJu_holds prog_3_method_9_code 4 (some .boolean) :: sw_tb)) B.pre⟩
  have hr := B.returns
  have hlk := B.notSynchronized
  have hw := sw_begin hv
  have hl := lv_entry [.ref (ξ.2.2.2.1 42), .ref (ξ.2.2.2.1 q1), .int a2] (n := 4) (Nat.le_of_ble_eq_true rfl)
  rw [lg_entry_eq]
  generalize (lg_sl [.ref (ξ.2.2.2.1 42), .ref (ξ.2.2.2.1 q1), .int a2] ++ List.replicate (4 - (lg_sl [.ref (ξ.2.2.2.1 42), .ref (ξ.2.2.2.1 q1), .int a2]).length) Slot.unset).toArray = ls at hl ⊢
  have hl : lv_has ls 4 [(0, .ref (ξ.2.2.2.1 42)), (1, .ref (ξ.2.2.2.1 q1)), (2, .int a2)] := hl
  unfold fJu_holds at hm
  refine lv_aload_n S.1 S.2.1 dJu_holds_0 rfl (lv_at hl 1 rfl) ?_
  refine get_Te (v := .ref (ξ.2.2.2.1 (q1 + 5))) S hw hq1 5 (by decide) rfl wf_Ju_87 dJu_holds_1 ?_
  refine lv_iload_n S.1 S.2.1 dJu_holds_4 rfl (lv_at hl 2 rfl) ?_
  refine sx_iald S hw (is_Te_test hf hq1) hm dJu_holds_5 (fun v1 hm => ?_)
  refine lv_istore_n (lv' := [(3, .int v1), (0, .ref (ξ.2.2.2.1 42)), (1, .ref (ξ.2.2.2.1 q1)), (2, .int a2)]) S.1 S.2.1 dJu_holds_6 rfl hl (by decide) rfl (fun ls hl => ?_)
  refine lv_iload_n S.1 S.2.1 dJu_holds_7 rfl (lv_at hl 0 rfl) ?_
  refine lv_iconst (v := (-1 : Int32)) S.1 S.2.1 dJu_holds_8 (by decide) ?_
  refine bicmp_eq (tgt := 38) S.1 S.2.1 hm dJu_holds_9 (by decide) (fun hm => ?_) (fun hm => ?_)
  · refine lv_iconst (v := (1 : Int32)) S.1 S.2.1 dJu_holds_38 (by decide) ?_
    refine lv_goto (tgt := 43) S.1 S.2.1 dJu_holds_39 (by decide) ?_
    obtain rfl := Option.some.inj hm
    exact sw_zret S hr hlk (Or.inr rfl) hw hf dJu_holds_43
  · refine lv_aload_n S.1 S.2.1 dJu_holds_12 rfl (lv_at hl 1 rfl) ?_
    refine get_Ju (v := .ref (ξ.2.2.2.1 43)) S hw (is_42 hf) 0 (by decide) rfl wf_Ju_12 dJu_holds_13 ?_
    refine lv_aload_n S.1 S.2.1 dJu_holds_16 rfl (lv_at hl 2 rfl) ?_
    refine lv_iload_n S.1 S.2.1 dJu_holds_17 rfl (lv_at hl 0 rfl) ?_
    refine lv_aload_n S.1 S.2.1 dJu_holds_18 rfl (lv_at hl 1 rfl) ?_
    refine get_Ju (v := .ref (ξ.2.2.2.1 45)) S hw (is_42 hf) 1 (by decide) rfl wf_Ju_18 dJu_holds_19 ?_
    obtain ⟨⟨v4, g3⟩, h2, hm⟩ := ob hm
    refine sw_Vi (q := 43) (rest := []) S hw (cRk_works l N hf 43 q1 45 8 (is_43 hf) (is_44 hf) hq1 (is_45 hf) v1 h2) kRk_works wm_Ju_80 (is_43 hf).1 (e_Rk (is_43 hf)) rfl rfl rfl rfl hl.1 (Nat.le_of_ble_eq_true rfl) ⟨rfl, rfl, Nat.le_of_ble_eq_true rfl, Nat.le_of_ble_eq_true rfl⟩ ⟨Nat.le_of_ble_eq_true rfl, Nat.le_of_ble_eq_true rfl⟩ dJu_holds_22 (fun H locs hw hf => ?_)
    refine bif_eq (tgt := 42) S.1 S.2.1 hm dJu_holds_25 (by decide) (fun hm => ?_) (fun hm => ?_)
    · refine lv_iconst (v := (0 : Int32)) S.1 S.2.1 dJu_holds_42 (by decide) ?_
      obtain rfl := Option.some.inj hm
      exact sw_zret S hr hlk (Or.inl rfl) hw hf dJu_holds_43
    · refine lv_aload_n S.1 S.2.1 dJu_holds_28 rfl (lv_at hl 1 rfl) ?_
      refine get_Ju (v := .ref (ξ.2.2.2.1 43)) S hw (is_42 hf) 0 (by decide) rfl wf_Ju_12 dJu_holds_29 ?_
      refine get_Rk (v := .int (g3.1 43 0)) S hw (is_43 hf) 0 (by decide) rfl wf_Ju_84 dJu_holds_32 ?_
      refine bif_eq (tgt := 42) S.1 S.2.1 hm dJu_holds_35 (by decide) (fun hm => ?_) (fun hm => ?_)
      · refine lv_iconst (v := (0 : Int32)) S.1 S.2.1 dJu_holds_42 (by decide) ?_
        obtain rfl := Option.some.inj hm
        exact sw_zret S hr hlk (Or.inl rfl) hw hf dJu_holds_43
      · refine lv_iconst (v := (1 : Int32)) S.1 S.2.1 dJu_holds_38 (by decide) ?_
        refine lv_goto (tgt := 43) S.1 S.2.1 dJu_holds_39 (by decide) ?_
        obtain rfl := Option.some.inj hm
        exact sw_zret S hr hlk (Or.inr rfl) hw hf dJu_holds_43
set_option maxHeartbeats 4000000 in
set_option maxRecDepth 100000 in
theorem wRe_advance_102 {l : Launch} {p : Program} {e : Env} {s : State} {m : MethodId} {args : Array Value} {below : List Frame} {meth : Method} {c : Code} {Γ : sw_C} {A : Nat → Prop} {ξ : sw_x} {μ : sw_m} {res : sw_g} (S : CallFix p m c prog_5_method_5_code 3 s args (Cond.code yRe_advance prog_5_method_5_code 3 (none) :: sw_tb) R_Re) (hr : meth.sig.returnType = none) (hlk : meth.locks = false) (N : Nat) : ∀ (fu : Nat) (g : sw_g) (u1 : Int32) (u2 : Int32) (H : Heap) (locs : List Loc) (ls : Array Slot), fRe_advance_102 N ξ.2.2.1  fu g u1 u2 = some res → sw_S Γ A ξ g μ s H locs → sw_wf ξ g.2.2 → lv_has ls 3 [(0, .ref (ξ.2.2.2.1 33)), (1, .int u1), (2, .int u2)] → W p l e (headSpec (Cond.code yRe_advance prog_5_method_5_code 3 (none) :: sw_tb) rmRe_advance).room s m args below meth c H locs 0 0 (MQ below (sw_Qv Γ A ξ res μ (sw_wf ξ res.2.2)) args s 0 0 A) (F0 m 102 ls []) := by
  intro fu
  induction fu with
  | zero => intro g u1 u2 H locs ls hm; rw [fRe_advance_102.eq_1] at hm; cases hm
  | succ fu ih =>
    intro g u1 u2 H locs ls hm hw hf hl
    rw [fRe_advance_102.eq_2] at hm
    refine lv_iload_n S.1 S.2.1 dRe_advance_102 rfl (lv_at hl 2 rfl) ?_
    refine lv_sipush (v := (400 : Int32)) S.1 S.2.1 dRe_advance_103 (by decide) ?_
    refine bicmp_ge (tgt := 159) S.1 S.2.1 hm dRe_advance_106 (by decide) (fun hm => ?_) (fun hm => ?_)
    · obtain rfl := Option.some.inj hm
      exact sw_vret S hr hlk hw hf dRe_advance_159
    · refine lv_iload_n S.1 S.2.1 dRe_advance_109 rfl (lv_at hl 1 rfl) ?_
      refine bif_eq (tgt := 159) S.1 S.2.1 hm dRe_advance_110 (by decide) (fun hm => ?_) (fun hm => ?_)
      · obtain rfl := Option.some.inj hm
        exact sw_vret S hr hlk hw hf dRe_advance_159
      · refine lv_aload_n S.1 S.2.1 dRe_advance_113 rfl (lv_at hl 0 rfl) ?_
        refine get_Re (v := .int (g.1 33 6)) S hw (is_33 hf) 6 (by decide) rfl wf_Re_35 dRe_advance_114 ?_
        refine lv_aload_n S.1 S.2.1 dRe_advance_117 rfl (lv_at hl 0 rfl) ?_
        refine get_Re (v := .int (g.1 33 0)) S hw (is_33 hf) 0 (by decide) rfl wf_Re_28 dRe_advance_118 ?_
        refine bicmp_ge (tgt := 159) S.1 S.2.1 hm dRe_advance_121 (by decide) (fun hm => ?_) (fun hm => ?_)
        · obtain rfl := Option.some.inj hm
          exact sw_vret S hr hlk hw hf dRe_advance_159
        · refine lv_aload_n S.1 S.2.1 dRe_advance_124 rfl (lv_at hl 0 rfl) ?_
          refine get_Re (v := .ref (ξ.2.2.2.1 34)) S hw (is_33 hf) 1 (by decide) rfl wf_Re_9 dRe_advance_125 ?_
          refine lv_aload_n S.1 S.2.1 dRe_advance_128 rfl (lv_at hl 0 rfl) ?_
          refine get_Re (v := .int (g.1 33 6)) S hw (is_33 hf) 6 (by decide) rfl wf_Re_35 dRe_advance_129 ?_
          refine sx_iald S hw (is_34 hf) hm dRe_advance_132 (fun v7 hm => ?_)
          obtain ⟨v9, h8, hm⟩ := ob hm
          refine sw_Si (rest := []) S hw (cRe_sortOf l N hf v7 h8) kRe_sortOf wm_Re_77 rfl rfl hl.1 (Nat.le_of_ble_eq_true rfl) ⟨rfl, rfl, Nat.le_of_ble_eq_true rfl, Nat.le_of_ble_eq_true rfl⟩ ⟨Nat.le_of_ble_eq_true rfl, Nat.le_of_ble_eq_true rfl⟩ dRe_advance_133 (fun H locs hw _ => ?_)
          refine lv_iload_n S.1 S.2.1 dRe_advance_136 rfl (lv_at hl 1 rfl) ?_
          refine bicmp_eq (tgt := 143) S.1 S.2.1 hm dRe_advance_137 (by decide) (fun hm => ?_) (fun hm => ?_)
          · refine lv_aload_n S.1 S.2.1 dRe_advance_143 rfl (lv_at hl 0 rfl) ?_
            refine lv_dup S.1 S.2.1 dRe_advance_144 rfl ?_
            refine get_Re (v := .int (g.1 33 6)) S hw (is_33 hf) 6 (by decide) rfl wf_Re_35 dRe_advance_145 ?_
            refine lv_iconst (v := (1 : Int32)) S.1 S.2.1 dRe_advance_148 (by decide) ?_
            refine lv_iadd S.1 S.2.1 dRe_advance_149 ?_
            refine put_Re S hw hf (is_33 hf) 6 (by decide) ps_Re_6 rfl rfl rfl wf_Re_35 hm dRe_advance_150 (fun g10 H locs hf hm hw => ?_)
            obtain ⟨x11, ex11, hm⟩ := nm_x hm
            refine lv_iinc (v := x11) (lv' := [(2, .int x11), (0, .ref (ξ.2.2.2.1 33)), (1, .int u1)]) S.1 S.2.1 dRe_advance_153 hl (k := 2) rfl (by rw [ex11]; rfl) (by decide) rfl (fun ls hl => ?_)
            refine lv_goto (tgt := 102) S.1 S.2.1 dRe_advance_156 (by decide) ?_
            exact ih g10 u1 x11 _ _ _ hm hw hf (lv_sub hl [1, 2, 0] rfl)
          · refine lv_goto (tgt := 159) S.1 S.2.1 dRe_advance_140 (by decide) ?_
            obtain rfl := Option.some.inj hm
            exact sw_vret S hr hlk hw hf dRe_advance_159
set_option maxHeartbeats 4000000 in
set_option maxRecDepth 100000 in
theorem wRe_advance_58 {l : Launch} {p : Program} {e : Env} {s : State} {m : MethodId} {args : Array Value} {below : List Frame} {meth : Method} {c : Code} {Γ : sw_C} {A : Nat → Prop} {ξ : sw_x} {μ : sw_m} {res : sw_g} (S : CallFix p m c prog_5_method_5_code 3 s args (Cond.code yRe_advance prog_5_method_5_code 3 (none) :: sw_tb) R_Re) (hr : meth.sig.returnType = none) (hlk : meth.locks = false) (N : Nat) : ∀ (g : sw_g)  (H : Heap) (locs : List Loc) (ls : Array Slot), fRe_advance_58 N ξ.2.2.1  g = some res → sw_S Γ A ξ g μ s H locs → sw_wf ξ g.2.2 → lv_has ls 3 [(0, .ref (ξ.2.2.2.1 33))] → W p l e (headSpec (Cond.code yRe_advance prog_5_method_5_code 3 (none) :: sw_tb) rmRe_advance).room s m args below meth c H locs 0 0 (MQ below (sw_Qv Γ A ξ res μ (sw_wf ξ res.2.2)) args s 0 0 A) (F0 m 58 ls []) := by
  intro g H locs ls hm hw hf hl
  unfold fRe_advance_58 at hm
  refine lv_aload_n S.1 S.2.1 dRe_advance_58 rfl (lv_at hl 0 rfl) ?_
  refine lv_aload_n S.1 S.2.1 dRe_advance_59 rfl (lv_at hl 0 rfl) ?_
  refine get_Re (v := .int (g.1 33 5)) S hw (is_33 hf) 5 (by decide) rfl wf_Re_71 dRe_advance_60 ?_
  refine put_Re S hw hf (is_33 hf) 6 (by decide) ps_Re_6 rfl rfl rfl wf_Re_35 hm dRe_advance_63 (fun g2 H locs hf hm hw => ?_)
  refine lv_aload_n S.1 S.2.1 dRe_advance_66 rfl (lv_at hl 0 rfl) ?_
  refine get_Re (v := .int (g2.1 33 5)) S hw (is_33 hf) 5 (by decide) rfl wf_Re_71 dRe_advance_67 ?_
  refine lv_aload_n S.1 S.2.1 dRe_advance_70 rfl (lv_at hl 0 rfl) ?_
  refine get_Re (v := .int (g2.1 33 0)) S hw (is_33 hf) 0 (by decide) rfl wf_Re_28 dRe_advance_71 ?_
  refine bicmp_ge (tgt := 159) S.1 S.2.1 hm dRe_advance_74 (by decide) (fun hm => ?_) (fun hm => ?_)
  · obtain rfl := Option.some.inj hm
    exact sw_vret S hr hlk hw hf dRe_advance_159
  · refine lv_aload_n S.1 S.2.1 dRe_advance_77 rfl (lv_at hl 0 rfl) ?_
    refine get_Re (v := .ref (ξ.2.2.2.1 34)) S hw (is_33 hf) 1 (by decide) rfl wf_Re_9 dRe_advance_78 ?_
    refine lv_aload_n S.1 S.2.1 dRe_advance_81 rfl (lv_at hl 0 rfl) ?_
    refine get_Re (v := .int (g2.1 33 5)) S hw (is_33 hf) 5 (by decide) rfl wf_Re_71 dRe_advance_82 ?_
    refine sx_iald S hw (is_34 hf) hm dRe_advance_85 (fun v3 hm => ?_)
    obtain ⟨v5, h4, hm⟩ := ob hm
    refine sw_Si (rest := []) S hw (cRe_sortOf l N hf v3 h4) kRe_sortOf wm_Re_77 rfl rfl hl.1 (Nat.le_of_ble_eq_true rfl) ⟨rfl, rfl, Nat.le_of_ble_eq_true rfl, Nat.le_of_ble_eq_true rfl⟩ ⟨Nat.le_of_ble_eq_true rfl, Nat.le_of_ble_eq_true rfl⟩ dRe_advance_86 (fun H locs hw _ => ?_)
    refine lv_istore_n (lv' := [(1, .int v5), (0, .ref (ξ.2.2.2.1 33))]) S.1 S.2.1 dRe_advance_89 rfl hl (by decide) rfl (fun ls hl => ?_)
    refine lv_aload_n S.1 S.2.1 dRe_advance_90 rfl (lv_at hl 1 rfl) ?_
    refine lv_dup S.1 S.2.1 dRe_advance_91 rfl ?_
    refine get_Re (v := .int (g2.1 33 6)) S hw (is_33 hf) 6 (by decide) rfl wf_Re_35 dRe_advance_92 ?_
    refine lv_iconst (v := (1 : Int32)) S.1 S.2.1 dRe_advance_95 (by decide) ?_
    refine lv_iadd S.1 S.2.1 dRe_advance_96 ?_
    refine put_Re S hw hf (is_33 hf) 6 (by decide) ps_Re_6 rfl rfl rfl wf_Re_35 hm dRe_advance_97 (fun g6 H locs hf hm hw => ?_)
    refine lv_iconst (v := (0 : Int32)) S.1 S.2.1 dRe_advance_100 (by decide) ?_
    refine lv_istore_n (lv' := [(2, .int (0 : Int32)), (1, .int v5), (0, .ref (ξ.2.2.2.1 33))]) S.1 S.2.1 dRe_advance_101 rfl hl (by decide) rfl (fun ls hl => ?_)
    exact wRe_advance_102 S hr hlk N  N g6 v5 (0 : Int32) _ _ _ hm hw hf (lv_sub hl [2, 1, 0] rfl)
set_option maxHeartbeats 4000000 in
set_option maxRecDepth 100000 in
theorem wRe_advance_10 {l : Launch} {p : Program} {e : Env} {s : State} {m : MethodId} {args : Array Value} {below : List Frame} {meth : Method} {c : Code} {Γ : sw_C} {A : Nat → Prop} {ξ : sw_x} {μ : sw_m} {res : sw_g} (S : CallFix p m c prog_5_method_5_code 3 s args (Cond.code yRe_advance prog_5_method_5_code 3 (none) :: sw_tb) R_Re) (hr : meth.sig.returnType = none) (hlk : meth.locks = false) (N : Nat) : ∀ (fu : Nat) (g : sw_g) (u1 : Int32) (H : Heap) (locs : List Loc) (ls : Array Slot), fRe_advance_10 N ξ.2.2.1  fu g u1 = some res → sw_S Γ A ξ g μ s H locs → sw_wf ξ g.2.2 → lv_has ls 3 [(0, .ref (ξ.2.2.2.1 33)), (1, .int u1)] → W p l e (headSpec (Cond.code yRe_advance prog_5_method_5_code 3 (none) :: sw_tb) rmRe_advance).room s m args below meth c H locs 0 0 (MQ below (sw_Qv Γ A ξ res μ (sw_wf ξ res.2.2)) args s 0 0 A) (F0 m 10 ls []) := by
  intro fu
  induction fu with
  | zero => intro g u1 H locs ls hm; rw [fRe_advance_10.eq_1] at hm; cases hm
  | succ fu ih =>
    intro g u1 H locs ls hm hw hf hl
    rw [fRe_advance_10.eq_2] at hm
    refine lv_iload_n S.1 S.2.1 dRe_advance_10 rfl (lv_at hl 1 rfl) ?_
    refine lv_sipush (v := (400 : Int32)) S.1 S.2.1 dRe_advance_11 (by decide) ?_
    refine bicmp_ge (tgt := 58) S.1 S.2.1 hm dRe_advance_14 (by decide) (fun hm => ?_) (fun hm => ?_)
    · exact wRe_advance_58 S hr hlk N  g _ _ _ hm hw hf (lv_sub hl [0] rfl)
    · refine lv_aload_n S.1 S.2.1 dRe_advance_17 rfl (lv_at hl 0 rfl) ?_
      refine get_Re (v := .int (g.1 33 5)) S hw (is_33 hf) 5 (by decide) rfl wf_Re_71 dRe_advance_18 ?_
      refine lv_aload_n S.1 S.2.1 dRe_advance_21 rfl (lv_at hl 0 rfl) ?_
      refine get_Re (v := .int (g.1 33 0)) S hw (is_33 hf) 0 (by decide) rfl wf_Re_28 dRe_advance_22 ?_
      refine bicmp_ge (tgt := 58) S.1 S.2.1 hm dRe_advance_25 (by decide) (fun hm => ?_) (fun hm => ?_)
      · exact wRe_advance_58 S hr hlk N  g _ _ _ hm hw hf (lv_sub hl [0] rfl)
      · refine lv_aload_n S.1 S.2.1 dRe_advance_28 rfl (lv_at hl 0 rfl) ?_
        refine get_Re (v := .ref (ξ.2.2.2.1 34)) S hw (is_33 hf) 1 (by decide) rfl wf_Re_9 dRe_advance_29 ?_
        refine lv_aload_n S.1 S.2.1 dRe_advance_32 rfl (lv_at hl 0 rfl) ?_
        refine get_Re (v := .int (g.1 33 5)) S hw (is_33 hf) 5 (by decide) rfl wf_Re_71 dRe_advance_33 ?_
        refine sx_iald S hw (is_34 hf) hm dRe_advance_36 (fun v12 hm => ?_)
        refine lv_bipush (v := (32 : Int32)) S.1 S.2.1 dRe_advance_37 (by decide) ?_
        refine bicmp_ne (tgt := 58) S.1 S.2.1 hm dRe_advance_39 (by decide) (fun hm => ?_) (fun hm => ?_)
        · exact wRe_advance_58 S hr hlk N  g _ _ _ hm hw hf (lv_sub hl [0] rfl)
        · refine lv_aload_n S.1 S.2.1 dRe_advance_42 rfl (lv_at hl 0 rfl) ?_
          refine lv_dup S.1 S.2.1 dRe_advance_43 rfl ?_
          refine get_Re (v := .int (g.1 33 5)) S hw (is_33 hf) 5 (by decide) rfl wf_Re_71 dRe_advance_44 ?_
          refine lv_iconst (v := (1 : Int32)) S.1 S.2.1 dRe_advance_47 (by decide) ?_
          refine lv_iadd S.1 S.2.1 dRe_advance_48 ?_
          refine put_Re S hw hf (is_33 hf) 5 (by decide) ps_Re_5 rfl rfl rfl wf_Re_71 hm dRe_advance_49 (fun g13 H locs hf hm hw => ?_)
          obtain ⟨x14, ex14, hm⟩ := nm_x hm
          refine lv_iinc (v := x14) (lv' := [(1, .int x14), (0, .ref (ξ.2.2.2.1 33))]) S.1 S.2.1 dRe_advance_52 hl (k := 1) rfl (by rw [ex14]; rfl) (by decide) rfl (fun ls hl => ?_)
          refine lv_goto (tgt := 10) S.1 S.2.1 dRe_advance_55 (by decide) ?_
          exact ih g13 x14 _ _ _ hm hw hf (lv_sub hl [1, 0] rfl)
set_option maxHeartbeats 4000000 in
set_option maxRecDepth 100000 in
theorem cRe_advance (l : Launch) (N : Nat) {Γ : sw_C} {A : Nat → Prop} {ξ : sw_x} {g : sw_g} {μ : sw_m} (hf : sw_wf ξ g.2.2) {res : sw_g} (hm : fRe_advance N ξ.2.2.1 g = some res) : Met l yRe_advance (Cond.code yRe_advance prog_5_method_5_code 3 (none) :: sw_tb) rmRe_advance (va_Pc [.ref (ξ.2.2.2.1 33)] (sw_V Γ A ξ g μ)) (sw_Qv Γ A ξ res μ (sw_wf ξ res.2.2)) 0 0 A := by
  refine Met.ofW (cc := prog_5_method_5_code) (maxL := 3) (ret := none) (by decide) rfl ?_
  intro p e s m args below meth c s₁ B hml hv
  obtain ⟨rfl, hv⟩ := hv
  have S : CallFix p m c prog_5_method_5_code 3 s _ (Cond.code yRe_advance prog_5_method_5_code 3 (none) :: sw_tb) R_Re := ⟨B.exec, B.bytes, hml, findClass_of_methodNamed B.named, atoms_spec (ws := (Cond.code yRe_advance prog_5_method_5_code 3 (none) :: sw_tb)) B.pre⟩
  have hr := B.returns
  have hlk := B.notSynchronized
  have hw := sw_begin hv
  have hl := lv_entry [.ref (ξ.2.2.2.1 33)] (n := 3) (Nat.le_of_ble_eq_true rfl)
  rw [lg_entry_eq]
  generalize (lg_sl [.ref (ξ.2.2.2.1 33)] ++ List.replicate (3 - (lg_sl [.ref (ξ.2.2.2.1 33)]).length) Slot.unset).toArray = ls at hl ⊢
  have hl : lv_has ls 3 [(0, .ref (ξ.2.2.2.1 33))] := hl
  unfold fRe_advance at hm
  refine lv_aload_n S.1 S.2.1 dRe_advance_0 rfl (lv_at hl 0 rfl) ?_
  refine lv_aload_n S.1 S.2.1 dRe_advance_1 rfl (lv_at hl 0 rfl) ?_
  refine get_Re (v := .int (g.1 33 6)) S hw (is_33 hf) 6 (by decide) rfl wf_Re_35 dRe_advance_2 ?_
  refine put_Re S hw hf (is_33 hf) 5 (by decide) ps_Re_5 rfl rfl rfl wf_Re_71 hm dRe_advance_5 (fun g1 H locs hf hm hw => ?_)
  refine lv_iconst (v := (0 : Int32)) S.1 S.2.1 dRe_advance_8 (by decide) ?_
  refine lv_istore_n (lv' := [(1, .int (0 : Int32)), (0, .ref (ξ.2.2.2.1 33))]) S.1 S.2.1 dRe_advance_9 rfl hl (by decide) rfl (fun ls hl => ?_)
  exact wRe_advance_10 S hr hlk N  N g1 (0 : Int32) _ _ _ hm hw hf (lv_sub hl [1, 0] rfl)
set_option maxHeartbeats 4000000 in
set_option maxRecDepth 100000 in
theorem cRe_accepts (l : Launch) (N : Nat) {Γ : sw_C} {A : Nat → Prop} {ξ : sw_x} {g : sw_g} {μ : sw_m} (hf : sw_wf ξ g.2.2) (i1 : Nat) (hi1 : i1 < 39) {res : Int32 × sw_g} (hm : fRe_accepts N ξ.2.2.1 g i1 = some res) : Met l yRe_accepts (Cond.code yRe_accepts prog_5_method_8_code 2 (some .boolean) :: sw_tb) rmRe_accepts (va_Pc [.ref (ξ.2.2.2.1 33), .ref (Γ.2.2.1 i1)] (sw_V Γ A ξ g μ)) (sw_Qi Γ A ξ res.2 μ res.1 (sw_wf ξ res.2.2.2)) 0 0 A := by
  refine Met.ofW (cc := prog_5_method_8_code) (maxL := 2) (ret := some .boolean) (by decide) rfl ?_
  intro p e s m args below meth c s₁ B hml hv
  obtain ⟨rfl, hv⟩ := hv
  have S : CallFix p m c prog_5_method_8_code 2 s _ (Cond.code yRe_accepts prog_5_method_8_code 2 (some .boolean) :: sw_tb) R_Re := ⟨B.exec, B.bytes, hml, findClass_of_methodNamed B.named, atoms_spec (ws := (Cond.code yRe_accepts prog_5_method_8_code 2 (some .boolean) :: sw_tb)) B.pre⟩
  have hr := B.returns
  have hlk := B.notSynchronized
  have hw := sw_begin hv
  have hl := lv_entry [.ref (ξ.2.2.2.1 33), .ref (Γ.2.2.1 i1)] (n := 2) (Nat.le_of_ble_eq_true rfl)
  rw [lg_entry_eq]
  generalize (lg_sl [.ref (ξ.2.2.2.1 33), .ref (Γ.2.2.1 i1)] ++ List.replicate (2 - (lg_sl [.ref (ξ.2.2.2.1 33), .ref (Γ.2.2.1 i1)]).length) Slot.unset).toArray = ls at hl ⊢
  have hl : lv_has ls 2 [(0, .ref (ξ.2.2.2.1 33)), (1, .ref (Γ.2.2.1 i1))] := hl
  unfold fRe_accepts at hm
  refine lv_aload_n S.1 S.2.1 dRe_accepts_0 rfl (lv_at hl 0 rfl) ?_
  refine lv_aload_n S.1 S.2.1 dRe_accepts_1 rfl (lv_at hl 1 rfl) ?_
  obtain ⟨⟨v3, g2⟩, h1, hm⟩ := ob hm
  refine sw_Vi (q := 33) (rest := []) S hw (cRe_isToken l N hf i1 hi1 h1) kRe_isToken wm_Re_90 (is_33 hf).1 (e_Re (is_33 hf)) rfl rfl rfl rfl hl.1 (Nat.le_of_ble_eq_true rfl) ⟨rfl, rfl, Nat.le_of_ble_eq_true rfl, Nat.le_of_ble_eq_true rfl⟩ ⟨Nat.le_of_ble_eq_true rfl, Nat.le_of_ble_eq_true rfl⟩ dRe_accepts_2 (fun H locs hw hf => ?_)
  refine bif_ne (tgt := 10) S.1 S.2.1 hm dRe_accepts_5 (by decide) (fun hm => ?_) (fun hm => ?_)
  · refine lv_aload_n S.1 S.2.1 dRe_accepts_10 rfl (lv_at hl 0 rfl) ?_
    obtain ⟨g5, h4, hm⟩ := ob hm
    refine sw_Vv (q := 33) (rest := []) S hw (cRe_advance l N hf  h4) kRe_advance wm_Re_47 (is_33 hf).1 (e_Re (is_33 hf)) rfl rfl rfl rfl hl.1 (Nat.le_of_ble_eq_true rfl) ⟨rfl, rfl, Nat.le_of_ble_eq_true rfl, Nat.le_of_ble_eq_true rfl⟩ ⟨Nat.le_of_ble_eq_true rfl, Nat.le_of_ble_eq_true rfl⟩ dRe_accepts_11 (fun H locs hw hf => ?_)
    refine lv_iconst (v := (1 : Int32)) S.1 S.2.1 dRe_accepts_14 (by decide) ?_
    obtain rfl := Option.some.inj hm
    exact sw_zret S hr hlk (Or.inr rfl) hw hf dRe_accepts_15
  · refine lv_iconst (v := (0 : Int32)) S.1 S.2.1 dRe_accepts_8 (by decide) ?_
    obtain rfl := Option.some.inj hm
    exact sw_zret S hr hlk (Or.inl rfl) hw hf dRe_accepts_9
set_option maxHeartbeats 4000000 in
set_option maxRecDepth 100000 in
theorem cRe_expect (l : Launch) (N : Nat) {Γ : sw_C} {A : Nat → Prop} {ξ : sw_x} {g : sw_g} {μ : sw_m} (hf : sw_wf ξ g.2.2) (i1 : Nat) (hi1 : i1 < 39) {res : sw_g} (hm : fRe_expect N ξ.2.2.1 g i1 = some res) : Met l yRe_expect (Cond.code yRe_expect prog_5_method_9_code 2 (none) :: sw_tb) rmRe_expect (va_Pc [.ref (ξ.2.2.2.1 33), .ref (Γ.2.2.1 i1)] (sw_V Γ A ξ g μ)) (sw_Qv Γ A ξ res μ (sw_wf ξ res.2.2)) 0 0 A := by
  refine Met.ofW (cc := prog_5_method_9_code) (maxL := 2) (ret := none) (by decide) rfl ?_
  intro p e s m args below meth c s₁ B hml hv
  obtain ⟨rfl, hv⟩ := hv
  have S : CallFix p m c prog_5_method_9_code 2 s _ (Cond.code yRe_expect prog_5_method_9_code 2 (none) :: sw_tb) R_Re := ⟨B.exec, B.bytes, hml, findClass_of_methodNamed B.named, atoms_spec (ws := (Cond.code yRe_expect prog_5_method_9_code 2 (none) :: sw_tb)) B.pre⟩
  have hr := B.returns
  have hlk := B.notSynchronized
  have hw := sw_begin hv
  have hl := lv_entry [.ref (ξ.2.2.2.1 33), .ref (Γ.2.2.1 i1)] (n := 2) (Nat.le_of_ble_eq_true rfl)
  rw [lg_entry_eq]
  generalize (lg_sl [.ref (ξ.2.2.2.1 33), .ref (Γ.2.2.1 i1)] ++ List.replicate (2 - (lg_sl [.ref (ξ.2.2.2.1 33), .ref (Γ.2.2.1 i1)]).length) Slot.unset).toArray = ls at hl ⊢
  have hl : lv_has ls 2 [(0, .ref (ξ.2.2.2.1 33)), (1, .ref (Γ.2.2.1 i1))] := hl
  unfold fRe_expect at hm
  refine lv_aload_n S.1 S.2.1 dRe_expect_0 rfl (lv_at hl 0 rfl) ?_
  refine lv_aload_n S.1 S.2.1 dRe_expect_1 rfl (lv_at hl 1 rfl) ?_
  obtain ⟨⟨v3, g2⟩, h1, hm⟩ := ob hm
  refine sw_Vi (q := 33) (rest := []) S hw (cRe_accepts l N hf i1 hi1 h1) kRe_accepts wm_Re_67 (is_33 hf).1 (e_Re (is_33 hf)) rfl rfl rfl rfl hl.1 (Nat.le_of_ble_eq_true rfl) ⟨rfl, rfl, Nat.le_of_ble_eq_true rfl, Nat.le_of_ble_eq_true rfl⟩ ⟨Nat.le_of_ble_eq_true rfl, Nat.le_of_ble_eq_true rfl⟩ dRe_expect_2 (fun H locs hw hf => ?_)
  refine bif_ne (tgt := 12) S.1 S.2.1 hm dRe_expect_5 (by decide) (fun hm => ?_) (fun hm => ?_)
  · obtain rfl := Option.some.inj hm
    exact sw_vret S hr hlk hw hf dRe_expect_12
  · refine lv_aload_n S.1 S.2.1 dRe_expect_8 rfl (lv_at hl 0 rfl) ?_
    obtain ⟨g5, h4, hm⟩ := ob hm
    refine sw_Vv (q := 33) (rest := []) S hw (cRe_fail l N hf  h4) kRe_fail wm_Re_74 (is_33 hf).1 (e_Re (is_33 hf)) rfl rfl rfl rfl hl.1 (Nat.le_of_ble_eq_true rfl) ⟨rfl, rfl, Nat.le_of_ble_eq_true rfl, Nat.le_of_ble_eq_true rfl⟩ ⟨Nat.le_of_ble_eq_true rfl, Nat.le_of_ble_eq_true rfl⟩ dRe_expect_9 (fun H locs hw hf => ?_)
    obtain rfl := Option.some.inj hm
    exact sw_vret S hr hlk hw hf dRe_expect_12
set_option maxHeartbeats 4000000 in
set_option maxRecDepth 100000 in
theorem cRe_expectNumber (l : Launch) (N : Nat) {Γ : sw_C} {A : Nat → Prop} {ξ : sw_x} {g : sw_g} {μ : sw_m} (hf : sw_wf ξ g.2.2) (a1 : Int32) (a2 : Int32) {res : Int32 × sw_g} (hm : fRe_expectNumber N ξ.2.2.1 g a1 a2 = some res) : Met l yRe_expectNumber (Cond.code yRe_expectNumber prog_5_method_11_code 4 (some .int) :: sw_tb) rmRe_expectNumber (va_Pc [.ref (ξ.2.2.2.1 33), .int a1, .int a2] (sw_V Γ A ξ g μ)) (sw_Qi Γ A ξ res.2 μ res.1 (sw_wf ξ res.2.2.2)) 0 0 A := by
  refine Met.ofW (cc := prog_5_method_11_code) (maxL := 4) (ret := some .int) (by decide) rfl ?_
  intro p e s m args below meth c s₁ B hml hv
  obtain ⟨rfl, hv⟩ := hv
  have S : CallFix p m c prog_5_method_11_code 4 s _ (Cond.code yRe_expectNumber prog_5_method_11_code 4 (some .int) :: sw_tb) R_Re := ⟨B.exec, B.bytes, hml, findClass_of_methodNamed B.named, atoms_spec (ws := (Cond.code yRe_expectNumber prog_5_method_11_code 4 (some .int) :: sw_tb)) B.pre⟩
  have hr := B.returns
  have hlk := B.notSynchronized
  have hw := sw_begin hv
  have hl := lv_entry [.ref (ξ.2.2.2.1 33), .int a1, .int a2] (n := 4) (Nat.le_of_ble_eq_true rfl)
  rw [lg_entry_eq]
  generalize (lg_sl [.ref (ξ.2.2.2.1 33), .int a1, .int a2] ++ List.replicate (4 - (lg_sl [.ref (ξ.2.2.2.1 33), .int a1, .int a2]).length) Slot.unset).toArray = ls at hl ⊢
  have hl : lv_has ls 4 [(0, .ref (ξ.2.2.2.1 33)), (1, .int a1), (2, .int a2)] := hl
  unfold fRe_expectNumber at hm
  refine lv_aload_n S.1 S.2.1 dRe_expectNumber_0 rfl (lv_at hl 0 rfl) ?_
  refine lv_iload_n S.1 S.2.1 dRe_expectNumber_1 rfl (lv_at hl 1 rfl) ?_
  refine lv_iload_n S.1 S.2.1 dRe_expectNumber_2 rfl (lv_at hl 2 rfl) ?_
  obtain ⟨⟨v3, g2⟩, h1, hm⟩ := ob hm
  refine sw_Vi (q := 33) (rest := []) S hw (cRe_numberFrom l N hf a1 a2 h1) kRe_numberFrom wm_Re_99 (is_33 hf).1 (e_Re (is_33 hf)) rfl rfl rfl rfl hl.1 (Nat.le_of_ble_eq_true rfl) ⟨rfl, rfl, Nat.le_of_ble_eq_true rfl, Nat.le_of_ble_eq_true rfl⟩ ⟨Nat.le_of_ble_eq_true rfl, Nat.le_of_ble_eq_true rfl⟩ dRe_expectNumber_3 (fun H locs hw hf => ?_)
  refine lv_istore_n (lv' := [(3, .int v3), (0, .ref (ξ.2.2.2.1 33)), (1, .int a1), (2, .int a2)]) S.1 S.2.1 dRe_expectNumber_6 rfl hl (by decide) rfl (fun ls hl => ?_)
  refine lv_iload_n S.1 S.2.1 dRe_expectNumber_7 rfl (lv_at hl 0 rfl) ?_
  refine lv_iconst (v := (-1 : Int32)) S.1 S.2.1 dRe_expectNumber_8 (by decide) ?_
  refine bicmp_ne (tgt := 19) S.1 S.2.1 hm dRe_expectNumber_9 (by decide) (fun hm => ?_) (fun hm => ?_)
  · refine lv_aload_n S.1 S.2.1 dRe_expectNumber_19 rfl (lv_at hl 1 rfl) ?_
    obtain ⟨g5, h4, hm⟩ := ob hm
    refine sw_Vv (q := 33) (rest := []) S hw (cRe_advance l N hf  h4) kRe_advance wm_Re_47 (is_33 hf).1 (e_Re (is_33 hf)) rfl rfl rfl rfl hl.1 (Nat.le_of_ble_eq_true rfl) ⟨rfl, rfl, Nat.le_of_ble_eq_true rfl, Nat.le_of_ble_eq_true rfl⟩ ⟨Nat.le_of_ble_eq_true rfl, Nat.le_of_ble_eq_true rfl⟩ dRe_expectNumber_20 (fun H locs hw hf => ?_)
    refine lv_iload_n S.1 S.2.1 dRe_expectNumber_23 rfl (lv_at hl 0 rfl) ?_
    obtain rfl := Option.some.inj hm
    exact sw_iret S hr hlk hw hf dRe_expectNumber_24
  · refine lv_aload_n S.1 S.2.1 dRe_expectNumber_12 rfl (lv_at hl 1 rfl) ?_
    obtain ⟨g7, h6, hm⟩ := ob hm
    refine sw_Vv (q := 33) (rest := []) S hw (cRe_fail l N hf  h6) kRe_fail wm_Re_74 (is_33 hf).1 (e_Re (is_33 hf)) rfl rfl rfl rfl hl.1 (Nat.le_of_ble_eq_true rfl) ⟨rfl, rfl, Nat.le_of_ble_eq_true rfl, Nat.le_of_ble_eq_true rfl⟩ ⟨Nat.le_of_ble_eq_true rfl, Nat.le_of_ble_eq_true rfl⟩ dRe_expectNumber_13 (fun H locs hw hf => ?_)
    refine lv_goto (tgt := 23) S.1 S.2.1 dRe_expectNumber_16 (by decide) ?_
    refine lv_iload_n S.1 S.2.1 dRe_expectNumber_23 rfl (lv_at hl 0 rfl) ?_
    obtain rfl := Option.some.inj hm
    exact sw_iret S hr hlk hw hf dRe_expectNumber_24
set_option maxHeartbeats 4000000 in
set_option maxRecDepth 100000 in
theorem cRe_opens (l : Launch) (N : Nat) {Γ : sw_C} {A : Nat → Prop} {ξ : sw_x} {g : sw_g} {μ : sw_m} (hf : sw_wf ξ g.2.2) {res : Int32 × sw_g} (hm : fRe_opens N ξ.2.2.1 g = some res) : Met l yRe_opens (Cond.code yRe_opens prog_5_method_24_code 1 (some .boolean) :: sw_tb) rmRe_opens (va_Pc [.ref (ξ.2.2.2.1 33)] (sw_V Γ A ξ g μ)) (sw_Qi Γ A ξ res.2 μ res.1 (sw_wf ξ res.2.2.2)) 0 0 A := by
  refine Met.ofW (cc := prog_5_method_24_code) (maxL := 1) (ret := some .boolean) (by decide) rfl ?_
  intro p e s m args below meth c s₁ B hml hv
  obtain ⟨rfl, hv⟩ := hv
  have S : CallFix p m c prog_5_method_24_code 1 s _ (Cond.code yRe_opens prog_5_method_24_code 1 (some .boolean) :: sw_tb) R_Re := ⟨B.exec, B.bytes, hml, findClass_of_methodNamed B.named, atoms_spec (ws := (Cond.code yRe_opens prog_5_method_24_code 1 (some .boolean) :: sw_tb)) B.pre⟩
  have hr := B.returns
  have hlk := B.notSynchronized
  have hw := sw_begin hv
  have hl := lv_entry [.ref (ξ.2.2.2.1 33)] (n := 1) (Nat.le_of_ble_eq_true rfl)
  rw [lg_entry_eq]
  generalize (lg_sl [.ref (ξ.2.2.2.1 33)] ++ List.replicate (1 - (lg_sl [.ref (ξ.2.2.2.1 33)]).length) Slot.unset).toArray = ls at hl ⊢
  have hl : lv_has ls 1 [(0, .ref (ξ.2.2.2.1 33))] := hl
  unfold fRe_opens at hm
  refine lv_aload_n S.1 S.2.1 dRe_opens_0 rfl (lv_at hl 0 rfl) ?_
  refine get_Re (v := .int (g.1 33 8)) S hw (is_33 hf) 8 (by decide) rfl wf_Re_41 dRe_opens_1 ?_
  refine lv_bipush (v := (8 : Int32)) S.1 S.2.1 dRe_opens_4 (by decide) ?_
  refine bicmp_lt (tgt := 15) S.1 S.2.1 hm dRe_opens_6 (by decide) (fun hm => ?_) (fun hm => ?_)
  · refine lv_aload_n S.1 S.2.1 dRe_opens_15 rfl (lv_at hl 0 rfl) ?_
    refine lv_dup S.1 S.2.1 dRe_opens_16 rfl ?_
    refine get_Re (v := .int (g.1 33 8)) S hw (is_33 hf) 8 (by decide) rfl wf_Re_41 dRe_opens_17 ?_
    refine lv_iconst (v := (1 : Int32)) S.1 S.2.1 dRe_opens_20 (by decide) ?_
    refine lv_iadd S.1 S.2.1 dRe_opens_21 ?_
    refine put_Re S hw hf (is_33 hf) 8 (by decide) ps_Re_8 rfl rfl rfl wf_Re_41 hm dRe_opens_22 (fun g1 H locs hf hm hw => ?_)
    refine lv_aload_n S.1 S.2.1 dRe_opens_25 rfl (lv_at hl 0 rfl) ?_
    obtain ⟨g3, h2, hm⟩ := ob hm
    refine sw_Vv (q := 33) (rest := []) S hw (cRe_advance l N hf  h2) kRe_advance wm_Re_47 (is_33 hf).1 (e_Re (is_33 hf)) rfl rfl rfl rfl hl.1 (Nat.le_of_ble_eq_true rfl) ⟨rfl, rfl, Nat.le_of_ble_eq_true rfl, Nat.le_of_ble_eq_true rfl⟩ ⟨Nat.le_of_ble_eq_true rfl, Nat.le_of_ble_eq_true rfl⟩ dRe_opens_26 (fun H locs hw hf => ?_)
    refine lv_iconst (v := (1 : Int32)) S.1 S.2.1 dRe_opens_29 (by decide) ?_
    obtain rfl := Option.some.inj hm
    exact sw_zret S hr hlk (Or.inr rfl) hw hf dRe_opens_30
  · refine lv_aload_n S.1 S.2.1 dRe_opens_9 rfl (lv_at hl 0 rfl) ?_
    obtain ⟨g5, h4, hm⟩ := ob hm
    refine sw_Vv (q := 33) (rest := []) S hw (cRe_fail l N hf  h4) kRe_fail wm_Re_74 (is_33 hf).1 (e_Re (is_33 hf)) rfl rfl rfl rfl hl.1 (Nat.le_of_ble_eq_true rfl) ⟨rfl, rfl, Nat.le_of_ble_eq_true rfl, Nat.le_of_ble_eq_true rfl⟩ ⟨Nat.le_of_ble_eq_true rfl, Nat.le_of_ble_eq_true rfl⟩ dRe_opens_10 (fun H locs hw hf => ?_)
    refine lv_iconst (v := (0 : Int32)) S.1 S.2.1 dRe_opens_13 (by decide) ?_
    obtain rfl := Option.some.inj hm
    exact sw_zret S hr hlk (Or.inl rfl) hw hf dRe_opens_14
set_option maxHeartbeats 4000000 in
set_option maxRecDepth 100000 in
theorem cRe_closes (l : Launch) (N : Nat) {Γ : sw_C} {A : Nat → Prop} {ξ : sw_x} {g : sw_g} {μ : sw_m} (hf : sw_wf ξ g.2.2) (i1 : Nat) (hi1 : i1 < 39) {res : sw_g} (hm : fRe_closes N ξ.2.2.1 g i1 = some res) : Met l yRe_closes (Cond.code yRe_closes prog_5_method_25_code 2 (none) :: sw_tb) rmRe_closes (va_Pc [.ref (ξ.2.2.2.1 33), .ref (Γ.2.2.1 i1)] (sw_V Γ A ξ g μ)) (sw_Qv Γ A ξ res μ (sw_wf ξ res.2.2)) 0 0 A := by
  refine Met.ofW (cc := prog_5_method_25_code) (maxL := 2) (ret := none) (by decide) rfl ?_
  intro p e s m args below meth c s₁ B hml hv
  obtain ⟨rfl, hv⟩ := hv
  have S : CallFix p m c prog_5_method_25_code 2 s _ (Cond.code yRe_closes prog_5_method_25_code 2 (none) :: sw_tb) R_Re := ⟨B.exec, B.bytes, hml, findClass_of_methodNamed B.named, atoms_spec (ws := (Cond.code yRe_closes prog_5_method_25_code 2 (none) :: sw_tb)) B.pre⟩
  have hr := B.returns
  have hlk := B.notSynchronized
  have hw := sw_begin hv
  have hl := lv_entry [.ref (ξ.2.2.2.1 33), .ref (Γ.2.2.1 i1)] (n := 2) (Nat.le_of_ble_eq_true rfl)
  rw [lg_entry_eq]
  generalize (lg_sl [.ref (ξ.2.2.2.1 33), .ref (Γ.2.2.1 i1)] ++ List.replicate (2 - (lg_sl [.ref (ξ.2.2.2.1 33), .ref (Γ.2.2.1 i1)]).length) Slot.unset).toArray = ls at hl ⊢
  have hl : lv_has ls 2 [(0, .ref (ξ.2.2.2.1 33)), (1, .ref (Γ.2.2.1 i1))] := hl
  unfold fRe_closes at hm
  refine lv_aload_n S.1 S.2.1 dRe_closes_0 rfl (lv_at hl 0 rfl) ?_
  refine lv_aload_n S.1 S.2.1 dRe_closes_1 rfl (lv_at hl 1 rfl) ?_
  obtain ⟨⟨v3, g2⟩, h1, hm⟩ := ob hm
  refine sw_Vi (q := 33) (rest := []) S hw (cRe_isToken l N hf i1 hi1 h1) kRe_isToken wm_Re_90 (is_33 hf).1 (e_Re (is_33 hf)) rfl rfl rfl rfl hl.1 (Nat.le_of_ble_eq_true rfl) ⟨rfl, rfl, Nat.le_of_ble_eq_true rfl, Nat.le_of_ble_eq_true rfl⟩ ⟨Nat.le_of_ble_eq_true rfl, Nat.le_of_ble_eq_true rfl⟩ dRe_closes_2 (fun H locs hw hf => ?_)
  refine bif_eq (tgt := 15) S.1 S.2.1 hm dRe_closes_5 (by decide) (fun hm => ?_) (fun hm => ?_)
  · refine lv_aload_n S.1 S.2.1 dRe_closes_15 rfl (lv_at hl 0 rfl) ?_
    obtain ⟨g5, h4, hm⟩ := ob hm
    refine sw_Vv (q := 33) (rest := []) S hw (cRe_fail l N hf  h4) kRe_fail wm_Re_74 (is_33 hf).1 (e_Re (is_33 hf)) rfl rfl rfl rfl hl.1 (Nat.le_of_ble_eq_true rfl) ⟨rfl, rfl, Nat.le_of_ble_eq_true rfl, Nat.le_of_ble_eq_true rfl⟩ ⟨Nat.le_of_ble_eq_true rfl, Nat.le_of_ble_eq_true rfl⟩ dRe_closes_16 (fun H locs hw hf => ?_)
    refine lv_aload_n S.1 S.2.1 dRe_closes_19 rfl (lv_at hl 0 rfl) ?_
    refine lv_dup S.1 S.2.1 dRe_closes_20 rfl ?_
    refine get_Re (v := .int (g5.1 33 8)) S hw (is_33 hf) 8 (by decide) rfl wf_Re_41 dRe_closes_21 ?_
    refine lv_iconst (v := (1 : Int32)) S.1 S.2.1 dRe_closes_24 (by decide) ?_
    refine lv_isub S.1 S.2.1 dRe_closes_25 ?_
    refine put_Re S hw hf (is_33 hf) 8 (by decide) ps_Re_8 rfl rfl rfl wf_Re_41 hm dRe_closes_26 (fun g6 H locs hf hm hw => ?_)
    obtain rfl := Option.some.inj hm
    exact sw_vret S hr hlk hw hf dRe_closes_29
  · refine lv_aload_n S.1 S.2.1 dRe_closes_8 rfl (lv_at hl 0 rfl) ?_
    obtain ⟨g8, h7, hm⟩ := ob hm
    refine sw_Vv (q := 33) (rest := []) S hw (cRe_advance l N hf  h7) kRe_advance wm_Re_47 (is_33 hf).1 (e_Re (is_33 hf)) rfl rfl rfl rfl hl.1 (Nat.le_of_ble_eq_true rfl) ⟨rfl, rfl, Nat.le_of_ble_eq_true rfl, Nat.le_of_ble_eq_true rfl⟩ ⟨Nat.le_of_ble_eq_true rfl, Nat.le_of_ble_eq_true rfl⟩ dRe_closes_9 (fun H locs hw hf => ?_)
    refine lv_goto (tgt := 19) S.1 S.2.1 dRe_closes_12 (by decide) ?_
    refine lv_aload_n S.1 S.2.1 dRe_closes_19 rfl (lv_at hl 0 rfl) ?_
    refine lv_dup S.1 S.2.1 dRe_closes_20 rfl ?_
    refine get_Re (v := .int (g8.1 33 8)) S hw (is_33 hf) 8 (by decide) rfl wf_Re_41 dRe_closes_21 ?_
    refine lv_iconst (v := (1 : Int32)) S.1 S.2.1 dRe_closes_24 (by decide) ?_
    refine lv_isub S.1 S.2.1 dRe_closes_25 ?_
    refine put_Re S hw hf (is_33 hf) 8 (by decide) ps_Re_8 rfl rfl rfl wf_Re_41 hm dRe_closes_26 (fun g9 H locs hf hm hw => ?_)
    obtain rfl := Option.some.inj hm
    exact sw_vret S hr hlk hw hf dRe_closes_29
set_option maxHeartbeats 4000000 in
set_option maxRecDepth 100000 in
theorem wRo_tallyTails_39 {l : Launch} {p : Program} {e : Env} {s : State} {m : MethodId} {args : Array Value} {below : List Frame} {meth : Method} {c : Code} {Γ : sw_C} {A : Nat → Prop} {ξ : sw_x} {μ : sw_m} {res : sw_g} (S : CallFix p m c prog_7_method_4_code 3 s args (Cond.code yRo_tallyTails prog_7_method_4_code 3 (none) :: sw_tb) R_Ro) (hr : meth.sig.returnType = none) (hlk : meth.locks = false) (N : Nat) (k32 : sw_g → Int32 → Option (sw_g)) (hk32 : ∀ (g : sw_g) (u1 : Int32) (H : Heap) (locs : List Loc) (ls : Array Slot), k32 g u1 = some res → sw_S Γ A ξ g μ s H locs → sw_wf ξ g.2.2 → lv_has ls 3 [(0, .ref (ξ.2.2.2.1 49)), (1, .int u1)] → W p l e (headSpec (Cond.code yRo_tallyTails prog_7_method_4_code 3 (none) :: sw_tb) rmRo_tallyTails).room s m args below meth c H locs 0 0 (MQ below (sw_Qv Γ A ξ res μ (sw_wf ξ res.2.2)) args s 0 0 A) (F0 m 32 ls [])) : ∀ (fu : Nat) (g : sw_g) (u1 : Int32) (u2 : Int32) (H : Heap) (locs : List Loc) (ls : Array Slot), fRo_tallyTails_39 N ξ.2.2.1 k32 fu g u1 u2 = some res → sw_S Γ A ξ g μ s H locs → sw_wf ξ g.2.2 → lv_has ls 3 [(0, .ref (ξ.2.2.2.1 49)), (1, .int u1), (2, .int u2)] → W p l e (headSpec (Cond.code yRo_tallyTails prog_7_method_4_code 3 (none) :: sw_tb) rmRo_tallyTails).room s m args below meth c H locs 0 0 (MQ below (sw_Qv Γ A ξ res μ (sw_wf ξ res.2.2)) args s 0 0 A) (F0 m 39 ls []) := by
  intro fu
  induction fu with
  | zero => intro g u1 u2 H locs ls hm; rw [fRo_tallyTails_39.eq_1] at hm; cases hm
  | succ fu ih =>
    intro g u1 u2 H locs ls hm hw hf hl
    rw [fRo_tallyTails_39.eq_2] at hm
    refine lv_iload_n S.1 S.2.1 dRo_tallyTails_39 rfl (lv_at hl 2 rfl) ?_
    refine lv_sipush (v := (1784 : Int32)) S.1 S.2.1 dRo_tallyTails_40 (by decide) ?_
    refine bicmp_ge (tgt := 73) S.1 S.2.1 hm dRo_tallyTails_43 (by decide) (fun hm => ?_) (fun hm => ?_)
    · obtain ⟨x3, ex3, hm⟩ := nm_x hm
      refine lv_iinc (v := x3) (lv' := [(1, .int x3), (0, .ref (ξ.2.2.2.1 49)), (2, .int u2)]) S.1 S.2.1 dRo_tallyTails_73 hl (k := 1) rfl (by rw [ex3]; rfl) (by decide) rfl (fun ls hl => ?_)
      refine lv_goto (tgt := 32) S.1 S.2.1 dRo_tallyTails_76 (by decide) ?_
      exact hk32 g x3 _ _ _ hm hw hf (lv_sub hl [1, 0] rfl)
    · refine lv_aload_n S.1 S.2.1 dRo_tallyTails_46 rfl (lv_at hl 0 rfl) ?_
      refine get_Ro (v := .ref (ξ.2.2.2.1 76)) S hw (is_49 hf) 5 (by decide) rfl wf_Ro_29 dRo_tallyTails_47 ?_
      refine lv_iload_n S.1 S.2.1 dRo_tallyTails_50 rfl (lv_at hl 1 rfl) ?_
      refine sx_rald S hw (is_76 hf) hm dRo_tallyTails_51 (fun j4 hj4 hm => ?_)
      refine lv_iload_n S.1 S.2.1 dRo_tallyTails_52 rfl (lv_at hl 2 rfl) ?_
      refine lv_dup2_11 S.1 S.2.1 dRo_tallyTails_53 rfl rfl ?_
      refine sx_iald S hw (is_r76 hf hj4) hm dRo_tallyTails_54 (fun v5 hm => ?_)
      refine lv_aload_n S.1 S.2.1 dRo_tallyTails_55 rfl (lv_at hl 0 rfl) ?_
      refine get_Ro (v := .ref (ξ.2.2.2.1 76)) S hw (is_49 hf) 5 (by decide) rfl wf_Ro_29 dRo_tallyTails_56 ?_
      refine lv_iload_n S.1 S.2.1 dRo_tallyTails_59 rfl (lv_at hl 1 rfl) ?_
      refine sx_rald S hw (is_76 hf) hm dRo_tallyTails_60 (fun j6 hj6 hm => ?_)
      refine lv_iload_n S.1 S.2.1 dRo_tallyTails_61 rfl (lv_at hl 2 rfl) ?_
      refine lv_iconst (v := (1 : Int32)) S.1 S.2.1 dRo_tallyTails_62 (by decide) ?_
      refine lv_isub S.1 S.2.1 dRo_tallyTails_63 ?_
      refine sx_iald S hw (is_r76 hf hj6) hm dRo_tallyTails_64 (fun v7 hm => ?_)
      refine lv_iadd S.1 S.2.1 dRo_tallyTails_65 ?_
      refine sx_iast S hw hf (is_r76 hf hj4) hm dRo_tallyTails_66 (fun g8 H locs hf hm hw => ?_)
      obtain ⟨x9, ex9, hm⟩ := nm_x hm
      refine lv_iinc (v := x9) (lv' := [(2, .int x9), (0, .ref (ξ.2.2.2.1 49)), (1, .int u1)]) S.1 S.2.1 dRo_tallyTails_67 hl (k := 2) rfl (by rw [ex9]; rfl) (by decide) rfl (fun ls hl => ?_)
      refine lv_goto (tgt := 39) S.1 S.2.1 dRo_tallyTails_70 (by decide) ?_
      exact ih g8 u1 x9 _ _ _ hm hw hf (lv_sub hl [1, 2, 0] rfl)
set_option maxHeartbeats 4000000 in
set_option maxRecDepth 100000 in
theorem wRo_tallyTails_32 {l : Launch} {p : Program} {e : Env} {s : State} {m : MethodId} {args : Array Value} {below : List Frame} {meth : Method} {c : Code} {Γ : sw_C} {A : Nat → Prop} {ξ : sw_x} {μ : sw_m} {res : sw_g} (S : CallFix p m c prog_7_method_4_code 3 s args (Cond.code yRo_tallyTails prog_7_method_4_code 3 (none) :: sw_tb) R_Ro) (hr : meth.sig.returnType = none) (hlk : meth.locks = false) (N : Nat) : ∀ (fu : Nat) (g : sw_g) (u1 : Int32) (H : Heap) (locs : List Loc) (ls : Array Slot), fRo_tallyTails_32 N ξ.2.2.1  fu g u1 = some res → sw_S Γ A ξ g μ s H locs → sw_wf ξ g.2.2 → lv_has ls 3 [(0, .ref (ξ.2.2.2.1 49)), (1, .int u1)] → W p l e (headSpec (Cond.code yRo_tallyTails prog_7_method_4_code 3 (none) :: sw_tb) rmRo_tallyTails).room s m args below meth c H locs 0 0 (MQ below (sw_Qv Γ A ξ res μ (sw_wf ξ res.2.2)) args s 0 0 A) (F0 m 32 ls []) := by
  intro fu
  induction fu with
  | zero => intro g u1 H locs ls hm; rw [fRo_tallyTails_32.eq_1] at hm; cases hm
  | succ fu ih =>
    intro g u1 H locs ls hm hw hf hl
    rw [fRo_tallyTails_32.eq_2] at hm
    refine lv_iload_n S.1 S.2.1 dRo_tallyTails_32 rfl (lv_at hl 1 rfl) ?_
    refine lv_iconst (v := (3 : Int32)) S.1 S.2.1 dRo_tallyTails_33 (by decide) ?_
    refine bicmp_gt (tgt := 79) S.1 S.2.1 hm dRo_tallyTails_34 (by decide) (fun hm => ?_) (fun hm => ?_)
    · obtain rfl := Option.some.inj hm
      exact sw_vret S hr hlk hw hf dRo_tallyTails_79
    · refine lv_iconst (v := (1 : Int32)) S.1 S.2.1 dRo_tallyTails_37 (by decide) ?_
      refine lv_istore_n (lv' := [(2, .int (1 : Int32)), (0, .ref (ξ.2.2.2.1 49)), (1, .int u1)]) S.1 S.2.1 dRo_tallyTails_38 rfl hl (by decide) rfl (fun ls hl => ?_)
      exact wRo_tallyTails_39 S hr hlk N (fRo_tallyTails_32 N ξ.2.2.1  fu) ih N g u1 (1 : Int32) _ _ _ hm hw hf (lv_sub hl [1, 2, 0] rfl)
set_option maxHeartbeats 4000000 in
set_option maxRecDepth 100000 in
theorem wRo_tallyTails_2 {l : Launch} {p : Program} {e : Env} {s : State} {m : MethodId} {args : Array Value} {below : List Frame} {meth : Method} {c : Code} {Γ : sw_C} {A : Nat → Prop} {ξ : sw_x} {μ : sw_m} {res : sw_g} (S : CallFix p m c prog_7_method_4_code 3 s args (Cond.code yRo_tallyTails prog_7_method_4_code 3 (none) :: sw_tb) R_Ro) (hr : meth.sig.returnType = none) (hlk : meth.locks = false) (N : Nat) : ∀ (fu : Nat) (g : sw_g) (u1 : Int32) (H : Heap) (locs : List Loc) (ls : Array Slot), fRo_tallyTails_2 N ξ.2.2.1  fu g u1 = some res → sw_S Γ A ξ g μ s H locs → sw_wf ξ g.2.2 → lv_has ls 3 [(0, .ref (ξ.2.2.2.1 49)), (1, .int u1)] → W p l e (headSpec (Cond.code yRo_tallyTails prog_7_method_4_code 3 (none) :: sw_tb) rmRo_tallyTails).room s m args below meth c H locs 0 0 (MQ below (sw_Qv Γ A ξ res μ (sw_wf ξ res.2.2)) args s 0 0 A) (F0 m 2 ls []) := by
  intro fu
  induction fu with
  | zero => intro g u1 H locs ls hm; rw [fRo_tallyTails_2.eq_1] at hm; cases hm
  | succ fu ih =>
    intro g u1 H locs ls hm hw hf hl
    rw [fRo_tallyTails_2.eq_2] at hm
    refine lv_iload_n S.1 S.2.1 dRo_tallyTails_2 rfl (lv_at hl 1 rfl) ?_
    refine lv_iconst (v := (3 : Int32)) S.1 S.2.1 dRo_tallyTails_3 (by decide) ?_
    refine bicmp_gt (tgt := 23) S.1 S.2.1 hm dRo_tallyTails_4 (by decide) (fun hm => ?_) (fun hm => ?_)
    · refine lv_aload_n S.1 S.2.1 dRo_tallyTails_23 rfl (lv_at hl 0 rfl) ?_
      refine lv_iconst (v := (4 : Int32)) S.1 S.2.1 dRo_tallyTails_24 (by decide) ?_
      refine lv_iconst (v := (0 : Int32)) S.1 S.2.1 dRo_tallyTails_25 (by decide) ?_
      refine lv_iconst (v := (0 : Int32)) S.1 S.2.1 dRo_tallyTails_26 (by decide) ?_
      obtain ⟨g2, h1, hm⟩ := ob hm
      refine sw_Vv (q := 49) (rest := []) S hw (cRo_tallyFrom l N 10 hf (4 : Int32) (0 : Int32) (0 : Int32) h1) kRo_tallyFrom wm_Ro_38 (is_49 hf).1 (e_Ro (is_49 hf)) rfl rfl rfl rfl hl.1 (Nat.le_of_ble_eq_true rfl) ⟨rfl, rfl, Nat.le_of_ble_eq_true rfl, Nat.le_of_ble_eq_true rfl⟩ ⟨Nat.le_of_ble_eq_true rfl, Nat.le_of_ble_eq_true rfl⟩ dRo_tallyTails_27 (fun H locs hw hf => ?_)
      refine lv_iconst (v := (0 : Int32)) S.1 S.2.1 dRo_tallyTails_30 (by decide) ?_
      refine lv_istore_n (lv' := [(1, .int (0 : Int32)), (0, .ref (ξ.2.2.2.1 49))]) S.1 S.2.1 dRo_tallyTails_31 rfl hl (by decide) rfl (fun ls hl => ?_)
      exact wRo_tallyTails_32 S hr hlk N  N g2 (0 : Int32) _ _ _ hm hw hf (lv_sub hl [1, 0] rfl)
    · refine lv_aload_n S.1 S.2.1 dRo_tallyTails_7 rfl (lv_at hl 0 rfl) ?_
      refine get_Ro (v := .ref (ξ.2.2.2.1 76)) S hw (is_49 hf) 5 (by decide) rfl wf_Ro_29 dRo_tallyTails_8 ?_
      refine lv_iload_n S.1 S.2.1 dRo_tallyTails_11 rfl (lv_at hl 1 rfl) ?_
      refine sx_rald S hw (is_76 hf) hm dRo_tallyTails_12 (fun j10 hj10 hm => ?_)
      refine lv_iconst (v := (0 : Int32)) S.1 S.2.1 dRo_tallyTails_13 (by decide) ?_
      obtain ⟨g12, h11, hm⟩ := ob hm
      refine sw_Sv (rest := []) S hw (cAr_fill l N hf (76 + 1 + j10) 1784 (is_r76 hf hj10) (0 : Int32) h11) kAr_fill wm_Ro_32 rfl rfl hl.1 (Nat.le_of_ble_eq_true rfl) ⟨rfl, rfl, Nat.le_of_ble_eq_true rfl, Nat.le_of_ble_eq_true rfl⟩ ⟨Nat.le_of_ble_eq_true rfl, Nat.le_of_ble_eq_true rfl⟩ dRo_tallyTails_14 (fun H locs hw hf => ?_)
      obtain ⟨x13, ex13, hm⟩ := nm_x hm
      refine lv_iinc (v := x13) (lv' := [(1, .int x13), (0, .ref (ξ.2.2.2.1 49))]) S.1 S.2.1 dRo_tallyTails_17 hl (k := 1) rfl (by rw [ex13]; rfl) (by decide) rfl (fun ls hl => ?_)
      refine lv_goto (tgt := 2) S.1 S.2.1 dRo_tallyTails_20 (by decide) ?_
      exact ih g12 x13 _ _ _ hm hw hf (lv_sub hl [1, 0] rfl)
set_option maxHeartbeats 4000000 in
set_option maxRecDepth 100000 in
theorem cRo_tallyTails (l : Launch) (N : Nat) {Γ : sw_C} {A : Nat → Prop} {ξ : sw_x} {g : sw_g} {μ : sw_m} (hf : sw_wf ξ g.2.2) {res : sw_g} (hm : fRo_tallyTails N ξ.2.2.1 g = some res) : Met l yRo_tallyTails (Cond.code yRo_tallyTails prog_7_method_4_code 3 (none) :: sw_tb) rmRo_tallyTails (va_Pc [.ref (ξ.2.2.2.1 49)] (sw_V Γ A ξ g μ)) (sw_Qv Γ A ξ res μ (sw_wf ξ res.2.2)) 0 0 A := by
  refine Met.ofW (cc := prog_7_method_4_code) (maxL := 3) (ret := none) (by decide) rfl ?_
  intro p e s m args below meth c s₁ B hml hv
  obtain ⟨rfl, hv⟩ := hv
  have S : CallFix p m c prog_7_method_4_code 3 s _ (Cond.code yRo_tallyTails prog_7_method_4_code 3 (none) :: sw_tb) R_Ro := ⟨B.exec, B.bytes, hml, findClass_of_methodNamed B.named, atoms_spec (ws := (Cond.code yRo_tallyTails prog_7_method_4_code 3 (none) :: sw_tb)) B.pre⟩
  have hr := B.returns
  have hlk := B.notSynchronized
  have hw := sw_begin hv
  have hl := lv_entry [.ref (ξ.2.2.2.1 49)] (n := 3) (Nat.le_of_ble_eq_true rfl)
  rw [lg_entry_eq]
  generalize (lg_sl [.ref (ξ.2.2.2.1 49)] ++ List.replicate (3 - (lg_sl [.ref (ξ.2.2.2.1 49)]).length) Slot.unset).toArray = ls at hl ⊢
  have hl : lv_has ls 3 [(0, .ref (ξ.2.2.2.1 49))] := hl
  unfold fRo_tallyTails at hm
  refine lv_iconst (v := (0 : Int32)) S.1 S.2.1 dRo_tallyTails_0 (by decide) ?_
  refine lv_istore_n (lv' := [(1, .int (0 : Int32)), (0, .ref (ξ.2.2.2.1 49))]) S.1 S.2.1 dRo_tallyTails_1 rfl hl (by decide) rfl (fun ls hl => ?_)
  exact wRo_tallyTails_2 S hr hlk N  N g (0 : Int32) _ _ _ hm hw hf (lv_sub hl [1, 0] rfl)
set_option maxHeartbeats 4000000 in
set_option maxRecDepth 100000 in
theorem wRo_manyFrom_18 {l : Launch} {p : Program} {e : Env} {s : State} {m : MethodId} {args : Array Value} {below : List Frame} {meth : Method} {c : Code} {Γ : sw_C} {A : Nat → Prop} {ξ : sw_x} {μ : sw_m} {res : Int32 × sw_g} (S : CallFix p m c prog_7_method_7_code 6 s args (Cond.code yRo_manyFrom prog_7_method_7_code 6 (some .int) :: sw_tb) R_Ro) (hr : meth.sig.returnType = some .int) (hlk : meth.locks = false) (rc : sw_g → Int32 → Int32 → Int32 → Option (Int32 × sw_g)) (rr : Room) (hr0 : rr.cells = 0 ∧ rr.slots = 0) (hrc : ∀ {g : sw_g} {μ : sw_m} (hf : sw_wf ξ g.2.2) (a1 : Int32) (a2 : Int32) (a3 : Int32) {res : Int32 × sw_g}, rc g a1 a2 a3 = some res → Met l yRo_manyFrom (Cond.code yRo_manyFrom prog_7_method_7_code 6 (some .int) :: sw_tb) rr (va_Pc [.ref (ξ.2.2.2.1 49), .int a1, .int a2, .int a3] (sw_V Γ A ξ g μ)) (sw_Qi Γ A ξ res.2 μ res.1 (sw_wf ξ res.2.2.2)) 0 0 A) (N : Nat) : ∀ (fu : Nat) (g : sw_g) (u1 : Int32) (u2 : Int32) (u3 : Int32) (u4 : Int32) (u5 : Int32) (H : Heap) (locs : List Loc) (ls : Array Slot), fRo_manyFrom_b_18 N rc ξ.2.2.1  fu g u1 u2 u3 u4 u5 = some res → sw_S Γ A ξ g μ s H locs → sw_wf ξ g.2.2 → lv_has ls 6 [(0, .ref (ξ.2.2.2.1 49)), (1, .int u1), (2, .int u2), (3, .int u3), (4, .int u4), (5, .int u5)] → W p l e (headSpec (Cond.code yRo_manyFrom prog_7_method_7_code 6 (some .int) :: sw_tb) (rgRo_manyFrom rr)).room s m args below meth c H locs 0 0 (MQ below (sw_Qi Γ A ξ res.2 μ res.1 (sw_wf ξ res.2.2.2)) args s 0 0 A) (F0 m 18 ls []) := by
  intro fu
  induction fu with
  | zero => intro g u1 u2 u3 u4 u5 H locs ls hm; rw [fRo_manyFrom_b_18.eq_1] at hm; cases hm
  | succ fu ih =>
    intro g u1 u2 u3 u4 u5 H locs ls hm hw hf hl
    rw [fRo_manyFrom_b_18.eq_2] at hm
    refine lv_iload S.1 S.2.1 dRo_manyFrom_18 (lv_at hl 5 rfl) ?_
    refine lv_aload_n S.1 S.2.1 dRo_manyFrom_20 rfl (lv_at hl 0 rfl) ?_
    refine get_Ro (v := .ref (ξ.2.2.2.1 51)) S hw (is_49 hf) 1 (by decide) rfl wf_Ro_15 dRo_manyFrom_21 ?_
    refine lv_iload_n S.1 S.2.1 dRo_manyFrom_24 rfl (lv_at hl 1 rfl) ?_
    refine sx_iald S hw (is_51 hf) hm dRo_manyFrom_25 (fun v1 hm => ?_)
    refine bicmp_ge (tgt := 69) S.1 S.2.1 hm dRo_manyFrom_26 (by decide) (fun hm => ?_) (fun hm => ?_)
    · refine lv_iload S.1 S.2.1 dRo_manyFrom_69 (lv_at hl 4 rfl) ?_
      obtain rfl := Option.some.inj hm
      exact sw_iret S hr hlk hw hf dRo_manyFrom_71
    · refine lv_iload S.1 S.2.1 dRo_manyFrom_29 (lv_at hl 4 rfl) ?_
      refine lv_aload_n S.1 S.2.1 dRo_manyFrom_31 rfl (lv_at hl 0 rfl) ?_
      refine lv_iload_n S.1 S.2.1 dRo_manyFrom_32 rfl (lv_at hl 1 rfl) ?_
      refine lv_iconst (v := (1 : Int32)) S.1 S.2.1 dRo_manyFrom_33 (by decide) ?_
      refine lv_iadd S.1 S.2.1 dRo_manyFrom_34 ?_
      refine lv_iload_n S.1 S.2.1 dRo_manyFrom_35 rfl (lv_at hl 2 rfl) ?_
      refine lv_aload_n S.1 S.2.1 dRo_manyFrom_36 rfl (lv_at hl 0 rfl) ?_
      refine get_Ro (v := .ref (ξ.2.2.2.1 60)) S hw (is_49 hf) 3 (by decide) rfl wf_Ro_23 dRo_manyFrom_37 ?_
      refine lv_iload_n S.1 S.2.1 dRo_manyFrom_40 rfl (lv_at hl 1 rfl) ?_
      refine sx_rald S hw (is_60 hf) hm dRo_manyFrom_41 (fun j2 hj2 hm => ?_)
      refine lv_iload S.1 S.2.1 dRo_manyFrom_42 (lv_at hl 5 rfl) ?_
      refine sx_iald S hw (is_r60 hf hj2) hm dRo_manyFrom_44 (fun v3 hm => ?_)
      refine lv_iadd S.1 S.2.1 dRo_manyFrom_45 ?_
      refine lv_iload_n S.1 S.2.1 dRo_manyFrom_46 rfl (lv_at hl 3 rfl) ?_
      refine lv_aload_n S.1 S.2.1 dRo_manyFrom_47 rfl (lv_at hl 0 rfl) ?_
      refine get_Ro (v := .ref (ξ.2.2.2.1 68)) S hw (is_49 hf) 4 (by decide) rfl wf_Ro_26 dRo_manyFrom_48 ?_
      refine lv_iload_n S.1 S.2.1 dRo_manyFrom_51 rfl (lv_at hl 1 rfl) ?_
      refine sx_rald S hw (is_68 hf) hm dRo_manyFrom_52 (fun j4 hj4 hm => ?_)
      refine lv_iload S.1 S.2.1 dRo_manyFrom_53 (lv_at hl 5 rfl) ?_
      refine sx_iald S hw (is_r68 hf hj4) hm dRo_manyFrom_55 (fun v5 hm => ?_)
      refine lv_iadd S.1 S.2.1 dRo_manyFrom_56 ?_
      obtain ⟨⟨v8, g7⟩, h6, hm⟩ := ob hm
      refine sw_Vi (q := 49) (rest := [.int u4]) S hw (hrc hf (u1 + (1 : Int32)) (u2 + v3) (u3 + v5) h6) kRo_manyFrom wm_Ro_49 (is_49 hf).1 (e_Ro (is_49 hf)) rfl rfl rfl rfl hl.1 (Nat.le_of_ble_eq_true rfl) ⟨hr0.1, hr0.2, by show rr.frames + 1 ≤ rr.frames + _; omega, by show 8 + (6 + 11) + rr.locals ≤ rr.locals + _; omega⟩ ⟨Nat.le_of_ble_eq_true rfl, Nat.le_of_ble_eq_true rfl⟩ dRo_manyFrom_57 (fun H locs hw hf => ?_)
      refine lv_iadd S.1 S.2.1 dRo_manyFrom_60 ?_
      refine nm_i hm (fun x9 hm => ?_)
      refine lv_istore (lv' := [(4, .int x9), (0, .ref (ξ.2.2.2.1 49)), (1, .int u1), (2, .int u2), (3, .int u3), (5, .int u5)]) S.1 S.2.1 dRo_manyFrom_61 hl (by decide) rfl (fun ls hl => ?_)
      obtain ⟨x10, ex10, hm⟩ := nm_x hm
      refine lv_iinc (v := x10) (lv' := [(5, .int x10), (4, .int x9), (0, .ref (ξ.2.2.2.1 49)), (1, .int u1), (2, .int u2), (3, .int u3)]) S.1 S.2.1 dRo_manyFrom_63 hl (k := 5) rfl (by rw [ex10]; rfl) (by decide) rfl (fun ls hl => ?_)
      refine lv_goto (tgt := 18) S.1 S.2.1 dRo_manyFrom_66 (by decide) ?_
      exact ih g7 u1 u2 u3 x9 x10 _ _ _ hm hw hf (lv_sub hl [2, 3, 4, 5, 1, 0] rfl)
set_option maxHeartbeats 4000000 in
set_option maxRecDepth 100000 in
theorem cRo_manyFrom_b (l : Launch) (N : Nat) {Γ : sw_C} {A : Nat → Prop} {ξ : sw_x} (rc : sw_g → Int32 → Int32 → Int32 → Option (Int32 × sw_g)) (rr : Room) (hr0 : rr.cells = 0 ∧ rr.slots = 0) (hrc : ∀ {g : sw_g} {μ : sw_m} (hf : sw_wf ξ g.2.2) (a1 : Int32) (a2 : Int32) (a3 : Int32) {res : Int32 × sw_g}, rc g a1 a2 a3 = some res → Met l yRo_manyFrom (Cond.code yRo_manyFrom prog_7_method_7_code 6 (some .int) :: sw_tb) rr (va_Pc [.ref (ξ.2.2.2.1 49), .int a1, .int a2, .int a3] (sw_V Γ A ξ g μ)) (sw_Qi Γ A ξ res.2 μ res.1 (sw_wf ξ res.2.2.2)) 0 0 A) {g : sw_g} {μ : sw_m} (hf : sw_wf ξ g.2.2) (a1 : Int32) (a2 : Int32) (a3 : Int32) {res : Int32 × sw_g} (hm : fRo_manyFrom_b N rc ξ.2.2.1 g a1 a2 a3 = some res) : Met l yRo_manyFrom (Cond.code yRo_manyFrom prog_7_method_7_code 6 (some .int) :: sw_tb) (rgRo_manyFrom rr) (va_Pc [.ref (ξ.2.2.2.1 49), .int a1, .int a2, .int a3] (sw_V Γ A ξ g μ)) (sw_Qi Γ A ξ res.2 μ res.1 (sw_wf ξ res.2.2.2)) 0 0 A := by
  refine Met.ofW (cc := prog_7_method_7_code) (maxL := 6) (ret := some .int) (by decide) rfl ?_
  intro p e s m args below meth c s₁ B hml hv
  obtain ⟨rfl, hv⟩ := hv
  have S : CallFix p m c prog_7_method_7_code 6 s _ (Cond.code yRo_manyFrom prog_7_method_7_code 6 (some .int) :: sw_tb) R_Ro := ⟨B.exec, B.bytes, hml, findClass_of_methodNamed B.named, atoms_spec (ws := (Cond.code yRo_manyFrom prog_7_method_7_code 6 (some .int) :: sw_tb)) B.pre⟩
  have hr := B.returns
  have hlk := B.notSynchronized
  have hw := sw_begin hv
  have hl := lv_entry [.ref (ξ.2.2.2.1 49), .int a1, .int a2, .int a3] (n := 6) (Nat.le_of_ble_eq_true rfl)
  rw [lg_entry_eq]
  generalize (lg_sl [.ref (ξ.2.2.2.1 49), .int a1, .int a2, .int a3] ++ List.replicate (6 - (lg_sl [.ref (ξ.2.2.2.1 49), .int a1, .int a2, .int a3]).length) Slot.unset).toArray = ls at hl ⊢
  have hl : lv_has ls 6 [(0, .ref (ξ.2.2.2.1 49)), (1, .int a1), (2, .int a2), (3, .int a3)] := hl
  unfold fRo_manyFrom_b at hm
  refine lv_iload_n S.1 S.2.1 dRo_manyFrom_0 rfl (lv_at hl 1 rfl) ?_
  refine lv_iconst (v := (4 : Int32)) S.1 S.2.1 dRo_manyFrom_1 (by decide) ?_
  refine bicmp_lt (tgt := 12) S.1 S.2.1 hm dRo_manyFrom_2 (by decide) (fun hm => ?_) (fun hm => ?_)
  · refine lv_iconst (v := (0 : Int32)) S.1 S.2.1 dRo_manyFrom_12 (by decide) ?_
    refine lv_istore (lv' := [(4, .int (0 : Int32)), (0, .ref (ξ.2.2.2.1 49)), (1, .int a1), (2, .int a2), (3, .int a3)]) S.1 S.2.1 dRo_manyFrom_13 hl (by decide) rfl (fun ls hl => ?_)
    refine lv_iconst (v := (0 : Int32)) S.1 S.2.1 dRo_manyFrom_15 (by decide) ?_
    refine lv_istore (lv' := [(5, .int (0 : Int32)), (4, .int (0 : Int32)), (0, .ref (ξ.2.2.2.1 49)), (1, .int a1), (2, .int a2), (3, .int a3)]) S.1 S.2.1 dRo_manyFrom_16 hl (by decide) rfl (fun ls hl => ?_)
    exact wRo_manyFrom_18 S hr hlk rc rr hr0 hrc N  N g a1 a2 a3 (0 : Int32) (0 : Int32) _ _ _ hm hw hf (lv_sub hl [2, 3, 4, 5, 1, 0] rfl)
  · refine lv_aload_n S.1 S.2.1 dRo_manyFrom_5 rfl (lv_at hl 0 rfl) ?_
    refine lv_iload_n S.1 S.2.1 dRo_manyFrom_6 rfl (lv_at hl 2 rfl) ?_
    refine lv_iload_n S.1 S.2.1 dRo_manyFrom_7 rfl (lv_at hl 3 rfl) ?_
    obtain ⟨⟨v13, g12⟩, h11, hm⟩ := ob hm
    refine sw_Vi (q := 49) (rest := []) S hw (cRo_manyTails l  hf a2 a3 h11) kRo_manyTails wm_Ro_53 (is_49 hf).1 (e_Ro (is_49 hf)) rfl rfl rfl rfl hl.1 (Nat.le_of_ble_eq_true rfl) ⟨rfl, rfl, by show 1 + 1 ≤ rr.frames + _; omega, by show 8 + (6 + 11) + 21 ≤ rr.locals + _; omega⟩ ⟨Nat.le_of_ble_eq_true rfl, Nat.le_of_ble_eq_true rfl⟩ dRo_manyFrom_8 (fun H locs hw hf => ?_)
    obtain rfl := Option.some.inj hm
    exact sw_iret S hr hlk hw hf dRo_manyFrom_11
def rmRo_manyFrom : Nat → Room
  | 0 => { frames := 0, cells := 0, slots := 0, locals := 0 }
  | d + 1 => rgRo_manyFrom (rmRo_manyFrom d)
theorem cRo_manyFrom (l : Launch) (N : Nat) : ∀ (d : Nat) {Γ : sw_C} {A : Nat → Prop} {ξ : sw_x} {g : sw_g} {μ : sw_m} (hf : sw_wf ξ g.2.2) (a1 : Int32) (a2 : Int32) (a3 : Int32) {res : Int32 × sw_g} (hm : fRo_manyFrom N ξ.2.2.1 d g a1 a2 a3 = some res), Met l yRo_manyFrom (Cond.code yRo_manyFrom prog_7_method_7_code 6 (some .int) :: sw_tb) (rmRo_manyFrom d) (va_Pc [.ref (ξ.2.2.2.1 49), .int a1, .int a2, .int a3] (sw_V Γ A ξ g μ)) (sw_Qi Γ A ξ res.2 μ res.1 (sw_wf ξ res.2.2.2)) 0 0 A := by
  intro d
  induction d with
  | zero => intro Γ A ξ g μ hf a1 a2 a3 res hm; cases hm
  | succ d ih =>
    intro Γ A ξ g μ hf a1 a2 a3 res hm
    exact cRo_manyFrom_b l N (fRo_manyFrom N ξ.2.2.1 d) (rmRo_manyFrom d) (by cases d <;> exact ⟨rfl, rfl⟩) (fun {g μ} hf a1 a2 a3 {res} hm => ih hf a1 a2 a3 hm) hf a1 a2 a3 hm
