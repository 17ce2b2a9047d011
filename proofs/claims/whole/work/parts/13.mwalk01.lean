set_option maxHeartbeats 4000000 in
set_option maxRecDepth 100000 in
theorem wMo_lays_15 {l : Launch} {p : Program} {e : Env} {s : State} {m : MethodId} {args : Array Value} {below : List Frame} {meth : Method} {c : Code} {Γ : sw_C} {A : Nat → Prop} {ξ : sw_x} {g : sw_g} {res : sw_m} (S : CallFix p m c prog_10_method_57_code 3 s args (Cond.code yMo_lays prog_10_method_57_code 3 (none) :: sw_tb) R_Mo) (hr : meth.sig.returnType = none) (hlk : meth.locks = false) (hf : sw_wf ξ g.2.2) (N : Nat) : ∀ (fu : Nat) (μ : sw_m) (u1 : Int32) (u2 : Int32) (H : Heap) (locs : List Loc) (ls : Array Slot), fMo_lays_15 N   fu μ u1 u2 = some res → sw_S Γ A ξ g μ s H locs → lv_has ls 3 [(0, .ref (ξ.2.2.2.1 84)), (1, .int u1), (2, .int u2)] → W p l e (headSpec (Cond.code yMo_lays prog_10_method_57_code 3 (none) :: sw_tb) rmMo_lays).room s m args below meth c H locs 0 0 (MQ below (sw_Qv Γ A ξ g res (True)) args s 0 0 A) (F0 m 15 ls []) := by
  intro fu
  induction fu with
  | zero => intro μ u1 u2 H locs ls hm; rw [fMo_lays_15.eq_1] at hm; cases hm
  | succ fu ih =>
    intro μ u1 u2 H locs ls hm hw hl
    rw [fMo_lays_15.eq_2] at hm
    refine lv_iload_n S.1 S.2.1 dMo_lays_15 rfl (lv_at hl 2 rfl) ?_
    refine lv_aload_n S.1 S.2.1 dMo_lays_16 rfl (lv_at hl 0 rfl) ?_
    refine get_Mo (v := .int (μ.1 84 18)) S hw (is_84 hf) 18 (by decide) rfl wf_Mo_181 dMo_lays_17 ?_
    refine bicmp_ge (tgt := 72) S.1 S.2.1 hm dMo_lays_20 (by decide) (fun hm => ?_) (fun hm => ?_)
    · obtain rfl := Option.some.inj hm
      exact sw_vret S hr hlk hw trivial dMo_lays_72
    · refine lv_aload_n S.1 S.2.1 dMo_lays_23 rfl (lv_at hl 0 rfl) ?_
      refine get_Mo (v := .ref (ξ.2.2.2.1 86)) S hw (is_84 hf) 2 (by decide) rfl wf_Mo_28 dMo_lays_24 ?_
      refine lv_bipush (v := (54 : Int32)) S.1 S.2.1 dMo_lays_27 (by decide) ?_
      refine lv_sipush (v := (400 : Int32)) S.1 S.2.1 dMo_lays_29 (by decide) ?_
      refine lv_iload_n S.1 S.2.1 dMo_lays_32 rfl (lv_at hl 1 rfl) ?_
      refine lv_imul S.1 S.2.1 dMo_lays_33 ?_
      refine lv_iadd S.1 S.2.1 dMo_lays_34 ?_
      refine lv_iload_n S.1 S.2.1 dMo_lays_35 rfl (lv_at hl 2 rfl) ?_
      refine lv_iadd S.1 S.2.1 dMo_lays_36 ?_
      refine lv_aload_n S.1 S.2.1 dMo_lays_37 rfl (lv_at hl 0 rfl) ?_
      refine get_Mo (v := .ref (ξ.2.2.2.1 93)) S hw (is_84 hf) 15 (by decide) rfl wf_Mo_54 dMo_lays_38 ?_
      refine lv_iload_n S.1 S.2.1 dMo_lays_41 rfl (lv_at hl 2 rfl) ?_
      refine sm_iald S hw (is_93 hf) hm dMo_lays_42 (fun v2 hm => ?_)
      refine sm_iast S hw (is_86 hf) hm dMo_lays_43 (fun μ3 H locs hm hw => ?_)
      refine lv_aload_n S.1 S.2.1 dMo_lays_44 rfl (lv_at hl 0 rfl) ?_
      refine get_Mo (v := .ref (ξ.2.2.2.1 86)) S hw (is_84 hf) 2 (by decide) rfl wf_Mo_28 dMo_lays_45 ?_
      refine lv_sipush (v := (2854 : Int32)) S.1 S.2.1 dMo_lays_48 (by decide) ?_
      refine lv_sipush (v := (400 : Int32)) S.1 S.2.1 dMo_lays_51 (by decide) ?_
      refine lv_iload_n S.1 S.2.1 dMo_lays_54 rfl (lv_at hl 1 rfl) ?_
      refine lv_imul S.1 S.2.1 dMo_lays_55 ?_
      refine lv_iadd S.1 S.2.1 dMo_lays_56 ?_
      refine lv_iload_n S.1 S.2.1 dMo_lays_57 rfl (lv_at hl 2 rfl) ?_
      refine lv_iadd S.1 S.2.1 dMo_lays_58 ?_
      refine lv_aload_n S.1 S.2.1 dMo_lays_59 rfl (lv_at hl 0 rfl) ?_
      refine get_Mo (v := .ref (ξ.2.2.2.1 94)) S hw (is_84 hf) 16 (by decide) rfl wf_Mo_57 dMo_lays_60 ?_
      refine lv_iload_n S.1 S.2.1 dMo_lays_63 rfl (lv_at hl 2 rfl) ?_
      refine sm_iald S hw (is_94 hf) hm dMo_lays_64 (fun v4 hm => ?_)
      refine sm_iast S hw (is_86 hf) hm dMo_lays_65 (fun μ5 H locs hm hw => ?_)
      obtain ⟨x6, ex6, hm⟩ := nm_x hm
      refine lv_iinc (v := x6) (lv' := [(2, .int x6), (0, .ref (ξ.2.2.2.1 84)), (1, .int u1)]) S.1 S.2.1 dMo_lays_66 hl (k := 2) rfl (by rw [ex6]; rfl) (by decide) rfl (fun ls hl => ?_)
      refine lv_goto (tgt := 15) S.1 S.2.1 dMo_lays_69 (by decide) ?_
      exact ih μ5 u1 x6 _ _ _ hm hw (lv_sub hl [1, 2, 0] rfl)
set_option maxHeartbeats 4000000 in
set_option maxRecDepth 100000 in
theorem cMo_lays (l : Launch) (N : Nat) {Γ : sw_C} {A : Nat → Prop} {ξ : sw_x} {g : sw_g} {μ : sw_m} (hf : sw_wf ξ g.2.2) (a1 : Int32) {res : sw_m} (hm : fMo_lays N μ a1 = some res) : Met l yMo_lays (Cond.code yMo_lays prog_10_method_57_code 3 (none) :: sw_tb) rmMo_lays (va_Pc [.ref (ξ.2.2.2.1 84), .int a1] (sw_V Γ A ξ g μ)) (sw_Qv Γ A ξ g res (True)) 0 0 A := by
  refine Met.ofW (cc := prog_10_method_57_code) (maxL := 3) (ret := none) (by decide) rfl ?_
  intro p e s m args below meth c s₁ B hml hv
  obtain ⟨rfl, hv⟩ := hv
  have S : CallFix p m c prog_10_method_57_code 3 s _ (Cond.code yMo_lays prog_10_method_57_code 3 (none) :: sw_tb) R_Mo := ⟨B.exec, B.bytes, hml, findClass_of_methodNamed B.named, atoms_spec (ws := (Cond.code yMo_lays prog_10_method_57_code 3 (none) :: sw_tb)) B.pre⟩
  have hr := B.returns
  have hlk := B.notSynchronized
  have hw := sw_begin hv
  have hl := lv_entry [.ref (ξ.2.2.2.1 84), .int a1] (n := 3) (Nat.le_of_ble_eq_true rfl)
  rw [lg_entry_eq]
  generalize (lg_sl [.ref (ξ.2.2.2.1 84), .int a1] ++ List.replicate (3 - (lg_sl [.ref (ξ.2.2.2.1 84), .int a1]).length) Slot.unset).toArray = ls at hl ⊢
  have hl : lv_has ls 3 [(0, .ref (ξ.2.2.2.1 84)), (1, .int a1)] := hl
  unfold fMo_lays at hm
  refine lv_aload_n S.1 S.2.1 dMo_lays_0 rfl (lv_at hl 0 rfl) ?_
  refine get_Mo (v := .ref (ξ.2.2.2.1 86)) S hw (is_84 hf) 2 (by decide) rfl wf_Mo_28 dMo_lays_1 ?_
  refine lv_bipush (v := (47 : Int32)) S.1 S.2.1 dMo_lays_4 (by decide) ?_
  refine lv_iload_n S.1 S.2.1 dMo_lays_6 rfl (lv_at hl 1 rfl) ?_
  refine lv_iadd S.1 S.2.1 dMo_lays_7 ?_
  refine lv_aload_n S.1 S.2.1 dMo_lays_8 rfl (lv_at hl 0 rfl) ?_
  refine get_Mo (v := .int (μ.1 84 18)) S hw (is_84 hf) 18 (by decide) rfl wf_Mo_181 dMo_lays_9 ?_
  refine sm_iast S hw (is_86 hf) hm dMo_lays_12 (fun μ1 H locs hm hw => ?_)
  refine lv_iconst (v := (0 : Int32)) S.1 S.2.1 dMo_lays_13 (by decide) ?_
  refine lv_istore_n (lv' := [(2, .int (0 : Int32)), (0, .ref (ξ.2.2.2.1 84)), (1, .int a1)]) S.1 S.2.1 dMo_lays_14 rfl hl (by decide) rfl (fun ls hl => ?_)
  exact wMo_lays_15 S hr hlk hf N  N μ1 a1 (0 : Int32) _ _ _ hm hw (lv_sub hl [1, 2, 0] rfl)
set_option maxHeartbeats 4000000 in
set_option maxRecDepth 100000 in
theorem cMo_fault (l : Launch) {Γ : sw_C} {A : Nat → Prop} {ξ : sw_x} {g : sw_g} {μ : sw_m} (hf : sw_wf ξ g.2.2) {res : Int32 × sw_m} (hm : fMo_fault μ = some res) : Met l yMo_fault (Cond.code yMo_fault prog_10_method_59_code 1 (some .int) :: sw_tb) rmMo_fault (va_Pc [.ref (ξ.2.2.2.1 84)] (sw_V Γ A ξ g μ)) (sw_Qi Γ A ξ g res.2 res.1 (True)) 0 0 A := by
  refine Met.ofW (cc := prog_10_method_59_code) (maxL := 1) (ret := some .int) (by decide) rfl ?_
  intro p e s m args below meth c s₁ B hml hv
  obtain ⟨rfl, hv⟩ := hv
  have S : CallFix p m c prog_10_method_59_code 1 s _ (Cond.code yMo_fault prog_10_method_59_code 1 (some .int) :: sw_tb) R_Mo := ⟨B.exec, B.bytes, hml, findClass_of_methodNamed B.named, atoms_spec (ws := (Cond.code yMo_fault prog_10_method_59_code 1 (some .int) :: sw_tb)) B.pre⟩
  have hr := B.returns
  have hlk := B.notSynchronized
  have hw := sw_begin hv
  have hl := lv_entry [.ref (ξ.2.2.2.1 84)] (n := 1) (Nat.le_of_ble_eq_true rfl)
  rw [lg_entry_eq]
  generalize (lg_sl [.ref (ξ.2.2.2.1 84)] ++ List.replicate (1 - (lg_sl [.ref (ξ.2.2.2.1 84)]).length) Slot.unset).toArray = ls at hl ⊢
  have hl : lv_has ls 1 [(0, .ref (ξ.2.2.2.1 84))] := hl
  unfold fMo_fault at hm
  refine lv_aload_n S.1 S.2.1 dMo_fault_0 rfl (lv_at hl 0 rfl) ?_
  refine get_Mo (v := .int (μ.1 84 14)) S hw (is_84 hf) 14 (by decide) rfl wf_Mo_51 dMo_fault_1 ?_
  obtain rfl := Option.some.inj hm
  exact sw_iret S hr hlk hw trivial dMo_fault_4
set_option maxHeartbeats 4000000 in
set_option maxRecDepth 100000 in
theorem cMo_isLaw (l : Launch) {Γ : sw_C} {A : Nat → Prop} {ξ : sw_x} {g : sw_g} {μ : sw_m} (hf : sw_wf ξ g.2.2) (a1 : Int32) {res : Int32 × sw_m} (hm : fMo_isLaw μ a1 = some res) : Met l yMo_isLaw (Cond.code yMo_isLaw prog_10_method_60_code 2 (some .boolean) :: sw_tb) rmMo_isLaw (va_Pc [.ref (ξ.2.2.2.1 84), .int a1] (sw_V Γ A ξ g μ)) (sw_Qi Γ A ξ g res.2 res.1 (True)) 0 0 A := by
  refine Met.ofW (cc := prog_10_method_60_code) (maxL := 2) (ret := some .boolean) (by decide) rfl ?_
  intro p e s m args below meth c s₁ B hml hv
  obtain ⟨rfl, hv⟩ := hv
  have S : CallFix p m c prog_10_method_60_code 2 s _ (Cond.code yMo_isLaw prog_10_method_60_code 2 (some .boolean) :: sw_tb) R_Mo := ⟨B.exec, B.bytes, hml, findClass_of_methodNamed B.named, atoms_spec (ws := (Cond.code yMo_isLaw prog_10_method_60_code 2 (some .boolean) :: sw_tb)) B.pre⟩
  have hr := B.returns
  have hlk := B.notSynchronized
  have hw := sw_begin hv
  have hl := lv_entry [.ref (ξ.2.2.2.1 84), .int a1] (n := 2) (Nat.le_of_ble_eq_true rfl)
  rw [lg_entry_eq]
  generalize (lg_sl [.ref (ξ.2.2.2.1 84), .int a1] ++ List.replicate (2 - (lg_sl [.ref (ξ.2.2.2.1 84), .int a1]).length) Slot.unset).toArray = ls at hl ⊢
  have hl : lv_has ls 2 [(0, .ref (ξ.2.2.2.1 84)), (1, .int a1)] := hl
  unfold fMo_isLaw at hm
  refine lv_iload_n S.1 S.2.1 dMo_isLaw_0 rfl (lv_at hl 1 rfl) ?_
  refine lv_iconst (v := (-1 : Int32)) S.1 S.2.1 dMo_isLaw_1 (by decide) ?_
  refine lv_aload_n S.1 S.2.1 dMo_isLaw_2 rfl (lv_at hl 0 rfl) ?_
  refine get_Mo (v := .ref (ξ.2.2.2.1 86)) S hw (is_84 hf) 2 (by decide) rfl wf_Mo_28 dMo_isLaw_3 ?_
  refine lv_bipush (v := (45 : Int32)) S.1 S.2.1 dMo_isLaw_6 (by decide) ?_
  refine sm_iald S hw (is_86 hf) hm dMo_isLaw_8 (fun v1 hm => ?_)
  refine lv_iconst (v := (1 : Int32)) S.1 S.2.1 dMo_isLaw_9 (by decide) ?_
  refine lv_isub S.1 S.2.1 dMo_isLaw_10 ?_
  obtain ⟨v3, h2, hm⟩ := ob hm
  refine sw_Si (rest := []) S hw (cMo_lies l  hf a1 (-1 : Int32) (v1 - (1 : Int32)) h2) kMo_lies wm_Mo_18 rfl rfl hl.1 (Nat.le_of_ble_eq_true rfl) ⟨rfl, rfl, Nat.le_of_ble_eq_true rfl, Nat.le_of_ble_eq_true rfl⟩ ⟨Nat.le_of_ble_eq_true rfl, Nat.le_of_ble_eq_true rfl⟩ dMo_isLaw_11 (fun H locs hw _ => ?_)
  obtain ⟨hz, hm⟩ := ob_tz hm
  obtain rfl := Option.some.inj hm
  exact sw_zret S hr hlk hz hw trivial dMo_isLaw_14
set_option maxHeartbeats 4000000 in
set_option maxRecDepth 100000 in
theorem cMo_force (l : Launch) {Γ : sw_C} {A : Nat → Prop} {ξ : sw_x} {g : sw_g} {μ : sw_m} (hf : sw_wf ξ g.2.2) (a1 : Int32) {res : Int32 × sw_m} (hm : fMo_force μ a1 = some res) : Met l yMo_force (Cond.code yMo_force prog_10_method_61_code 3 (some .int) :: sw_tb) rmMo_force (va_Pc [.ref (ξ.2.2.2.1 84), .int a1] (sw_V Γ A ξ g μ)) (sw_Qi Γ A ξ g res.2 res.1 (True)) 0 0 A := by
  refine Met.ofW (cc := prog_10_method_61_code) (maxL := 3) (ret := some .int) (by decide) rfl ?_
  intro p e s m args below meth c s₁ B hml hv
  obtain ⟨rfl, hv⟩ := hv
  have S : CallFix p m c prog_10_method_61_code 3 s _ (Cond.code yMo_force prog_10_method_61_code 3 (some .int) :: sw_tb) R_Mo := ⟨B.exec, B.bytes, hml, findClass_of_methodNamed B.named, atoms_spec (ws := (Cond.code yMo_force prog_10_method_61_code 3 (some .int) :: sw_tb)) B.pre⟩
  have hr := B.returns
  have hlk := B.notSynchronized
  have hw := sw_begin hv
  have hl := lv_entry [.ref (ξ.2.2.2.1 84), .int a1] (n := 3) (Nat.le_of_ble_eq_true rfl)
  rw [lg_entry_eq]
  generalize (lg_sl [.ref (ξ.2.2.2.1 84), .int a1] ++ List.replicate (3 - (lg_sl [.ref (ξ.2.2.2.1 84), .int a1]).length) Slot.unset).toArray = ls at hl ⊢
  have hl : lv_has ls 3 [(0, .ref (ξ.2.2.2.1 84)), (1, .int a1)] := hl
  unfold fMo_force at hm
  refine lv_aload_n S.1 S.2.1 dMo_force_0 rfl (lv_at hl 0 rfl) ?_
  refine lv_iload_n S.1 S.2.1 dMo_force_1 rfl (lv_at hl 1 rfl) ?_
  obtain ⟨⟨v3, μ2⟩, h1, hm⟩ := ob hm
  refine sw_Vi (q := 84) (rest := []) S hw (cMo_isLaw l  hf a1 h1) kMo_isLaw wm_Mo_280 (is_84 hf).1 (e_Mo (is_84 hf)) rfl rfl rfl rfl hl.1 (Nat.le_of_ble_eq_true rfl) ⟨rfl, rfl, Nat.le_of_ble_eq_true rfl, Nat.le_of_ble_eq_true rfl⟩ ⟨Nat.le_of_ble_eq_true rfl, Nat.le_of_ble_eq_true rfl⟩ dMo_force_2 (fun H locs hw _ => ?_)
  refine bif_ne (tgt := 15) S.1 S.2.1 hm dMo_force_5 (by decide) (fun hm => ?_) (fun hm => ?_)
  · refine lv_aload_n S.1 S.2.1 dMo_force_15 rfl (lv_at hl 0 rfl) ?_
    refine get_Mo (v := .ref (ξ.2.2.2.1 86)) S hw (is_84 hf) 2 (by decide) rfl wf_Mo_28 dMo_force_16 ?_
    refine lv_bipush (v := (46 : Int32)) S.1 S.2.1 dMo_force_19 (by decide) ?_
    refine sm_iald S hw (is_86 hf) hm dMo_force_21 (fun v4 hm => ?_)
    refine lv_istore_n (lv' := [(2, .int v4), (0, .ref (ξ.2.2.2.1 84)), (1, .int a1)]) S.1 S.2.1 dMo_force_22 rfl hl (by decide) rfl (fun ls hl => ?_)
    refine lv_aload_n S.1 S.2.1 dMo_force_23 rfl (lv_at hl 1 rfl) ?_
    refine get_Mo (v := .ref (ξ.2.2.2.1 86)) S hw (is_84 hf) 2 (by decide) rfl wf_Mo_28 dMo_force_24 ?_
    refine lv_bipush (v := (46 : Int32)) S.1 S.2.1 dMo_force_27 (by decide) ?_
    refine lv_iload_n S.1 S.2.1 dMo_force_29 rfl (lv_at hl 2 rfl) ?_
    refine sm_iast S hw (is_86 hf) hm dMo_force_30 (fun μ5 H locs hm hw => ?_)
    refine lv_aload_n S.1 S.2.1 dMo_force_31 rfl (lv_at hl 1 rfl) ?_
    refine lv_iload_n S.1 S.2.1 dMo_force_32 rfl (lv_at hl 0 rfl) ?_
    obtain ⟨⟨v8, μ7⟩, h6, hm⟩ := ob hm
    refine sw_Vi (q := 84) (rest := []) S hw (cMo_good l  hf v4 h6) kMo_good wm_Mo_14 (is_84 hf).1 (e_Mo (is_84 hf)) rfl rfl rfl rfl hl.1 (Nat.le_of_ble_eq_true rfl) ⟨rfl, rfl, Nat.le_of_ble_eq_true rfl, Nat.le_of_ble_eq_true rfl⟩ ⟨Nat.le_of_ble_eq_true rfl, Nat.le_of_ble_eq_true rfl⟩ dMo_force_33 (fun H locs hw _ => ?_)
    obtain rfl := Option.some.inj hm
    exact sw_iret S hr hlk hw trivial dMo_force_36
  · refine lv_aload_n S.1 S.2.1 dMo_force_8 rfl (lv_at hl 0 rfl) ?_
    refine lv_bipush (v := (-2 : Int32)) S.1 S.2.1 dMo_force_9 (by decide) ?_
    obtain ⟨⟨v11, μ10⟩, h9, hm⟩ := ob hm
    refine sw_Vi (q := 84) (rest := []) S hw (cMo_refuses l  hf (-2 : Int32) h9) kMo_refuses wm_Mo_113 (is_84 hf).1 (e_Mo (is_84 hf)) rfl rfl rfl rfl hl.1 (Nat.le_of_ble_eq_true rfl) ⟨rfl, rfl, Nat.le_of_ble_eq_true rfl, Nat.le_of_ble_eq_true rfl⟩ ⟨Nat.le_of_ble_eq_true rfl, Nat.le_of_ble_eq_true rfl⟩ dMo_force_11 (fun H locs hw _ => ?_)
    obtain rfl := Option.some.inj hm
    exact sw_iret S hr hlk hw trivial dMo_force_14
set_option maxHeartbeats 4000000 in
set_option maxRecDepth 100000 in
theorem cMo_codeAt (l : Launch) {Γ : sw_C} {A : Nat → Prop} {ξ : sw_x} {g : sw_g} {μ : sw_m} (hf : sw_wf ξ g.2.2) (a1 : Int32) {res : Int32 × sw_m} (hm : fMo_codeAt μ a1 = some res) : Met l yMo_codeAt (Cond.code yMo_codeAt prog_10_method_62_code 2 (some .int) :: sw_tb) rmMo_codeAt (va_Pc [.ref (ξ.2.2.2.1 84), .int a1] (sw_V Γ A ξ g μ)) (sw_Qi Γ A ξ g res.2 res.1 (True)) 0 0 A := by
  refine Met.ofW (cc := prog_10_method_62_code) (maxL := 2) (ret := some .int) (by decide) rfl ?_
  intro p e s m args below meth c s₁ B hml hv
  obtain ⟨rfl, hv⟩ := hv
  have S : CallFix p m c prog_10_method_62_code 2 s _ (Cond.code yMo_codeAt prog_10_method_62_code 2 (some .int) :: sw_tb) R_Mo := ⟨B.exec, B.bytes, hml, findClass_of_methodNamed B.named, atoms_spec (ws := (Cond.code yMo_codeAt prog_10_method_62_code 2 (some .int) :: sw_tb)) B.pre⟩
  have hr := B.returns
  have hlk := B.notSynchronized
  have hw := sw_begin hv
  have hl := lv_entry [.ref (ξ.2.2.2.1 84), .int a1] (n := 2) (Nat.le_of_ble_eq_true rfl)
  rw [lg_entry_eq]
  generalize (lg_sl [.ref (ξ.2.2.2.1 84), .int a1] ++ List.replicate (2 - (lg_sl [.ref (ξ.2.2.2.1 84), .int a1]).length) Slot.unset).toArray = ls at hl ⊢
  have hl : lv_has ls 2 [(0, .ref (ξ.2.2.2.1 84)), (1, .int a1)] := hl
  unfold fMo_codeAt at hm
  refine lv_iload_n S.1 S.2.1 dMo_codeAt_0 rfl (lv_at hl 1 rfl) ?_
  refine lv_aload_n S.1 S.2.1 dMo_codeAt_1 rfl (lv_at hl 0 rfl) ?_
  refine get_Mo (v := .int (μ.1 84 23)) S hw (is_84 hf) 23 (by decide) rfl wf_Mo_283 dMo_codeAt_2 ?_
  refine bicmp_ge (tgt := 20) S.1 S.2.1 hm dMo_codeAt_5 (by decide) (fun hm => ?_) (fun hm => ?_)
  · refine lv_iconst (v := (0 : Int32)) S.1 S.2.1 dMo_codeAt_20 (by decide) ?_
    obtain rfl := Option.some.inj hm
    exact sw_iret S hr hlk hw trivial dMo_codeAt_21
  · refine lv_aload_n S.1 S.2.1 dMo_codeAt_8 rfl (lv_at hl 0 rfl) ?_
    refine get_Mo (v := .ref (ξ.2.2.2.1 86)) S hw (is_84 hf) 2 (by decide) rfl wf_Mo_28 dMo_codeAt_9 ?_
    refine lv_bipush (v := (54 : Int32)) S.1 S.2.1 dMo_codeAt_12 (by decide) ?_
    refine lv_iload_n S.1 S.2.1 dMo_codeAt_14 rfl (lv_at hl 1 rfl) ?_
    refine lv_iadd S.1 S.2.1 dMo_codeAt_15 ?_
    refine sm_iald S hw (is_86 hf) hm dMo_codeAt_16 (fun v1 hm => ?_)
    refine lv_goto (tgt := 21) S.1 S.2.1 dMo_codeAt_17 (by decide) ?_
    obtain rfl := Option.some.inj hm
    exact sw_iret S hr hlk hw trivial dMo_codeAt_21
set_option maxHeartbeats 4000000 in
set_option maxRecDepth 100000 in
theorem wMo_passes0_17 {l : Launch} {p : Program} {e : Env} {s : State} {m : MethodId} {args : Array Value} {below : List Frame} {meth : Method} {c : Code} {Γ : sw_C} {A : Nat → Prop} {ξ : sw_x} {g : sw_g} {res : Int32 × sw_m} (S : CallFix p m c prog_10_method_63_code 3 s args (Cond.code yMo_passes0 prog_10_method_63_code 3 (some .boolean) :: sw_tb) R_Mo) (hr : meth.sig.returnType = some .boolean) (hlk : meth.locks = false) (hf : sw_wf ξ g.2.2) (N : Nat) : ∀ (μ : sw_m) (s0 : Int32) (H : Heap) (locs : List Loc) (ls : Array Slot), fMo_passes0_17 N   μ s0 = some res → sw_S Γ A ξ g μ s H locs → lv_has ls 3 [(0, .ref (ξ.2.2.2.1 84))] → W p l e (headSpec (Cond.code yMo_passes0 prog_10_method_63_code 3 (some .boolean) :: sw_tb) rmMo_passes0).room s m args below meth c H locs 0 0 (MQ below (sw_Qi Γ A ξ g res.2 res.1 (True)) args s 0 0 A) (F0 m 17 ls [.int s0]) := by
  intro μ s0 H locs ls hm hw hl
  unfold fMo_passes0_17 at hm
  refine lv_istore_n (lv' := [(2, .int s0), (0, .ref (ξ.2.2.2.1 84))]) S.1 S.2.1 dMo_passes0_17 rfl hl (by decide) rfl (fun ls hl => ?_)
  refine lv_iload_n S.1 S.2.1 dMo_passes0_18 rfl (lv_at hl 0 rfl) ?_
  refine bif_eq (tgt := 32) S.1 S.2.1 hm dMo_passes0_19 (by decide) (fun hm => ?_) (fun hm => ?_)
  · refine lv_iload_n S.1 S.2.1 dMo_passes0_32 rfl (lv_at hl 0 rfl) ?_
    obtain ⟨hz, hm⟩ := ob_tz hm
    obtain rfl := Option.some.inj hm
    exact sw_zret S hr hlk hz hw trivial dMo_passes0_33
  · refine lv_aload_n S.1 S.2.1 dMo_passes0_22 rfl (lv_at hl 1 rfl) ?_
    refine lv_dup S.1 S.2.1 dMo_passes0_23 rfl ?_
    refine get_Mo (v := .int (μ.1 84 22)) S hw (is_84 hf) 22 (by decide) rfl wf_Mo_286 dMo_passes0_24 ?_
    refine lv_iconst (v := (1 : Int32)) S.1 S.2.1 dMo_passes0_27 (by decide) ?_
    refine lv_iadd S.1 S.2.1 dMo_passes0_28 ?_
    refine put_Mo S hw (is_84 hf) 22 (by decide) ps_Mo_22 rfl rfl rfl wf_Mo_286 hm dMo_passes0_29 (fun μ4 H locs hm hw => ?_)
    refine lv_iload_n S.1 S.2.1 dMo_passes0_32 rfl (lv_at hl 0 rfl) ?_
    obtain ⟨hz, hm⟩ := ob_tz hm
    obtain rfl := Option.some.inj hm
    exact sw_zret S hr hlk hz hw trivial dMo_passes0_33
set_option maxHeartbeats 4000000 in
set_option maxRecDepth 100000 in
theorem cMo_passes0 (l : Launch) (N : Nat) {Γ : sw_C} {A : Nat → Prop} {ξ : sw_x} {g : sw_g} {μ : sw_m} (hf : sw_wf ξ g.2.2) (a1 : Int32) {res : Int32 × sw_m} (hm : fMo_passes0 N μ a1 = some res) : Met l yMo_passes0 (Cond.code yMo_passes0 prog_10_method_63_code 3 (some .boolean) :: sw_tb) rmMo_passes0 (va_Pc [.ref (ξ.2.2.2.1 84), .int a1] (sw_V Γ A ξ g μ)) (sw_Qi Γ A ξ g res.2 res.1 (True)) 0 0 A := by
  refine Met.ofW (cc := prog_10_method_63_code) (maxL := 3) (ret := some .boolean) (by decide) rfl ?_
  intro p e s m args below meth c s₁ B hml hv
  obtain ⟨rfl, hv⟩ := hv
  have S : CallFix p m c prog_10_method_63_code 3 s _ (Cond.code yMo_passes0 prog_10_method_63_code 3 (some .boolean) :: sw_tb) R_Mo := ⟨B.exec, B.bytes, hml, findClass_of_methodNamed B.named, atoms_spec (ws := (Cond.code yMo_passes0 prog_10_method_63_code 3 (some .boolean) :: sw_tb)) B.pre⟩
  have hr := B.returns
  have hlk := B.notSynchronized
  have hw := sw_begin hv
  have hl := lv_entry [.ref (ξ.2.2.2.1 84), .int a1] (n := 3) (Nat.le_of_ble_eq_true rfl)
  rw [lg_entry_eq]
  generalize (lg_sl [.ref (ξ.2.2.2.1 84), .int a1] ++ List.replicate (3 - (lg_sl [.ref (ξ.2.2.2.1 84), .int a1]).length) Slot.unset).toArray = ls at hl ⊢
  have hl : lv_has ls 3 [(0, .ref (ξ.2.2.2.1 84)), (1, .int a1)] := hl
  unfold fMo_passes0 at hm
  refine lv_aload_n S.1 S.2.1 dMo_passes0_0 rfl (lv_at hl 0 rfl) ?_
  refine lv_aload_n S.1 S.2.1 dMo_passes0_1 rfl (lv_at hl 0 rfl) ?_
  refine get_Mo (v := .int (μ.1 84 22)) S hw (is_84 hf) 22 (by decide) rfl wf_Mo_286 dMo_passes0_2 ?_
  obtain ⟨⟨v3, μ2⟩, h1, hm⟩ := ob hm
  refine sw_Vi (q := 84) (rest := []) S hw (cMo_codeAt l  hf (μ.1 84 22) h1) kMo_codeAt wm_Mo_289 (is_84 hf).1 (e_Mo (is_84 hf)) rfl rfl rfl rfl hl.1 (Nat.le_of_ble_eq_true rfl) ⟨rfl, rfl, Nat.le_of_ble_eq_true rfl, Nat.le_of_ble_eq_true rfl⟩ ⟨Nat.le_of_ble_eq_true rfl, Nat.le_of_ble_eq_true rfl⟩ dMo_passes0_5 (fun H locs hw _ => ?_)
  refine lv_iload_n S.1 S.2.1 dMo_passes0_8 rfl (lv_at hl 1 rfl) ?_
  refine bicmp_ne (tgt := 16) S.1 S.2.1 hm dMo_passes0_9 (by decide) (fun hm => ?_) (fun hm => ?_)
  · refine lv_iconst (v := (0 : Int32)) S.1 S.2.1 dMo_passes0_16 (by decide) ?_
    exact wMo_passes0_17 S hr hlk hf N  μ2 (0 : Int32) _ _ _ hm hw (lv_sub hl [0] rfl)
  · refine lv_iconst (v := (1 : Int32)) S.1 S.2.1 dMo_passes0_12 (by decide) ?_
    refine lv_goto (tgt := 17) S.1 S.2.1 dMo_passes0_13 (by decide) ?_
    exact wMo_passes0_17 S hr hlk hf N  μ2 (1 : Int32) _ _ _ hm hw (lv_sub hl [0] rfl)
set_option maxHeartbeats 4000000 in
set_option maxRecDepth 100000 in
theorem wMo_bounded_25 {l : Launch} {p : Program} {e : Env} {s : State} {m : MethodId} {args : Array Value} {below : List Frame} {meth : Method} {c : Code} {Γ : sw_C} {A : Nat → Prop} {ξ : sw_x} {g : sw_g} {res : Int64 × sw_m} (S : CallFix p m c prog_10_method_64_code 4 s args (Cond.code yMo_bounded prog_10_method_64_code 4 (some .long) :: sw_tb) R_Mo) (hr : meth.sig.returnType = some .long) (hlk : meth.locks = false) (hf : sw_wf ξ g.2.2) (N : Nat) : ∀ (μ : sw_m) (u1 : Int64) (H : Heap) (locs : List Loc) (ls : Array Slot), fMo_bounded_25 N   μ u1 = some res → sw_S Γ A ξ g μ s H locs → lv_has ls 4 [(0, .ref (ξ.2.2.2.1 84)), (1, .long u1)] → W p l e (headSpec (Cond.code yMo_bounded prog_10_method_64_code 4 (some .long) :: sw_tb) rmMo_bounded).room s m args below meth c H locs 0 0 (MQ below (sw_Ql Γ A ξ g res.2 res.1 (True)) args s 0 0 A) (F0 m 25 ls []) := by
  intro μ u1 H locs ls hm hw hl
  unfold fMo_bounded_25 at hm
  refine lv_aload_n S.1 S.2.1 dMo_bounded_25 rfl (lv_at hl 0 rfl) ?_
  refine get_Mo (v := .int (μ.1 84 24)) S hw (is_84 hf) 24 (by decide) rfl wf_Mo_296 dMo_bounded_26 ?_
  refine bif_eq (tgt := 36) S.1 S.2.1 hm dMo_bounded_29 (by decide) (fun hm => ?_) (fun hm => ?_)
  · refine lv_lload_n S.1 S.2.1 dMo_bounded_36 rfl (lv_at hl 1 rfl) ?_
    obtain rfl := Option.some.inj hm
    exact sw_lret S hr hlk hw trivial dMo_bounded_37
  · refine lv_lconst (v := (0 : Int64)) S.1 S.2.1 dMo_bounded_32 (by decide) ?_
    refine lv_goto (tgt := 37) S.1 S.2.1 dMo_bounded_33 (by decide) ?_
    obtain rfl := Option.some.inj hm
    exact sw_lret S hr hlk hw trivial dMo_bounded_37
set_option maxHeartbeats 4000000 in
set_option maxRecDepth 100000 in
theorem cMo_bounded (l : Launch) (N : Nat) {Γ : sw_C} {A : Nat → Prop} {ξ : sw_x} {g : sw_g} {μ : sw_m} (hf : sw_wf ξ g.2.2) (a1 : Int64) (a2 : Int32) {res : Int64 × sw_m} (hm : fMo_bounded N μ a1 a2 = some res) : Met l yMo_bounded (Cond.code yMo_bounded prog_10_method_64_code 4 (some .long) :: sw_tb) rmMo_bounded (va_Pc [.ref (ξ.2.2.2.1 84), .long a1, .int a2] (sw_V Γ A ξ g μ)) (sw_Ql Γ A ξ g res.2 res.1 (True)) 0 0 A := by
  refine Met.ofW (cc := prog_10_method_64_code) (maxL := 4) (ret := some .long) (by decide) rfl ?_
  intro p e s m args below meth c s₁ B hml hv
  obtain ⟨rfl, hv⟩ := hv
  have S : CallFix p m c prog_10_method_64_code 4 s _ (Cond.code yMo_bounded prog_10_method_64_code 4 (some .long) :: sw_tb) R_Mo := ⟨B.exec, B.bytes, hml, findClass_of_methodNamed B.named, atoms_spec (ws := (Cond.code yMo_bounded prog_10_method_64_code 4 (some .long) :: sw_tb)) B.pre⟩
  have hr := B.returns
  have hlk := B.notSynchronized
  have hw := sw_begin hv
  have hl := lv_entry [.ref (ξ.2.2.2.1 84), .long a1, .int a2] (n := 4) (Nat.le_of_ble_eq_true rfl)
  rw [lg_entry_eq]
  generalize (lg_sl [.ref (ξ.2.2.2.1 84), .long a1, .int a2] ++ List.replicate (4 - (lg_sl [.ref (ξ.2.2.2.1 84), .long a1, .int a2]).length) Slot.unset).toArray = ls at hl ⊢
  have hl : lv_has ls 4 [(0, .ref (ξ.2.2.2.1 84)), (1, .long a1), (3, .int a2)] := hl
  unfold fMo_bounded at hm
  refine lv_iload_n S.1 S.2.1 dMo_bounded_0 rfl (lv_at hl 2 rfl) ?_
  refine bif_eq (tgt := 25) S.1 S.2.1 hm dMo_bounded_1 (by decide) (fun hm => ?_) (fun hm => ?_)
  · exact wMo_bounded_25 S hr hlk hf N  μ a1 _ _ _ hm hw (lv_sub hl [0, 1] rfl)
  · refine lv_lload_n S.1 S.2.1 dMo_bounded_4 rfl (lv_at hl 1 rfl) ?_
    refine lv_ldc2 S.1 S.2.1 S.2.2.2.1 (sw_word S wc_Mo_292) dMo_bounded_5 ?_
    refine W.lcmp S.1 S.2.1 dMo_bounded_8 ?_
    refine bif_gt (tgt := 20) S.1 S.2.1 hm dMo_bounded_9 (by decide) (fun hm => ?_) (fun hm => ?_)
    · refine lv_aload_n S.1 S.2.1 dMo_bounded_20 rfl (lv_at hl 0 rfl) ?_
      refine lv_iconst (v := (1 : Int32)) S.1 S.2.1 dMo_bounded_21 (by decide) ?_
      refine put_Mo S hw (is_84 hf) 24 (by decide) ps_Mo_24 rfl rfl rfl wf_Mo_296 hm dMo_bounded_22 (fun μ1 H locs hm hw => ?_)
      exact wMo_bounded_25 S hr hlk hf N  μ1 a1 _ _ _ hm hw (lv_sub hl [0, 1] rfl)
    · refine lv_lload_n S.1 S.2.1 dMo_bounded_12 rfl (lv_at hl 1 rfl) ?_
      refine lv_ldc2 S.1 S.2.1 S.2.2.2.1 (sw_word S wc_Mo_294) dMo_bounded_13 ?_
      refine W.lcmp S.1 S.2.1 dMo_bounded_16 ?_
      refine bif_ge (tgt := 25) S.1 S.2.1 hm dMo_bounded_17 (by decide) (fun hm => ?_) (fun hm => ?_)
      · exact wMo_bounded_25 S hr hlk hf N  μ a1 _ _ _ hm hw (lv_sub hl [0, 1] rfl)
      · refine lv_aload_n S.1 S.2.1 dMo_bounded_20 rfl (lv_at hl 0 rfl) ?_
        refine lv_iconst (v := (1 : Int32)) S.1 S.2.1 dMo_bounded_21 (by decide) ?_
        refine put_Mo S hw (is_84 hf) 24 (by decide) ps_Mo_24 rfl rfl rfl wf_Mo_296 hm dMo_bounded_22 (fun μ2 H locs hm hw => ?_)
        exact wMo_bounded_25 S hr hlk hf N  μ2 a1 _ _ _ hm hw (lv_sub hl [0, 1] rfl)
set_option maxHeartbeats 4000000 in
set_option maxRecDepth 100000 in
theorem wMo_onMany_4 {l : Launch} {p : Program} {e : Env} {s : State} {m : MethodId} {args : Array Value} {below : List Frame} {meth : Method} {c : Code} {Γ : sw_C} {A : Nat → Prop} {ξ : sw_x} {g : sw_g} {res : Int32 × sw_m} (S : CallFix p m c prog_10_method_68_code 3 s args (Cond.code yMo_onMany prog_10_method_68_code 3 (some .int) :: sw_tb) R_Mo) (hr : meth.sig.returnType = some .int) (hlk : meth.locks = false) (hf : sw_wf ξ g.2.2) (N : Nat) : ∀ (fu : Nat) (μ : sw_m) (u1 : Int32) (u2 : Int32) (H : Heap) (locs : List Loc) (ls : Array Slot), fMo_onMany_4 N   fu μ u1 u2 = some res → sw_S Γ A ξ g μ s H locs → lv_has ls 3 [(0, .ref (ξ.2.2.2.1 84)), (1, .int u1), (2, .int u2)] → W p l e (headSpec (Cond.code yMo_onMany prog_10_method_68_code 3 (some .int) :: sw_tb) rmMo_onMany).room s m args below meth c H locs 0 0 (MQ below (sw_Qi Γ A ξ g res.2 res.1 (True)) args s 0 0 A) (F0 m 4 ls []) := by
  intro fu
  induction fu with
  | zero => intro μ u1 u2 H locs ls hm; rw [fMo_onMany_4.eq_1] at hm; cases hm
  | succ fu ih =>
    intro μ u1 u2 H locs ls hm hw hl
    rw [fMo_onMany_4.eq_2] at hm
    refine lv_iload_n S.1 S.2.1 dMo_onMany_4 rfl (lv_at hl 2 rfl) ?_
    refine lv_aload_n S.1 S.2.1 dMo_onMany_5 rfl (lv_at hl 0 rfl) ?_
    obtain ⟨⟨v3, μ2⟩, h1, hm⟩ := ob hm
    refine sw_Vi (q := 84) (rest := [.int u2]) S hw (cMo_many l  hf  h1) kMo_many wm_Mo_119 (is_84 hf).1 (e_Mo (is_84 hf)) rfl rfl rfl rfl hl.1 (Nat.le_of_ble_eq_true rfl) ⟨rfl, rfl, Nat.le_of_ble_eq_true rfl, Nat.le_of_ble_eq_true rfl⟩ ⟨Nat.le_of_ble_eq_true rfl, Nat.le_of_ble_eq_true rfl⟩ dMo_onMany_6 (fun H locs hw _ => ?_)
    refine bicmp_ge (tgt := 34) S.1 S.2.1 hm dMo_onMany_9 (by decide) (fun hm => ?_) (fun hm => ?_)
    · refine lv_iload_n S.1 S.2.1 dMo_onMany_34 rfl (lv_at hl 1 rfl) ?_
      obtain rfl := Option.some.inj hm
      exact sw_iret S hr hlk hw trivial dMo_onMany_35
    · refine lv_iload_n S.1 S.2.1 dMo_onMany_12 rfl (lv_at hl 1 rfl) ?_
      refine lv_aload_n S.1 S.2.1 dMo_onMany_13 rfl (lv_at hl 0 rfl) ?_
      refine lv_iload_n S.1 S.2.1 dMo_onMany_14 rfl (lv_at hl 2 rfl) ?_
      obtain ⟨⟨v6, μ5⟩, h4, hm⟩ := ob hm
      refine sw_Vi (q := 84) (rest := [.int u1]) S hw (cMo_isOn l  hf u2 h4) kMo_isOn wm_Mo_138 (is_84 hf).1 (e_Mo (is_84 hf)) rfl rfl rfl rfl hl.1 (Nat.le_of_ble_eq_true rfl) ⟨rfl, rfl, Nat.le_of_ble_eq_true rfl, Nat.le_of_ble_eq_true rfl⟩ ⟨Nat.le_of_ble_eq_true rfl, Nat.le_of_ble_eq_true rfl⟩ dMo_onMany_15 (fun H locs hw _ => ?_)
      refine bif_eq (tgt := 25) S.1 S.2.1 hm dMo_onMany_18 (by decide) (fun hm => ?_) (fun hm => ?_)
      · refine lv_iconst (v := (0 : Int32)) S.1 S.2.1 dMo_onMany_25 (by decide) ?_
        refine lv_iadd S.1 S.2.1 dMo_onMany_26 ?_
        refine nm_i hm (fun x7 hm => ?_)
        refine lv_istore_n (lv' := [(1, .int x7), (0, .ref (ξ.2.2.2.1 84)), (2, .int u2)]) S.1 S.2.1 dMo_onMany_27 rfl hl (by decide) rfl (fun ls hl => ?_)
        obtain ⟨x8, ex8, hm⟩ := nm_x hm
        refine lv_iinc (v := x8) (lv' := [(2, .int x8), (1, .int x7), (0, .ref (ξ.2.2.2.1 84))]) S.1 S.2.1 dMo_onMany_28 hl (k := 2) rfl (by rw [ex8]; rfl) (by decide) rfl (fun ls hl => ?_)
        refine lv_goto (tgt := 4) S.1 S.2.1 dMo_onMany_31 (by decide) ?_
        exact ih μ5 x7 x8 _ _ _ hm hw (lv_sub hl [2, 1, 0] rfl)
      · refine lv_iconst (v := (1 : Int32)) S.1 S.2.1 dMo_onMany_21 (by decide) ?_
        refine lv_goto (tgt := 26) S.1 S.2.1 dMo_onMany_22 (by decide) ?_
        refine lv_iadd S.1 S.2.1 dMo_onMany_26 ?_
        refine nm_i hm (fun x9 hm => ?_)
        refine lv_istore_n (lv' := [(1, .int x9), (0, .ref (ξ.2.2.2.1 84)), (2, .int u2)]) S.1 S.2.1 dMo_onMany_27 rfl hl (by decide) rfl (fun ls hl => ?_)
        obtain ⟨x10, ex10, hm⟩ := nm_x hm
        refine lv_iinc (v := x10) (lv' := [(2, .int x10), (1, .int x9), (0, .ref (ξ.2.2.2.1 84))]) S.1 S.2.1 dMo_onMany_28 hl (k := 2) rfl (by rw [ex10]; rfl) (by decide) rfl (fun ls hl => ?_)
        refine lv_goto (tgt := 4) S.1 S.2.1 dMo_onMany_31 (by decide) ?_
        exact ih μ5 x9 x10 _ _ _ hm hw (lv_sub hl [2, 1, 0] rfl)
set_option maxHeartbeats 4000000 in
set_option maxRecDepth 100000 in
theorem cMo_onMany (l : Launch) (N : Nat) {Γ : sw_C} {A : Nat → Prop} {ξ : sw_x} {g : sw_g} {μ : sw_m} (hf : sw_wf ξ g.2.2) {res : Int32 × sw_m} (hm : fMo_onMany N μ = some res) : Met l yMo_onMany (Cond.code yMo_onMany prog_10_method_68_code 3 (some .int) :: sw_tb) rmMo_onMany (va_Pc [.ref (ξ.2.2.2.1 84)] (sw_V Γ A ξ g μ)) (sw_Qi Γ A ξ g res.2 res.1 (True)) 0 0 A := by
  refine Met.ofW (cc := prog_10_method_68_code) (maxL := 3) (ret := some .int) (by decide) rfl ?_
  intro p e s m args below meth c s₁ B hml hv
  obtain ⟨rfl, hv⟩ := hv
  have S : CallFix p m c prog_10_method_68_code 3 s _ (Cond.code yMo_onMany prog_10_method_68_code 3 (some .int) :: sw_tb) R_Mo := ⟨B.exec, B.bytes, hml, findClass_of_methodNamed B.named, atoms_spec (ws := (Cond.code yMo_onMany prog_10_method_68_code 3 (some .int) :: sw_tb)) B.pre⟩
  have hr := B.returns
  have hlk := B.notSynchronized
  have hw := sw_begin hv
  have hl := lv_entry [.ref (ξ.2.2.2.1 84)] (n := 3) (Nat.le_of_ble_eq_true rfl)
  rw [lg_entry_eq]
  generalize (lg_sl [.ref (ξ.2.2.2.1 84)] ++ List.replicate (3 - (lg_sl [.ref (ξ.2.2.2.1 84)]).length) Slot.unset).toArray = ls at hl ⊢
  have hl : lv_has ls 3 [(0, .ref (ξ.2.2.2.1 84))] := hl
  unfold fMo_onMany at hm
  refine lv_iconst (v := (0 : Int32)) S.1 S.2.1 dMo_onMany_0 (by decide) ?_
  refine lv_istore_n (lv' := [(1, .int (0 : Int32)), (0, .ref (ξ.2.2.2.1 84))]) S.1 S.2.1 dMo_onMany_1 rfl hl (by decide) rfl (fun ls hl => ?_)
  refine lv_iconst (v := (0 : Int32)) S.1 S.2.1 dMo_onMany_2 (by decide) ?_
  refine lv_istore_n (lv' := [(2, .int (0 : Int32)), (1, .int (0 : Int32)), (0, .ref (ξ.2.2.2.1 84))]) S.1 S.2.1 dMo_onMany_3 rfl hl (by decide) rfl (fun ls hl => ?_)
  exact wMo_onMany_4 S hr hlk hf N  N μ (0 : Int32) (0 : Int32) _ _ _ hm hw (lv_sub hl [2, 1, 0] rfl)
set_option maxHeartbeats 4000000 in
set_option maxRecDepth 100000 in
theorem wMo_orderValue_110 {l : Launch} {p : Program} {e : Env} {s : State} {m : MethodId} {args : Array Value} {below : List Frame} {meth : Method} {c : Code} {Γ : sw_C} {A : Nat → Prop} {ξ : sw_x} {g : sw_g} {res : Int32 × sw_m} (S : CallFix p m c prog_10_method_69_code 3 s args (Cond.code yMo_orderValue prog_10_method_69_code 3 (some .int) :: sw_tb) R_Mo) (hr : meth.sig.returnType = some .int) (hlk : meth.locks = false) (hf : sw_wf ξ g.2.2) (N : Nat) : ∀ (μ : sw_m)  (H : Heap) (locs : List Loc) (ls : Array Slot), fMo_orderValue_110 N   μ = some res → sw_S Γ A ξ g μ s H locs → lv_has ls 3 [(0, .ref (ξ.2.2.2.1 84))] → W p l e (headSpec (Cond.code yMo_orderValue prog_10_method_69_code 3 (some .int) :: sw_tb) rmMo_orderValue).room s m args below meth c H locs 0 0 (MQ below (sw_Qi Γ A ξ g res.2 res.1 (True)) args s 0 0 A) (F0 m 110 ls []) := by
  intro μ H locs ls hm hw hl
  unfold fMo_orderValue_110 at hm
  refine lv_aload_n S.1 S.2.1 dMo_orderValue_110 rfl (lv_at hl 0 rfl) ?_
  obtain ⟨⟨v8, μ7⟩, h6, hm⟩ := ob hm
  refine sw_Vi (q := 84) (rest := []) S hw (cMo_onMany l N hf  h6) kMo_onMany wm_Mo_331 (is_84 hf).1 (e_Mo (is_84 hf)) rfl rfl rfl rfl hl.1 (Nat.le_of_ble_eq_true rfl) ⟨rfl, rfl, Nat.le_of_ble_eq_true rfl, Nat.le_of_ble_eq_true rfl⟩ ⟨Nat.le_of_ble_eq_true rfl, Nat.le_of_ble_eq_true rfl⟩ dMo_orderValue_111 (fun H locs hw _ => ?_)
  obtain rfl := Option.some.inj hm
  exact sw_iret S hr hlk hw trivial dMo_orderValue_114
set_option maxHeartbeats 4000000 in
set_option maxRecDepth 100000 in
theorem cMo_orderValue (l : Launch) (N : Nat) {Γ : sw_C} {A : Nat → Prop} {ξ : sw_x} {g : sw_g} {μ : sw_m} (hf : sw_wf ξ g.2.2) (a1 : Int32) (a2 : Int32) {res : Int32 × sw_m} (hm : fMo_orderValue N μ a1 a2 = some res) : Met l yMo_orderValue (Cond.code yMo_orderValue prog_10_method_69_code 3 (some .int) :: sw_tb) rmMo_orderValue (va_Pc [.ref (ξ.2.2.2.1 84), .int a1, .int a2] (sw_V Γ A ξ g μ)) (sw_Qi Γ A ξ g res.2 res.1 (True)) 0 0 A := by
  refine Met.ofW (cc := prog_10_method_69_code) (maxL := 3) (ret := some .int) (by decide) rfl ?_
  intro p e s m args below meth c s₁ B hml hv
  obtain ⟨rfl, hv⟩ := hv
  have S : CallFix p m c prog_10_method_69_code 3 s _ (Cond.code yMo_orderValue prog_10_method_69_code 3 (some .int) :: sw_tb) R_Mo := ⟨B.exec, B.bytes, hml, findClass_of_methodNamed B.named, atoms_spec (ws := (Cond.code yMo_orderValue prog_10_method_69_code 3 (some .int) :: sw_tb)) B.pre⟩
  have hr := B.returns
  have hlk := B.notSynchronized
  have hw := sw_begin hv
  have hl := lv_entry [.ref (ξ.2.2.2.1 84), .int a1, .int a2] (n := 3) (Nat.le_of_ble_eq_true rfl)
  rw [lg_entry_eq]
  generalize (lg_sl [.ref (ξ.2.2.2.1 84), .int a1, .int a2] ++ List.replicate (3 - (lg_sl [.ref (ξ.2.2.2.1 84), .int a1, .int a2]).length) Slot.unset).toArray = ls at hl ⊢
  have hl : lv_has ls 3 [(0, .ref (ξ.2.2.2.1 84)), (1, .int a1), (2, .int a2)] := hl
  unfold fMo_orderValue at hm
  refine lv_iload_n S.1 S.2.1 dMo_orderValue_0 rfl (lv_at hl 1 rfl) ?_
  by_cases c0 : a1 = (14 : Int32)
  · have hm := sw_it c0 hm
    refine lv_tableIn (off := 43) (tgt := 44) S.1 S.2.1 dMo_orderValue_1 (by rw [c0]; decide) (by rw [c0]; decide) (by rw [c0]; decide) (by decide) ?_
    refine lv_aload_n S.1 S.2.1 dMo_orderValue_44 rfl (lv_at hl 0 rfl) ?_
    refine lv_iload_n S.1 S.2.1 dMo_orderValue_45 rfl (lv_at hl 2 rfl) ?_
    obtain ⟨⟨v3, μ2⟩, h1, hm⟩ := ob hm
    refine sw_Vi (q := 84) (rest := []) S hw (cMo_isClaim l  hf a2 h1) kMo_isClaim wm_Mo_135 (is_84 hf).1 (e_Mo (is_84 hf)) rfl rfl rfl rfl hl.1 (Nat.le_of_ble_eq_true rfl) ⟨rfl, rfl, Nat.le_of_ble_eq_true rfl, Nat.le_of_ble_eq_true rfl⟩ ⟨Nat.le_of_ble_eq_true rfl, Nat.le_of_ble_eq_true rfl⟩ dMo_orderValue_46 (fun H locs hw _ => ?_)
    refine bif_eq (tgt := 63) S.1 S.2.1 hm dMo_orderValue_49 (by decide) (fun hm => ?_) (fun hm => ?_)
    · refine lv_iconst (v := (-1 : Int32)) S.1 S.2.1 dMo_orderValue_63 (by decide) ?_
      obtain rfl := Option.some.inj hm
      exact sw_iret S hr hlk hw trivial dMo_orderValue_64
    · refine lv_aload_n S.1 S.2.1 dMo_orderValue_52 rfl (lv_at hl 0 rfl) ?_
      refine get_Mo (v := .ref (ξ.2.2.2.1 86)) S hw (is_84 hf) 2 (by decide) rfl wf_Mo_28 dMo_orderValue_53 ?_
      refine lv_iconst (v := (0 : Int32)) S.1 S.2.1 dMo_orderValue_56 (by decide) ?_
      refine lv_iload_n S.1 S.2.1 dMo_orderValue_57 rfl (lv_at hl 2 rfl) ?_
      refine lv_iadd S.1 S.2.1 dMo_orderValue_58 ?_
      refine sm_iald S hw (is_86 hf) hm dMo_orderValue_59 (fun v4 hm => ?_)
      refine lv_goto (tgt := 64) S.1 S.2.1 dMo_orderValue_60 (by decide) ?_
      obtain rfl := Option.some.inj hm
      exact sw_iret S hr hlk hw trivial dMo_orderValue_64
  · have hm := sw_if c0 hm
    by_cases c1 : a1 = (15 : Int32)
    · have hm := sw_it c1 hm
      refine lv_tableIn (off := 86) (tgt := 87) S.1 S.2.1 dMo_orderValue_1 (by rw [c1]; decide) (by rw [c1]; decide) (by rw [c1]; decide) (by decide) ?_
      refine lv_aload_n S.1 S.2.1 dMo_orderValue_87 rfl (lv_at hl 0 rfl) ?_
      refine get_Mo (v := .ref (ξ.2.2.2.1 86)) S hw (is_84 hf) 2 (by decide) rfl wf_Mo_28 dMo_orderValue_88 ?_
      refine lv_bipush (v := (14 : Int32)) S.1 S.2.1 dMo_orderValue_91 (by decide) ?_
      refine sm_iald S hw (is_86 hf) hm dMo_orderValue_93 (fun v5 hm => ?_)
      obtain rfl := Option.some.inj hm
      exact sw_iret S hr hlk hw trivial dMo_orderValue_94
    · have hm := sw_if c1 hm
      by_cases c2 : a1 = (16 : Int32)
      · have hm := sw_it c2 hm
        refine lv_tableIn (off := 94) (tgt := 95) S.1 S.2.1 dMo_orderValue_1 (by rw [c2]; decide) (by rw [c2]; decide) (by rw [c2]; decide) (by decide) ?_
        refine lv_aload_n S.1 S.2.1 dMo_orderValue_95 rfl (lv_at hl 0 rfl) ?_
        refine get_Mo (v := .int (μ.1 84 27)) S hw (is_84 hf) 27 (by decide) rfl wf_Mo_322 dMo_orderValue_96 ?_
        obtain rfl := Option.some.inj hm
        exact sw_iret S hr hlk hw trivial dMo_orderValue_99
      · have hm := sw_if c2 hm
        by_cases c3 : a1 = (17 : Int32)
        · have hm := sw_it c3 hm
          refine lv_tableIn (off := 99) (tgt := 100) S.1 S.2.1 dMo_orderValue_1 (by rw [c3]; decide) (by rw [c3]; decide) (by rw [c3]; decide) (by decide) ?_
          refine lv_aload_n S.1 S.2.1 dMo_orderValue_100 rfl (lv_at hl 0 rfl) ?_
          refine get_Mo (v := .int (μ.1 84 28)) S hw (is_84 hf) 28 (by decide) rfl wf_Mo_325 dMo_orderValue_101 ?_
          obtain rfl := Option.some.inj hm
          exact sw_iret S hr hlk hw trivial dMo_orderValue_104
        · have hm := sw_if c3 hm
          by_cases c4 : a1 = (18 : Int32)
          · have hm := sw_it c4 hm
            refine lv_tableIn (off := 104) (tgt := 105) S.1 S.2.1 dMo_orderValue_1 (by rw [c4]; decide) (by rw [c4]; decide) (by rw [c4]; decide) (by decide) ?_
            refine lv_aload_n S.1 S.2.1 dMo_orderValue_105 rfl (lv_at hl 0 rfl) ?_
            refine get_Mo (v := .int (μ.1 84 29)) S hw (is_84 hf) 29 (by decide) rfl wf_Mo_328 dMo_orderValue_106 ?_
            obtain rfl := Option.some.inj hm
            exact sw_iret S hr hlk hw trivial dMo_orderValue_109
          · have hm := sw_if c4 hm
            by_cases c5 : a1 = (19 : Int32)
            · have hm := sw_it c5 hm
              refine lv_tableIn (off := 109) (tgt := 110) S.1 S.2.1 dMo_orderValue_1 (by rw [c5]; decide) (by rw [c5]; decide) (by rw [c5]; decide) (by decide) ?_
              exact wMo_orderValue_110 S hr hlk hf N  μ _ _ _ hm hw (lv_sub hl [0] rfl)
            · have hm := sw_if c5 hm
              by_cases c6 : a1 = (20 : Int32)
              · have hm := sw_it c6 hm
                refine lv_tableIn (off := 64) (tgt := 65) S.1 S.2.1 dMo_orderValue_1 (by rw [c6]; decide) (by rw [c6]; decide) (by rw [c6]; decide) (by decide) ?_
                refine lv_aload_n S.1 S.2.1 dMo_orderValue_65 rfl (lv_at hl 0 rfl) ?_
                refine lv_iload_n S.1 S.2.1 dMo_orderValue_66 rfl (lv_at hl 2 rfl) ?_
                obtain ⟨⟨v11, μ10⟩, h9, hm⟩ := ob hm
                refine sw_Vi (q := 84) (rest := []) S hw (cMo_isClaim l  hf a2 h9) kMo_isClaim wm_Mo_135 (is_84 hf).1 (e_Mo (is_84 hf)) rfl rfl rfl rfl hl.1 (Nat.le_of_ble_eq_true rfl) ⟨rfl, rfl, Nat.le_of_ble_eq_true rfl, Nat.le_of_ble_eq_true rfl⟩ ⟨Nat.le_of_ble_eq_true rfl, Nat.le_of_ble_eq_true rfl⟩ dMo_orderValue_67 (fun H locs hw _ => ?_)
                refine bif_eq (tgt := 85) S.1 S.2.1 hm dMo_orderValue_70 (by decide) (fun hm => ?_) (fun hm => ?_)
                · refine lv_iconst (v := (-1 : Int32)) S.1 S.2.1 dMo_orderValue_85 (by decide) ?_
                  obtain rfl := Option.some.inj hm
                  exact sw_iret S hr hlk hw trivial dMo_orderValue_86
                · refine lv_aload_n S.1 S.2.1 dMo_orderValue_73 rfl (lv_at hl 0 rfl) ?_
                  refine get_Mo (v := .ref (ξ.2.2.2.1 86)) S hw (is_84 hf) 2 (by decide) rfl wf_Mo_28 dMo_orderValue_74 ?_
                  refine lv_bipush (v := (7 : Int32)) S.1 S.2.1 dMo_orderValue_77 (by decide) ?_
                  refine lv_iload_n S.1 S.2.1 dMo_orderValue_79 rfl (lv_at hl 2 rfl) ?_
                  refine lv_iadd S.1 S.2.1 dMo_orderValue_80 ?_
                  refine sm_iald S hw (is_86 hf) hm dMo_orderValue_81 (fun v12 hm => ?_)
                  refine lv_goto (tgt := 86) S.1 S.2.1 dMo_orderValue_82 (by decide) ?_
                  obtain rfl := Option.some.inj hm
                  exact sw_iret S hr hlk hw trivial dMo_orderValue_86
              · have hm := sw_if c6 hm
                refine lv_tableOut (tgt := 110) S.1 S.2.1 dMo_orderValue_1 (by have := lv_neT c0 (show ((14 : Int32)).toInt = 14 from rfl); have := lv_neT c1 (show ((15 : Int32)).toInt = 15 from rfl); have := lv_neT c2 (show ((16 : Int32)).toInt = 16 from rfl); have := lv_neT c3 (show ((17 : Int32)).toInt = 17 from rfl); have := lv_neT c4 (show ((18 : Int32)).toInt = 18 from rfl); have := lv_neT c5 (show ((19 : Int32)).toInt = 19 from rfl); have := lv_neT c6 (show ((20 : Int32)).toInt = 20 from rfl); omega) (by decide) ?_
                exact wMo_orderValue_110 S hr hlk hf N  μ _ _ _ hm hw (lv_sub hl [0] rfl)
set_option maxHeartbeats 4000000 in
set_option maxRecDepth 100000 in
theorem cMo_setsAsked (l : Launch) {Γ : sw_C} {A : Nat → Prop} {ξ : sw_x} {g : sw_g} {μ : sw_m} (hf : sw_wf ξ g.2.2) (a1 : Int32) (a2 : Int32) {res : sw_m} (hm : fMo_setsAsked μ a1 a2 = some res) : Met l yMo_setsAsked (Cond.code yMo_setsAsked prog_10_method_74_code 3 (none) :: sw_tb) rmMo_setsAsked (va_Pc [.ref (ξ.2.2.2.1 84), .int a1, .int a2] (sw_V Γ A ξ g μ)) (sw_Qv Γ A ξ g res (True)) 0 0 A := by
  refine Met.ofW (cc := prog_10_method_74_code) (maxL := 3) (ret := none) (by decide) rfl ?_
  intro p e s m args below meth c s₁ B hml hv
  obtain ⟨rfl, hv⟩ := hv
  have S : CallFix p m c prog_10_method_74_code 3 s _ (Cond.code yMo_setsAsked prog_10_method_74_code 3 (none) :: sw_tb) R_Mo := ⟨B.exec, B.bytes, hml, findClass_of_methodNamed B.named, atoms_spec (ws := (Cond.code yMo_setsAsked prog_10_method_74_code 3 (none) :: sw_tb)) B.pre⟩
  have hr := B.returns
  have hlk := B.notSynchronized
  have hw := sw_begin hv
  have hl := lv_entry [.ref (ξ.2.2.2.1 84), .int a1, .int a2] (n := 3) (Nat.le_of_ble_eq_true rfl)
  rw [lg_entry_eq]
  generalize (lg_sl [.ref (ξ.2.2.2.1 84), .int a1, .int a2] ++ List.replicate (3 - (lg_sl [.ref (ξ.2.2.2.1 84), .int a1, .int a2]).length) Slot.unset).toArray = ls at hl ⊢
  have hl : lv_has ls 3 [(0, .ref (ξ.2.2.2.1 84)), (1, .int a1), (2, .int a2)] := hl
  unfold fMo_setsAsked at hm
  refine lv_aload_n S.1 S.2.1 dMo_setsAsked_0 rfl (lv_at hl 0 rfl) ?_
  refine get_Mo (v := .ref (ξ.2.2.2.1 96)) S hw (is_84 hf) 26 (by decide) rfl wf_Mo_63 dMo_setsAsked_1 ?_
  refine lv_iconst (v := (0 : Int32)) S.1 S.2.1 dMo_setsAsked_4 (by decide) ?_
  refine lv_iload_n S.1 S.2.1 dMo_setsAsked_5 rfl (lv_at hl 1 rfl) ?_
  refine sm_iast S hw (is_96 hf) hm dMo_setsAsked_6 (fun μ1 H locs hm hw => ?_)
  refine lv_aload_n S.1 S.2.1 dMo_setsAsked_7 rfl (lv_at hl 0 rfl) ?_
  refine get_Mo (v := .ref (ξ.2.2.2.1 96)) S hw (is_84 hf) 26 (by decide) rfl wf_Mo_63 dMo_setsAsked_8 ?_
  refine lv_iconst (v := (1 : Int32)) S.1 S.2.1 dMo_setsAsked_11 (by decide) ?_
  refine lv_aload_n S.1 S.2.1 dMo_setsAsked_12 rfl (lv_at hl 0 rfl) ?_
  refine get_Mo (v := .ref (ξ.2.2.2.1 86)) S hw (is_84 hf) 2 (by decide) rfl wf_Mo_28 dMo_setsAsked_13 ?_
  refine lv_bipush (v := (15 : Int32)) S.1 S.2.1 dMo_setsAsked_16 (by decide) ?_
  refine lv_iload_n S.1 S.2.1 dMo_setsAsked_18 rfl (lv_at hl 1 rfl) ?_
  refine lv_iadd S.1 S.2.1 dMo_setsAsked_19 ?_
  refine sm_iald S hw (is_86 hf) hm dMo_setsAsked_20 (fun v2 hm => ?_)
  refine sm_iast S hw (is_96 hf) hm dMo_setsAsked_21 (fun μ3 H locs hm hw => ?_)
  refine lv_aload_n S.1 S.2.1 dMo_setsAsked_22 rfl (lv_at hl 0 rfl) ?_
  refine get_Mo (v := .ref (ξ.2.2.2.1 96)) S hw (is_84 hf) 26 (by decide) rfl wf_Mo_63 dMo_setsAsked_23 ?_
  refine lv_iconst (v := (2 : Int32)) S.1 S.2.1 dMo_setsAsked_26 (by decide) ?_
  refine lv_iload_n S.1 S.2.1 dMo_setsAsked_27 rfl (lv_at hl 2 rfl) ?_
  refine sm_iast S hw (is_96 hf) hm dMo_setsAsked_28 (fun μ4 H locs hm hw => ?_)
  refine lv_aload_n S.1 S.2.1 dMo_setsAsked_29 rfl (lv_at hl 0 rfl) ?_
  refine get_Mo (v := .ref (ξ.2.2.2.1 96)) S hw (is_84 hf) 26 (by decide) rfl wf_Mo_63 dMo_setsAsked_30 ?_
  refine lv_iconst (v := (3 : Int32)) S.1 S.2.1 dMo_setsAsked_33 (by decide) ?_
  refine lv_iload_n S.1 S.2.1 dMo_setsAsked_34 rfl (lv_at hl 2 rfl) ?_
  obtain ⟨v6, h5, hm⟩ := ob hm
  refine sw_Si (rest := [.int (3 : Int32), .ref (ξ.2.2.2.1 96)]) S hw (cMo_armOf l  hf a2 h5) kMo_armOf wm_Mo_160 rfl rfl hl.1 (Nat.le_of_ble_eq_true rfl) ⟨rfl, rfl, Nat.le_of_ble_eq_true rfl, Nat.le_of_ble_eq_true rfl⟩ ⟨Nat.le_of_ble_eq_true rfl, Nat.le_of_ble_eq_true rfl⟩ dMo_setsAsked_35 (fun H locs hw _ => ?_)
  refine sm_iast S hw (is_96 hf) hm dMo_setsAsked_38 (fun μ7 H locs hm hw => ?_)
  refine lv_aload_n S.1 S.2.1 dMo_setsAsked_39 rfl (lv_at hl 0 rfl) ?_
  refine get_Mo (v := .ref (ξ.2.2.2.1 96)) S hw (is_84 hf) 26 (by decide) rfl wf_Mo_63 dMo_setsAsked_40 ?_
  refine lv_iconst (v := (4 : Int32)) S.1 S.2.1 dMo_setsAsked_43 (by decide) ?_
  refine lv_aload_n S.1 S.2.1 dMo_setsAsked_44 rfl (lv_at hl 0 rfl) ?_
  refine get_Mo (v := .ref (ξ.2.2.2.1 86)) S hw (is_84 hf) 2 (by decide) rfl wf_Mo_28 dMo_setsAsked_45 ?_
  refine lv_bipush (v := (41 : Int32)) S.1 S.2.1 dMo_setsAsked_48 (by decide) ?_
  refine sm_iald S hw (is_86 hf) hm dMo_setsAsked_50 (fun v8 hm => ?_)
  refine sm_iast S hw (is_96 hf) hm dMo_setsAsked_51 (fun μ9 H locs hm hw => ?_)
  refine lv_aload_n S.1 S.2.1 dMo_setsAsked_52 rfl (lv_at hl 0 rfl) ?_
  refine get_Mo (v := .ref (ξ.2.2.2.1 96)) S hw (is_84 hf) 26 (by decide) rfl wf_Mo_63 dMo_setsAsked_53 ?_
  refine lv_iconst (v := (5 : Int32)) S.1 S.2.1 dMo_setsAsked_56 (by decide) ?_
  refine lv_aload_n S.1 S.2.1 dMo_setsAsked_57 rfl (lv_at hl 0 rfl) ?_
  refine get_Mo (v := .ref (ξ.2.2.2.1 86)) S hw (is_84 hf) 2 (by decide) rfl wf_Mo_28 dMo_setsAsked_58 ?_
  refine lv_bipush (v := (42 : Int32)) S.1 S.2.1 dMo_setsAsked_61 (by decide) ?_
  refine sm_iald S hw (is_86 hf) hm dMo_setsAsked_63 (fun v10 hm => ?_)
  refine sm_iast S hw (is_96 hf) hm dMo_setsAsked_64 (fun μ11 H locs hm hw => ?_)
  refine lv_aload_n S.1 S.2.1 dMo_setsAsked_65 rfl (lv_at hl 0 rfl) ?_
  refine get_Mo (v := .ref (ξ.2.2.2.1 96)) S hw (is_84 hf) 26 (by decide) rfl wf_Mo_63 dMo_setsAsked_66 ?_
  refine lv_bipush (v := (6 : Int32)) S.1 S.2.1 dMo_setsAsked_69 (by decide) ?_
  refine lv_aload_n S.1 S.2.1 dMo_setsAsked_71 rfl (lv_at hl 0 rfl) ?_
  refine get_Mo (v := .ref (ξ.2.2.2.1 86)) S hw (is_84 hf) 2 (by decide) rfl wf_Mo_28 dMo_setsAsked_72 ?_
  refine lv_iconst (v := (0 : Int32)) S.1 S.2.1 dMo_setsAsked_75 (by decide) ?_
  refine lv_iload_n S.1 S.2.1 dMo_setsAsked_76 rfl (lv_at hl 1 rfl) ?_
  refine lv_iadd S.1 S.2.1 dMo_setsAsked_77 ?_
  refine sm_iald S hw (is_86 hf) hm dMo_setsAsked_78 (fun v12 hm => ?_)
  refine sm_iast S hw (is_96 hf) hm dMo_setsAsked_79 (fun μ13 H locs hm hw => ?_)
  refine lv_aload_n S.1 S.2.1 dMo_setsAsked_80 rfl (lv_at hl 0 rfl) ?_
  refine get_Mo (v := .ref (ξ.2.2.2.1 96)) S hw (is_84 hf) 26 (by decide) rfl wf_Mo_63 dMo_setsAsked_81 ?_
  refine lv_bipush (v := (7 : Int32)) S.1 S.2.1 dMo_setsAsked_84 (by decide) ?_
  refine lv_aload_n S.1 S.2.1 dMo_setsAsked_86 rfl (lv_at hl 0 rfl) ?_
  refine get_Mo (v := .ref (ξ.2.2.2.1 86)) S hw (is_84 hf) 2 (by decide) rfl wf_Mo_28 dMo_setsAsked_87 ?_
  refine lv_bipush (v := (14 : Int32)) S.1 S.2.1 dMo_setsAsked_90 (by decide) ?_
  refine sm_iald S hw (is_86 hf) hm dMo_setsAsked_92 (fun v14 hm => ?_)
  refine sm_iast S hw (is_96 hf) hm dMo_setsAsked_93 (fun μ15 H locs hm hw => ?_)
  obtain rfl := Option.some.inj hm
  exact sw_vret S hr hlk hw trivial dMo_setsAsked_94
set_option maxHeartbeats 4000000 in
set_option maxRecDepth 100000 in
theorem cMo_isLevel (l : Launch) {Γ : sw_C} {A : Nat → Prop} {ξ : sw_x} {g : sw_g} {μ : sw_m} (hf : sw_wf ξ g.2.2) (a1 : Int32) {res : Int32 × sw_m} (hm : fMo_isLevel μ a1 = some res) : Met l yMo_isLevel (Cond.code yMo_isLevel prog_10_method_81_code 2 (some .boolean) :: sw_tb) rmMo_isLevel (va_Pc [.ref (ξ.2.2.2.1 84), .int a1] (sw_V Γ A ξ g μ)) (sw_Qi Γ A ξ g res.2 res.1 (True)) 0 0 A := by
  refine Met.ofW (cc := prog_10_method_81_code) (maxL := 2) (ret := some .boolean) (by decide) rfl ?_
  intro p e s m args below meth c s₁ B hml hv
  obtain ⟨rfl, hv⟩ := hv
  have S : CallFix p m c prog_10_method_81_code 2 s _ (Cond.code yMo_isLevel prog_10_method_81_code 2 (some .boolean) :: sw_tb) R_Mo := ⟨B.exec, B.bytes, hml, findClass_of_methodNamed B.named, atoms_spec (ws := (Cond.code yMo_isLevel prog_10_method_81_code 2 (some .boolean) :: sw_tb)) B.pre⟩
  have hr := B.returns
  have hlk := B.notSynchronized
  have hw := sw_begin hv
  have hl := lv_entry [.ref (ξ.2.2.2.1 84), .int a1] (n := 2) (Nat.le_of_ble_eq_true rfl)
  rw [lg_entry_eq]
  generalize (lg_sl [.ref (ξ.2.2.2.1 84), .int a1] ++ List.replicate (2 - (lg_sl [.ref (ξ.2.2.2.1 84), .int a1]).length) Slot.unset).toArray = ls at hl ⊢
  have hl : lv_has ls 2 [(0, .ref (ξ.2.2.2.1 84)), (1, .int a1)] := hl
  unfold fMo_isLevel at hm
  refine lv_iload_n S.1 S.2.1 dMo_isLevel_0 rfl (lv_at hl 1 rfl) ?_
  obtain ⟨v2, h1, hm⟩ := ob hm
  refine sw_Si (rest := []) S hw (cMo_either l  hf a1 h1) kMo_either wm_Mo_163 rfl rfl hl.1 (Nat.le_of_ble_eq_true rfl) ⟨rfl, rfl, Nat.le_of_ble_eq_true rfl, Nat.le_of_ble_eq_true rfl⟩ ⟨Nat.le_of_ble_eq_true rfl, Nat.le_of_ble_eq_true rfl⟩ dMo_isLevel_1 (fun H locs hw _ => ?_)
  refine lv_aload_n S.1 S.2.1 dMo_isLevel_4 rfl (lv_at hl 0 rfl) ?_
  refine get_Mo (v := .ref (ξ.2.2.2.1 86)) S hw (is_84 hf) 2 (by decide) rfl wf_Mo_28 dMo_isLevel_5 ?_
  refine lv_bipush (v := (42 : Int32)) S.1 S.2.1 dMo_isLevel_8 (by decide) ?_
  refine sm_iald S hw (is_86 hf) hm dMo_isLevel_10 (fun v3 hm => ?_)
  refine bicmp_gt (tgt := 18) S.1 S.2.1 hm dMo_isLevel_11 (by decide) (fun hm => ?_) (fun hm => ?_)
  · refine lv_iconst (v := (0 : Int32)) S.1 S.2.1 dMo_isLevel_18 (by decide) ?_
    obtain rfl := Option.some.inj hm
    exact sw_zret S hr hlk (Or.inl rfl) hw trivial dMo_isLevel_19
  · refine lv_iconst (v := (1 : Int32)) S.1 S.2.1 dMo_isLevel_14 (by decide) ?_
    refine lv_goto (tgt := 19) S.1 S.2.1 dMo_isLevel_15 (by decide) ?_
    obtain rfl := Option.some.inj hm
    exact sw_zret S hr hlk (Or.inr rfl) hw trivial dMo_isLevel_19
set_option maxHeartbeats 4000000 in
set_option maxRecDepth 100000 in
theorem wMo_keeps_54 {l : Launch} {p : Program} {e : Env} {s : State} {m : MethodId} {args : Array Value} {below : List Frame} {meth : Method} {c : Code} {Γ : sw_C} {A : Nat → Prop} {ξ : sw_x} {g : sw_g} {res : sw_m} (S : CallFix p m c prog_10_method_83_code 4 s args (Cond.code yMo_keeps prog_10_method_83_code 4 (none) :: sw_tb) R_Mo) (hr : meth.sig.returnType = none) (hlk : meth.locks = false) (hf : sw_wf ξ g.2.2) (N : Nat) : ∀ (fu : Nat) (μ : sw_m) (u1 : Int32) (u2 : Int32) (u3 : Int32) (H : Heap) (locs : List Loc) (ls : Array Slot), fMo_keeps_54 N   fu μ u1 u2 u3 = some res → sw_S Γ A ξ g μ s H locs → lv_has ls 4 [(0, .ref (ξ.2.2.2.1 84)), (1, .int u1), (2, .int u2), (3, .int u3)] → W p l e (headSpec (Cond.code yMo_keeps prog_10_method_83_code 4 (none) :: sw_tb) rmMo_keeps).room s m args below meth c H locs 0 0 (MQ below (sw_Qv Γ A ξ g res (True)) args s 0 0 A) (F0 m 54 ls []) := by
  intro fu
  induction fu with
  | zero => intro μ u1 u2 u3 H locs ls hm; rw [fMo_keeps_54.eq_1] at hm; cases hm
  | succ fu ih =>
    intro μ u1 u2 u3 H locs ls hm hw hl
    rw [fMo_keeps_54.eq_2] at hm
    refine lv_iload_n S.1 S.2.1 dMo_keeps_54 rfl (lv_at hl 3 rfl) ?_
    refine lv_bipush (v := (15 : Int32)) S.1 S.2.1 dMo_keeps_55 (by decide) ?_
    refine bicmp_ge (tgt := 85) S.1 S.2.1 hm dMo_keeps_57 (by decide) (fun hm => ?_) (fun hm => ?_)
    · refine lv_aload_n S.1 S.2.1 dMo_keeps_85 rfl (lv_at hl 0 rfl) ?_
      refine get_Mo (v := .ref (ξ.2.2.2.1 98)) S hw (is_84 hf) 31 (by decide) rfl wf_Mo_69 dMo_keeps_86 ?_
      refine lv_iload_n S.1 S.2.1 dMo_keeps_89 rfl (lv_at hl 2 rfl) ?_
      refine lv_aload_n S.1 S.2.1 dMo_keeps_90 rfl (lv_at hl 0 rfl) ?_
      refine get_Mo (v := .int (μ.1 84 33)) S hw (is_84 hf) 33 (by decide) rfl wf_Mo_11 dMo_keeps_91 ?_
      refine lv_imul S.1 S.2.1 dMo_keeps_94 ?_
      refine lv_bipush (v := (15 : Int32)) S.1 S.2.1 dMo_keeps_95 (by decide) ?_
      refine lv_iadd S.1 S.2.1 dMo_keeps_97 ?_
      refine lv_iload_n S.1 S.2.1 dMo_keeps_98 rfl (lv_at hl 1 rfl) ?_
      refine sm_iast S hw (is_98 hf) hm dMo_keeps_99 (fun μ1 H locs hm hw => ?_)
      refine lv_aload_n S.1 S.2.1 dMo_keeps_100 rfl (lv_at hl 0 rfl) ?_
      refine lv_dup S.1 S.2.1 dMo_keeps_101 rfl ?_
      refine get_Mo (v := .int (μ1.1 84 33)) S hw (is_84 hf) 33 (by decide) rfl wf_Mo_11 dMo_keeps_102 ?_
      refine lv_iconst (v := (1 : Int32)) S.1 S.2.1 dMo_keeps_105 (by decide) ?_
      refine lv_iadd S.1 S.2.1 dMo_keeps_106 ?_
      refine put_Mo S hw (is_84 hf) 33 (by decide) ps_Mo_33 rfl rfl rfl wf_Mo_11 hm dMo_keeps_107 (fun μ2 H locs hm hw => ?_)
      obtain rfl := Option.some.inj hm
      exact sw_vret S hr hlk hw trivial dMo_keeps_110
    · refine lv_aload_n S.1 S.2.1 dMo_keeps_60 rfl (lv_at hl 0 rfl) ?_
      refine get_Mo (v := .ref (ξ.2.2.2.1 98)) S hw (is_84 hf) 31 (by decide) rfl wf_Mo_69 dMo_keeps_61 ?_
      refine lv_iload_n S.1 S.2.1 dMo_keeps_64 rfl (lv_at hl 2 rfl) ?_
      refine lv_aload_n S.1 S.2.1 dMo_keeps_65 rfl (lv_at hl 0 rfl) ?_
      refine get_Mo (v := .int (μ.1 84 33)) S hw (is_84 hf) 33 (by decide) rfl wf_Mo_11 dMo_keeps_66 ?_
      refine lv_imul S.1 S.2.1 dMo_keeps_69 ?_
      refine lv_iload_n S.1 S.2.1 dMo_keeps_70 rfl (lv_at hl 3 rfl) ?_
      refine lv_iadd S.1 S.2.1 dMo_keeps_71 ?_
      refine lv_aload_n S.1 S.2.1 dMo_keeps_72 rfl (lv_at hl 0 rfl) ?_
      refine get_Mo (v := .ref (ξ.2.2.2.1 86)) S hw (is_84 hf) 2 (by decide) rfl wf_Mo_28 dMo_keeps_73 ?_
      refine lv_iload_n S.1 S.2.1 dMo_keeps_76 rfl (lv_at hl 3 rfl) ?_
      refine sm_iald S hw (is_86 hf) hm dMo_keeps_77 (fun v3 hm => ?_)
      refine sm_iast S hw (is_98 hf) hm dMo_keeps_78 (fun μ4 H locs hm hw => ?_)
      obtain ⟨x5, ex5, hm⟩ := nm_x hm
      refine lv_iinc (v := x5) (lv' := [(3, .int x5), (0, .ref (ξ.2.2.2.1 84)), (1, .int u1), (2, .int u2)]) S.1 S.2.1 dMo_keeps_79 hl (k := 3) rfl (by rw [ex5]; rfl) (by decide) rfl (fun ls hl => ?_)
      refine lv_goto (tgt := 54) S.1 S.2.1 dMo_keeps_82 (by decide) ?_
      exact ih μ4 u1 u2 x5 _ _ _ hm hw (lv_sub hl [1, 2, 3, 0] rfl)
set_option maxHeartbeats 4000000 in
set_option maxRecDepth 100000 in
theorem wMo_keeps_14 {l : Launch} {p : Program} {e : Env} {s : State} {m : MethodId} {args : Array Value} {below : List Frame} {meth : Method} {c : Code} {Γ : sw_C} {A : Nat → Prop} {ξ : sw_x} {g : sw_g} {res : sw_m} (S : CallFix p m c prog_10_method_83_code 4 s args (Cond.code yMo_keeps prog_10_method_83_code 4 (none) :: sw_tb) R_Mo) (hr : meth.sig.returnType = none) (hlk : meth.locks = false) (hf : sw_wf ξ g.2.2) (N : Nat) : ∀ (fu : Nat) (μ : sw_m) (u1 : Int32) (u2 : Int32) (u3 : Int32) (H : Heap) (locs : List Loc) (ls : Array Slot), fMo_keeps_14 N   fu μ u1 u2 u3 = some res → sw_S Γ A ξ g μ s H locs → lv_has ls 4 [(0, .ref (ξ.2.2.2.1 84)), (1, .int u1), (2, .int u2), (3, .int u3)] → W p l e (headSpec (Cond.code yMo_keeps prog_10_method_83_code 4 (none) :: sw_tb) rmMo_keeps).room s m args below meth c H locs 0 0 (MQ below (sw_Qv Γ A ξ g res (True)) args s 0 0 A) (F0 m 14 ls []) := by
  intro fu
  induction fu with
  | zero => intro μ u1 u2 u3 H locs ls hm; rw [fMo_keeps_14.eq_1] at hm; cases hm
  | succ fu ih =>
    intro μ u1 u2 u3 H locs ls hm hw hl
    rw [fMo_keeps_14.eq_2] at hm
    refine lv_iload_n S.1 S.2.1 dMo_keeps_14 rfl (lv_at hl 3 rfl) ?_
    refine lv_bipush (v := (15 : Int32)) S.1 S.2.1 dMo_keeps_15 (by decide) ?_
    refine lv_iload_n S.1 S.2.1 dMo_keeps_17 rfl (lv_at hl 2 rfl) ?_
    refine lv_imul S.1 S.2.1 dMo_keeps_18 ?_
    refine bicmp_ge (tgt := 42) S.1 S.2.1 hm dMo_keeps_19 (by decide) (fun hm => ?_) (fun hm => ?_)
    · refine lv_aload_n S.1 S.2.1 dMo_keeps_42 rfl (lv_at hl 0 rfl) ?_
      refine lv_dup S.1 S.2.1 dMo_keeps_43 rfl ?_
      refine get_Mo (v := .int (μ.1 84 33)) S hw (is_84 hf) 33 (by decide) rfl wf_Mo_11 dMo_keeps_44 ?_
      refine lv_iconst (v := (1 : Int32)) S.1 S.2.1 dMo_keeps_47 (by decide) ?_
      refine lv_isub S.1 S.2.1 dMo_keeps_48 ?_
      refine put_Mo S hw (is_84 hf) 33 (by decide) ps_Mo_33 rfl rfl rfl wf_Mo_11 hm dMo_keeps_49 (fun μ6 H locs hm hw => ?_)
      refine lv_iconst (v := (0 : Int32)) S.1 S.2.1 dMo_keeps_52 (by decide) ?_
      refine lv_istore_n (lv' := [(3, .int (0 : Int32)), (0, .ref (ξ.2.2.2.1 84)), (1, .int u1), (2, .int u2)]) S.1 S.2.1 dMo_keeps_53 rfl hl (by decide) rfl (fun ls hl => ?_)
      exact wMo_keeps_54 S hr hlk hf N  N μ6 u1 u2 (0 : Int32) _ _ _ hm hw (lv_sub hl [1, 2, 3, 0] rfl)
    · refine lv_aload_n S.1 S.2.1 dMo_keeps_22 rfl (lv_at hl 0 rfl) ?_
      refine get_Mo (v := .ref (ξ.2.2.2.1 98)) S hw (is_84 hf) 31 (by decide) rfl wf_Mo_69 dMo_keeps_23 ?_
      refine lv_iload_n S.1 S.2.1 dMo_keeps_26 rfl (lv_at hl 3 rfl) ?_
      refine lv_aload_n S.1 S.2.1 dMo_keeps_27 rfl (lv_at hl 0 rfl) ?_
      refine get_Mo (v := .ref (ξ.2.2.2.1 98)) S hw (is_84 hf) 31 (by decide) rfl wf_Mo_69 dMo_keeps_28 ?_
      refine lv_iload_n S.1 S.2.1 dMo_keeps_31 rfl (lv_at hl 3 rfl) ?_
      refine lv_iload_n S.1 S.2.1 dMo_keeps_32 rfl (lv_at hl 2 rfl) ?_
      refine lv_iadd S.1 S.2.1 dMo_keeps_33 ?_
      refine sm_iald S hw (is_98 hf) hm dMo_keeps_34 (fun v7 hm => ?_)
      refine sm_iast S hw (is_98 hf) hm dMo_keeps_35 (fun μ8 H locs hm hw => ?_)
      obtain ⟨x9, ex9, hm⟩ := nm_x hm
      refine lv_iinc (v := x9) (lv' := [(3, .int x9), (0, .ref (ξ.2.2.2.1 84)), (1, .int u1), (2, .int u2)]) S.1 S.2.1 dMo_keeps_36 hl (k := 3) rfl (by rw [ex9]; rfl) (by decide) rfl (fun ls hl => ?_)
      refine lv_goto (tgt := 14) S.1 S.2.1 dMo_keeps_39 (by decide) ?_
      exact ih μ8 u1 u2 x9 _ _ _ hm hw (lv_sub hl [1, 2, 3, 0] rfl)
set_option maxHeartbeats 4000000 in
set_option maxRecDepth 100000 in
theorem cMo_keeps (l : Launch) (N : Nat) {Γ : sw_C} {A : Nat → Prop} {ξ : sw_x} {g : sw_g} {μ : sw_m} (hf : sw_wf ξ g.2.2) (a1 : Int32) {res : sw_m} (hm : fMo_keeps N μ a1 = some res) : Met l yMo_keeps (Cond.code yMo_keeps prog_10_method_83_code 4 (none) :: sw_tb) rmMo_keeps (va_Pc [.ref (ξ.2.2.2.1 84), .int a1] (sw_V Γ A ξ g μ)) (sw_Qv Γ A ξ g res (True)) 0 0 A := by
  refine Met.ofW (cc := prog_10_method_83_code) (maxL := 4) (ret := none) (by decide) rfl ?_
  intro p e s m args below meth c s₁ B hml hv
  obtain ⟨rfl, hv⟩ := hv
  have S : CallFix p m c prog_10_method_83_code 4 s _ (Cond.code yMo_keeps prog_10_method_83_code 4 (none) :: sw_tb) R_Mo := ⟨B.exec, B.bytes, hml, findClass_of_methodNamed B.named, atoms_spec (ws := (Cond.code yMo_keeps prog_10_method_83_code 4 (none) :: sw_tb)) B.pre⟩
  have hr := B.returns
  have hlk := B.notSynchronized
  have hw := sw_begin hv
  have hl := lv_entry [.ref (ξ.2.2.2.1 84), .int a1] (n := 4) (Nat.le_of_ble_eq_true rfl)
  rw [lg_entry_eq]
  generalize (lg_sl [.ref (ξ.2.2.2.1 84), .int a1] ++ List.replicate (4 - (lg_sl [.ref (ξ.2.2.2.1 84), .int a1]).length) Slot.unset).toArray = ls at hl ⊢
  have hl : lv_has ls 4 [(0, .ref (ξ.2.2.2.1 84)), (1, .int a1)] := hl
  unfold fMo_keeps at hm
  refine lv_bipush (v := (16 : Int32)) S.1 S.2.1 dMo_keeps_0 (by decide) ?_
  refine lv_istore_n (lv' := [(2, .int (16 : Int32)), (0, .ref (ξ.2.2.2.1 84)), (1, .int a1)]) S.1 S.2.1 dMo_keeps_2 rfl hl (by decide) rfl (fun ls hl => ?_)
  refine lv_aload_n S.1 S.2.1 dMo_keeps_3 rfl (lv_at hl 1 rfl) ?_
  refine get_Mo (v := .int (μ.1 84 33)) S hw (is_84 hf) 33 (by decide) rfl wf_Mo_11 dMo_keeps_4 ?_
  refine lv_bipush (v := (16 : Int32)) S.1 S.2.1 dMo_keeps_7 (by decide) ?_
  refine bicmp_ne (tgt := 52) S.1 S.2.1 hm dMo_keeps_9 (by decide) (fun hm => ?_) (fun hm => ?_)
  · refine lv_iconst (v := (0 : Int32)) S.1 S.2.1 dMo_keeps_52 (by decide) ?_
    refine lv_istore_n (lv' := [(3, .int (0 : Int32)), (2, .int (16 : Int32)), (0, .ref (ξ.2.2.2.1 84)), (1, .int a1)]) S.1 S.2.1 dMo_keeps_53 rfl hl (by decide) rfl (fun ls hl => ?_)
    exact wMo_keeps_54 S hr hlk hf N  N μ a1 (16 : Int32) (0 : Int32) _ _ _ hm hw (lv_sub hl [2, 3, 1, 0] rfl)
  · refine lv_iconst (v := (0 : Int32)) S.1 S.2.1 dMo_keeps_12 (by decide) ?_
    refine lv_istore_n (lv' := [(3, .int (0 : Int32)), (2, .int (16 : Int32)), (0, .ref (ξ.2.2.2.1 84)), (1, .int a1)]) S.1 S.2.1 dMo_keeps_13 rfl hl (by decide) rfl (fun ls hl => ?_)
    exact wMo_keeps_14 S hr hlk hf N  N μ a1 (16 : Int32) (0 : Int32) _ _ _ hm hw (lv_sub hl [2, 3, 1, 0] rfl)
set_option maxHeartbeats 4000000 in
set_option maxRecDepth 100000 in
theorem wMo_undo_34 {l : Launch} {p : Program} {e : Env} {s : State} {m : MethodId} {args : Array Value} {below : List Frame} {meth : Method} {c : Code} {Γ : sw_C} {A : Nat → Prop} {ξ : sw_x} {g : sw_g} {res : Int32 × sw_m} (S : CallFix p m c prog_10_method_84_code 3 s args (Cond.code yMo_undo prog_10_method_84_code 3 (some .int) :: sw_tb) R_Mo) (hr : meth.sig.returnType = some .int) (hlk : meth.locks = false) (hf : sw_wf ξ g.2.2) (N : Nat) : ∀ (fu : Nat) (μ : sw_m) (u1 : Int32) (u2 : Int32) (H : Heap) (locs : List Loc) (ls : Array Slot), fMo_undo_34 N   fu μ u1 u2 = some res → sw_S Γ A ξ g μ s H locs → lv_has ls 3 [(0, .ref (ξ.2.2.2.1 84)), (1, .int u1), (2, .int u2)] → W p l e (headSpec (Cond.code yMo_undo prog_10_method_84_code 3 (some .int) :: sw_tb) rmMo_undo).room s m args below meth c H locs 0 0 (MQ below (sw_Qi Γ A ξ g res.2 res.1 (True)) args s 0 0 A) (F0 m 34 ls []) := by
  intro fu
  induction fu with
  | zero => intro μ u1 u2 H locs ls hm; rw [fMo_undo_34.eq_1] at hm; cases hm
  | succ fu ih =>
    intro μ u1 u2 H locs ls hm hw hl
    rw [fMo_undo_34.eq_2] at hm
    refine lv_iload_n S.1 S.2.1 dMo_undo_34 rfl (lv_at hl 2 rfl) ?_
    refine lv_bipush (v := (15 : Int32)) S.1 S.2.1 dMo_undo_35 (by decide) ?_
    refine bicmp_ge (tgt := 60) S.1 S.2.1 hm dMo_undo_37 (by decide) (fun hm => ?_) (fun hm => ?_)
    · refine lv_aload_n S.1 S.2.1 dMo_undo_60 rfl (lv_at hl 0 rfl) ?_
      refine lv_aload_n S.1 S.2.1 dMo_undo_61 rfl (lv_at hl 0 rfl) ?_
      refine get_Mo (v := .ref (ξ.2.2.2.1 98)) S hw (is_84 hf) 31 (by decide) rfl wf_Mo_69 dMo_undo_62 ?_
      refine lv_iload_n S.1 S.2.1 dMo_undo_65 rfl (lv_at hl 1 rfl) ?_
      refine lv_bipush (v := (15 : Int32)) S.1 S.2.1 dMo_undo_66 (by decide) ?_
      refine lv_iadd S.1 S.2.1 dMo_undo_68 ?_
      refine sm_iald S hw (is_98 hf) hm dMo_undo_69 (fun v3 hm => ?_)
      obtain ⟨⟨v6, μ5⟩, h4, hm⟩ := ob hm
      refine sw_Vi (q := 84) (rest := []) S hw (cMo_good l  hf v3 h4) kMo_good wm_Mo_14 (is_84 hf).1 (e_Mo (is_84 hf)) rfl rfl rfl rfl hl.1 (Nat.le_of_ble_eq_true rfl) ⟨rfl, rfl, Nat.le_of_ble_eq_true rfl, Nat.le_of_ble_eq_true rfl⟩ ⟨Nat.le_of_ble_eq_true rfl, Nat.le_of_ble_eq_true rfl⟩ dMo_undo_70 (fun H locs hw _ => ?_)
      obtain rfl := Option.some.inj hm
      exact sw_iret S hr hlk hw trivial dMo_undo_73
    · refine lv_aload_n S.1 S.2.1 dMo_undo_40 rfl (lv_at hl 0 rfl) ?_
      refine get_Mo (v := .ref (ξ.2.2.2.1 86)) S hw (is_84 hf) 2 (by decide) rfl wf_Mo_28 dMo_undo_41 ?_
      refine lv_iload_n S.1 S.2.1 dMo_undo_44 rfl (lv_at hl 2 rfl) ?_
      refine lv_aload_n S.1 S.2.1 dMo_undo_45 rfl (lv_at hl 0 rfl) ?_
      refine get_Mo (v := .ref (ξ.2.2.2.1 98)) S hw (is_84 hf) 31 (by decide) rfl wf_Mo_69 dMo_undo_46 ?_
      refine lv_iload_n S.1 S.2.1 dMo_undo_49 rfl (lv_at hl 1 rfl) ?_
      refine lv_iload_n S.1 S.2.1 dMo_undo_50 rfl (lv_at hl 2 rfl) ?_
      refine lv_iadd S.1 S.2.1 dMo_undo_51 ?_
      refine sm_iald S hw (is_98 hf) hm dMo_undo_52 (fun v7 hm => ?_)
      refine sm_iast S hw (is_86 hf) hm dMo_undo_53 (fun μ8 H locs hm hw => ?_)
      obtain ⟨x9, ex9, hm⟩ := nm_x hm
      refine lv_iinc (v := x9) (lv' := [(2, .int x9), (0, .ref (ξ.2.2.2.1 84)), (1, .int u1)]) S.1 S.2.1 dMo_undo_54 hl (k := 2) rfl (by rw [ex9]; rfl) (by decide) rfl (fun ls hl => ?_)
      refine lv_goto (tgt := 34) S.1 S.2.1 dMo_undo_57 (by decide) ?_
      exact ih μ8 u1 x9 _ _ _ hm hw (lv_sub hl [1, 2, 0] rfl)
set_option maxHeartbeats 4000000 in
set_option maxRecDepth 100000 in
theorem cMo_undo (l : Launch) (N : Nat) {Γ : sw_C} {A : Nat → Prop} {ξ : sw_x} {g : sw_g} {μ : sw_m} (hf : sw_wf ξ g.2.2) {res : Int32 × sw_m} (hm : fMo_undo N μ = some res) : Met l yMo_undo (Cond.code yMo_undo prog_10_method_84_code 3 (some .int) :: sw_tb) rmMo_undo (va_Pc [.ref (ξ.2.2.2.1 84)] (sw_V Γ A ξ g μ)) (sw_Qi Γ A ξ g res.2 res.1 (True)) 0 0 A := by
  refine Met.ofW (cc := prog_10_method_84_code) (maxL := 3) (ret := some .int) (by decide) rfl ?_
  intro p e s m args below meth c s₁ B hml hv
  obtain ⟨rfl, hv⟩ := hv
  have S : CallFix p m c prog_10_method_84_code 3 s _ (Cond.code yMo_undo prog_10_method_84_code 3 (some .int) :: sw_tb) R_Mo := ⟨B.exec, B.bytes, hml, findClass_of_methodNamed B.named, atoms_spec (ws := (Cond.code yMo_undo prog_10_method_84_code 3 (some .int) :: sw_tb)) B.pre⟩
  have hr := B.returns
  have hlk := B.notSynchronized
  have hw := sw_begin hv
  have hl := lv_entry [.ref (ξ.2.2.2.1 84)] (n := 3) (Nat.le_of_ble_eq_true rfl)
  rw [lg_entry_eq]
  generalize (lg_sl [.ref (ξ.2.2.2.1 84)] ++ List.replicate (3 - (lg_sl [.ref (ξ.2.2.2.1 84)]).length) Slot.unset).toArray = ls at hl ⊢
  have hl : lv_has ls 3 [(0, .ref (ξ.2.2.2.1 84))] := hl
  unfold fMo_undo at hm
  refine lv_aload_n S.1 S.2.1 dMo_undo_0 rfl (lv_at hl 0 rfl) ?_
  refine get_Mo (v := .int (μ.1 84 33)) S hw (is_84 hf) 33 (by decide) rfl wf_Mo_11 dMo_undo_1 ?_
  refine bif_ne (tgt := 14) S.1 S.2.1 hm dMo_undo_4 (by decide) (fun hm => ?_) (fun hm => ?_)
  · refine lv_aload_n S.1 S.2.1 dMo_undo_14 rfl (lv_at hl 0 rfl) ?_
    refine lv_dup S.1 S.2.1 dMo_undo_15 rfl ?_
    refine get_Mo (v := .int (μ.1 84 33)) S hw (is_84 hf) 33 (by decide) rfl wf_Mo_11 dMo_undo_16 ?_
    refine lv_iconst (v := (1 : Int32)) S.1 S.2.1 dMo_undo_19 (by decide) ?_
    refine lv_isub S.1 S.2.1 dMo_undo_20 ?_
    refine put_Mo S hw (is_84 hf) 33 (by decide) ps_Mo_33 rfl rfl rfl wf_Mo_11 hm dMo_undo_21 (fun μ1 H locs hm hw => ?_)
    refine lv_bipush (v := (16 : Int32)) S.1 S.2.1 dMo_undo_24 (by decide) ?_
    refine lv_aload_n S.1 S.2.1 dMo_undo_26 rfl (lv_at hl 0 rfl) ?_
    refine get_Mo (v := .int (μ1.1 84 33)) S hw (is_84 hf) 33 (by decide) rfl wf_Mo_11 dMo_undo_27 ?_
    refine lv_imul S.1 S.2.1 dMo_undo_30 ?_
    refine nm_i hm (fun x2 hm => ?_)
    refine lv_istore_n (lv' := [(1, .int x2), (0, .ref (ξ.2.2.2.1 84))]) S.1 S.2.1 dMo_undo_31 rfl hl (by decide) rfl (fun ls hl => ?_)
    refine lv_iconst (v := (0 : Int32)) S.1 S.2.1 dMo_undo_32 (by decide) ?_
    refine lv_istore_n (lv' := [(2, .int (0 : Int32)), (1, .int x2), (0, .ref (ξ.2.2.2.1 84))]) S.1 S.2.1 dMo_undo_33 rfl hl (by decide) rfl (fun ls hl => ?_)
    exact wMo_undo_34 S hr hlk hf N  N μ1 x2 (0 : Int32) _ _ _ hm hw (lv_sub hl [2, 1, 0] rfl)
  · refine lv_aload_n S.1 S.2.1 dMo_undo_7 rfl (lv_at hl 0 rfl) ?_
    refine lv_bipush (v := (-3 : Int32)) S.1 S.2.1 dMo_undo_8 (by decide) ?_
    obtain ⟨⟨v12, μ11⟩, h10, hm⟩ := ob hm
    refine sw_Vi (q := 84) (rest := []) S hw (cMo_refuses l  hf (-3 : Int32) h10) kMo_refuses wm_Mo_113 (is_84 hf).1 (e_Mo (is_84 hf)) rfl rfl rfl rfl hl.1 (Nat.le_of_ble_eq_true rfl) ⟨rfl, rfl, Nat.le_of_ble_eq_true rfl, Nat.le_of_ble_eq_true rfl⟩ ⟨Nat.le_of_ble_eq_true rfl, Nat.le_of_ble_eq_true rfl⟩ dMo_undo_10 (fun H locs hw _ => ?_)
    obtain rfl := Option.some.inj hm
    exact sw_iret S hr hlk hw trivial dMo_undo_13
set_option maxHeartbeats 4000000 in
set_option maxRecDepth 100000 in
theorem cMo_goodOr (l : Launch) {Γ : sw_C} {A : Nat → Prop} {ξ : sw_x} {g : sw_g} {μ : sw_m} (hf : sw_wf ξ g.2.2) (a1 : Int32) {res : Int32 × sw_m} (hm : fMo_goodOr μ a1 = some res) : Met l yMo_goodOr (Cond.code yMo_goodOr prog_10_method_85_code 2 (some .int) :: sw_tb) rmMo_goodOr (va_Pc [.ref (ξ.2.2.2.1 84), .int a1] (sw_V Γ A ξ g μ)) (sw_Qi Γ A ξ g res.2 res.1 (True)) 0 0 A := by
  refine Met.ofW (cc := prog_10_method_85_code) (maxL := 2) (ret := some .int) (by decide) rfl ?_
  intro p e s m args below meth c s₁ B hml hv
  obtain ⟨rfl, hv⟩ := hv
  have S : CallFix p m c prog_10_method_85_code 2 s _ (Cond.code yMo_goodOr prog_10_method_85_code 2 (some .int) :: sw_tb) R_Mo := ⟨B.exec, B.bytes, hml, findClass_of_methodNamed B.named, atoms_spec (ws := (Cond.code yMo_goodOr prog_10_method_85_code 2 (some .int) :: sw_tb)) B.pre⟩
  have hr := B.returns
  have hlk := B.notSynchronized
  have hw := sw_begin hv
  have hl := lv_entry [.ref (ξ.2.2.2.1 84), .int a1] (n := 2) (Nat.le_of_ble_eq_true rfl)
  rw [lg_entry_eq]
  generalize (lg_sl [.ref (ξ.2.2.2.1 84), .int a1] ++ List.replicate (2 - (lg_sl [.ref (ξ.2.2.2.1 84), .int a1]).length) Slot.unset).toArray = ls at hl ⊢
  have hl : lv_has ls 2 [(0, .ref (ξ.2.2.2.1 84)), (1, .int a1)] := hl
  unfold fMo_goodOr at hm
  refine lv_iload_n S.1 S.2.1 dMo_goodOr_0 rfl (lv_at hl 1 rfl) ?_
  refine bif_ge (tgt := 12) S.1 S.2.1 hm dMo_goodOr_1 (by decide) (fun hm => ?_) (fun hm => ?_)
  · refine lv_aload_n S.1 S.2.1 dMo_goodOr_12 rfl (lv_at hl 0 rfl) ?_
    refine lv_iload_n S.1 S.2.1 dMo_goodOr_13 rfl (lv_at hl 1 rfl) ?_
    obtain ⟨⟨v3, μ2⟩, h1, hm⟩ := ob hm
    refine sw_Vi (q := 84) (rest := []) S hw (cMo_good l  hf a1 h1) kMo_good wm_Mo_14 (is_84 hf).1 (e_Mo (is_84 hf)) rfl rfl rfl rfl hl.1 (Nat.le_of_ble_eq_true rfl) ⟨rfl, rfl, Nat.le_of_ble_eq_true rfl, Nat.le_of_ble_eq_true rfl⟩ ⟨Nat.le_of_ble_eq_true rfl, Nat.le_of_ble_eq_true rfl⟩ dMo_goodOr_14 (fun H locs hw _ => ?_)
    obtain rfl := Option.some.inj hm
    exact sw_iret S hr hlk hw trivial dMo_goodOr_17
  · refine lv_aload_n S.1 S.2.1 dMo_goodOr_4 rfl (lv_at hl 0 rfl) ?_
    refine lv_iload_n S.1 S.2.1 dMo_goodOr_5 rfl (lv_at hl 1 rfl) ?_
    obtain ⟨⟨v6, μ5⟩, h4, hm⟩ := ob hm
    refine sw_Vi (q := 84) (rest := []) S hw (cMo_refuses l  hf a1 h4) kMo_refuses wm_Mo_113 (is_84 hf).1 (e_Mo (is_84 hf)) rfl rfl rfl rfl hl.1 (Nat.le_of_ble_eq_true rfl) ⟨rfl, rfl, Nat.le_of_ble_eq_true rfl, Nat.le_of_ble_eq_true rfl⟩ ⟨Nat.le_of_ble_eq_true rfl, Nat.le_of_ble_eq_true rfl⟩ dMo_goodOr_6 (fun H locs hw _ => ?_)
    refine lv_goto (tgt := 17) S.1 S.2.1 dMo_goodOr_9 (by decide) ?_
    obtain rfl := Option.some.inj hm
    exact sw_iret S hr hlk hw trivial dMo_goodOr_17
set_option maxHeartbeats 4000000 in
set_option maxRecDepth 100000 in
theorem cMo_padsKept (l : Launch) (N : Nat) {Γ : sw_C} {A : Nat → Prop} {ξ : sw_x} {g : sw_g} {μ : sw_m} (hf : sw_wf ξ g.2.2) (a1 : Int32) (a2 : Int32) {res : Int32 × sw_m} (hm : fMo_padsKept N μ a1 a2 = some res) : Met l yMo_padsKept (Cond.code yMo_padsKept prog_10_method_89_code 4 (some .int) :: sw_tb) rmMo_padsKept (va_Pc [.ref (ξ.2.2.2.1 84), .int a1, .int a2] (sw_V Γ A ξ g μ)) (sw_Qi Γ A ξ g res.2 res.1 (True)) 0 0 A := by
  refine Met.ofW (cc := prog_10_method_89_code) (maxL := 4) (ret := some .int) (by decide) rfl ?_
  intro p e s m args below meth c s₁ B hml hv
  obtain ⟨rfl, hv⟩ := hv
  have S : CallFix p m c prog_10_method_89_code 4 s _ (Cond.code yMo_padsKept prog_10_method_89_code 4 (some .int) :: sw_tb) R_Mo := ⟨B.exec, B.bytes, hml, findClass_of_methodNamed B.named, atoms_spec (ws := (Cond.code yMo_padsKept prog_10_method_89_code 4 (some .int) :: sw_tb)) B.pre⟩
  have hr := B.returns
  have hlk := B.notSynchronized
  have hw := sw_begin hv
  have hl := lv_entry [.ref (ξ.2.2.2.1 84), .int a1, .int a2] (n := 4) (Nat.le_of_ble_eq_true rfl)
  rw [lg_entry_eq]
  generalize (lg_sl [.ref (ξ.2.2.2.1 84), .int a1, .int a2] ++ List.replicate (4 - (lg_sl [.ref (ξ.2.2.2.1 84), .int a1, .int a2]).length) Slot.unset).toArray = ls at hl ⊢
  have hl : lv_has ls 4 [(0, .ref (ξ.2.2.2.1 84)), (1, .int a1), (2, .int a2)] := hl
  unfold fMo_padsKept at hm
  refine lv_iload_n S.1 S.2.1 dMo_padsKept_0 rfl (lv_at hl 2 rfl) ?_
  obtain ⟨v2, h1, hm⟩ := ob hm
  refine sw_Si (rest := []) S hw (cMo_isHeavy l  hf a2 h1) kMo_isHeavy wm_Mo_123 rfl rfl hl.1 (Nat.le_of_ble_eq_true rfl) ⟨rfl, rfl, Nat.le_of_ble_eq_true rfl, Nat.le_of_ble_eq_true rfl⟩ ⟨Nat.le_of_ble_eq_true rfl, Nat.le_of_ble_eq_true rfl⟩ dMo_padsKept_1 (fun H locs hw _ => ?_)
  refine bif_ne (tgt := 9) S.1 S.2.1 hm dMo_padsKept_4 (by decide) (fun hm => ?_) (fun hm => ?_)
  · refine lv_aload_n S.1 S.2.1 dMo_padsKept_9 rfl (lv_at hl 0 rfl) ?_
    refine lv_iload_n S.1 S.2.1 dMo_padsKept_10 rfl (lv_at hl 1 rfl) ?_
    obtain ⟨⟨v5, μ4⟩, h3, hm⟩ := ob hm
    refine sw_Vi (q := 84) (rest := []) S hw (cMo_isClaim l  hf a1 h3) kMo_isClaim wm_Mo_135 (is_84 hf).1 (e_Mo (is_84 hf)) rfl rfl rfl rfl hl.1 (Nat.le_of_ble_eq_true rfl) ⟨rfl, rfl, Nat.le_of_ble_eq_true rfl, Nat.le_of_ble_eq_true rfl⟩ ⟨Nat.le_of_ble_eq_true rfl, Nat.le_of_ble_eq_true rfl⟩ dMo_padsKept_11 (fun H locs hw _ => ?_)
    refine bif_ne (tgt := 20) S.1 S.2.1 hm dMo_padsKept_14 (by decide) (fun hm => ?_) (fun hm => ?_)
    · refine lv_aload_n S.1 S.2.1 dMo_padsKept_20 rfl (lv_at hl 0 rfl) ?_
      refine get_Mo (v := .ref (ξ.2.2.2.1 86)) S hw (is_84 hf) 2 (by decide) rfl wf_Mo_28 dMo_padsKept_21 ?_
      refine lv_iconst (v := (0 : Int32)) S.1 S.2.1 dMo_padsKept_24 (by decide) ?_
      refine lv_iload_n S.1 S.2.1 dMo_padsKept_25 rfl (lv_at hl 1 rfl) ?_
      refine lv_iadd S.1 S.2.1 dMo_padsKept_26 ?_
      refine sm_iald S hw (is_86 hf) hm dMo_padsKept_27 (fun v6 hm => ?_)
      refine lv_istore_n (lv' := [(3, .int v6), (0, .ref (ξ.2.2.2.1 84)), (1, .int a1), (2, .int a2)]) S.1 S.2.1 dMo_padsKept_28 rfl hl (by decide) rfl (fun ls hl => ?_)
      refine lv_iload_n S.1 S.2.1 dMo_padsKept_29 rfl (lv_at hl 0 rfl) ?_
      refine lv_iload_n S.1 S.2.1 dMo_padsKept_30 rfl (lv_at hl 3 rfl) ?_
      refine bicmp_ne (tgt := 37) S.1 S.2.1 hm dMo_padsKept_31 (by decide) (fun hm => ?_) (fun hm => ?_)
      · refine lv_aload_n S.1 S.2.1 dMo_padsKept_37 rfl (lv_at hl 1 rfl) ?_
        refine lv_iconst (v := (2 : Int32)) S.1 S.2.1 dMo_padsKept_38 (by decide) ?_
        obtain ⟨μ8, h7, hm⟩ := ob hm
        refine sw_Vv (q := 84) (rest := []) S hw (cMo_keeps l N hf (2 : Int32) h7) kMo_keeps wm_Mo_359 (is_84 hf).1 (e_Mo (is_84 hf)) rfl rfl rfl rfl hl.1 (Nat.le_of_ble_eq_true rfl) ⟨rfl, rfl, Nat.le_of_ble_eq_true rfl, Nat.le_of_ble_eq_true rfl⟩ ⟨Nat.le_of_ble_eq_true rfl, Nat.le_of_ble_eq_true rfl⟩ dMo_padsKept_39 (fun H locs hw _ => ?_)
        refine lv_aload_n S.1 S.2.1 dMo_padsKept_42 rfl (lv_at hl 1 rfl) ?_
        refine get_Mo (v := .ref (ξ.2.2.2.1 86)) S hw (is_84 hf) 2 (by decide) rfl wf_Mo_28 dMo_padsKept_43 ?_
        refine lv_iconst (v := (0 : Int32)) S.1 S.2.1 dMo_padsKept_46 (by decide) ?_
        refine lv_iload_n S.1 S.2.1 dMo_padsKept_47 rfl (lv_at hl 2 rfl) ?_
        refine lv_iadd S.1 S.2.1 dMo_padsKept_48 ?_
        refine lv_iload_n S.1 S.2.1 dMo_padsKept_49 rfl (lv_at hl 3 rfl) ?_
        refine sm_iast S hw (is_86 hf) hm dMo_padsKept_50 (fun μ9 H locs hm hw => ?_)
        refine lv_iload_n S.1 S.2.1 dMo_padsKept_51 rfl (lv_at hl 0 rfl) ?_
        obtain rfl := Option.some.inj hm
        exact sw_iret S hr hlk hw trivial dMo_padsKept_52
      · refine lv_bipush (v := (-3 : Int32)) S.1 S.2.1 dMo_padsKept_34 (by decide) ?_
        obtain rfl := Option.some.inj hm
        exact sw_iret S hr hlk hw trivial dMo_padsKept_36
    · refine lv_bipush (v := (-2 : Int32)) S.1 S.2.1 dMo_padsKept_17 (by decide) ?_
      obtain rfl := Option.some.inj hm
      exact sw_iret S hr hlk hw trivial dMo_padsKept_19
  · refine lv_iconst (v := (-1 : Int32)) S.1 S.2.1 dMo_padsKept_7 (by decide) ?_
    obtain rfl := Option.some.inj hm
    exact sw_iret S hr hlk hw trivial dMo_padsKept_8
set_option maxHeartbeats 4000000 in
set_option maxRecDepth 100000 in
theorem cMo_pad (l : Launch) (N : Nat) {Γ : sw_C} {A : Nat → Prop} {ξ : sw_x} {g : sw_g} {μ : sw_m} (hf : sw_wf ξ g.2.2) (a1 : Int32) (a2 : Int32) {res : Int32 × sw_m} (hm : fMo_pad N μ a1 a2 = some res) : Met l yMo_pad (Cond.code yMo_pad prog_10_method_93_code 3 (some .int) :: sw_tb) rmMo_pad (va_Pc [.ref (ξ.2.2.2.1 84), .int a1, .int a2] (sw_V Γ A ξ g μ)) (sw_Qi Γ A ξ g res.2 res.1 (True)) 0 0 A := by
  refine Met.ofW (cc := prog_10_method_93_code) (maxL := 3) (ret := some .int) (by decide) rfl ?_
  intro p e s m args below meth c s₁ B hml hv
  obtain ⟨rfl, hv⟩ := hv
  have S : CallFix p m c prog_10_method_93_code 3 s _ (Cond.code yMo_pad prog_10_method_93_code 3 (some .int) :: sw_tb) R_Mo := ⟨B.exec, B.bytes, hml, findClass_of_methodNamed B.named, atoms_spec (ws := (Cond.code yMo_pad prog_10_method_93_code 3 (some .int) :: sw_tb)) B.pre⟩
  have hr := B.returns
  have hlk := B.notSynchronized
  have hw := sw_begin hv
  have hl := lv_entry [.ref (ξ.2.2.2.1 84), .int a1, .int a2] (n := 3) (Nat.le_of_ble_eq_true rfl)
  rw [lg_entry_eq]
  generalize (lg_sl [.ref (ξ.2.2.2.1 84), .int a1, .int a2] ++ List.replicate (3 - (lg_sl [.ref (ξ.2.2.2.1 84), .int a1, .int a2]).length) Slot.unset).toArray = ls at hl ⊢
  have hl : lv_has ls 3 [(0, .ref (ξ.2.2.2.1 84)), (1, .int a1), (2, .int a2)] := hl
  unfold fMo_pad at hm
  refine lv_aload_n S.1 S.2.1 dMo_pad_0 rfl (lv_at hl 0 rfl) ?_
  refine lv_aload_n S.1 S.2.1 dMo_pad_1 rfl (lv_at hl 0 rfl) ?_
  refine lv_iload_n S.1 S.2.1 dMo_pad_2 rfl (lv_at hl 1 rfl) ?_
  refine lv_iload_n S.1 S.2.1 dMo_pad_3 rfl (lv_at hl 2 rfl) ?_
  obtain ⟨⟨v3, μ2⟩, h1, hm⟩ := ob hm
  refine sw_Vi (q := 84) (rest := [.ref (ξ.2.2.2.1 84)]) S hw (cMo_padsKept l N hf a1 a2 h1) kMo_padsKept wm_Mo_374 (is_84 hf).1 (e_Mo (is_84 hf)) rfl rfl rfl rfl hl.1 (Nat.le_of_ble_eq_true rfl) ⟨rfl, rfl, Nat.le_of_ble_eq_true rfl, Nat.le_of_ble_eq_true rfl⟩ ⟨Nat.le_of_ble_eq_true rfl, Nat.le_of_ble_eq_true rfl⟩ dMo_pad_4 (fun H locs hw _ => ?_)
  obtain ⟨⟨v6, μ5⟩, h4, hm⟩ := ob hm
  refine sw_Vi (q := 84) (rest := []) S hw (cMo_goodOr l  hf v3 h4) kMo_goodOr wm_Mo_368 (is_84 hf).1 (e_Mo (is_84 hf)) rfl rfl rfl rfl hl.1 (Nat.le_of_ble_eq_true rfl) ⟨rfl, rfl, Nat.le_of_ble_eq_true rfl, Nat.le_of_ble_eq_true rfl⟩ ⟨Nat.le_of_ble_eq_true rfl, Nat.le_of_ble_eq_true rfl⟩ dMo_pad_7 (fun H locs hw _ => ?_)
  obtain rfl := Option.some.inj hm
  exact sw_iret S hr hlk hw trivial dMo_pad_10
set_option maxHeartbeats 4000000 in
set_option maxRecDepth 100000 in
theorem wMo_canRow_48 {l : Launch} {p : Program} {e : Env} {s : State} {m : MethodId} {args : Array Value} {below : List Frame} {meth : Method} {c : Code} {Γ : sw_C} {A : Nat → Prop} {ξ : sw_x} {g : sw_g} {res : Int32 × sw_m} (S : CallFix p m c prog_10_method_96_code 5 s args (Cond.code yMo_canRow prog_10_method_96_code 5 (some .boolean) :: sw_tb) R_Mo) (hr : meth.sig.returnType = some .boolean) (hlk : meth.locks = false) (hf : sw_wf ξ g.2.2) (N : Nat) : ∀ (μ : sw_m) (u1 : Int32) (u2 : Int32) (u3 : Int32) (s0 : Int32) (H : Heap) (locs : List Loc) (ls : Array Slot), fMo_canRow_48 N   μ u1 u2 u3 s0 = some res → sw_S Γ A ξ g μ s H locs → lv_has ls 5 [(0, .ref (ξ.2.2.2.1 84)), (1, .int u1), (2, .int u2), (3, .int u3)] → W p l e (headSpec (Cond.code yMo_canRow prog_10_method_96_code 5 (some .boolean) :: sw_tb) rmMo_canRow).room s m args below meth c H locs 0 0 (MQ below (sw_Qi Γ A ξ g res.2 res.1 (True)) args s 0 0 A) (F0 m 48 ls [.int s0]) := by
  intro μ u1 u2 u3 s0 H locs ls hm hw hl
  unfold fMo_canRow_48 at hm
  refine lv_istore (lv' := [(4, .int s0), (0, .ref (ξ.2.2.2.1 84)), (1, .int u1), (2, .int u2), (3, .int u3)]) S.1 S.2.1 dMo_canRow_48 hl (by decide) rfl (fun ls hl => ?_)
  refine lv_iload_n S.1 S.2.1 dMo_canRow_50 rfl (lv_at hl 4 rfl) ?_
  refine bif_ne (tgt := 73) S.1 S.2.1 hm dMo_canRow_51 (by decide) (fun hm => ?_) (fun hm => ?_)
  · refine lv_iconst (v := (1 : Int32)) S.1 S.2.1 dMo_canRow_73 (by decide) ?_
    refine lv_goto (tgt := 78) S.1 S.2.1 dMo_canRow_74 (by decide) ?_
    obtain rfl := Option.some.inj hm
    exact sw_zret S hr hlk (Or.inr rfl) hw trivial dMo_canRow_78
  · refine lv_iload S.1 S.2.1 dMo_canRow_54 (lv_at hl 0 rfl) ?_
    refine bif_eq (tgt := 77) S.1 S.2.1 hm dMo_canRow_56 (by decide) (fun hm => ?_) (fun hm => ?_)
    · refine lv_iconst (v := (0 : Int32)) S.1 S.2.1 dMo_canRow_77 (by decide) ?_
      obtain rfl := Option.some.inj hm
      exact sw_zret S hr hlk (Or.inl rfl) hw trivial dMo_canRow_78
    · refine lv_aload_n S.1 S.2.1 dMo_canRow_59 rfl (lv_at hl 1 rfl) ?_
      refine get_Mo (v := .ref (ξ.2.2.2.1 101)) S hw (is_84 hf) 35 (by decide) rfl wf_Mo_78 dMo_canRow_60 ?_
      refine lv_bipush (v := (7 : Int32)) S.1 S.2.1 dMo_canRow_63 (by decide) ?_
      refine lv_iload_n S.1 S.2.1 dMo_canRow_65 rfl (lv_at hl 2 rfl) ?_
      refine lv_imul S.1 S.2.1 dMo_canRow_66 ?_
      refine lv_iload_n S.1 S.2.1 dMo_canRow_67 rfl (lv_at hl 3 rfl) ?_
      refine lv_iadd S.1 S.2.1 dMo_canRow_68 ?_
      refine sm_zald S hw (is_101 hf) hm dMo_canRow_69 (fun v5 hm => ?_)
      refine bif_ne (tgt := 77) S.1 S.2.1 hm dMo_canRow_70 (by decide) (fun hm => ?_) (fun hm => ?_)
      · refine lv_iconst (v := (0 : Int32)) S.1 S.2.1 dMo_canRow_77 (by decide) ?_
        obtain rfl := Option.some.inj hm
        exact sw_zret S hr hlk (Or.inl rfl) hw trivial dMo_canRow_78
      · refine lv_iconst (v := (1 : Int32)) S.1 S.2.1 dMo_canRow_73 (by decide) ?_
        refine lv_goto (tgt := 78) S.1 S.2.1 dMo_canRow_74 (by decide) ?_
        obtain rfl := Option.some.inj hm
        exact sw_zret S hr hlk (Or.inr rfl) hw trivial dMo_canRow_78
set_option maxHeartbeats 4000000 in
set_option maxRecDepth 100000 in
theorem wMo_canRow_18 {l : Launch} {p : Program} {e : Env} {s : State} {m : MethodId} {args : Array Value} {below : List Frame} {meth : Method} {c : Code} {Γ : sw_C} {A : Nat → Prop} {ξ : sw_x} {g : sw_g} {res : Int32 × sw_m} (S : CallFix p m c prog_10_method_96_code 5 s args (Cond.code yMo_canRow prog_10_method_96_code 5 (some .boolean) :: sw_tb) R_Mo) (hr : meth.sig.returnType = some .boolean) (hlk : meth.locks = false) (hf : sw_wf ξ g.2.2) (N : Nat) : ∀ (μ : sw_m) (u1 : Int32) (u2 : Int32) (s0 : Int32) (H : Heap) (locs : List Loc) (ls : Array Slot), fMo_canRow_18 N   μ u1 u2 s0 = some res → sw_S Γ A ξ g μ s H locs → lv_has ls 5 [(0, .ref (ξ.2.2.2.1 84)), (1, .int u1), (2, .int u2)] → W p l e (headSpec (Cond.code yMo_canRow prog_10_method_96_code 5 (some .boolean) :: sw_tb) rmMo_canRow).room s m args below meth c H locs 0 0 (MQ below (sw_Qi Γ A ξ g res.2 res.1 (True)) args s 0 0 A) (F0 m 18 ls [.int s0]) := by
  intro μ u1 u2 s0 H locs ls hm hw hl
  unfold fMo_canRow_18 at hm
  refine lv_istore_n (lv' := [(3, .int s0), (0, .ref (ξ.2.2.2.1 84)), (1, .int u1), (2, .int u2)]) S.1 S.2.1 dMo_canRow_18 rfl hl (by decide) rfl (fun ls hl => ?_)
  refine lv_aload_n S.1 S.2.1 dMo_canRow_19 rfl (lv_at hl 1 rfl) ?_
  refine get_Mo (v := .int (μ.1 84 37)) S hw (is_84 hf) 37 (by decide) rfl wf_Mo_380 dMo_canRow_20 ?_
  refine lv_iconst (v := (2 : Int32)) S.1 S.2.1 dMo_canRow_23 (by decide) ?_
  refine bicmp_ne (tgt := 35) S.1 S.2.1 hm dMo_canRow_24 (by decide) (fun hm => ?_) (fun hm => ?_)
  · refine lv_aload_n S.1 S.2.1 dMo_canRow_35 rfl (lv_at hl 1 rfl) ?_
    refine lv_iload_n S.1 S.2.1 dMo_canRow_36 rfl (lv_at hl 2 rfl) ?_
    obtain ⟨⟨v4, μ3⟩, h2, hm⟩ := ob hm
    refine sw_Vi (q := 84) (rest := []) S hw (cMo_isOn l  hf u1 h2) kMo_isOn wm_Mo_138 (is_84 hf).1 (e_Mo (is_84 hf)) rfl rfl rfl rfl hl.1 (Nat.le_of_ble_eq_true rfl) ⟨rfl, rfl, Nat.le_of_ble_eq_true rfl, Nat.le_of_ble_eq_true rfl⟩ ⟨Nat.le_of_ble_eq_true rfl, Nat.le_of_ble_eq_true rfl⟩ dMo_canRow_37 (fun H locs hw _ => ?_)
    refine bif_ne (tgt := 47) S.1 S.2.1 hm dMo_canRow_40 (by decide) (fun hm => ?_) (fun hm => ?_)
    · refine lv_iconst (v := (0 : Int32)) S.1 S.2.1 dMo_canRow_47 (by decide) ?_
      exact wMo_canRow_48 S hr hlk hf N  μ3 u1 u2 s0 (0 : Int32) _ _ _ hm hw (lv_sub hl [1, 2, 3, 0] rfl)
    · refine lv_iconst (v := (1 : Int32)) S.1 S.2.1 dMo_canRow_43 (by decide) ?_
      refine lv_goto (tgt := 48) S.1 S.2.1 dMo_canRow_44 (by decide) ?_
      exact wMo_canRow_48 S hr hlk hf N  μ3 u1 u2 s0 (1 : Int32) _ _ _ hm hw (lv_sub hl [1, 2, 3, 0] rfl)
  · refine lv_aload_n S.1 S.2.1 dMo_canRow_27 rfl (lv_at hl 1 rfl) ?_
    refine lv_iload_n S.1 S.2.1 dMo_canRow_28 rfl (lv_at hl 2 rfl) ?_
    obtain ⟨⟨v8, μ7⟩, h6, hm⟩ := ob hm
    refine sw_Vi (q := 84) (rest := []) S hw (cMo_isOn l  hf u1 h6) kMo_isOn wm_Mo_138 (is_84 hf).1 (e_Mo (is_84 hf)) rfl rfl rfl rfl hl.1 (Nat.le_of_ble_eq_true rfl) ⟨rfl, rfl, Nat.le_of_ble_eq_true rfl, Nat.le_of_ble_eq_true rfl⟩ ⟨Nat.le_of_ble_eq_true rfl, Nat.le_of_ble_eq_true rfl⟩ dMo_canRow_29 (fun H locs hw _ => ?_)
    refine lv_goto (tgt := 48) S.1 S.2.1 dMo_canRow_32 (by decide) ?_
    exact wMo_canRow_48 S hr hlk hf N  μ7 u1 u2 s0 v8 _ _ _ hm hw (lv_sub hl [1, 2, 3, 0] rfl)
set_option maxHeartbeats 4000000 in
set_option maxRecDepth 100000 in
theorem cMo_canRow (l : Launch) (N : Nat) {Γ : sw_C} {A : Nat → Prop} {ξ : sw_x} {g : sw_g} {μ : sw_m} (hf : sw_wf ξ g.2.2) (a1 : Int32) (a2 : Int32) {res : Int32 × sw_m} (hm : fMo_canRow N μ a1 a2 = some res) : Met l yMo_canRow (Cond.code yMo_canRow prog_10_method_96_code 5 (some .boolean) :: sw_tb) rmMo_canRow (va_Pc [.ref (ξ.2.2.2.1 84), .int a1, .int a2] (sw_V Γ A ξ g μ)) (sw_Qi Γ A ξ g res.2 res.1 (True)) 0 0 A := by
  refine Met.ofW (cc := prog_10_method_96_code) (maxL := 5) (ret := some .boolean) (by decide) rfl ?_
  intro p e s m args below meth c s₁ B hml hv
  obtain ⟨rfl, hv⟩ := hv
  have S : CallFix p m c prog_10_method_96_code 5 s _ (Cond.code yMo_canRow prog_10_method_96_code 5 (some .boolean) :: sw_tb) R_Mo := ⟨B.exec, B.bytes, hml, findClass_of_methodNamed B.named, atoms_spec (ws := (Cond.code yMo_canRow prog_10_method_96_code 5 (some .boolean) :: sw_tb)) B.pre⟩
  have hr := B.returns
  have hlk := B.notSynchronized
  have hw := sw_begin hv
  have hl := lv_entry [.ref (ξ.2.2.2.1 84), .int a1, .int a2] (n := 5) (Nat.le_of_ble_eq_true rfl)
  rw [lg_entry_eq]
  generalize (lg_sl [.ref (ξ.2.2.2.1 84), .int a1, .int a2] ++ List.replicate (5 - (lg_sl [.ref (ξ.2.2.2.1 84), .int a1, .int a2]).length) Slot.unset).toArray = ls at hl ⊢
  have hl : lv_has ls 5 [(0, .ref (ξ.2.2.2.1 84)), (1, .int a1), (2, .int a2)] := hl
  unfold fMo_canRow at hm
  refine lv_aload_n S.1 S.2.1 dMo_canRow_0 rfl (lv_at hl 0 rfl) ?_
  refine get_Mo (v := .ref (ξ.2.2.2.1 86)) S hw (is_84 hf) 2 (by decide) rfl wf_Mo_28 dMo_canRow_1 ?_
  refine lv_bipush (v := (7 : Int32)) S.1 S.2.1 dMo_canRow_4 (by decide) ?_
  refine lv_iload_n S.1 S.2.1 dMo_canRow_6 rfl (lv_at hl 1 rfl) ?_
  refine lv_iadd S.1 S.2.1 dMo_canRow_7 ?_
  refine sm_iald S hw (is_86 hf) hm dMo_canRow_8 (fun v1 hm => ?_)
  refine lv_iload_n S.1 S.2.1 dMo_canRow_9 rfl (lv_at hl 2 rfl) ?_
  refine bicmp_ne (tgt := 17) S.1 S.2.1 hm dMo_canRow_10 (by decide) (fun hm => ?_) (fun hm => ?_)
  · refine lv_iconst (v := (0 : Int32)) S.1 S.2.1 dMo_canRow_17 (by decide) ?_
    exact wMo_canRow_18 S hr hlk hf N  μ a1 a2 (0 : Int32) _ _ _ hm hw (lv_sub hl [0, 1, 2] rfl)
  · refine lv_iconst (v := (1 : Int32)) S.1 S.2.1 dMo_canRow_13 (by decide) ?_
    refine lv_goto (tgt := 18) S.1 S.2.1 dMo_canRow_14 (by decide) ?_
    exact wMo_canRow_18 S hr hlk hf N  μ a1 a2 (1 : Int32) _ _ _ hm hw (lv_sub hl [0, 1, 2] rfl)
set_option maxHeartbeats 4000000 in
set_option maxRecDepth 100000 in
theorem wMo_endsAt_32 {l : Launch} {p : Program} {e : Env} {s : State} {m : MethodId} {args : Array Value} {below : List Frame} {meth : Method} {c : Code} {Γ : sw_C} {A : Nat → Prop} {ξ : sw_x} {g : sw_g} {res : Int32 × sw_m} (S : CallFix p m c prog_10_method_97_code 2 s args (Cond.code yMo_endsAt prog_10_method_97_code 2 (some .int) :: sw_tb) R_Mo) (hr : meth.sig.returnType = some .int) (hlk : meth.locks = false) (hf : sw_wf ξ g.2.2) (N : Nat) : ∀ (μ : sw_m) (u1 : Int32) (H : Heap) (locs : List Loc) (ls : Array Slot), fMo_endsAt_32 N   μ u1 = some res → sw_S Γ A ξ g μ s H locs → lv_has ls 2 [(0, .ref (ξ.2.2.2.1 84)), (1, .int u1)] → W p l e (headSpec (Cond.code yMo_endsAt prog_10_method_97_code 2 (some .int) :: sw_tb) rmMo_endsAt).room s m args below meth c H locs 0 0 (MQ below (sw_Qi Γ A ξ g res.2 res.1 (True)) args s 0 0 A) (F0 m 32 ls []) := by
  intro μ u1 H locs ls hm hw hl
  unfold fMo_endsAt_32 at hm
  refine lv_aload_n S.1 S.2.1 dMo_endsAt_32 rfl (lv_at hl 0 rfl) ?_
  refine lv_iload_n S.1 S.2.1 dMo_endsAt_33 rfl (lv_at hl 1 rfl) ?_
  obtain ⟨⟨v4, μ3⟩, h2, hm⟩ := ob hm
  refine sw_Vi (q := 84) (rest := []) S hw (cMo_isLevel l  hf u1 h2) kMo_isLevel wm_Mo_166 (is_84 hf).1 (e_Mo (is_84 hf)) rfl rfl rfl rfl hl.1 (Nat.le_of_ble_eq_true rfl) ⟨rfl, rfl, Nat.le_of_ble_eq_true rfl, Nat.le_of_ble_eq_true rfl⟩ ⟨Nat.le_of_ble_eq_true rfl, Nat.le_of_ble_eq_true rfl⟩ dMo_endsAt_34 (fun H locs hw _ => ?_)
  refine bif_eq (tgt := 44) S.1 S.2.1 hm dMo_endsAt_37 (by decide) (fun hm => ?_) (fun hm => ?_)
  · refine lv_ldc S.1 S.2.1 S.2.2.2.1 (sw_word S wc_Mo_193) dMo_endsAt_44 ?_
    obtain rfl := Option.some.inj hm
    exact sw_iret S hr hlk hw trivial dMo_endsAt_46
  · refine lv_iconst (v := (0 : Int32)) S.1 S.2.1 dMo_endsAt_40 (by decide) ?_
    refine lv_goto (tgt := 46) S.1 S.2.1 dMo_endsAt_41 (by decide) ?_
    obtain rfl := Option.some.inj hm
    exact sw_iret S hr hlk hw trivial dMo_endsAt_46
set_option maxHeartbeats 4000000 in
set_option maxRecDepth 100000 in
theorem cMo_endsAt (l : Launch) (N : Nat) {Γ : sw_C} {A : Nat → Prop} {ξ : sw_x} {g : sw_g} {μ : sw_m} (hf : sw_wf ξ g.2.2) (a1 : Int32) {res : Int32 × sw_m} (hm : fMo_endsAt N μ a1 = some res) : Met l yMo_endsAt (Cond.code yMo_endsAt prog_10_method_97_code 2 (some .int) :: sw_tb) rmMo_endsAt (va_Pc [.ref (ξ.2.2.2.1 84), .int a1] (sw_V Γ A ξ g μ)) (sw_Qi Γ A ξ g res.2 res.1 (True)) 0 0 A := by
  refine Met.ofW (cc := prog_10_method_97_code) (maxL := 2) (ret := some .int) (by decide) rfl ?_
  intro p e s m args below meth c s₁ B hml hv
  obtain ⟨rfl, hv⟩ := hv
  have S : CallFix p m c prog_10_method_97_code 2 s _ (Cond.code yMo_endsAt prog_10_method_97_code 2 (some .int) :: sw_tb) R_Mo := ⟨B.exec, B.bytes, hml, findClass_of_methodNamed B.named, atoms_spec (ws := (Cond.code yMo_endsAt prog_10_method_97_code 2 (some .int) :: sw_tb)) B.pre⟩
  have hr := B.returns
  have hlk := B.notSynchronized
  have hw := sw_begin hv
  have hl := lv_entry [.ref (ξ.2.2.2.1 84), .int a1] (n := 2) (Nat.le_of_ble_eq_true rfl)
  rw [lg_entry_eq]
  generalize (lg_sl [.ref (ξ.2.2.2.1 84), .int a1] ++ List.replicate (2 - (lg_sl [.ref (ξ.2.2.2.1 84), .int a1]).length) Slot.unset).toArray = ls at hl ⊢
  have hl : lv_has ls 2 [(0, .ref (ξ.2.2.2.1 84)), (1, .int a1)] := hl
  unfold fMo_endsAt at hm
  refine lv_aload_n S.1 S.2.1 dMo_endsAt_0 rfl (lv_at hl 0 rfl) ?_
  refine get_Mo (v := .int (μ.1 84 37)) S hw (is_84 hf) 37 (by decide) rfl wf_Mo_380 dMo_endsAt_1 ?_
  refine nm_i hm (fun x1 hm => ?_)
  by_cases c0 : x1 = (0 : Int32)
  · have hm := sw_it c0 hm
    refine lv_tableIn (off := 28) (tgt := 32) S.1 S.2.1 dMo_endsAt_4 (by rw [c0]; decide) (by rw [c0]; decide) (by rw [c0]; decide) (by decide) ?_
    exact wMo_endsAt_32 S hr hlk hf N  μ a1 _ _ _ hm hw (lv_sub hl [0, 1] rfl)
  · have hm := sw_if c0 hm
    by_cases c1 : x1 = (1 : Int32)
    · have hm := sw_it c1 hm
      refine lv_tableIn (off := 43) (tgt := 47) S.1 S.2.1 dMo_endsAt_4 (by rw [c1]; decide) (by rw [c1]; decide) (by rw [c1]; decide) (by decide) ?_
      refine lv_iload_n S.1 S.2.1 dMo_endsAt_47 rfl (lv_at hl 1 rfl) ?_
      obtain ⟨v6, h5, hm⟩ := ob hm
      refine sw_Si (rest := []) S hw (cMo_either l  hf a1 h5) kMo_either wm_Mo_163 rfl rfl hl.1 (Nat.le_of_ble_eq_true rfl) ⟨rfl, rfl, Nat.le_of_ble_eq_true rfl, Nat.le_of_ble_eq_true rfl⟩ ⟨Nat.le_of_ble_eq_true rfl, Nat.le_of_ble_eq_true rfl⟩ dMo_endsAt_48 (fun H locs hw _ => ?_)
      obtain rfl := Option.some.inj hm
      exact sw_iret S hr hlk hw trivial dMo_endsAt_51
    · have hm := sw_if c1 hm
      by_cases c2 : x1 = (2 : Int32)
      · have hm := sw_it c2 hm
        refine lv_tableIn (off := 28) (tgt := 32) S.1 S.2.1 dMo_endsAt_4 (by rw [c2]; decide) (by rw [c2]; decide) (by rw [c2]; decide) (by decide) ?_
        exact wMo_endsAt_32 S hr hlk hf N  μ a1 _ _ _ hm hw (lv_sub hl [0, 1] rfl)
      · have hm := sw_if c2 hm
        refine lv_tableOut (tgt := 52) S.1 S.2.1 dMo_endsAt_4 (by have := lv_neT c0 (show ((0 : Int32)).toInt = 0 from rfl); have := lv_neT c1 (show ((1 : Int32)).toInt = 1 from rfl); have := lv_neT c2 (show ((2 : Int32)).toInt = 2 from rfl); omega) (by decide) ?_
        refine lv_aload_n S.1 S.2.1 dMo_endsAt_52 rfl (lv_at hl 0 rfl) ?_
        refine lv_iload_n S.1 S.2.1 dMo_endsAt_53 rfl (lv_at hl 1 rfl) ?_
        obtain ⟨⟨v9, μ8⟩, h7, hm⟩ := ob hm
        refine sw_Vi (q := 84) (rest := []) S hw (cMo_isLevel l  hf a1 h7) kMo_isLevel wm_Mo_166 (is_84 hf).1 (e_Mo (is_84 hf)) rfl rfl rfl rfl hl.1 (Nat.le_of_ble_eq_true rfl) ⟨rfl, rfl, Nat.le_of_ble_eq_true rfl, Nat.le_of_ble_eq_true rfl⟩ ⟨Nat.le_of_ble_eq_true rfl, Nat.le_of_ble_eq_true rfl⟩ dMo_endsAt_54 (fun H locs hw _ => ?_)
        refine bif_eq (tgt := 64) S.1 S.2.1 hm dMo_endsAt_57 (by decide) (fun hm => ?_) (fun hm => ?_)
        · refine lv_iconst (v := (0 : Int32)) S.1 S.2.1 dMo_endsAt_64 (by decide) ?_
          obtain rfl := Option.some.inj hm
          exact sw_iret S hr hlk hw trivial dMo_endsAt_65
        · refine lv_iconst (v := (1 : Int32)) S.1 S.2.1 dMo_endsAt_60 (by decide) ?_
          refine lv_goto (tgt := 65) S.1 S.2.1 dMo_endsAt_61 (by decide) ?_
          obtain rfl := Option.some.inj hm
          exact sw_iret S hr hlk hw trivial dMo_endsAt_65
set_option maxHeartbeats 4000000 in
set_option maxRecDepth 100000 in
theorem cMo_bestAt (l : Launch) {Γ : sw_C} {A : Nat → Prop} {ξ : sw_x} {g : sw_g} {μ : sw_m} (hf : sw_wf ξ g.2.2) (a1 : Int32) (a2 : Int32) {res : Int32 × sw_m} (hm : fMo_bestAt μ a1 a2 = some res) : Met l yMo_bestAt (Cond.code yMo_bestAt prog_10_method_98_code 3 (some .int) :: sw_tb) rmMo_bestAt (va_Pc [.ref (ξ.2.2.2.1 84), .int a1, .int a2] (sw_V Γ A ξ g μ)) (sw_Qi Γ A ξ g res.2 res.1 (True)) 0 0 A := by
  refine Met.ofW (cc := prog_10_method_98_code) (maxL := 3) (ret := some .int) (by decide) rfl ?_
  intro p e s m args below meth c s₁ B hml hv
  obtain ⟨rfl, hv⟩ := hv
  have S : CallFix p m c prog_10_method_98_code 3 s _ (Cond.code yMo_bestAt prog_10_method_98_code 3 (some .int) :: sw_tb) R_Mo := ⟨B.exec, B.bytes, hml, findClass_of_methodNamed B.named, atoms_spec (ws := (Cond.code yMo_bestAt prog_10_method_98_code 3 (some .int) :: sw_tb)) B.pre⟩
  have hr := B.returns
  have hlk := B.notSynchronized
  have hw := sw_begin hv
  have hl := lv_entry [.ref (ξ.2.2.2.1 84), .int a1, .int a2] (n := 3) (Nat.le_of_ble_eq_true rfl)
  rw [lg_entry_eq]
  generalize (lg_sl [.ref (ξ.2.2.2.1 84), .int a1, .int a2] ++ List.replicate (3 - (lg_sl [.ref (ξ.2.2.2.1 84), .int a1, .int a2]).length) Slot.unset).toArray = ls at hl ⊢
  have hl : lv_has ls 3 [(0, .ref (ξ.2.2.2.1 84)), (1, .int a1), (2, .int a2)] := hl
  unfold fMo_bestAt at hm
  refine lv_aload_n S.1 S.2.1 dMo_bestAt_0 rfl (lv_at hl 0 rfl) ?_
  refine get_Mo (v := .ref (ξ.2.2.2.1 102)) S hw (is_84 hf) 36 (by decide) rfl wf_Mo_82 dMo_bestAt_1 ?_
  refine lv_sipush (v := (4201 : Int32)) S.1 S.2.1 dMo_bestAt_4 (by decide) ?_
  refine lv_iload_n S.1 S.2.1 dMo_bestAt_7 rfl (lv_at hl 1 rfl) ?_
  refine lv_imul S.1 S.2.1 dMo_bestAt_8 ?_
  refine lv_sipush (v := (2100 : Int32)) S.1 S.2.1 dMo_bestAt_9 (by decide) ?_
  refine lv_iadd S.1 S.2.1 dMo_bestAt_12 ?_
  refine lv_iload_n S.1 S.2.1 dMo_bestAt_13 rfl (lv_at hl 2 rfl) ?_
  refine lv_iadd S.1 S.2.1 dMo_bestAt_14 ?_
  refine sm_iald S hw (is_102 hf) hm dMo_bestAt_15 (fun v1 hm => ?_)
  obtain rfl := Option.some.inj hm
  exact sw_iret S hr hlk hw trivial dMo_bestAt_16
set_option maxHeartbeats 4000000 in
set_option maxRecDepth 100000 in
theorem cMo_bestBy (l : Launch) {Γ : sw_C} {A : Nat → Prop} {ξ : sw_x} {g : sw_g} {μ : sw_m} (hf : sw_wf ξ g.2.2) (a1 : Int32) (a2 : Int32) (a3 : Int32) {res : Int32 × sw_m} (hm : fMo_bestBy μ a1 a2 a3 = some res) : Met l yMo_bestBy (Cond.code yMo_bestBy prog_10_method_99_code 5 (some .int) :: sw_tb) rmMo_bestBy (va_Pc [.ref (ξ.2.2.2.1 84), .int a1, .int a2, .int a3] (sw_V Γ A ξ g μ)) (sw_Qi Γ A ξ g res.2 res.1 (True)) 0 0 A := by
  refine Met.ofW (cc := prog_10_method_99_code) (maxL := 5) (ret := some .int) (by decide) rfl ?_
  intro p e s m args below meth c s₁ B hml hv
  obtain ⟨rfl, hv⟩ := hv
  have S : CallFix p m c prog_10_method_99_code 5 s _ (Cond.code yMo_bestBy prog_10_method_99_code 5 (some .int) :: sw_tb) R_Mo := ⟨B.exec, B.bytes, hml, findClass_of_methodNamed B.named, atoms_spec (ws := (Cond.code yMo_bestBy prog_10_method_99_code 5 (some .int) :: sw_tb)) B.pre⟩
  have hr := B.returns
  have hlk := B.notSynchronized
  have hw := sw_begin hv
  have hl := lv_entry [.ref (ξ.2.2.2.1 84), .int a1, .int a2, .int a3] (n := 5) (Nat.le_of_ble_eq_true rfl)
  rw [lg_entry_eq]
  generalize (lg_sl [.ref (ξ.2.2.2.1 84), .int a1, .int a2, .int a3] ++ List.replicate (5 - (lg_sl [.ref (ξ.2.2.2.1 84), .int a1, .int a2, .int a3]).length) Slot.unset).toArray = ls at hl ⊢
  have hl : lv_has ls 5 [(0, .ref (ξ.2.2.2.1 84)), (1, .int a1), (2, .int a2), (3, .int a3)] := hl
  unfold fMo_bestBy at hm
  refine lv_aload_n S.1 S.2.1 dMo_bestBy_0 rfl (lv_at hl 0 rfl) ?_
  refine lv_iload_n S.1 S.2.1 dMo_bestBy_1 rfl (lv_at hl 1 rfl) ?_
  refine lv_iconst (v := (1 : Int32)) S.1 S.2.1 dMo_bestBy_2 (by decide) ?_
  refine lv_iadd S.1 S.2.1 dMo_bestBy_3 ?_
  refine lv_iload_n S.1 S.2.1 dMo_bestBy_4 rfl (lv_at hl 3 rfl) ?_
  refine lv_aload_n S.1 S.2.1 dMo_bestBy_5 rfl (lv_at hl 0 rfl) ?_
  refine get_Mo (v := .ref (ξ.2.2.2.1 100)) S hw (is_84 hf) 34 (by decide) rfl wf_Mo_75 dMo_bestBy_6 ?_
  refine lv_bipush (v := (7 : Int32)) S.1 S.2.1 dMo_bestBy_9 (by decide) ?_
  refine lv_iload_n S.1 S.2.1 dMo_bestBy_11 rfl (lv_at hl 1 rfl) ?_
  refine lv_imul S.1 S.2.1 dMo_bestBy_12 ?_
  refine lv_iload_n S.1 S.2.1 dMo_bestBy_13 rfl (lv_at hl 2 rfl) ?_
  refine lv_iadd S.1 S.2.1 dMo_bestBy_14 ?_
  refine sm_iald S hw (is_100 hf) hm dMo_bestBy_15 (fun v1 hm => ?_)
  refine lv_iadd S.1 S.2.1 dMo_bestBy_16 ?_
  obtain ⟨⟨v4, μ3⟩, h2, hm⟩ := ob hm
  refine sw_Vi (q := 84) (rest := []) S hw (cMo_bestAt l  hf (a1 + (1 : Int32)) (a3 + v1) h2) kMo_bestAt wm_Mo_383 (is_84 hf).1 (e_Mo (is_84 hf)) rfl rfl rfl rfl hl.1 (Nat.le_of_ble_eq_true rfl) ⟨rfl, rfl, Nat.le_of_ble_eq_true rfl, Nat.le_of_ble_eq_true rfl⟩ ⟨Nat.le_of_ble_eq_true rfl, Nat.le_of_ble_eq_true rfl⟩ dMo_bestBy_17 (fun H locs hw _ => ?_)
  refine lv_istore (lv' := [(4, .int v4), (0, .ref (ξ.2.2.2.1 84)), (1, .int a1), (2, .int a2), (3, .int a3)]) S.1 S.2.1 dMo_bestBy_20 hl (by decide) rfl (fun ls hl => ?_)
  refine lv_aload_n S.1 S.2.1 dMo_bestBy_22 rfl (lv_at hl 1 rfl) ?_
  refine get_Mo (v := .int (μ3.1 84 37)) S hw (is_84 hf) 37 (by decide) rfl wf_Mo_380 dMo_bestBy_23 ?_
  refine lv_iconst (v := (2 : Int32)) S.1 S.2.1 dMo_bestBy_26 (by decide) ?_
  refine bicmp_ne (tgt := 55) S.1 S.2.1 hm dMo_bestBy_27 (by decide) (fun hm => ?_) (fun hm => ?_)
  · refine lv_iload S.1 S.2.1 dMo_bestBy_55 (lv_at hl 0 rfl) ?_
    obtain rfl := Option.some.inj hm
    exact sw_iret S hr hlk hw trivial dMo_bestBy_57
  · refine lv_aload_n S.1 S.2.1 dMo_bestBy_30 rfl (lv_at hl 1 rfl) ?_
    refine get_Mo (v := .ref (ξ.2.2.2.1 86)) S hw (is_84 hf) 2 (by decide) rfl wf_Mo_28 dMo_bestBy_31 ?_
    refine lv_bipush (v := (7 : Int32)) S.1 S.2.1 dMo_bestBy_34 (by decide) ?_
    refine lv_iload_n S.1 S.2.1 dMo_bestBy_36 rfl (lv_at hl 2 rfl) ?_
    refine lv_iadd S.1 S.2.1 dMo_bestBy_37 ?_
    refine sm_iald S hw (is_86 hf) hm dMo_bestBy_38 (fun v5 hm => ?_)
    refine lv_iload_n S.1 S.2.1 dMo_bestBy_39 rfl (lv_at hl 3 rfl) ?_
    refine bicmp_eq (tgt := 55) S.1 S.2.1 hm dMo_bestBy_40 (by decide) (fun hm => ?_) (fun hm => ?_)
    · refine lv_iload S.1 S.2.1 dMo_bestBy_55 (lv_at hl 0 rfl) ?_
      obtain rfl := Option.some.inj hm
      exact sw_iret S hr hlk hw trivial dMo_bestBy_57
    · refine lv_ldc S.1 S.2.1 S.2.2.2.1 (sw_word S wc_Mo_193) dMo_bestBy_43 ?_
      refine lv_iload S.1 S.2.1 dMo_bestBy_45 (lv_at hl 0 rfl) ?_
      refine lv_iconst (v := (1 : Int32)) S.1 S.2.1 dMo_bestBy_47 (by decide) ?_
      refine lv_iadd S.1 S.2.1 dMo_bestBy_48 ?_
      obtain ⟨v7, h6, hm⟩ := ob hm
      refine sw_Si (rest := []) S hw (cMo_lesser l  hf (1000000 : Int32) (v4 + (1 : Int32)) h6) kMo_lesser wm_Mo_386 rfl rfl hl.1 (Nat.le_of_ble_eq_true rfl) ⟨rfl, rfl, Nat.le_of_ble_eq_true rfl, Nat.le_of_ble_eq_true rfl⟩ ⟨Nat.le_of_ble_eq_true rfl, Nat.le_of_ble_eq_true rfl⟩ dMo_bestBy_49 (fun H locs hw _ => ?_)
      refine lv_goto (tgt := 57) S.1 S.2.1 dMo_bestBy_52 (by decide) ?_
      obtain rfl := Option.some.inj hm
      exact sw_iret S hr hlk hw trivial dMo_bestBy_57
set_option maxHeartbeats 4000000 in
set_option maxRecDepth 100000 in
theorem cMo_staysOff (l : Launch) {Γ : sw_C} {A : Nat → Prop} {ξ : sw_x} {g : sw_g} {μ : sw_m} (hf : sw_wf ξ g.2.2) (a1 : Int32) {res : Int32 × sw_m} (hm : fMo_staysOff μ a1 = some res) : Met l yMo_staysOff (Cond.code yMo_staysOff prog_10_method_100_code 2 (some .boolean) :: sw_tb) rmMo_staysOff (va_Pc [.ref (ξ.2.2.2.1 84), .int a1] (sw_V Γ A ξ g μ)) (sw_Qi Γ A ξ g res.2 res.1 (True)) 0 0 A := by
  refine Met.ofW (cc := prog_10_method_100_code) (maxL := 2) (ret := some .boolean) (by decide) rfl ?_
  intro p e s m args below meth c s₁ B hml hv
  obtain ⟨rfl, hv⟩ := hv
  have S : CallFix p m c prog_10_method_100_code 2 s _ (Cond.code yMo_staysOff prog_10_method_100_code 2 (some .boolean) :: sw_tb) R_Mo := ⟨B.exec, B.bytes, hml, findClass_of_methodNamed B.named, atoms_spec (ws := (Cond.code yMo_staysOff prog_10_method_100_code 2 (some .boolean) :: sw_tb)) B.pre⟩
  have hr := B.returns
  have hlk := B.notSynchronized
  have hw := sw_begin hv
  have hl := lv_entry [.ref (ξ.2.2.2.1 84), .int a1] (n := 2) (Nat.le_of_ble_eq_true rfl)
  rw [lg_entry_eq]
  generalize (lg_sl [.ref (ξ.2.2.2.1 84), .int a1] ++ List.replicate (2 - (lg_sl [.ref (ξ.2.2.2.1 84), .int a1]).length) Slot.unset).toArray = ls at hl ⊢
  have hl : lv_has ls 2 [(0, .ref (ξ.2.2.2.1 84)), (1, .int a1)] := hl
  unfold fMo_staysOff at hm
  refine lv_aload_n S.1 S.2.1 dMo_staysOff_0 rfl (lv_at hl 0 rfl) ?_
  refine get_Mo (v := .int (μ.1 84 37)) S hw (is_84 hf) 37 (by decide) rfl wf_Mo_380 dMo_staysOff_1 ?_
  refine lv_iconst (v := (2 : Int32)) S.1 S.2.1 dMo_staysOff_4 (by decide) ?_
  refine bicmp_ne (tgt := 20) S.1 S.2.1 hm dMo_staysOff_5 (by decide) (fun hm => ?_) (fun hm => ?_)
  · refine lv_iconst (v := (0 : Int32)) S.1 S.2.1 dMo_staysOff_20 (by decide) ?_
    obtain rfl := Option.some.inj hm
    exact sw_zret S hr hlk (Or.inl rfl) hw trivial dMo_staysOff_21
  · refine lv_aload_n S.1 S.2.1 dMo_staysOff_8 rfl (lv_at hl 0 rfl) ?_
    refine lv_iload_n S.1 S.2.1 dMo_staysOff_9 rfl (lv_at hl 1 rfl) ?_
    obtain ⟨⟨v3, μ2⟩, h1, hm⟩ := ob hm
    refine sw_Vi (q := 84) (rest := []) S hw (cMo_isOn l  hf a1 h1) kMo_isOn wm_Mo_138 (is_84 hf).1 (e_Mo (is_84 hf)) rfl rfl rfl rfl hl.1 (Nat.le_of_ble_eq_true rfl) ⟨rfl, rfl, Nat.le_of_ble_eq_true rfl, Nat.le_of_ble_eq_true rfl⟩ ⟨Nat.le_of_ble_eq_true rfl, Nat.le_of_ble_eq_true rfl⟩ dMo_staysOff_10 (fun H locs hw _ => ?_)
    refine bif_ne (tgt := 20) S.1 S.2.1 hm dMo_staysOff_13 (by decide) (fun hm => ?_) (fun hm => ?_)
    · refine lv_iconst (v := (0 : Int32)) S.1 S.2.1 dMo_staysOff_20 (by decide) ?_
      obtain rfl := Option.some.inj hm
      exact sw_zret S hr hlk (Or.inl rfl) hw trivial dMo_staysOff_21
    · refine lv_iconst (v := (1 : Int32)) S.1 S.2.1 dMo_staysOff_16 (by decide) ?_
      refine lv_goto (tgt := 21) S.1 S.2.1 dMo_staysOff_17 (by decide) ?_
      obtain rfl := Option.some.inj hm
      exact sw_zret S hr hlk (Or.inr rfl) hw trivial dMo_staysOff_21
set_option maxHeartbeats 4000000 in
set_option maxRecDepth 100000 in
theorem wMo_bestOf_35 {l : Launch} {p : Program} {e : Env} {s : State} {m : MethodId} {args : Array Value} {below : List Frame} {meth : Method} {c : Code} {Γ : sw_C} {A : Nat → Prop} {ξ : sw_x} {g : sw_g} {res : Int32 × sw_m} (S : CallFix p m c prog_10_method_101_code 6 s args (Cond.code yMo_bestOf prog_10_method_101_code 6 (some .int) :: sw_tb) R_Mo) (hr : meth.sig.returnType = some .int) (hlk : meth.locks = false) (hf : sw_wf ξ g.2.2) (N : Nat) : ∀ (fu : Nat) (μ : sw_m) (u1 : Int32) (u2 : Int32) (u3 : Int32) (u4 : Int32) (H : Heap) (locs : List Loc) (ls : Array Slot), fMo_bestOf_35 N   fu μ u1 u2 u3 u4 = some res → sw_S Γ A ξ g μ s H locs → lv_has ls 6 [(0, .ref (ξ.2.2.2.1 84)), (1, .int u1), (2, .int u2), (3, .int u3), (4, .int u4)] → W p l e (headSpec (Cond.code yMo_bestOf prog_10_method_101_code 6 (some .int) :: sw_tb) rmMo_bestOf).room s m args below meth c H locs 0 0 (MQ below (sw_Qi Γ A ξ g res.2 res.1 (True)) args s 0 0 A) (F0 m 35 ls []) := by
  intro fu
  induction fu with
  | zero => intro μ u1 u2 u3 u4 H locs ls hm; rw [fMo_bestOf_35.eq_1] at hm; cases hm
  | succ fu ih =>
    intro μ u1 u2 u3 u4 H locs ls hm hw hl
    rw [fMo_bestOf_35.eq_2] at hm
    refine lv_iload S.1 S.2.1 dMo_bestOf_35 (lv_at hl 4 rfl) ?_
    refine lv_bipush (v := (7 : Int32)) S.1 S.2.1 dMo_bestOf_37 (by decide) ?_
    refine bicmp_ge (tgt := 93) S.1 S.2.1 hm dMo_bestOf_39 (by decide) (fun hm => ?_) (fun hm => ?_)
    · refine lv_iload_n S.1 S.2.1 dMo_bestOf_93 rfl (lv_at hl 3 rfl) ?_
      obtain rfl := Option.some.inj hm
      exact sw_iret S hr hlk hw trivial dMo_bestOf_94
    · refine lv_aload_n S.1 S.2.1 dMo_bestOf_42 rfl (lv_at hl 0 rfl) ?_
      refine lv_iload_n S.1 S.2.1 dMo_bestOf_43 rfl (lv_at hl 1 rfl) ?_
      refine lv_iload S.1 S.2.1 dMo_bestOf_44 (lv_at hl 4 rfl) ?_
      obtain ⟨⟨v6, μ5⟩, h4, hm⟩ := ob hm
      refine sw_Vi (q := 84) (rest := []) S hw (cMo_canRow l N hf u1 u4 h4) kMo_canRow wm_Mo_392 (is_84 hf).1 (e_Mo (is_84 hf)) rfl rfl rfl rfl hl.1 (Nat.le_of_ble_eq_true rfl) ⟨rfl, rfl, Nat.le_of_ble_eq_true rfl, Nat.le_of_ble_eq_true rfl⟩ ⟨Nat.le_of_ble_eq_true rfl, Nat.le_of_ble_eq_true rfl⟩ dMo_bestOf_46 (fun H locs hw _ => ?_)
      refine bif_ne (tgt := 55) S.1 S.2.1 hm dMo_bestOf_49 (by decide) (fun hm => ?_) (fun hm => ?_)
      · refine lv_aload_n S.1 S.2.1 dMo_bestOf_55 rfl (lv_at hl 0 rfl) ?_
        refine lv_iload_n S.1 S.2.1 dMo_bestOf_56 rfl (lv_at hl 1 rfl) ?_
        refine lv_iload S.1 S.2.1 dMo_bestOf_57 (lv_at hl 4 rfl) ?_
        refine lv_iload_n S.1 S.2.1 dMo_bestOf_59 rfl (lv_at hl 2 rfl) ?_
        obtain ⟨⟨v9, μ8⟩, h7, hm⟩ := ob hm
        refine sw_Vi (q := 84) (rest := []) S hw (cMo_bestBy l  hf u1 u4 u2 h7) kMo_bestBy wm_Mo_395 (is_84 hf).1 (e_Mo (is_84 hf)) rfl rfl rfl rfl hl.1 (Nat.le_of_ble_eq_true rfl) ⟨rfl, rfl, Nat.le_of_ble_eq_true rfl, Nat.le_of_ble_eq_true rfl⟩ ⟨Nat.le_of_ble_eq_true rfl, Nat.le_of_ble_eq_true rfl⟩ dMo_bestOf_60 (fun H locs hw _ => ?_)
        refine lv_istore (lv' := [(5, .int v9), (0, .ref (ξ.2.2.2.1 84)), (1, .int u1), (2, .int u2), (3, .int u3), (4, .int u4)]) S.1 S.2.1 dMo_bestOf_63 hl (by decide) rfl (fun ls hl => ?_)
        refine lv_aload_n S.1 S.2.1 dMo_bestOf_65 rfl (lv_at hl 1 rfl) ?_
        refine get_Mo (v := .int (μ8.1 84 37)) S hw (is_84 hf) 37 (by decide) rfl wf_Mo_380 dMo_bestOf_66 ?_
        refine lv_iconst (v := (3 : Int32)) S.1 S.2.1 dMo_bestOf_69 (by decide) ?_
        refine bicmp_ne (tgt := 80) S.1 S.2.1 hm dMo_bestOf_70 (by decide) (fun hm => ?_) (fun hm => ?_)
        · refine lv_iload_n S.1 S.2.1 dMo_bestOf_80 rfl (lv_at hl 4 rfl) ?_
          refine lv_iload S.1 S.2.1 dMo_bestOf_81 (lv_at hl 0 rfl) ?_
          obtain ⟨v11, h10, hm⟩ := ob hm
          refine sw_Si (rest := []) S hw (cMo_lesser l  hf u3 v9 h10) kMo_lesser wm_Mo_386 rfl rfl hl.1 (Nat.le_of_ble_eq_true rfl) ⟨rfl, rfl, Nat.le_of_ble_eq_true rfl, Nat.le_of_ble_eq_true rfl⟩ ⟨Nat.le_of_ble_eq_true rfl, Nat.le_of_ble_eq_true rfl⟩ dMo_bestOf_83 (fun H locs hw _ => ?_)
          refine lv_istore_n (lv' := [(3, .int v11), (5, .int v9), (0, .ref (ξ.2.2.2.1 84)), (1, .int u1), (2, .int u2), (4, .int u4)]) S.1 S.2.1 dMo_bestOf_86 rfl hl (by decide) rfl (fun ls hl => ?_)
          obtain ⟨x12, ex12, hm⟩ := nm_x hm
          refine lv_iinc (v := x12) (lv' := [(4, .int x12), (3, .int v11), (5, .int v9), (0, .ref (ξ.2.2.2.1 84)), (1, .int u1), (2, .int u2)]) S.1 S.2.1 dMo_bestOf_87 hl (k := 5) rfl (by rw [ex12]; rfl) (by decide) rfl (fun ls hl => ?_)
          refine lv_goto (tgt := 35) S.1 S.2.1 dMo_bestOf_90 (by decide) ?_
          exact ih μ8 u1 u2 v11 x12 _ _ _ hm hw (lv_sub hl [3, 4, 5, 1, 0] rfl)
        · refine lv_iload_n S.1 S.2.1 dMo_bestOf_73 rfl (lv_at hl 4 rfl) ?_
          refine lv_iload S.1 S.2.1 dMo_bestOf_74 (lv_at hl 0 rfl) ?_
          refine lv_iadd S.1 S.2.1 dMo_bestOf_76 ?_
          refine lv_goto (tgt := 86) S.1 S.2.1 dMo_bestOf_77 (by decide) ?_
          refine nm_i hm (fun x13 hm => ?_)
          refine lv_istore_n (lv' := [(3, .int x13), (5, .int v9), (0, .ref (ξ.2.2.2.1 84)), (1, .int u1), (2, .int u2), (4, .int u4)]) S.1 S.2.1 dMo_bestOf_86 rfl hl (by decide) rfl (fun ls hl => ?_)
          obtain ⟨x14, ex14, hm⟩ := nm_x hm
          refine lv_iinc (v := x14) (lv' := [(4, .int x14), (3, .int x13), (5, .int v9), (0, .ref (ξ.2.2.2.1 84)), (1, .int u1), (2, .int u2)]) S.1 S.2.1 dMo_bestOf_87 hl (k := 5) rfl (by rw [ex14]; rfl) (by decide) rfl (fun ls hl => ?_)
          refine lv_goto (tgt := 35) S.1 S.2.1 dMo_bestOf_90 (by decide) ?_
          exact ih μ8 u1 u2 x13 x14 _ _ _ hm hw (lv_sub hl [3, 4, 5, 1, 0] rfl)
      · refine lv_goto (tgt := 87) S.1 S.2.1 dMo_bestOf_52 (by decide) ?_
        obtain ⟨x15, ex15, hm⟩ := nm_x hm
        refine lv_iinc (v := x15) (lv' := [(4, .int x15), (0, .ref (ξ.2.2.2.1 84)), (1, .int u1), (2, .int u2), (3, .int u3)]) S.1 S.2.1 dMo_bestOf_87 hl (k := 4) rfl (by rw [ex15]; rfl) (by decide) rfl (fun ls hl => ?_)
        refine lv_goto (tgt := 35) S.1 S.2.1 dMo_bestOf_90 (by decide) ?_
        exact ih μ5 u1 u2 u3 x15 _ _ _ hm hw (lv_sub hl [1, 2, 3, 4, 0] rfl)
set_option maxHeartbeats 4000000 in
set_option maxRecDepth 100000 in
theorem cMo_bestOf (l : Launch) (N : Nat) {Γ : sw_C} {A : Nat → Prop} {ξ : sw_x} {g : sw_g} {μ : sw_m} (hf : sw_wf ξ g.2.2) (a1 : Int32) (a2 : Int32) {res : Int32 × sw_m} (hm : fMo_bestOf N μ a1 a2 = some res) : Met l yMo_bestOf (Cond.code yMo_bestOf prog_10_method_101_code 6 (some .int) :: sw_tb) rmMo_bestOf (va_Pc [.ref (ξ.2.2.2.1 84), .int a1, .int a2] (sw_V Γ A ξ g μ)) (sw_Qi Γ A ξ g res.2 res.1 (True)) 0 0 A := by
  refine Met.ofW (cc := prog_10_method_101_code) (maxL := 6) (ret := some .int) (by decide) rfl ?_
  intro p e s m args below meth c s₁ B hml hv
  obtain ⟨rfl, hv⟩ := hv
  have S : CallFix p m c prog_10_method_101_code 6 s _ (Cond.code yMo_bestOf prog_10_method_101_code 6 (some .int) :: sw_tb) R_Mo := ⟨B.exec, B.bytes, hml, findClass_of_methodNamed B.named, atoms_spec (ws := (Cond.code yMo_bestOf prog_10_method_101_code 6 (some .int) :: sw_tb)) B.pre⟩
  have hr := B.returns
  have hlk := B.notSynchronized
  have hw := sw_begin hv
  have hl := lv_entry [.ref (ξ.2.2.2.1 84), .int a1, .int a2] (n := 6) (Nat.le_of_ble_eq_true rfl)
  rw [lg_entry_eq]
  generalize (lg_sl [.ref (ξ.2.2.2.1 84), .int a1, .int a2] ++ List.replicate (6 - (lg_sl [.ref (ξ.2.2.2.1 84), .int a1, .int a2]).length) Slot.unset).toArray = ls at hl ⊢
  have hl : lv_has ls 6 [(0, .ref (ξ.2.2.2.1 84)), (1, .int a1), (2, .int a2)] := hl
  unfold fMo_bestOf at hm
  refine lv_aload_n S.1 S.2.1 dMo_bestOf_0 rfl (lv_at hl 0 rfl) ?_
  refine lv_iload_n S.1 S.2.1 dMo_bestOf_1 rfl (lv_at hl 1 rfl) ?_
  obtain ⟨⟨v3, μ2⟩, h1, hm⟩ := ob hm
  refine sw_Vi (q := 84) (rest := []) S hw (cMo_staysOff l  hf a1 h1) kMo_staysOff wm_Mo_389 (is_84 hf).1 (e_Mo (is_84 hf)) rfl rfl rfl rfl hl.1 (Nat.le_of_ble_eq_true rfl) ⟨rfl, rfl, Nat.le_of_ble_eq_true rfl, Nat.le_of_ble_eq_true rfl⟩ ⟨Nat.le_of_ble_eq_true rfl, Nat.le_of_ble_eq_true rfl⟩ dMo_bestOf_2 (fun H locs hw _ => ?_)
  refine bif_eq (tgt := 17) S.1 S.2.1 hm dMo_bestOf_5 (by decide) (fun hm => ?_) (fun hm => ?_)
  · refine lv_aload_n S.1 S.2.1 dMo_bestOf_17 rfl (lv_at hl 0 rfl) ?_
    refine get_Mo (v := .int (μ2.1 84 37)) S hw (is_84 hf) 37 (by decide) rfl wf_Mo_380 dMo_bestOf_18 ?_
    refine lv_iconst (v := (3 : Int32)) S.1 S.2.1 dMo_bestOf_21 (by decide) ?_
    refine bicmp_ne (tgt := 29) S.1 S.2.1 hm dMo_bestOf_22 (by decide) (fun hm => ?_) (fun hm => ?_)
    · refine lv_ldc S.1 S.2.1 S.2.2.2.1 (sw_word S wc_Mo_193) dMo_bestOf_29 ?_
      refine lv_istore_n (lv' := [(3, .int (1000000 : Int32)), (0, .ref (ξ.2.2.2.1 84)), (1, .int a1), (2, .int a2)]) S.1 S.2.1 dMo_bestOf_31 rfl hl (by decide) rfl (fun ls hl => ?_)
      refine lv_iconst (v := (0 : Int32)) S.1 S.2.1 dMo_bestOf_32 (by decide) ?_
      refine lv_istore (lv' := [(4, .int (0 : Int32)), (3, .int (1000000 : Int32)), (0, .ref (ξ.2.2.2.1 84)), (1, .int a1), (2, .int a2)]) S.1 S.2.1 dMo_bestOf_33 hl (by decide) rfl (fun ls hl => ?_)
      exact wMo_bestOf_35 S hr hlk hf N  N μ2 a1 a2 (1000000 : Int32) (0 : Int32) _ _ _ hm hw (lv_sub hl [2, 3, 4, 1, 0] rfl)
    · refine lv_iconst (v := (0 : Int32)) S.1 S.2.1 dMo_bestOf_25 (by decide) ?_
      refine lv_goto (tgt := 31) S.1 S.2.1 dMo_bestOf_26 (by decide) ?_
      refine lv_istore_n (lv' := [(3, .int (0 : Int32)), (0, .ref (ξ.2.2.2.1 84)), (1, .int a1), (2, .int a2)]) S.1 S.2.1 dMo_bestOf_31 rfl hl (by decide) rfl (fun ls hl => ?_)
      refine lv_iconst (v := (0 : Int32)) S.1 S.2.1 dMo_bestOf_32 (by decide) ?_
      refine lv_istore (lv' := [(4, .int (0 : Int32)), (3, .int (0 : Int32)), (0, .ref (ξ.2.2.2.1 84)), (1, .int a1), (2, .int a2)]) S.1 S.2.1 dMo_bestOf_33 hl (by decide) rfl (fun ls hl => ?_)
      exact wMo_bestOf_35 S hr hlk hf N  N μ2 a1 a2 (0 : Int32) (0 : Int32) _ _ _ hm hw (lv_sub hl [2, 3, 4, 1, 0] rfl)
  · refine lv_aload_n S.1 S.2.1 dMo_bestOf_8 rfl (lv_at hl 0 rfl) ?_
    refine lv_iload_n S.1 S.2.1 dMo_bestOf_9 rfl (lv_at hl 1 rfl) ?_
    refine lv_iconst (v := (1 : Int32)) S.1 S.2.1 dMo_bestOf_10 (by decide) ?_
    refine lv_iadd S.1 S.2.1 dMo_bestOf_11 ?_
    refine lv_iload_n S.1 S.2.1 dMo_bestOf_12 rfl (lv_at hl 2 rfl) ?_
    obtain ⟨⟨v18, μ17⟩, h16, hm⟩ := ob hm
    refine sw_Vi (q := 84) (rest := []) S hw (cMo_bestAt l  hf (a1 + (1 : Int32)) a2 h16) kMo_bestAt wm_Mo_383 (is_84 hf).1 (e_Mo (is_84 hf)) rfl rfl rfl rfl hl.1 (Nat.le_of_ble_eq_true rfl) ⟨rfl, rfl, Nat.le_of_ble_eq_true rfl, Nat.le_of_ble_eq_true rfl⟩ ⟨Nat.le_of_ble_eq_true rfl, Nat.le_of_ble_eq_true rfl⟩ dMo_bestOf_13 (fun H locs hw _ => ?_)
    obtain rfl := Option.some.inj hm
    exact sw_iret S hr hlk hw trivial dMo_bestOf_16
set_option maxHeartbeats 4000000 in
set_option maxRecDepth 100000 in
theorem wMo_placeIn_30 {l : Launch} {p : Program} {e : Env} {s : State} {m : MethodId} {args : Array Value} {below : List Frame} {meth : Method} {c : Code} {Γ : sw_C} {A : Nat → Prop} {ξ : sw_x} {g : sw_g} {res : Int32 × sw_m} (S : CallFix p m c prog_10_method_103_code 5 s args (Cond.code yMo_placeIn prog_10_method_103_code 5 (some .int) :: sw_tb) R_Mo) (hr : meth.sig.returnType = some .int) (hlk : meth.locks = false) (hf : sw_wf ξ g.2.2) (N : Nat) (k7 : sw_m → Int32 → Int32 → Int32 → Int32 → Option (Int32 × sw_m)) (hk7 : ∀ (μ : sw_m) (u1 : Int32) (u2 : Int32) (u3 : Int32) (u4 : Int32) (H : Heap) (locs : List Loc) (ls : Array Slot), k7 μ u1 u2 u3 u4 = some res → sw_S Γ A ξ g μ s H locs → lv_has ls 5 [(0, .ref (ξ.2.2.2.1 84)), (1, .int u1), (2, .int u2), (3, .int u3), (4, .int u4)] → W p l e (headSpec (Cond.code yMo_placeIn prog_10_method_103_code 5 (some .int) :: sw_tb) rmMo_placeIn).room s m args below meth c H locs 0 0 (MQ below (sw_Qi Γ A ξ g res.2 res.1 (True)) args s 0 0 A) (F0 m 7 ls [])) : ∀ (fu : Nat) (μ : sw_m) (u1 : Int32) (u2 : Int32) (u3 : Int32) (u4 : Int32) (H : Heap) (locs : List Loc) (ls : Array Slot), fMo_placeIn_30 N  k7 fu μ u1 u2 u3 u4 = some res → sw_S Γ A ξ g μ s H locs → lv_has ls 5 [(0, .ref (ξ.2.2.2.1 84)), (1, .int u1), (2, .int u2), (3, .int u3), (4, .int u4)] → W p l e (headSpec (Cond.code yMo_placeIn prog_10_method_103_code 5 (some .int) :: sw_tb) rmMo_placeIn).room s m args below meth c H locs 0 0 (MQ below (sw_Qi Γ A ξ g res.2 res.1 (True)) args s 0 0 A) (F0 m 30 ls []) := by
  intro fu
  induction fu with
  | zero => intro μ u1 u2 u3 u4 H locs ls hm; rw [fMo_placeIn_30.eq_1] at hm; cases hm
  | succ fu ih =>
    intro μ u1 u2 u3 u4 H locs ls hm hw hl
    rw [fMo_placeIn_30.eq_2] at hm
    refine lv_aload_n S.1 S.2.1 dMo_placeIn_30 rfl (lv_at hl 0 rfl) ?_
    refine lv_iload S.1 S.2.1 dMo_placeIn_31 (lv_at hl 4 rfl) ?_
    refine lv_iload_n S.1 S.2.1 dMo_placeIn_33 rfl (lv_at hl 3 rfl) ?_
    obtain ⟨⟨v6, μ5⟩, h4, hm⟩ := ob hm
    refine sw_Vi (q := 84) (rest := []) S hw (cMo_canRow l N hf u4 u3 h4) kMo_canRow wm_Mo_392 (is_84 hf).1 (e_Mo (is_84 hf)) rfl rfl rfl rfl hl.1 (Nat.le_of_ble_eq_true rfl) ⟨rfl, rfl, Nat.le_of_ble_eq_true rfl, Nat.le_of_ble_eq_true rfl⟩ ⟨Nat.le_of_ble_eq_true rfl, Nat.le_of_ble_eq_true rfl⟩ dMo_placeIn_34 (fun H locs hw _ => ?_)
    refine bif_eq (tgt := 58) S.1 S.2.1 hm dMo_placeIn_37 (by decide) (fun hm => ?_) (fun hm => ?_)
    · obtain ⟨x7, ex7, hm⟩ := nm_x hm
      refine lv_iinc (v := x7) (lv' := [(3, .int x7), (0, .ref (ξ.2.2.2.1 84)), (1, .int u1), (2, .int u2), (4, .int u4)]) S.1 S.2.1 dMo_placeIn_58 hl (k := 3) rfl (by rw [ex7]; rfl) (by decide) rfl (fun ls hl => ?_)
      refine lv_goto (tgt := 30) S.1 S.2.1 dMo_placeIn_61 (by decide) ?_
      exact ih μ5 u1 u2 x7 u4 _ _ _ hm hw (lv_sub hl [1, 2, 3, 0, 4] rfl)
    · refine lv_aload_n S.1 S.2.1 dMo_placeIn_40 rfl (lv_at hl 0 rfl) ?_
      refine lv_iload S.1 S.2.1 dMo_placeIn_41 (lv_at hl 4 rfl) ?_
      refine lv_iload_n S.1 S.2.1 dMo_placeIn_43 rfl (lv_at hl 3 rfl) ?_
      refine lv_iload_n S.1 S.2.1 dMo_placeIn_44 rfl (lv_at hl 2 rfl) ?_
      obtain ⟨⟨v10, μ9⟩, h8, hm⟩ := ob hm
      refine sw_Vi (q := 84) (rest := []) S hw (cMo_bestBy l  hf u4 u3 u2 h8) kMo_bestBy wm_Mo_395 (is_84 hf).1 (e_Mo (is_84 hf)) rfl rfl rfl rfl hl.1 (Nat.le_of_ble_eq_true rfl) ⟨rfl, rfl, Nat.le_of_ble_eq_true rfl, Nat.le_of_ble_eq_true rfl⟩ ⟨Nat.le_of_ble_eq_true rfl, Nat.le_of_ble_eq_true rfl⟩ dMo_placeIn_45 (fun H locs hw _ => ?_)
      refine lv_aload_n S.1 S.2.1 dMo_placeIn_48 rfl (lv_at hl 0 rfl) ?_
      refine lv_iload S.1 S.2.1 dMo_placeIn_49 (lv_at hl 4 rfl) ?_
      refine lv_iload_n S.1 S.2.1 dMo_placeIn_51 rfl (lv_at hl 2 rfl) ?_
      obtain ⟨⟨v13, μ12⟩, h11, hm⟩ := ob hm
      refine sw_Vi (q := 84) (rest := [.int v10]) S hw (cMo_bestAt l  hf u4 u2 h11) kMo_bestAt wm_Mo_383 (is_84 hf).1 (e_Mo (is_84 hf)) rfl rfl rfl rfl hl.1 (Nat.le_of_ble_eq_true rfl) ⟨rfl, rfl, Nat.le_of_ble_eq_true rfl, Nat.le_of_ble_eq_true rfl⟩ ⟨Nat.le_of_ble_eq_true rfl, Nat.le_of_ble_eq_true rfl⟩ dMo_placeIn_52 (fun H locs hw _ => ?_)
      refine bicmp_eq (tgt := 64) S.1 S.2.1 hm dMo_placeIn_55 (by decide) (fun hm => ?_) (fun hm => ?_)
      · refine lv_iload_n S.1 S.2.1 dMo_placeIn_64 rfl (lv_at hl 2 rfl) ?_
        refine lv_aload_n S.1 S.2.1 dMo_placeIn_65 rfl (lv_at hl 0 rfl) ?_
        refine get_Mo (v := .ref (ξ.2.2.2.1 100)) S hw (is_84 hf) 34 (by decide) rfl wf_Mo_75 dMo_placeIn_66 ?_
        refine lv_bipush (v := (7 : Int32)) S.1 S.2.1 dMo_placeIn_69 (by decide) ?_
        refine lv_iload S.1 S.2.1 dMo_placeIn_71 (lv_at hl 4 rfl) ?_
        refine lv_imul S.1 S.2.1 dMo_placeIn_73 ?_
        refine lv_iload_n S.1 S.2.1 dMo_placeIn_74 rfl (lv_at hl 3 rfl) ?_
        refine lv_iadd S.1 S.2.1 dMo_placeIn_75 ?_
        refine sm_iald S hw (is_100 hf) hm dMo_placeIn_76 (fun v14 hm => ?_)
        refine lv_iadd S.1 S.2.1 dMo_placeIn_77 ?_
        refine nm_i hm (fun x15 hm => ?_)
        refine lv_istore_n (lv' := [(2, .int x15), (0, .ref (ξ.2.2.2.1 84)), (1, .int u1), (3, .int u3), (4, .int u4)]) S.1 S.2.1 dMo_placeIn_78 rfl hl (by decide) rfl (fun ls hl => ?_)
        obtain ⟨x16, ex16, hm⟩ := nm_x hm
        refine lv_iinc (v := x16) (lv' := [(4, .int x16), (2, .int x15), (0, .ref (ξ.2.2.2.1 84)), (1, .int u1), (3, .int u3)]) S.1 S.2.1 dMo_placeIn_79 hl (k := 4) rfl (by rw [ex16]; rfl) (by decide) rfl (fun ls hl => ?_)
        refine lv_goto (tgt := 7) S.1 S.2.1 dMo_placeIn_82 (by decide) ?_
        exact hk7 μ12 u1 x15 u3 x16 _ _ _ hm hw (lv_sub hl [2, 3, 1, 4, 0] rfl)
      · obtain ⟨x17, ex17, hm⟩ := nm_x hm
        refine lv_iinc (v := x17) (lv' := [(3, .int x17), (0, .ref (ξ.2.2.2.1 84)), (1, .int u1), (2, .int u2), (4, .int u4)]) S.1 S.2.1 dMo_placeIn_58 hl (k := 3) rfl (by rw [ex17]; rfl) (by decide) rfl (fun ls hl => ?_)
        refine lv_goto (tgt := 30) S.1 S.2.1 dMo_placeIn_61 (by decide) ?_
        exact ih μ12 u1 u2 x17 u4 _ _ _ hm hw (lv_sub hl [1, 2, 3, 0, 4] rfl)
set_option maxHeartbeats 4000000 in
set_option maxRecDepth 100000 in
theorem wMo_placeIn_7 {l : Launch} {p : Program} {e : Env} {s : State} {m : MethodId} {args : Array Value} {below : List Frame} {meth : Method} {c : Code} {Γ : sw_C} {A : Nat → Prop} {ξ : sw_x} {g : sw_g} {res : Int32 × sw_m} (S : CallFix p m c prog_10_method_103_code 5 s args (Cond.code yMo_placeIn prog_10_method_103_code 5 (some .int) :: sw_tb) R_Mo) (hr : meth.sig.returnType = some .int) (hlk : meth.locks = false) (hf : sw_wf ξ g.2.2) (N : Nat) : ∀ (fu : Nat) (μ : sw_m) (u1 : Int32) (u2 : Int32) (u3 : Int32) (u4 : Int32) (H : Heap) (locs : List Loc) (ls : Array Slot), fMo_placeIn_7 N   fu μ u1 u2 u3 u4 = some res → sw_S Γ A ξ g μ s H locs → lv_has ls 5 [(0, .ref (ξ.2.2.2.1 84)), (1, .int u1), (2, .int u2), (3, .int u3), (4, .int u4)] → W p l e (headSpec (Cond.code yMo_placeIn prog_10_method_103_code 5 (some .int) :: sw_tb) rmMo_placeIn).room s m args below meth c H locs 0 0 (MQ below (sw_Qi Γ A ξ g res.2 res.1 (True)) args s 0 0 A) (F0 m 7 ls []) := by
  intro fu
  induction fu with
  | zero => intro μ u1 u2 u3 u4 H locs ls hm; rw [fMo_placeIn_7.eq_1] at hm; cases hm
  | succ fu ih =>
    intro μ u1 u2 u3 u4 H locs ls hm hw hl
    rw [fMo_placeIn_7.eq_2] at hm
    refine lv_iload S.1 S.2.1 dMo_placeIn_7 (lv_at hl 4 rfl) ?_
    refine lv_iload_n S.1 S.2.1 dMo_placeIn_9 rfl (lv_at hl 1 rfl) ?_
    refine bicmp_gt (tgt := 85) S.1 S.2.1 hm dMo_placeIn_10 (by decide) (fun hm => ?_) (fun hm => ?_)
    · refine lv_iload_n S.1 S.2.1 dMo_placeIn_85 rfl (lv_at hl 3 rfl) ?_
      obtain rfl := Option.some.inj hm
      exact sw_iret S hr hlk hw trivial dMo_placeIn_86
    · refine lv_bipush (v := (7 : Int32)) S.1 S.2.1 dMo_placeIn_13 (by decide) ?_
      refine lv_istore_n (lv' := [(3, .int (7 : Int32)), (0, .ref (ξ.2.2.2.1 84)), (1, .int u1), (2, .int u2), (4, .int u4)]) S.1 S.2.1 dMo_placeIn_15 rfl hl (by decide) rfl (fun ls hl => ?_)
      refine lv_aload_n S.1 S.2.1 dMo_placeIn_16 rfl (lv_at hl 1 rfl) ?_
      refine lv_iload S.1 S.2.1 dMo_placeIn_17 (lv_at hl 4 rfl) ?_
      obtain ⟨⟨v3, μ2⟩, h1, hm⟩ := ob hm
      refine sw_Vi (q := 84) (rest := []) S hw (cMo_staysOff l  hf u4 h1) kMo_staysOff wm_Mo_389 (is_84 hf).1 (e_Mo (is_84 hf)) rfl rfl rfl rfl hl.1 (Nat.le_of_ble_eq_true rfl) ⟨rfl, rfl, Nat.le_of_ble_eq_true rfl, Nat.le_of_ble_eq_true rfl⟩ ⟨Nat.le_of_ble_eq_true rfl, Nat.le_of_ble_eq_true rfl⟩ dMo_placeIn_19 (fun H locs hw _ => ?_)
      refine bif_eq (tgt := 28) S.1 S.2.1 hm dMo_placeIn_22 (by decide) (fun hm => ?_) (fun hm => ?_)
      · refine lv_iconst (v := (0 : Int32)) S.1 S.2.1 dMo_placeIn_28 (by decide) ?_
        refine lv_istore_n (lv' := [(3, .int (0 : Int32)), (0, .ref (ξ.2.2.2.1 84)), (1, .int u1), (2, .int u2), (4, .int u4)]) S.1 S.2.1 dMo_placeIn_29 rfl hl (by decide) rfl (fun ls hl => ?_)
        exact wMo_placeIn_30 S hr hlk hf N (fMo_placeIn_7 N   fu) ih N μ2 u1 u2 (0 : Int32) u4 _ _ _ hm hw (lv_sub hl [1, 2, 3, 0, 4] rfl)
      · refine lv_goto (tgt := 79) S.1 S.2.1 dMo_placeIn_25 (by decide) ?_
        obtain ⟨x18, ex18, hm⟩ := nm_x hm
        refine lv_iinc (v := x18) (lv' := [(4, .int x18), (3, .int (7 : Int32)), (0, .ref (ξ.2.2.2.1 84)), (1, .int u1), (2, .int u2)]) S.1 S.2.1 dMo_placeIn_79 hl (k := 4) rfl (by rw [ex18]; rfl) (by decide) rfl (fun ls hl => ?_)
        refine lv_goto (tgt := 7) S.1 S.2.1 dMo_placeIn_82 (by decide) ?_
        exact ih μ2 u1 u2 (7 : Int32) x18 _ _ _ hm hw (lv_sub hl [2, 3, 4, 1, 0] rfl)
set_option maxHeartbeats 4000000 in
set_option maxRecDepth 100000 in
theorem cMo_placeIn (l : Launch) (N : Nat) {Γ : sw_C} {A : Nat → Prop} {ξ : sw_x} {g : sw_g} {μ : sw_m} (hf : sw_wf ξ g.2.2) (a1 : Int32) {res : Int32 × sw_m} (hm : fMo_placeIn N μ a1 = some res) : Met l yMo_placeIn (Cond.code yMo_placeIn prog_10_method_103_code 5 (some .int) :: sw_tb) rmMo_placeIn (va_Pc [.ref (ξ.2.2.2.1 84), .int a1] (sw_V Γ A ξ g μ)) (sw_Qi Γ A ξ g res.2 res.1 (True)) 0 0 A := by
  refine Met.ofW (cc := prog_10_method_103_code) (maxL := 5) (ret := some .int) (by decide) rfl ?_
  intro p e s m args below meth c s₁ B hml hv
  obtain ⟨rfl, hv⟩ := hv
  have S : CallFix p m c prog_10_method_103_code 5 s _ (Cond.code yMo_placeIn prog_10_method_103_code 5 (some .int) :: sw_tb) R_Mo := ⟨B.exec, B.bytes, hml, findClass_of_methodNamed B.named, atoms_spec (ws := (Cond.code yMo_placeIn prog_10_method_103_code 5 (some .int) :: sw_tb)) B.pre⟩
  have hr := B.returns
  have hlk := B.notSynchronized
  have hw := sw_begin hv
  have hl := lv_entry [.ref (ξ.2.2.2.1 84), .int a1] (n := 5) (Nat.le_of_ble_eq_true rfl)
  rw [lg_entry_eq]
  generalize (lg_sl [.ref (ξ.2.2.2.1 84), .int a1] ++ List.replicate (5 - (lg_sl [.ref (ξ.2.2.2.1 84), .int a1]).length) Slot.unset).toArray = ls at hl ⊢
  have hl : lv_has ls 5 [(0, .ref (ξ.2.2.2.1 84)), (1, .int a1)] := hl
  unfold fMo_placeIn at hm
  refine lv_iconst (v := (0 : Int32)) S.1 S.2.1 dMo_placeIn_0 (by decide) ?_
  refine lv_istore_n (lv' := [(2, .int (0 : Int32)), (0, .ref (ξ.2.2.2.1 84)), (1, .int a1)]) S.1 S.2.1 dMo_placeIn_1 rfl hl (by decide) rfl (fun ls hl => ?_)
  refine lv_iconst (v := (-1 : Int32)) S.1 S.2.1 dMo_placeIn_2 (by decide) ?_
  refine lv_istore_n (lv' := [(3, .int (-1 : Int32)), (2, .int (0 : Int32)), (0, .ref (ξ.2.2.2.1 84)), (1, .int a1)]) S.1 S.2.1 dMo_placeIn_3 rfl hl (by decide) rfl (fun ls hl => ?_)
  refine lv_iconst (v := (0 : Int32)) S.1 S.2.1 dMo_placeIn_4 (by decide) ?_
  refine lv_istore (lv' := [(4, .int (0 : Int32)), (3, .int (-1 : Int32)), (2, .int (0 : Int32)), (0, .ref (ξ.2.2.2.1 84)), (1, .int a1)]) S.1 S.2.1 dMo_placeIn_5 hl (by decide) rfl (fun ls hl => ?_)
  exact wMo_placeIn_7 S hr hlk hf N  N μ a1 (0 : Int32) (-1 : Int32) (0 : Int32) _ _ _ hm hw (lv_sub hl [3, 4, 2, 1, 0] rfl)
set_option maxHeartbeats 4000000 in
set_option maxRecDepth 100000 in
theorem wMo_heavyOf_4 {l : Launch} {p : Program} {e : Env} {s : State} {m : MethodId} {args : Array Value} {below : List Frame} {meth : Method} {c : Code} {Γ : sw_C} {A : Nat → Prop} {ξ : sw_x} {g : sw_g} {res : Int32 × sw_m} (S : CallFix p m c prog_10_method_113_code 4 s args (Cond.code yMo_heavyOf prog_10_method_113_code 4 (some .int) :: sw_tb) R_Mo) (hr : meth.sig.returnType = some .int) (hlk : meth.locks = false) (hf : sw_wf ξ g.2.2) (N : Nat) : ∀ (fu : Nat) (μ : sw_m) (u1 : Int32) (u2 : Int32) (u3 : Int32) (H : Heap) (locs : List Loc) (ls : Array Slot), fMo_heavyOf_4 N   fu μ u1 u2 u3 = some res → sw_S Γ A ξ g μ s H locs → lv_has ls 4 [(0, .ref (ξ.2.2.2.1 84)), (1, .int u1), (2, .int u2), (3, .int u3)] → W p l e (headSpec (Cond.code yMo_heavyOf prog_10_method_113_code 4 (some .int) :: sw_tb) rmMo_heavyOf).room s m args below meth c H locs 0 0 (MQ below (sw_Qi Γ A ξ g res.2 res.1 (True)) args s 0 0 A) (F0 m 4 ls []) := by
  intro fu
  induction fu with
  | zero => intro μ u1 u2 u3 H locs ls hm; rw [fMo_heavyOf_4.eq_1] at hm; cases hm
  | succ fu ih =>
    intro μ u1 u2 u3 H locs ls hm hw hl
    rw [fMo_heavyOf_4.eq_2] at hm
    refine lv_iload_n S.1 S.2.1 dMo_heavyOf_4 rfl (lv_at hl 3 rfl) ?_
    refine lv_aload_n S.1 S.2.1 dMo_heavyOf_5 rfl (lv_at hl 0 rfl) ?_
    obtain ⟨⟨v3, μ2⟩, h1, hm⟩ := ob hm
    refine sw_Vi (q := 84) (rest := [.int u3]) S hw (cMo_many l  hf  h1) kMo_many wm_Mo_119 (is_84 hf).1 (e_Mo (is_84 hf)) rfl rfl rfl rfl hl.1 (Nat.le_of_ble_eq_true rfl) ⟨rfl, rfl, Nat.le_of_ble_eq_true rfl, Nat.le_of_ble_eq_true rfl⟩ ⟨Nat.le_of_ble_eq_true rfl, Nat.le_of_ble_eq_true rfl⟩ dMo_heavyOf_6 (fun H locs hw _ => ?_)
    refine bicmp_ge (tgt := 41) S.1 S.2.1 hm dMo_heavyOf_9 (by decide) (fun hm => ?_) (fun hm => ?_)
    · refine lv_iload_n S.1 S.2.1 dMo_heavyOf_41 rfl (lv_at hl 2 rfl) ?_
      obtain rfl := Option.some.inj hm
      exact sw_iret S hr hlk hw trivial dMo_heavyOf_42
    · refine lv_iload_n S.1 S.2.1 dMo_heavyOf_12 rfl (lv_at hl 2 rfl) ?_
      refine lv_iload_n S.1 S.2.1 dMo_heavyOf_13 rfl (lv_at hl 1 rfl) ?_
      refine lv_iload_n S.1 S.2.1 dMo_heavyOf_14 rfl (lv_at hl 3 rfl) ?_
      obtain ⟨v5, h4, hm⟩ := ob hm
      refine sw_Si (rest := [.int u2]) S hw (cMo_isIn l  hf u1 u3 h4) kMo_isIn wm_Mo_423 rfl rfl hl.1 (Nat.le_of_ble_eq_true rfl) ⟨rfl, rfl, Nat.le_of_ble_eq_true rfl, Nat.le_of_ble_eq_true rfl⟩ ⟨Nat.le_of_ble_eq_true rfl, Nat.le_of_ble_eq_true rfl⟩ dMo_heavyOf_15 (fun H locs hw _ => ?_)
      refine bif_eq (tgt := 32) S.1 S.2.1 hm dMo_heavyOf_18 (by decide) (fun hm => ?_) (fun hm => ?_)
      · refine lv_iconst (v := (0 : Int32)) S.1 S.2.1 dMo_heavyOf_32 (by decide) ?_
        refine lv_iadd S.1 S.2.1 dMo_heavyOf_33 ?_
        refine nm_i hm (fun x6 hm => ?_)
        refine lv_istore_n (lv' := [(2, .int x6), (0, .ref (ξ.2.2.2.1 84)), (1, .int u1), (3, .int u3)]) S.1 S.2.1 dMo_heavyOf_34 rfl hl (by decide) rfl (fun ls hl => ?_)
        obtain ⟨x7, ex7, hm⟩ := nm_x hm
        refine lv_iinc (v := x7) (lv' := [(3, .int x7), (2, .int x6), (0, .ref (ξ.2.2.2.1 84)), (1, .int u1)]) S.1 S.2.1 dMo_heavyOf_35 hl (k := 3) rfl (by rw [ex7]; rfl) (by decide) rfl (fun ls hl => ?_)
        refine lv_goto (tgt := 4) S.1 S.2.1 dMo_heavyOf_38 (by decide) ?_
        exact ih μ2 u1 x6 x7 _ _ _ hm hw (lv_sub hl [2, 3, 1, 0] rfl)
      · refine lv_aload_n S.1 S.2.1 dMo_heavyOf_21 rfl (lv_at hl 0 rfl) ?_
        refine get_Mo (v := .ref (ξ.2.2.2.1 86)) S hw (is_84 hf) 2 (by decide) rfl wf_Mo_28 dMo_heavyOf_22 ?_
        refine lv_iconst (v := (0 : Int32)) S.1 S.2.1 dMo_heavyOf_25 (by decide) ?_
        refine lv_iload_n S.1 S.2.1 dMo_heavyOf_26 rfl (lv_at hl 3 rfl) ?_
        refine lv_iadd S.1 S.2.1 dMo_heavyOf_27 ?_
        refine sm_iald S hw (is_86 hf) hm dMo_heavyOf_28 (fun v8 hm => ?_)
        refine lv_goto (tgt := 33) S.1 S.2.1 dMo_heavyOf_29 (by decide) ?_
        refine lv_iadd S.1 S.2.1 dMo_heavyOf_33 ?_
        refine nm_i hm (fun x9 hm => ?_)
        refine lv_istore_n (lv' := [(2, .int x9), (0, .ref (ξ.2.2.2.1 84)), (1, .int u1), (3, .int u3)]) S.1 S.2.1 dMo_heavyOf_34 rfl hl (by decide) rfl (fun ls hl => ?_)
        obtain ⟨x10, ex10, hm⟩ := nm_x hm
        refine lv_iinc (v := x10) (lv' := [(3, .int x10), (2, .int x9), (0, .ref (ξ.2.2.2.1 84)), (1, .int u1)]) S.1 S.2.1 dMo_heavyOf_35 hl (k := 3) rfl (by rw [ex10]; rfl) (by decide) rfl (fun ls hl => ?_)
        refine lv_goto (tgt := 4) S.1 S.2.1 dMo_heavyOf_38 (by decide) ?_
        exact ih μ2 u1 x9 x10 _ _ _ hm hw (lv_sub hl [2, 3, 1, 0] rfl)
set_option maxHeartbeats 4000000 in
set_option maxRecDepth 100000 in
theorem cMo_heavyOf (l : Launch) (N : Nat) {Γ : sw_C} {A : Nat → Prop} {ξ : sw_x} {g : sw_g} {μ : sw_m} (hf : sw_wf ξ g.2.2) (a1 : Int32) {res : Int32 × sw_m} (hm : fMo_heavyOf N μ a1 = some res) : Met l yMo_heavyOf (Cond.code yMo_heavyOf prog_10_method_113_code 4 (some .int) :: sw_tb) rmMo_heavyOf (va_Pc [.ref (ξ.2.2.2.1 84), .int a1] (sw_V Γ A ξ g μ)) (sw_Qi Γ A ξ g res.2 res.1 (True)) 0 0 A := by
  refine Met.ofW (cc := prog_10_method_113_code) (maxL := 4) (ret := some .int) (by decide) rfl ?_
  intro p e s m args below meth c s₁ B hml hv
  obtain ⟨rfl, hv⟩ := hv
  have S : CallFix p m c prog_10_method_113_code 4 s _ (Cond.code yMo_heavyOf prog_10_method_113_code 4 (some .int) :: sw_tb) R_Mo := ⟨B.exec, B.bytes, hml, findClass_of_methodNamed B.named, atoms_spec (ws := (Cond.code yMo_heavyOf prog_10_method_113_code 4 (some .int) :: sw_tb)) B.pre⟩
  have hr := B.returns
  have hlk := B.notSynchronized
  have hw := sw_begin hv
  have hl := lv_entry [.ref (ξ.2.2.2.1 84), .int a1] (n := 4) (Nat.le_of_ble_eq_true rfl)
  rw [lg_entry_eq]
  generalize (lg_sl [.ref (ξ.2.2.2.1 84), .int a1] ++ List.replicate (4 - (lg_sl [.ref (ξ.2.2.2.1 84), .int a1]).length) Slot.unset).toArray = ls at hl ⊢
  have hl : lv_has ls 4 [(0, .ref (ξ.2.2.2.1 84)), (1, .int a1)] := hl
  unfold fMo_heavyOf at hm
  refine lv_iconst (v := (0 : Int32)) S.1 S.2.1 dMo_heavyOf_0 (by decide) ?_
  refine lv_istore_n (lv' := [(2, .int (0 : Int32)), (0, .ref (ξ.2.2.2.1 84)), (1, .int a1)]) S.1 S.2.1 dMo_heavyOf_1 rfl hl (by decide) rfl (fun ls hl => ?_)
  refine lv_iconst (v := (0 : Int32)) S.1 S.2.1 dMo_heavyOf_2 (by decide) ?_
  refine lv_istore_n (lv' := [(3, .int (0 : Int32)), (2, .int (0 : Int32)), (0, .ref (ξ.2.2.2.1 84)), (1, .int a1)]) S.1 S.2.1 dMo_heavyOf_3 rfl hl (by decide) rfl (fun ls hl => ?_)
  exact wMo_heavyOf_4 S hr hlk hf N  N μ a1 (0 : Int32) (0 : Int32) _ _ _ hm hw (lv_sub hl [2, 3, 1, 0] rfl)
set_option maxHeartbeats 4000000 in
set_option maxRecDepth 100000 in
theorem wMo_shares_76 {l : Launch} {p : Program} {e : Env} {s : State} {m : MethodId} {args : Array Value} {below : List Frame} {meth : Method} {c : Code} {Γ : sw_C} {A : Nat → Prop} {ξ : sw_x} {g : sw_g} {res : Int32 × sw_m} (S : CallFix p m c prog_10_method_114_code 7 s args (Cond.code yMo_shares prog_10_method_114_code 7 (some .int) :: sw_tb) R_Mo) (hr : meth.sig.returnType = some .int) (hlk : meth.locks = false) (hf : sw_wf ξ g.2.2) (N : Nat) (k29 : sw_m → Int32 → Int32 → Int32 → Int32 → Int32 → Option (Int32 × sw_m)) (hk29 : ∀ (μ : sw_m) (u1 : Int32) (u2 : Int32) (u3 : Int32) (u4 : Int32) (u5 : Int32) (H : Heap) (locs : List Loc) (ls : Array Slot), k29 μ u1 u2 u3 u4 u5 = some res → sw_S Γ A ξ g μ s H locs → lv_has ls 7 [(0, .ref (ξ.2.2.2.1 84)), (1, .int u1), (2, .int u2), (3, .int u3), (4, .int u4), (5, .int u5)] → W p l e (headSpec (Cond.code yMo_shares prog_10_method_114_code 7 (some .int) :: sw_tb) rmMo_shares).room s m args below meth c H locs 0 0 (MQ below (sw_Qi Γ A ξ g res.2 res.1 (True)) args s 0 0 A) (F0 m 29 ls [])) : ∀ (μ : sw_m) (u1 : Int32) (u2 : Int32) (u3 : Int32) (u4 : Int32) (u5 : Int32) (u6 : Int32) (H : Heap) (locs : List Loc) (ls : Array Slot), fMo_shares_76 N  k29 μ u1 u2 u3 u4 u5 u6 = some res → sw_S Γ A ξ g μ s H locs → lv_has ls 7 [(0, .ref (ξ.2.2.2.1 84)), (1, .int u1), (2, .int u2), (3, .int u3), (4, .int u4), (5, .int u5), (6, .int u6)] → W p l e (headSpec (Cond.code yMo_shares prog_10_method_114_code 7 (some .int) :: sw_tb) rmMo_shares).room s m args below meth c H locs 0 0 (MQ below (sw_Qi Γ A ξ g res.2 res.1 (True)) args s 0 0 A) (F0 m 76 ls []) := by
  intro μ u1 u2 u3 u4 u5 u6 H locs ls hm hw hl
  unfold fMo_shares_76 at hm
  refine lv_iload S.1 S.2.1 dMo_shares_76 (lv_at hl 4 rfl) ?_
  refine lv_iload S.1 S.2.1 dMo_shares_78 (lv_at hl 6 rfl) ?_
  refine lv_iload_n S.1 S.2.1 dMo_shares_80 rfl (lv_at hl 2 rfl) ?_
  refine bicmp_ne (tgt := 88) S.1 S.2.1 hm dMo_shares_81 (by decide) (fun hm => ?_) (fun hm => ?_)
  · refine lv_iconst (v := (0 : Int32)) S.1 S.2.1 dMo_shares_88 (by decide) ?_
    refine lv_iadd S.1 S.2.1 dMo_shares_89 ?_
    refine nm_i hm (fun x20 hm => ?_)
    refine lv_istore (lv' := [(4, .int x20), (0, .ref (ξ.2.2.2.1 84)), (1, .int u1), (2, .int u2), (3, .int u3), (5, .int u5), (6, .int u6)]) S.1 S.2.1 dMo_shares_90 hl (by decide) rfl (fun ls hl => ?_)
    obtain ⟨x21, ex21, hm⟩ := nm_x hm
    refine lv_iinc (v := x21) (lv' := [(5, .int x21), (4, .int x20), (0, .ref (ξ.2.2.2.1 84)), (1, .int u1), (2, .int u2), (3, .int u3), (6, .int u6)]) S.1 S.2.1 dMo_shares_92 hl (k := 5) rfl (by rw [ex21]; rfl) (by decide) rfl (fun ls hl => ?_)
    refine lv_goto (tgt := 29) S.1 S.2.1 dMo_shares_95 (by decide) ?_
    exact hk29 μ u1 u2 u3 x20 x21 _ _ _ hm hw (lv_sub hl [2, 3, 4, 5, 1, 0] rfl)
  · refine lv_iconst (v := (1 : Int32)) S.1 S.2.1 dMo_shares_84 (by decide) ?_
    refine lv_goto (tgt := 89) S.1 S.2.1 dMo_shares_85 (by decide) ?_
    refine lv_iadd S.1 S.2.1 dMo_shares_89 ?_
    refine nm_i hm (fun x22 hm => ?_)
    refine lv_istore (lv' := [(4, .int x22), (0, .ref (ξ.2.2.2.1 84)), (1, .int u1), (2, .int u2), (3, .int u3), (5, .int u5), (6, .int u6)]) S.1 S.2.1 dMo_shares_90 hl (by decide) rfl (fun ls hl => ?_)
    obtain ⟨x23, ex23, hm⟩ := nm_x hm
    refine lv_iinc (v := x23) (lv' := [(5, .int x23), (4, .int x22), (0, .ref (ξ.2.2.2.1 84)), (1, .int u1), (2, .int u2), (3, .int u3), (6, .int u6)]) S.1 S.2.1 dMo_shares_92 hl (k := 5) rfl (by rw [ex23]; rfl) (by decide) rfl (fun ls hl => ?_)
    refine lv_goto (tgt := 29) S.1 S.2.1 dMo_shares_95 (by decide) ?_
    exact hk29 μ u1 u2 u3 x22 x23 _ _ _ hm hw (lv_sub hl [2, 3, 4, 5, 1, 0] rfl)
set_option maxHeartbeats 4000000 in
set_option maxRecDepth 100000 in
theorem wMo_shares_29 {l : Launch} {p : Program} {e : Env} {s : State} {m : MethodId} {args : Array Value} {below : List Frame} {meth : Method} {c : Code} {Γ : sw_C} {A : Nat → Prop} {ξ : sw_x} {g : sw_g} {res : Int32 × sw_m} (S : CallFix p m c prog_10_method_114_code 7 s args (Cond.code yMo_shares prog_10_method_114_code 7 (some .int) :: sw_tb) R_Mo) (hr : meth.sig.returnType = some .int) (hlk : meth.locks = false) (hf : sw_wf ξ g.2.2) (N : Nat) : ∀ (fu : Nat) (μ : sw_m) (u1 : Int32) (u2 : Int32) (u3 : Int32) (u4 : Int32) (u5 : Int32) (H : Heap) (locs : List Loc) (ls : Array Slot), fMo_shares_29 N   fu μ u1 u2 u3 u4 u5 = some res → sw_S Γ A ξ g μ s H locs → lv_has ls 7 [(0, .ref (ξ.2.2.2.1 84)), (1, .int u1), (2, .int u2), (3, .int u3), (4, .int u4), (5, .int u5)] → W p l e (headSpec (Cond.code yMo_shares prog_10_method_114_code 7 (some .int) :: sw_tb) rmMo_shares).room s m args below meth c H locs 0 0 (MQ below (sw_Qi Γ A ξ g res.2 res.1 (True)) args s 0 0 A) (F0 m 29 ls []) := by
  intro fu
  induction fu with
  | zero => intro μ u1 u2 u3 u4 u5 H locs ls hm; rw [fMo_shares_29.eq_1] at hm; cases hm
  | succ fu ih =>
    intro μ u1 u2 u3 u4 u5 H locs ls hm hw hl
    rw [fMo_shares_29.eq_2] at hm
    refine lv_iload S.1 S.2.1 dMo_shares_29 (lv_at hl 5 rfl) ?_
    refine lv_aload_n S.1 S.2.1 dMo_shares_31 rfl (lv_at hl 0 rfl) ?_
    obtain ⟨⟨v8, μ7⟩, h6, hm⟩ := ob hm
    refine sw_Vi (q := 84) (rest := [.int u5]) S hw (cMo_everything l  hf  h6) kMo_everything wm_Mo_426 (is_84 hf).1 (e_Mo (is_84 hf)) rfl rfl rfl rfl hl.1 (Nat.le_of_ble_eq_true rfl) ⟨rfl, rfl, Nat.le_of_ble_eq_true rfl, Nat.le_of_ble_eq_true rfl⟩ ⟨Nat.le_of_ble_eq_true rfl, Nat.le_of_ble_eq_true rfl⟩ dMo_shares_32 (fun H locs hw _ => ?_)
    refine bicmp_gt (tgt := 98) S.1 S.2.1 hm dMo_shares_35 (by decide) (fun hm => ?_) (fun hm => ?_)
    · refine lv_iload_n S.1 S.2.1 dMo_shares_98 rfl (lv_at hl 1 rfl) ?_
      refine bif_ne (tgt := 106) S.1 S.2.1 hm dMo_shares_99 (by decide) (fun hm => ?_) (fun hm => ?_)
      · refine lv_iload_n S.1 S.2.1 dMo_shares_106 rfl (lv_at hl 1 rfl) ?_
        refine lv_iconst (v := (1 : Int32)) S.1 S.2.1 dMo_shares_107 (by decide) ?_
        refine bicmp_ne (tgt := 115) S.1 S.2.1 hm dMo_shares_108 (by decide) (fun hm => ?_) (fun hm => ?_)
        · refine lv_iload S.1 S.2.1 dMo_shares_115 (lv_at hl 4 rfl) ?_
          obtain rfl := Option.some.inj hm
          exact sw_iret S hr hlk hw trivial dMo_shares_117
        · refine lv_iload_n S.1 S.2.1 dMo_shares_111 rfl (lv_at hl 3 rfl) ?_
          refine lv_goto (tgt := 117) S.1 S.2.1 dMo_shares_112 (by decide) ?_
          obtain rfl := Option.some.inj hm
          exact sw_iret S hr hlk hw trivial dMo_shares_117
      · refine lv_iload_n S.1 S.2.1 dMo_shares_102 rfl (lv_at hl 2 rfl) ?_
        refine lv_goto (tgt := 117) S.1 S.2.1 dMo_shares_103 (by decide) ?_
        obtain rfl := Option.some.inj hm
        exact sw_iret S hr hlk hw trivial dMo_shares_117
    · refine lv_aload_n S.1 S.2.1 dMo_shares_38 rfl (lv_at hl 0 rfl) ?_
      refine lv_iload S.1 S.2.1 dMo_shares_39 (lv_at hl 5 rfl) ?_
      obtain ⟨⟨v11, μ10⟩, h9, hm⟩ := ob hm
      refine sw_Vi (q := 84) (rest := []) S hw (cMo_heavyOf l N hf u5 h9) kMo_heavyOf wm_Mo_429 (is_84 hf).1 (e_Mo (is_84 hf)) rfl rfl rfl rfl hl.1 (Nat.le_of_ble_eq_true rfl) ⟨rfl, rfl, Nat.le_of_ble_eq_true rfl, Nat.le_of_ble_eq_true rfl⟩ ⟨Nat.le_of_ble_eq_true rfl, Nat.le_of_ble_eq_true rfl⟩ dMo_shares_41 (fun H locs hw _ => ?_)
      refine lv_aload_n S.1 S.2.1 dMo_shares_44 rfl (lv_at hl 0 rfl) ?_
      refine lv_aload_n S.1 S.2.1 dMo_shares_45 rfl (lv_at hl 0 rfl) ?_
      obtain ⟨⟨v14, μ13⟩, h12, hm⟩ := ob hm
      refine sw_Vi (q := 84) (rest := [.ref (ξ.2.2.2.1 84), .int v11]) S hw (cMo_everything l  hf  h12) kMo_everything wm_Mo_426 (is_84 hf).1 (e_Mo (is_84 hf)) rfl rfl rfl rfl hl.1 (Nat.le_of_ble_eq_true rfl) ⟨rfl, rfl, Nat.le_of_ble_eq_true rfl, Nat.le_of_ble_eq_true rfl⟩ ⟨Nat.le_of_ble_eq_true rfl, Nat.le_of_ble_eq_true rfl⟩ dMo_shares_46 (fun H locs hw _ => ?_)
      refine lv_iload S.1 S.2.1 dMo_shares_49 (lv_at hl 5 rfl) ?_
      refine lv_ixor S.1 S.2.1 dMo_shares_51 ?_
      obtain ⟨⟨v17, μ16⟩, h15, hm⟩ := ob hm
      refine sw_Vi (q := 84) (rest := [.int v11]) S hw (cMo_heavyOf l N hf (v14 ^^^ u5) h15) kMo_heavyOf wm_Mo_429 (is_84 hf).1 (e_Mo (is_84 hf)) rfl rfl rfl rfl hl.1 (Nat.le_of_ble_eq_true rfl) ⟨rfl, rfl, Nat.le_of_ble_eq_true rfl, Nat.le_of_ble_eq_true rfl⟩ ⟨Nat.le_of_ble_eq_true rfl, Nat.le_of_ble_eq_true rfl⟩ dMo_shares_52 (fun H locs hw _ => ?_)
      refine lv_isub S.1 S.2.1 dMo_shares_55 ?_
      obtain ⟨v19, h18, hm⟩ := ob hm
      refine sw_Si (rest := []) S hw (cMo_either l  hf (v11 - v17) h18) kMo_either wm_Mo_163 rfl rfl hl.1 (Nat.le_of_ble_eq_true rfl) ⟨rfl, rfl, Nat.le_of_ble_eq_true rfl, Nat.le_of_ble_eq_true rfl⟩ ⟨Nat.le_of_ble_eq_true rfl, Nat.le_of_ble_eq_true rfl⟩ dMo_shares_56 (fun H locs hw _ => ?_)
      refine lv_istore (lv' := [(6, .int v19), (0, .ref (ξ.2.2.2.1 84)), (1, .int u1), (2, .int u2), (3, .int u3), (4, .int u4), (5, .int u5)]) S.1 S.2.1 dMo_shares_59 hl (by decide) rfl (fun ls hl => ?_)
      refine lv_iload S.1 S.2.1 dMo_shares_61 (lv_at hl 0 rfl) ?_
      refine lv_iload_n S.1 S.2.1 dMo_shares_63 rfl (lv_at hl 3 rfl) ?_
      refine bicmp_ge (tgt := 76) S.1 S.2.1 hm dMo_shares_64 (by decide) (fun hm => ?_) (fun hm => ?_)
      · exact wMo_shares_76 S hr hlk hf N (fMo_shares_29 N   fu) ih μ16 u1 u2 u3 u4 u5 v19 _ _ _ hm hw (lv_sub hl [1, 2, 3, 4, 5, 6, 0] rfl)
      · refine lv_iload S.1 S.2.1 dMo_shares_67 (lv_at hl 0 rfl) ?_
        refine lv_istore_n (lv' := [(2, .int v19), (6, .int v19), (0, .ref (ξ.2.2.2.1 84)), (1, .int u1), (3, .int u3), (4, .int u4), (5, .int u5)]) S.1 S.2.1 dMo_shares_69 rfl hl (by decide) rfl (fun ls hl => ?_)
        refine lv_iload S.1 S.2.1 dMo_shares_70 (lv_at hl 6 rfl) ?_
        refine lv_istore_n (lv' := [(3, .int u5), (2, .int v19), (6, .int v19), (0, .ref (ξ.2.2.2.1 84)), (1, .int u1), (4, .int u4), (5, .int u5)]) S.1 S.2.1 dMo_shares_72 rfl hl (by decide) rfl (fun ls hl => ?_)
        refine lv_iconst (v := (0 : Int32)) S.1 S.2.1 dMo_shares_73 (by decide) ?_
        refine lv_istore (lv' := [(4, .int (0 : Int32)), (3, .int u5), (2, .int v19), (6, .int v19), (0, .ref (ξ.2.2.2.1 84)), (1, .int u1), (5, .int u5)]) S.1 S.2.1 dMo_shares_74 hl (by decide) rfl (fun ls hl => ?_)
        exact wMo_shares_76 S hr hlk hf N (fMo_shares_29 N   fu) ih μ16 u1 v19 u5 (0 : Int32) u5 v19 _ _ _ hm hw (lv_sub hl [4, 5, 2, 1, 0, 6, 3] rfl)
set_option maxHeartbeats 4000000 in
set_option maxRecDepth 100000 in
theorem cMo_shares (l : Launch) (N : Nat) {Γ : sw_C} {A : Nat → Prop} {ξ : sw_x} {g : sw_g} {μ : sw_m} (hf : sw_wf ξ g.2.2) (a1 : Int32) {res : Int32 × sw_m} (hm : fMo_shares N μ a1 = some res) : Met l yMo_shares (Cond.code yMo_shares prog_10_method_114_code 7 (some .int) :: sw_tb) rmMo_shares (va_Pc [.ref (ξ.2.2.2.1 84), .int a1] (sw_V Γ A ξ g μ)) (sw_Qi Γ A ξ g res.2 res.1 (True)) 0 0 A := by
  refine Met.ofW (cc := prog_10_method_114_code) (maxL := 7) (ret := some .int) (by decide) rfl ?_
  intro p e s m args below meth c s₁ B hml hv
  obtain ⟨rfl, hv⟩ := hv
  have S : CallFix p m c prog_10_method_114_code 7 s _ (Cond.code yMo_shares prog_10_method_114_code 7 (some .int) :: sw_tb) R_Mo := ⟨B.exec, B.bytes, hml, findClass_of_methodNamed B.named, atoms_spec (ws := (Cond.code yMo_shares prog_10_method_114_code 7 (some .int) :: sw_tb)) B.pre⟩
  have hr := B.returns
  have hlk := B.notSynchronized
  have hw := sw_begin hv
  have hl := lv_entry [.ref (ξ.2.2.2.1 84), .int a1] (n := 7) (Nat.le_of_ble_eq_true rfl)
  rw [lg_entry_eq]
  generalize (lg_sl [.ref (ξ.2.2.2.1 84), .int a1] ++ List.replicate (7 - (lg_sl [.ref (ξ.2.2.2.1 84), .int a1]).length) Slot.unset).toArray = ls at hl ⊢
  have hl : lv_has ls 7 [(0, .ref (ξ.2.2.2.1 84)), (1, .int a1)] := hl
  unfold fMo_shares at hm
  refine lv_iload_n S.1 S.2.1 dMo_shares_0 rfl (lv_at hl 1 rfl) ?_
  refine lv_iconst (v := (0 : Int32)) S.1 S.2.1 dMo_shares_1 (by decide) ?_
  refine lv_iconst (v := (2 : Int32)) S.1 S.2.1 dMo_shares_2 (by decide) ?_
  obtain ⟨v2, h1, hm⟩ := ob hm
  refine sw_Si (rest := []) S hw (cMo_lies l  hf a1 (0 : Int32) (2 : Int32) h1) kMo_lies wm_Mo_18 rfl rfl hl.1 (Nat.le_of_ble_eq_true rfl) ⟨rfl, rfl, Nat.le_of_ble_eq_true rfl, Nat.le_of_ble_eq_true rfl⟩ ⟨Nat.le_of_ble_eq_true rfl, Nat.le_of_ble_eq_true rfl⟩ dMo_shares_3 (fun H locs hw _ => ?_)
  refine bif_eq (tgt := 16) S.1 S.2.1 hm dMo_shares_6 (by decide) (fun hm => ?_) (fun hm => ?_)
  · refine lv_iconst (v := (-1 : Int32)) S.1 S.2.1 dMo_shares_16 (by decide) ?_
    obtain rfl := Option.some.inj hm
    exact sw_iret S hr hlk hw trivial dMo_shares_17
  · refine lv_aload_n S.1 S.2.1 dMo_shares_9 rfl (lv_at hl 0 rfl) ?_
    obtain ⟨⟨v5, μ4⟩, h3, hm⟩ := ob hm
    refine sw_Vi (q := 84) (rest := []) S hw (cMo_many l  hf  h3) kMo_many wm_Mo_119 (is_84 hf).1 (e_Mo (is_84 hf)) rfl rfl rfl rfl hl.1 (Nat.le_of_ble_eq_true rfl) ⟨rfl, rfl, Nat.le_of_ble_eq_true rfl, Nat.le_of_ble_eq_true rfl⟩ ⟨Nat.le_of_ble_eq_true rfl, Nat.le_of_ble_eq_true rfl⟩ dMo_shares_10 (fun H locs hw _ => ?_)
    refine bif_ne (tgt := 18) S.1 S.2.1 hm dMo_shares_13 (by decide) (fun hm => ?_) (fun hm => ?_)
    · refine lv_ldc S.1 S.2.1 S.2.2.2.1 (sw_word S wc_Mo_193) dMo_shares_18 ?_
      refine lv_istore_n (lv' := [(2, .int (1000000 : Int32)), (0, .ref (ξ.2.2.2.1 84)), (1, .int a1)]) S.1 S.2.1 dMo_shares_20 rfl hl (by decide) rfl (fun ls hl => ?_)
      refine lv_iconst (v := (-1 : Int32)) S.1 S.2.1 dMo_shares_21 (by decide) ?_
      refine lv_istore_n (lv' := [(3, .int (-1 : Int32)), (2, .int (1000000 : Int32)), (0, .ref (ξ.2.2.2.1 84)), (1, .int a1)]) S.1 S.2.1 dMo_shares_22 rfl hl (by decide) rfl (fun ls hl => ?_)
      refine lv_iconst (v := (0 : Int32)) S.1 S.2.1 dMo_shares_23 (by decide) ?_
      refine lv_istore (lv' := [(4, .int (0 : Int32)), (3, .int (-1 : Int32)), (2, .int (1000000 : Int32)), (0, .ref (ξ.2.2.2.1 84)), (1, .int a1)]) S.1 S.2.1 dMo_shares_24 hl (by decide) rfl (fun ls hl => ?_)
      refine lv_iconst (v := (1 : Int32)) S.1 S.2.1 dMo_shares_26 (by decide) ?_
      refine lv_istore (lv' := [(5, .int (1 : Int32)), (4, .int (0 : Int32)), (3, .int (-1 : Int32)), (2, .int (1000000 : Int32)), (0, .ref (ξ.2.2.2.1 84)), (1, .int a1)]) S.1 S.2.1 dMo_shares_27 hl (by decide) rfl (fun ls hl => ?_)
      exact wMo_shares_29 S hr hlk hf N  N μ4 a1 (1000000 : Int32) (-1 : Int32) (0 : Int32) (1 : Int32) _ _ _ hm hw (lv_sub hl [4, 5, 3, 2, 1, 0] rfl)
    · refine lv_iconst (v := (-1 : Int32)) S.1 S.2.1 dMo_shares_16 (by decide) ?_
      obtain rfl := Option.some.inj hm
      exact sw_iret S hr hlk hw trivial dMo_shares_17
set_option maxHeartbeats 4000000 in
set_option maxRecDepth 100000 in
theorem wMo_onNow_4 {l : Launch} {p : Program} {e : Env} {s : State} {m : MethodId} {args : Array Value} {below : List Frame} {meth : Method} {c : Code} {Γ : sw_C} {A : Nat → Prop} {ξ : sw_x} {g : sw_g} {res : Int32 × sw_m} (S : CallFix p m c prog_10_method_115_code 3 s args (Cond.code yMo_onNow prog_10_method_115_code 3 (some .int) :: sw_tb) R_Mo) (hr : meth.sig.returnType = some .int) (hlk : meth.locks = false) (hf : sw_wf ξ g.2.2) (N : Nat) : ∀ (fu : Nat) (μ : sw_m) (u1 : Int32) (u2 : Int32) (H : Heap) (locs : List Loc) (ls : Array Slot), fMo_onNow_4 N   fu μ u1 u2 = some res → sw_S Γ A ξ g μ s H locs → lv_has ls 3 [(0, .ref (ξ.2.2.2.1 84)), (1, .int u1), (2, .int u2)] → W p l e (headSpec (Cond.code yMo_onNow prog_10_method_115_code 3 (some .int) :: sw_tb) rmMo_onNow).room s m args below meth c H locs 0 0 (MQ below (sw_Qi Γ A ξ g res.2 res.1 (True)) args s 0 0 A) (F0 m 4 ls []) := by
  intro fu
  induction fu with
  | zero => intro μ u1 u2 H locs ls hm; rw [fMo_onNow_4.eq_1] at hm; cases hm
  | succ fu ih =>
    intro μ u1 u2 H locs ls hm hw hl
    rw [fMo_onNow_4.eq_2] at hm
    refine lv_iload_n S.1 S.2.1 dMo_onNow_4 rfl (lv_at hl 2 rfl) ?_
    refine lv_aload_n S.1 S.2.1 dMo_onNow_5 rfl (lv_at hl 0 rfl) ?_
    obtain ⟨⟨v3, μ2⟩, h1, hm⟩ := ob hm
    refine sw_Vi (q := 84) (rest := [.int u2]) S hw (cMo_many l  hf  h1) kMo_many wm_Mo_119 (is_84 hf).1 (e_Mo (is_84 hf)) rfl rfl rfl rfl hl.1 (Nat.le_of_ble_eq_true rfl) ⟨rfl, rfl, Nat.le_of_ble_eq_true rfl, Nat.le_of_ble_eq_true rfl⟩ ⟨Nat.le_of_ble_eq_true rfl, Nat.le_of_ble_eq_true rfl⟩ dMo_onNow_6 (fun H locs hw _ => ?_)
    refine bicmp_ge (tgt := 36) S.1 S.2.1 hm dMo_onNow_9 (by decide) (fun hm => ?_) (fun hm => ?_)
    · refine lv_iload_n S.1 S.2.1 dMo_onNow_36 rfl (lv_at hl 1 rfl) ?_
      obtain rfl := Option.some.inj hm
      exact sw_iret S hr hlk hw trivial dMo_onNow_37
    · refine lv_iload_n S.1 S.2.1 dMo_onNow_12 rfl (lv_at hl 1 rfl) ?_
      refine lv_aload_n S.1 S.2.1 dMo_onNow_13 rfl (lv_at hl 0 rfl) ?_
      refine lv_iload_n S.1 S.2.1 dMo_onNow_14 rfl (lv_at hl 2 rfl) ?_
      obtain ⟨⟨v6, μ5⟩, h4, hm⟩ := ob hm
      refine sw_Vi (q := 84) (rest := [.int u1]) S hw (cMo_isOn l  hf u2 h4) kMo_isOn wm_Mo_138 (is_84 hf).1 (e_Mo (is_84 hf)) rfl rfl rfl rfl hl.1 (Nat.le_of_ble_eq_true rfl) ⟨rfl, rfl, Nat.le_of_ble_eq_true rfl, Nat.le_of_ble_eq_true rfl⟩ ⟨Nat.le_of_ble_eq_true rfl, Nat.le_of_ble_eq_true rfl⟩ dMo_onNow_15 (fun H locs hw _ => ?_)
      refine bif_eq (tgt := 27) S.1 S.2.1 hm dMo_onNow_18 (by decide) (fun hm => ?_) (fun hm => ?_)
      · refine lv_iconst (v := (0 : Int32)) S.1 S.2.1 dMo_onNow_27 (by decide) ?_
        refine lv_ior S.1 S.2.1 dMo_onNow_28 ?_
        refine nm_i hm (fun x7 hm => ?_)
        refine lv_istore_n (lv' := [(1, .int x7), (0, .ref (ξ.2.2.2.1 84)), (2, .int u2)]) S.1 S.2.1 dMo_onNow_29 rfl hl (by decide) rfl (fun ls hl => ?_)
        obtain ⟨x8, ex8, hm⟩ := nm_x hm
        refine lv_iinc (v := x8) (lv' := [(2, .int x8), (1, .int x7), (0, .ref (ξ.2.2.2.1 84))]) S.1 S.2.1 dMo_onNow_30 hl (k := 2) rfl (by rw [ex8]; rfl) (by decide) rfl (fun ls hl => ?_)
        refine lv_goto (tgt := 4) S.1 S.2.1 dMo_onNow_33 (by decide) ?_
        exact ih μ5 x7 x8 _ _ _ hm hw (lv_sub hl [2, 1, 0] rfl)
      · refine lv_iconst (v := (1 : Int32)) S.1 S.2.1 dMo_onNow_21 (by decide) ?_
        refine lv_iload_n S.1 S.2.1 dMo_onNow_22 rfl (lv_at hl 2 rfl) ?_
        refine lv_ishl S.1 S.2.1 dMo_onNow_23 ?_
        refine lv_goto (tgt := 28) S.1 S.2.1 dMo_onNow_24 (by decide) ?_
        refine lv_ior S.1 S.2.1 dMo_onNow_28 ?_
        refine nm_i hm (fun x9 hm => ?_)
        refine lv_istore_n (lv' := [(1, .int x9), (0, .ref (ξ.2.2.2.1 84)), (2, .int u2)]) S.1 S.2.1 dMo_onNow_29 rfl hl (by decide) rfl (fun ls hl => ?_)
        obtain ⟨x10, ex10, hm⟩ := nm_x hm
        refine lv_iinc (v := x10) (lv' := [(2, .int x10), (1, .int x9), (0, .ref (ξ.2.2.2.1 84))]) S.1 S.2.1 dMo_onNow_30 hl (k := 2) rfl (by rw [ex10]; rfl) (by decide) rfl (fun ls hl => ?_)
        refine lv_goto (tgt := 4) S.1 S.2.1 dMo_onNow_33 (by decide) ?_
        exact ih μ5 x9 x10 _ _ _ hm hw (lv_sub hl [2, 1, 0] rfl)
set_option maxHeartbeats 4000000 in
set_option maxRecDepth 100000 in
theorem cMo_onNow (l : Launch) (N : Nat) {Γ : sw_C} {A : Nat → Prop} {ξ : sw_x} {g : sw_g} {μ : sw_m} (hf : sw_wf ξ g.2.2) {res : Int32 × sw_m} (hm : fMo_onNow N μ = some res) : Met l yMo_onNow (Cond.code yMo_onNow prog_10_method_115_code 3 (some .int) :: sw_tb) rmMo_onNow (va_Pc [.ref (ξ.2.2.2.1 84)] (sw_V Γ A ξ g μ)) (sw_Qi Γ A ξ g res.2 res.1 (True)) 0 0 A := by
  refine Met.ofW (cc := prog_10_method_115_code) (maxL := 3) (ret := some .int) (by decide) rfl ?_
  intro p e s m args below meth c s₁ B hml hv
  obtain ⟨rfl, hv⟩ := hv
  have S : CallFix p m c prog_10_method_115_code 3 s _ (Cond.code yMo_onNow prog_10_method_115_code 3 (some .int) :: sw_tb) R_Mo := ⟨B.exec, B.bytes, hml, findClass_of_methodNamed B.named, atoms_spec (ws := (Cond.code yMo_onNow prog_10_method_115_code 3 (some .int) :: sw_tb)) B.pre⟩
  have hr := B.returns
  have hlk := B.notSynchronized
  have hw := sw_begin hv
  have hl := lv_entry [.ref (ξ.2.2.2.1 84)] (n := 3) (Nat.le_of_ble_eq_true rfl)
  rw [lg_entry_eq]
  generalize (lg_sl [.ref (ξ.2.2.2.1 84)] ++ List.replicate (3 - (lg_sl [.ref (ξ.2.2.2.1 84)]).length) Slot.unset).toArray = ls at hl ⊢
  have hl : lv_has ls 3 [(0, .ref (ξ.2.2.2.1 84))] := hl
  unfold fMo_onNow at hm
  refine lv_iconst (v := (0 : Int32)) S.1 S.2.1 dMo_onNow_0 (by decide) ?_
  refine lv_istore_n (lv' := [(1, .int (0 : Int32)), (0, .ref (ξ.2.2.2.1 84))]) S.1 S.2.1 dMo_onNow_1 rfl hl (by decide) rfl (fun ls hl => ?_)
  refine lv_iconst (v := (0 : Int32)) S.1 S.2.1 dMo_onNow_2 (by decide) ?_
  refine lv_istore_n (lv' := [(2, .int (0 : Int32)), (1, .int (0 : Int32)), (0, .ref (ξ.2.2.2.1 84))]) S.1 S.2.1 dMo_onNow_3 rfl hl (by decide) rfl (fun ls hl => ?_)
  exact wMo_onNow_4 S hr hlk hf N  N μ (0 : Int32) (0 : Int32) _ _ _ hm hw (lv_sub hl [2, 1, 0] rfl)
set_option maxHeartbeats 4000000 in
set_option maxRecDepth 100000 in
theorem cMo_canOff (l : Launch) {Γ : sw_C} {A : Nat → Prop} {ξ : sw_x} {g : sw_g} {μ : sw_m} (hf : sw_wf ξ g.2.2) (a1 : Int32) (a2 : Int32) {res : Int32 × sw_m} (hm : fMo_canOff μ a1 a2 = some res) : Met l yMo_canOff (Cond.code yMo_canOff prog_10_method_117_code 3 (some .boolean) :: sw_tb) rmMo_canOff (va_Pc [.ref (ξ.2.2.2.1 84), .int a1, .int a2] (sw_V Γ A ξ g μ)) (sw_Qi Γ A ξ g res.2 res.1 (True)) 0 0 A := by
  refine Met.ofW (cc := prog_10_method_117_code) (maxL := 3) (ret := some .boolean) (by decide) rfl ?_
  intro p e s m args below meth c s₁ B hml hv
  obtain ⟨rfl, hv⟩ := hv
  have S : CallFix p m c prog_10_method_117_code 3 s _ (Cond.code yMo_canOff prog_10_method_117_code 3 (some .boolean) :: sw_tb) R_Mo := ⟨B.exec, B.bytes, hml, findClass_of_methodNamed B.named, atoms_spec (ws := (Cond.code yMo_canOff prog_10_method_117_code 3 (some .boolean) :: sw_tb)) B.pre⟩
  have hr := B.returns
  have hlk := B.notSynchronized
  have hw := sw_begin hv
  have hl := lv_entry [.ref (ξ.2.2.2.1 84), .int a1, .int a2] (n := 3) (Nat.le_of_ble_eq_true rfl)
  rw [lg_entry_eq]
  generalize (lg_sl [.ref (ξ.2.2.2.1 84), .int a1, .int a2] ++ List.replicate (3 - (lg_sl [.ref (ξ.2.2.2.1 84), .int a1, .int a2]).length) Slot.unset).toArray = ls at hl ⊢
  have hl : lv_has ls 3 [(0, .ref (ξ.2.2.2.1 84)), (1, .int a1), (2, .int a2)] := hl
  unfold fMo_canOff at hm
  refine lv_iload_n S.1 S.2.1 dMo_canOff_0 rfl (lv_at hl 1 rfl) ?_
  refine lv_iload_n S.1 S.2.1 dMo_canOff_1 rfl (lv_at hl 2 rfl) ?_
  obtain ⟨v2, h1, hm⟩ := ob hm
  refine sw_Si (rest := []) S hw (cMo_isIn l  hf a1 a2 h1) kMo_isIn wm_Mo_423 rfl rfl hl.1 (Nat.le_of_ble_eq_true rfl) ⟨rfl, rfl, Nat.le_of_ble_eq_true rfl, Nat.le_of_ble_eq_true rfl⟩ ⟨Nat.le_of_ble_eq_true rfl, Nat.le_of_ble_eq_true rfl⟩ dMo_canOff_2 (fun H locs hw _ => ?_)
  refine bif_eq (tgt := 29) S.1 S.2.1 hm dMo_canOff_5 (by decide) (fun hm => ?_) (fun hm => ?_)
  · refine lv_iconst (v := (0 : Int32)) S.1 S.2.1 dMo_canOff_29 (by decide) ?_
    obtain rfl := Option.some.inj hm
    exact sw_zret S hr hlk (Or.inl rfl) hw trivial dMo_canOff_30
  · refine lv_aload_n S.1 S.2.1 dMo_canOff_8 rfl (lv_at hl 0 rfl) ?_
    refine lv_aload_n S.1 S.2.1 dMo_canOff_9 rfl (lv_at hl 0 rfl) ?_
    refine get_Mo (v := .ref (ξ.2.2.2.1 103)) S hw (is_84 hf) 38 (by decide) rfl wf_Mo_85 dMo_canOff_10 ?_
    refine lv_iload_n S.1 S.2.1 dMo_canOff_13 rfl (lv_at hl 1 rfl) ?_
    refine lv_iconst (v := (1 : Int32)) S.1 S.2.1 dMo_canOff_14 (by decide) ?_
    refine lv_iload_n S.1 S.2.1 dMo_canOff_15 rfl (lv_at hl 2 rfl) ?_
    refine lv_ishl S.1 S.2.1 dMo_canOff_16 ?_
    refine lv_ixor S.1 S.2.1 dMo_canOff_17 ?_
    refine sm_iald S hw (is_103 hf) hm dMo_canOff_18 (fun v3 hm => ?_)
    obtain ⟨⟨v6, μ5⟩, h4, hm⟩ := ob hm
    refine sw_Vi (q := 84) (rest := []) S hw (cMo_isLevel l  hf v3 h4) kMo_isLevel wm_Mo_166 (is_84 hf).1 (e_Mo (is_84 hf)) rfl rfl rfl rfl hl.1 (Nat.le_of_ble_eq_true rfl) ⟨rfl, rfl, Nat.le_of_ble_eq_true rfl, Nat.le_of_ble_eq_true rfl⟩ ⟨Nat.le_of_ble_eq_true rfl, Nat.le_of_ble_eq_true rfl⟩ dMo_canOff_19 (fun H locs hw _ => ?_)
    refine bif_eq (tgt := 29) S.1 S.2.1 hm dMo_canOff_22 (by decide) (fun hm => ?_) (fun hm => ?_)
    · refine lv_iconst (v := (0 : Int32)) S.1 S.2.1 dMo_canOff_29 (by decide) ?_
      obtain rfl := Option.some.inj hm
      exact sw_zret S hr hlk (Or.inl rfl) hw trivial dMo_canOff_30
    · refine lv_iconst (v := (1 : Int32)) S.1 S.2.1 dMo_canOff_25 (by decide) ?_
      refine lv_goto (tgt := 30) S.1 S.2.1 dMo_canOff_26 (by decide) ?_
      obtain rfl := Option.some.inj hm
      exact sw_zret S hr hlk (Or.inr rfl) hw trivial dMo_canOff_30
set_option maxHeartbeats 4000000 in
set_option maxRecDepth 100000 in
theorem wMo_winsBy_9 {l : Launch} {p : Program} {e : Env} {s : State} {m : MethodId} {args : Array Value} {below : List Frame} {meth : Method} {c : Code} {Γ : sw_C} {A : Nat → Prop} {ξ : sw_x} {g : sw_g} {res : Int32 × sw_m} (S : CallFix p m c prog_10_method_120_code 4 s args (Cond.code yMo_winsBy prog_10_method_120_code 4 (some .int) :: sw_tb) R_Mo) (hr : meth.sig.returnType = some .int) (hlk : meth.locks = false) (hf : sw_wf ξ g.2.2) (N : Nat) : ∀ (fu : Nat) (μ : sw_m) (u1 : Int32) (u2 : Int32) (u3 : Int32) (H : Heap) (locs : List Loc) (ls : Array Slot), fMo_winsBy_9 N   fu μ u1 u2 u3 = some res → sw_S Γ A ξ g μ s H locs → lv_has ls 4 [(0, .ref (ξ.2.2.2.1 84)), (1, .int u1), (2, .int u2), (3, .int u3)] → W p l e (headSpec (Cond.code yMo_winsBy prog_10_method_120_code 4 (some .int) :: sw_tb) rmMo_winsBy).room s m args below meth c H locs 0 0 (MQ below (sw_Qi Γ A ξ g res.2 res.1 (True)) args s 0 0 A) (F0 m 9 ls []) := by
  intro fu
  induction fu with
  | zero => intro μ u1 u2 u3 H locs ls hm; rw [fMo_winsBy_9.eq_1] at hm; cases hm
  | succ fu ih =>
    intro μ u1 u2 u3 H locs ls hm hw hl
    rw [fMo_winsBy_9.eq_2] at hm
    refine lv_iload_n S.1 S.2.1 dMo_winsBy_9 rfl (lv_at hl 3 rfl) ?_
    refine bif_lt (tgt := 47) S.1 S.2.1 hm dMo_winsBy_10 (by decide) (fun hm => ?_) (fun hm => ?_)
    · refine lv_iload_n S.1 S.2.1 dMo_winsBy_47 rfl (lv_at hl 2 rfl) ?_
      obtain rfl := Option.some.inj hm
      exact sw_iret S hr hlk hw trivial dMo_winsBy_48
    · refine lv_aload_n S.1 S.2.1 dMo_winsBy_13 rfl (lv_at hl 0 rfl) ?_
      refine lv_iload_n S.1 S.2.1 dMo_winsBy_14 rfl (lv_at hl 1 rfl) ?_
      refine lv_iload_n S.1 S.2.1 dMo_winsBy_15 rfl (lv_at hl 3 rfl) ?_
      obtain ⟨⟨v7, μ6⟩, h5, hm⟩ := ob hm
      refine sw_Vi (q := 84) (rest := []) S hw (cMo_canOff l  hf u1 u3 h5) kMo_canOff wm_Mo_438 (is_84 hf).1 (e_Mo (is_84 hf)) rfl rfl rfl rfl hl.1 (Nat.le_of_ble_eq_true rfl) ⟨rfl, rfl, Nat.le_of_ble_eq_true rfl, Nat.le_of_ble_eq_true rfl⟩ ⟨Nat.le_of_ble_eq_true rfl, Nat.le_of_ble_eq_true rfl⟩ dMo_winsBy_16 (fun H locs hw _ => ?_)
      refine bif_eq (tgt := 39) S.1 S.2.1 hm dMo_winsBy_19 (by decide) (fun hm => ?_) (fun hm => ?_)
      · refine lv_iload_n S.1 S.2.1 dMo_winsBy_39 rfl (lv_at hl 2 rfl) ?_
        refine lv_istore_n (lv' := [(2, .int u2), (0, .ref (ξ.2.2.2.1 84)), (1, .int u1), (3, .int u3)]) S.1 S.2.1 dMo_winsBy_40 rfl hl (by decide) rfl (fun ls hl => ?_)
        obtain ⟨x8, ex8, hm⟩ := nm_x hm
        refine lv_iinc (v := x8) (lv' := [(3, .int x8), (2, .int u2), (0, .ref (ξ.2.2.2.1 84)), (1, .int u1)]) S.1 S.2.1 dMo_winsBy_41 hl (k := 3) rfl (by rw [ex8]; rfl) (by decide) rfl (fun ls hl => ?_)
        refine lv_goto (tgt := 9) S.1 S.2.1 dMo_winsBy_44 (by decide) ?_
        exact ih μ6 u1 u2 x8 _ _ _ hm hw (lv_sub hl [2, 3, 1, 0] rfl)
      · refine lv_aload_n S.1 S.2.1 dMo_winsBy_22 rfl (lv_at hl 0 rfl) ?_
        refine get_Mo (v := .ref (ξ.2.2.2.1 105)) S hw (is_84 hf) 40 (by decide) rfl wf_Mo_91 dMo_winsBy_23 ?_
        refine lv_iload_n S.1 S.2.1 dMo_winsBy_26 rfl (lv_at hl 1 rfl) ?_
        refine lv_iconst (v := (1 : Int32)) S.1 S.2.1 dMo_winsBy_27 (by decide) ?_
        refine lv_iload_n S.1 S.2.1 dMo_winsBy_28 rfl (lv_at hl 3 rfl) ?_
        refine lv_ishl S.1 S.2.1 dMo_winsBy_29 ?_
        refine lv_ixor S.1 S.2.1 dMo_winsBy_30 ?_
        refine sm_zald S hw (is_105 hf) hm dMo_winsBy_31 (fun v9 hm => ?_)
        refine bif_ne (tgt := 39) S.1 S.2.1 hm dMo_winsBy_32 (by decide) (fun hm => ?_) (fun hm => ?_)
        · refine lv_iload_n S.1 S.2.1 dMo_winsBy_39 rfl (lv_at hl 2 rfl) ?_
          refine lv_istore_n (lv' := [(2, .int u2), (0, .ref (ξ.2.2.2.1 84)), (1, .int u1), (3, .int u3)]) S.1 S.2.1 dMo_winsBy_40 rfl hl (by decide) rfl (fun ls hl => ?_)
          obtain ⟨x10, ex10, hm⟩ := nm_x hm
          refine lv_iinc (v := x10) (lv' := [(3, .int x10), (2, .int u2), (0, .ref (ξ.2.2.2.1 84)), (1, .int u1)]) S.1 S.2.1 dMo_winsBy_41 hl (k := 3) rfl (by rw [ex10]; rfl) (by decide) rfl (fun ls hl => ?_)
          refine lv_goto (tgt := 9) S.1 S.2.1 dMo_winsBy_44 (by decide) ?_
          exact ih μ6 u1 u2 x10 _ _ _ hm hw (lv_sub hl [2, 3, 1, 0] rfl)
        · refine lv_iload_n S.1 S.2.1 dMo_winsBy_35 rfl (lv_at hl 3 rfl) ?_
          refine lv_goto (tgt := 40) S.1 S.2.1 dMo_winsBy_36 (by decide) ?_
          refine lv_istore_n (lv' := [(2, .int u3), (0, .ref (ξ.2.2.2.1 84)), (1, .int u1), (3, .int u3)]) S.1 S.2.1 dMo_winsBy_40 rfl hl (by decide) rfl (fun ls hl => ?_)
          obtain ⟨x11, ex11, hm⟩ := nm_x hm
          refine lv_iinc (v := x11) (lv' := [(3, .int x11), (2, .int u3), (0, .ref (ξ.2.2.2.1 84)), (1, .int u1)]) S.1 S.2.1 dMo_winsBy_41 hl (k := 3) rfl (by rw [ex11]; rfl) (by decide) rfl (fun ls hl => ?_)
          refine lv_goto (tgt := 9) S.1 S.2.1 dMo_winsBy_44 (by decide) ?_
          exact ih μ6 u1 u3 x11 _ _ _ hm hw (lv_sub hl [2, 3, 1, 0] rfl)
set_option maxHeartbeats 4000000 in
set_option maxRecDepth 100000 in
theorem cMo_winsBy (l : Launch) (N : Nat) {Γ : sw_C} {A : Nat → Prop} {ξ : sw_x} {g : sw_g} {μ : sw_m} (hf : sw_wf ξ g.2.2) (a1 : Int32) {res : Int32 × sw_m} (hm : fMo_winsBy N μ a1 = some res) : Met l yMo_winsBy (Cond.code yMo_winsBy prog_10_method_120_code 4 (some .int) :: sw_tb) rmMo_winsBy (va_Pc [.ref (ξ.2.2.2.1 84), .int a1] (sw_V Γ A ξ g μ)) (sw_Qi Γ A ξ g res.2 res.1 (True)) 0 0 A := by
  refine Met.ofW (cc := prog_10_method_120_code) (maxL := 4) (ret := some .int) (by decide) rfl ?_
  intro p e s m args below meth c s₁ B hml hv
  obtain ⟨rfl, hv⟩ := hv
  have S : CallFix p m c prog_10_method_120_code 4 s _ (Cond.code yMo_winsBy prog_10_method_120_code 4 (some .int) :: sw_tb) R_Mo := ⟨B.exec, B.bytes, hml, findClass_of_methodNamed B.named, atoms_spec (ws := (Cond.code yMo_winsBy prog_10_method_120_code 4 (some .int) :: sw_tb)) B.pre⟩
  have hr := B.returns
  have hlk := B.notSynchronized
  have hw := sw_begin hv
  have hl := lv_entry [.ref (ξ.2.2.2.1 84), .int a1] (n := 4) (Nat.le_of_ble_eq_true rfl)
  rw [lg_entry_eq]
  generalize (lg_sl [.ref (ξ.2.2.2.1 84), .int a1] ++ List.replicate (4 - (lg_sl [.ref (ξ.2.2.2.1 84), .int a1]).length) Slot.unset).toArray = ls at hl ⊢
  have hl : lv_has ls 4 [(0, .ref (ξ.2.2.2.1 84)), (1, .int a1)] := hl
  unfold fMo_winsBy at hm
  refine lv_iconst (v := (-1 : Int32)) S.1 S.2.1 dMo_winsBy_0 (by decide) ?_
  refine lv_istore_n (lv' := [(2, .int (-1 : Int32)), (0, .ref (ξ.2.2.2.1 84)), (1, .int a1)]) S.1 S.2.1 dMo_winsBy_1 rfl hl (by decide) rfl (fun ls hl => ?_)
  refine lv_aload_n S.1 S.2.1 dMo_winsBy_2 rfl (lv_at hl 1 rfl) ?_
  obtain ⟨⟨v3, μ2⟩, h1, hm⟩ := ob hm
  refine sw_Vi (q := 84) (rest := []) S hw (cMo_many l  hf  h1) kMo_many wm_Mo_119 (is_84 hf).1 (e_Mo (is_84 hf)) rfl rfl rfl rfl hl.1 (Nat.le_of_ble_eq_true rfl) ⟨rfl, rfl, Nat.le_of_ble_eq_true rfl, Nat.le_of_ble_eq_true rfl⟩ ⟨Nat.le_of_ble_eq_true rfl, Nat.le_of_ble_eq_true rfl⟩ dMo_winsBy_3 (fun H locs hw _ => ?_)
  refine lv_iconst (v := (1 : Int32)) S.1 S.2.1 dMo_winsBy_6 (by decide) ?_
  refine lv_isub S.1 S.2.1 dMo_winsBy_7 ?_
  refine nm_i hm (fun x4 hm => ?_)
  refine lv_istore_n (lv' := [(3, .int x4), (2, .int (-1 : Int32)), (0, .ref (ξ.2.2.2.1 84)), (1, .int a1)]) S.1 S.2.1 dMo_winsBy_8 rfl hl (by decide) rfl (fun ls hl => ?_)
  exact wMo_winsBy_9 S hr hlk hf N  N μ2 a1 (-1 : Int32) x4 _ _ _ hm hw (lv_sub hl [2, 3, 1, 0] rfl)
set_option maxHeartbeats 4000000 in
set_option maxRecDepth 100000 in
theorem wMo_weighed_35 {l : Launch} {p : Program} {e : Env} {s : State} {m : MethodId} {args : Array Value} {below : List Frame} {meth : Method} {c : Code} {Γ : sw_C} {A : Nat → Prop} {ξ : sw_x} {g : sw_g} {res : Int32 × sw_m} (S : CallFix p m c prog_10_method_122_code 5 s args (Cond.code yMo_weighed prog_10_method_122_code 5 (some .int) :: sw_tb) R_Mo) (hr : meth.sig.returnType = some .int) (hlk : meth.locks = false) (hf : sw_wf ξ g.2.2) (N : Nat) : ∀ (μ : sw_m)  (H : Heap) (locs : List Loc) (ls : Array Slot), fMo_weighed_35 N   μ = some res → sw_S Γ A ξ g μ s H locs → lv_has ls 5 [(0, .ref (ξ.2.2.2.1 84))] → W p l e (headSpec (Cond.code yMo_weighed prog_10_method_122_code 5 (some .int) :: sw_tb) rmMo_weighed).room s m args below meth c H locs 0 0 (MQ below (sw_Qi Γ A ξ g res.2 res.1 (True)) args s 0 0 A) (F0 m 35 ls []) := by
  intro μ H locs ls hm hw hl
  unfold fMo_weighed_35 at hm
  refine lv_aload_n S.1 S.2.1 dMo_weighed_35 rfl (lv_at hl 0 rfl) ?_
  refine lv_iconst (v := (-1 : Int32)) S.1 S.2.1 dMo_weighed_36 (by decide) ?_
  obtain ⟨⟨v5, μ4⟩, h3, hm⟩ := ob hm
  refine sw_Vi (q := 84) (rest := []) S hw (cMo_refuses l  hf (-1 : Int32) h3) kMo_refuses wm_Mo_113 (is_84 hf).1 (e_Mo (is_84 hf)) rfl rfl rfl rfl hl.1 (Nat.le_of_ble_eq_true rfl) ⟨rfl, rfl, Nat.le_of_ble_eq_true rfl, Nat.le_of_ble_eq_true rfl⟩ ⟨Nat.le_of_ble_eq_true rfl, Nat.le_of_ble_eq_true rfl⟩ dMo_weighed_37 (fun H locs hw _ => ?_)
  obtain rfl := Option.some.inj hm
  exact sw_iret S hr hlk hw trivial dMo_weighed_40
set_option maxHeartbeats 4000000 in
set_option maxRecDepth 100000 in
theorem cMo_weighed (l : Launch) (N : Nat) {Γ : sw_C} {A : Nat → Prop} {ξ : sw_x} {g : sw_g} {μ : sw_m} (hf : sw_wf ξ g.2.2) (a1 : Int32) (a2 : Int32) (a3 : Int32) {res : Int32 × sw_m} (hm : fMo_weighed N μ a1 a2 a3 = some res) : Met l yMo_weighed (Cond.code yMo_weighed prog_10_method_122_code 5 (some .int) :: sw_tb) rmMo_weighed (va_Pc [.ref (ξ.2.2.2.1 84), .int a1, .int a2, .int a3] (sw_V Γ A ξ g μ)) (sw_Qi Γ A ξ g res.2 res.1 (True)) 0 0 A := by
  refine Met.ofW (cc := prog_10_method_122_code) (maxL := 5) (ret := some .int) (by decide) rfl ?_
  intro p e s m args below meth c s₁ B hml hv
  obtain ⟨rfl, hv⟩ := hv
  have S : CallFix p m c prog_10_method_122_code 5 s _ (Cond.code yMo_weighed prog_10_method_122_code 5 (some .int) :: sw_tb) R_Mo := ⟨B.exec, B.bytes, hml, findClass_of_methodNamed B.named, atoms_spec (ws := (Cond.code yMo_weighed prog_10_method_122_code 5 (some .int) :: sw_tb)) B.pre⟩
  have hr := B.returns
  have hlk := B.notSynchronized
  have hw := sw_begin hv
  have hl := lv_entry [.ref (ξ.2.2.2.1 84), .int a1, .int a2, .int a3] (n := 5) (Nat.le_of_ble_eq_true rfl)
  rw [lg_entry_eq]
  generalize (lg_sl [.ref (ξ.2.2.2.1 84), .int a1, .int a2, .int a3] ++ List.replicate (5 - (lg_sl [.ref (ξ.2.2.2.1 84), .int a1, .int a2, .int a3]).length) Slot.unset).toArray = ls at hl ⊢
  have hl : lv_has ls 5 [(0, .ref (ξ.2.2.2.1 84)), (1, .int a1), (2, .int a2), (3, .int a3)] := hl
  unfold fMo_weighed at hm
  refine lv_iload_n S.1 S.2.1 dMo_weighed_0 rfl (lv_at hl 1 rfl) ?_
  refine lv_iconst (v := (0 : Int32)) S.1 S.2.1 dMo_weighed_1 (by decide) ?_
  refine lv_bipush (v := (127 : Int32)) S.1 S.2.1 dMo_weighed_2 (by decide) ?_
  obtain ⟨v2, h1, hm⟩ := ob hm
  refine sw_Si (rest := []) S hw (cMo_lies l  hf a1 (0 : Int32) (127 : Int32) h1) kMo_lies wm_Mo_18 rfl rfl hl.1 (Nat.le_of_ble_eq_true rfl) ⟨rfl, rfl, Nat.le_of_ble_eq_true rfl, Nat.le_of_ble_eq_true rfl⟩ ⟨Nat.le_of_ble_eq_true rfl, Nat.le_of_ble_eq_true rfl⟩ dMo_weighed_4 (fun H locs hw _ => ?_)
  refine bif_eq (tgt := 35) S.1 S.2.1 hm dMo_weighed_7 (by decide) (fun hm => ?_) (fun hm => ?_)
  · exact wMo_weighed_35 S hr hlk hf N  μ _ _ _ hm hw (lv_sub hl [0] rfl)
  · refine lv_iload_n S.1 S.2.1 dMo_weighed_10 rfl (lv_at hl 2 rfl) ?_
    refine lv_iconst (v := (0 : Int32)) S.1 S.2.1 dMo_weighed_11 (by decide) ?_
    refine lv_bipush (v := (127 : Int32)) S.1 S.2.1 dMo_weighed_12 (by decide) ?_
    obtain ⟨v7, h6, hm⟩ := ob hm
    refine sw_Si (rest := []) S hw (cMo_lies l  hf a2 (0 : Int32) (127 : Int32) h6) kMo_lies wm_Mo_18 rfl rfl hl.1 (Nat.le_of_ble_eq_true rfl) ⟨rfl, rfl, Nat.le_of_ble_eq_true rfl, Nat.le_of_ble_eq_true rfl⟩ ⟨Nat.le_of_ble_eq_true rfl, Nat.le_of_ble_eq_true rfl⟩ dMo_weighed_14 (fun H locs hw _ => ?_)
    refine bif_eq (tgt := 35) S.1 S.2.1 hm dMo_weighed_17 (by decide) (fun hm => ?_) (fun hm => ?_)
    · exact wMo_weighed_35 S hr hlk hf N  μ _ _ _ hm hw (lv_sub hl [0] rfl)
    · refine lv_iload_n S.1 S.2.1 dMo_weighed_20 rfl (lv_at hl 1 rfl) ?_
      refine lv_iload_n S.1 S.2.1 dMo_weighed_21 rfl (lv_at hl 2 rfl) ?_
      refine lv_iand S.1 S.2.1 dMo_weighed_22 ?_
      refine bif_ne (tgt := 35) S.1 S.2.1 hm dMo_weighed_23 (by decide) (fun hm => ?_) (fun hm => ?_)
      · exact wMo_weighed_35 S hr hlk hf N  μ _ _ _ hm hw (lv_sub hl [0] rfl)
      · refine lv_iload_n S.1 S.2.1 dMo_weighed_26 rfl (lv_at hl 3 rfl) ?_
        refine lv_iconst (v := (0 : Int32)) S.1 S.2.1 dMo_weighed_27 (by decide) ?_
        refine lv_iconst (v := (2 : Int32)) S.1 S.2.1 dMo_weighed_28 (by decide) ?_
        obtain ⟨v9, h8, hm⟩ := ob hm
        refine sw_Si (rest := []) S hw (cMo_lies l  hf a3 (0 : Int32) (2 : Int32) h8) kMo_lies wm_Mo_18 rfl rfl hl.1 (Nat.le_of_ble_eq_true rfl) ⟨rfl, rfl, Nat.le_of_ble_eq_true rfl, Nat.le_of_ble_eq_true rfl⟩ ⟨Nat.le_of_ble_eq_true rfl, Nat.le_of_ble_eq_true rfl⟩ dMo_weighed_29 (fun H locs hw _ => ?_)
        refine bif_ne (tgt := 41) S.1 S.2.1 hm dMo_weighed_32 (by decide) (fun hm => ?_) (fun hm => ?_)
        · refine lv_iload_n S.1 S.2.1 dMo_weighed_41 rfl (lv_at hl 1 rfl) ?_
          refine lv_iload_n S.1 S.2.1 dMo_weighed_42 rfl (lv_at hl 2 rfl) ?_
          refine lv_ior S.1 S.2.1 dMo_weighed_43 ?_
          refine lv_aload_n S.1 S.2.1 dMo_weighed_44 rfl (lv_at hl 0 rfl) ?_
          obtain ⟨⟨v12, μ11⟩, h10, hm⟩ := ob hm
          refine sw_Vi (q := 84) (rest := [.int (a1 ||| a2)]) S hw (cMo_everything l  hf  h10) kMo_everything wm_Mo_426 (is_84 hf).1 (e_Mo (is_84 hf)) rfl rfl rfl rfl hl.1 (Nat.le_of_ble_eq_true rfl) ⟨rfl, rfl, Nat.le_of_ble_eq_true rfl, Nat.le_of_ble_eq_true rfl⟩ ⟨Nat.le_of_ble_eq_true rfl, Nat.le_of_ble_eq_true rfl⟩ dMo_weighed_45 (fun H locs hw _ => ?_)
          refine lv_iconst (v := (-1 : Int32)) S.1 S.2.1 dMo_weighed_48 (by decide) ?_
          refine lv_ixor S.1 S.2.1 dMo_weighed_49 ?_
          refine lv_iand S.1 S.2.1 dMo_weighed_50 ?_
          refine bif_eq (tgt := 61) S.1 S.2.1 hm dMo_weighed_51 (by decide) (fun hm => ?_) (fun hm => ?_)
          · refine lv_bipush (v := (22 : Int32)) S.1 S.2.1 dMo_weighed_61 (by decide) ?_
            refine lv_iconst (v := (3 : Int32)) S.1 S.2.1 dMo_weighed_63 (by decide) ?_
            refine lv_aload_n S.1 S.2.1 dMo_weighed_64 rfl (lv_at hl 0 rfl) ?_
            refine get_Mo (v := .ref (ξ.2.2.2.1 86)) S hw (is_84 hf) 2 (by decide) rfl wf_Mo_28 dMo_weighed_65 ?_
            refine lv_bipush (v := (44 : Int32)) S.1 S.2.1 dMo_weighed_68 (by decide) ?_
            refine sm_iald S hw (is_86 hf) hm dMo_weighed_70 (fun v13 hm => ?_)
            refine lv_imul S.1 S.2.1 dMo_weighed_71 ?_
            refine lv_iadd S.1 S.2.1 dMo_weighed_72 ?_
            refine nm_i hm (fun x14 hm => ?_)
            refine lv_istore (lv' := [(4, .int x14), (0, .ref (ξ.2.2.2.1 84)), (1, .int a1), (2, .int a2), (3, .int a3)]) S.1 S.2.1 dMo_weighed_73 hl (by decide) rfl (fun ls hl => ?_)
            refine lv_aload_n S.1 S.2.1 dMo_weighed_75 rfl (lv_at hl 1 rfl) ?_
            refine get_Mo (v := .ref (ξ.2.2.2.1 86)) S hw (is_84 hf) 2 (by decide) rfl wf_Mo_28 dMo_weighed_76 ?_
            refine lv_bipush (v := (44 : Int32)) S.1 S.2.1 dMo_weighed_79 (by decide) ?_
            refine sm_iald S hw (is_86 hf) hm dMo_weighed_81 (fun v15 hm => ?_)
            refine lv_bipush (v := (6 : Int32)) S.1 S.2.1 dMo_weighed_82 (by decide) ?_
            refine bicmp_ne (tgt := 94) S.1 S.2.1 hm dMo_weighed_84 (by decide) (fun hm => ?_) (fun hm => ?_)
            · refine lv_aload_n S.1 S.2.1 dMo_weighed_94 rfl (lv_at hl 1 rfl) ?_
              refine get_Mo (v := .ref (ξ.2.2.2.1 86)) S hw (is_84 hf) 2 (by decide) rfl wf_Mo_28 dMo_weighed_95 ?_
              refine lv_iload S.1 S.2.1 dMo_weighed_98 (lv_at hl 0 rfl) ?_
              refine lv_iload_n S.1 S.2.1 dMo_weighed_100 rfl (lv_at hl 2 rfl) ?_
              refine sm_iast S hw (is_86 hf) hm dMo_weighed_101 (fun μ16 H locs hm hw => ?_)
              refine lv_aload_n S.1 S.2.1 dMo_weighed_102 rfl (lv_at hl 1 rfl) ?_
              refine get_Mo (v := .ref (ξ.2.2.2.1 86)) S hw (is_84 hf) 2 (by decide) rfl wf_Mo_28 dMo_weighed_103 ?_
              refine lv_iload S.1 S.2.1 dMo_weighed_106 (lv_at hl 0 rfl) ?_
              refine lv_iconst (v := (1 : Int32)) S.1 S.2.1 dMo_weighed_108 (by decide) ?_
              refine lv_iadd S.1 S.2.1 dMo_weighed_109 ?_
              refine lv_iload_n S.1 S.2.1 dMo_weighed_110 rfl (lv_at hl 3 rfl) ?_
              refine sm_iast S hw (is_86 hf) hm dMo_weighed_111 (fun μ17 H locs hm hw => ?_)
              refine lv_aload_n S.1 S.2.1 dMo_weighed_112 rfl (lv_at hl 1 rfl) ?_
              refine get_Mo (v := .ref (ξ.2.2.2.1 86)) S hw (is_84 hf) 2 (by decide) rfl wf_Mo_28 dMo_weighed_113 ?_
              refine lv_iload S.1 S.2.1 dMo_weighed_116 (lv_at hl 0 rfl) ?_
              refine lv_iconst (v := (2 : Int32)) S.1 S.2.1 dMo_weighed_118 (by decide) ?_
              refine lv_iadd S.1 S.2.1 dMo_weighed_119 ?_
              refine lv_iload_n S.1 S.2.1 dMo_weighed_120 rfl (lv_at hl 4 rfl) ?_
              refine sm_iast S hw (is_86 hf) hm dMo_weighed_121 (fun μ18 H locs hm hw => ?_)
              refine lv_aload_n S.1 S.2.1 dMo_weighed_122 rfl (lv_at hl 1 rfl) ?_
              refine get_Mo (v := .ref (ξ.2.2.2.1 86)) S hw (is_84 hf) 2 (by decide) rfl wf_Mo_28 dMo_weighed_123 ?_
              refine lv_bipush (v := (44 : Int32)) S.1 S.2.1 dMo_weighed_126 (by decide) ?_
              refine lv_dup2_11 S.1 S.2.1 dMo_weighed_128 rfl rfl ?_
              refine sm_iald S hw (is_86 hf) hm dMo_weighed_129 (fun v19 hm => ?_)
              refine lv_iconst (v := (1 : Int32)) S.1 S.2.1 dMo_weighed_130 (by decide) ?_
              refine lv_iadd S.1 S.2.1 dMo_weighed_131 ?_
              refine sm_iast S hw (is_86 hf) hm dMo_weighed_132 (fun μ20 H locs hm hw => ?_)
              refine lv_aload_n S.1 S.2.1 dMo_weighed_133 rfl (lv_at hl 1 rfl) ?_
              refine lv_aload_n S.1 S.2.1 dMo_weighed_134 rfl (lv_at hl 1 rfl) ?_
              refine get_Mo (v := .ref (ξ.2.2.2.1 86)) S hw (is_84 hf) 2 (by decide) rfl wf_Mo_28 dMo_weighed_135 ?_
              refine lv_bipush (v := (44 : Int32)) S.1 S.2.1 dMo_weighed_138 (by decide) ?_
              refine sm_iald S hw (is_86 hf) hm dMo_weighed_140 (fun v21 hm => ?_)
              obtain ⟨⟨v24, μ23⟩, h22, hm⟩ := ob hm
              refine sw_Vi (q := 84) (rest := []) S hw (cMo_good l  hf v21 h22) kMo_good wm_Mo_14 (is_84 hf).1 (e_Mo (is_84 hf)) rfl rfl rfl rfl hl.1 (Nat.le_of_ble_eq_true rfl) ⟨rfl, rfl, Nat.le_of_ble_eq_true rfl, Nat.le_of_ble_eq_true rfl⟩ ⟨Nat.le_of_ble_eq_true rfl, Nat.le_of_ble_eq_true rfl⟩ dMo_weighed_141 (fun H locs hw _ => ?_)
              obtain rfl := Option.some.inj hm
              exact sw_iret S hr hlk hw trivial dMo_weighed_144
            · refine lv_aload_n S.1 S.2.1 dMo_weighed_87 rfl (lv_at hl 1 rfl) ?_
              refine lv_bipush (v := (-5 : Int32)) S.1 S.2.1 dMo_weighed_88 (by decide) ?_
              obtain ⟨⟨v27, μ26⟩, h25, hm⟩ := ob hm
              refine sw_Vi (q := 84) (rest := []) S hw (cMo_refuses l  hf (-5 : Int32) h25) kMo_refuses wm_Mo_113 (is_84 hf).1 (e_Mo (is_84 hf)) rfl rfl rfl rfl hl.1 (Nat.le_of_ble_eq_true rfl) ⟨rfl, rfl, Nat.le_of_ble_eq_true rfl, Nat.le_of_ble_eq_true rfl⟩ ⟨Nat.le_of_ble_eq_true rfl, Nat.le_of_ble_eq_true rfl⟩ dMo_weighed_90 (fun H locs hw _ => ?_)
              obtain rfl := Option.some.inj hm
              exact sw_iret S hr hlk hw trivial dMo_weighed_93
          · refine lv_aload_n S.1 S.2.1 dMo_weighed_54 rfl (lv_at hl 0 rfl) ?_
            refine lv_bipush (v := (-2 : Int32)) S.1 S.2.1 dMo_weighed_55 (by decide) ?_
            obtain ⟨⟨v30, μ29⟩, h28, hm⟩ := ob hm
            refine sw_Vi (q := 84) (rest := []) S hw (cMo_refuses l  hf (-2 : Int32) h28) kMo_refuses wm_Mo_113 (is_84 hf).1 (e_Mo (is_84 hf)) rfl rfl rfl rfl hl.1 (Nat.le_of_ble_eq_true rfl) ⟨rfl, rfl, Nat.le_of_ble_eq_true rfl, Nat.le_of_ble_eq_true rfl⟩ ⟨Nat.le_of_ble_eq_true rfl, Nat.le_of_ble_eq_true rfl⟩ dMo_weighed_57 (fun H locs hw _ => ?_)
            obtain rfl := Option.some.inj hm
            exact sw_iret S hr hlk hw trivial dMo_weighed_60
        · exact wMo_weighed_35 S hr hlk hf N  μ _ _ _ hm hw (lv_sub hl [0] rfl)
set_option maxHeartbeats 4000000 in
set_option maxRecDepth 100000 in
theorem cMo_forget (l : Launch) {Γ : sw_C} {A : Nat → Prop} {ξ : sw_x} {g : sw_g} {μ : sw_m} (hf : sw_wf ξ g.2.2) {res : Int32 × sw_m} (hm : fMo_forget μ = some res) : Met l yMo_forget (Cond.code yMo_forget prog_10_method_123_code 2 (some .int) :: sw_tb) rmMo_forget (va_Pc [.ref (ξ.2.2.2.1 84)] (sw_V Γ A ξ g μ)) (sw_Qi Γ A ξ g res.2 res.1 (True)) 0 0 A := by
  refine Met.ofW (cc := prog_10_method_123_code) (maxL := 2) (ret := some .int) (by decide) rfl ?_
  intro p e s m args below meth c s₁ B hml hv
  obtain ⟨rfl, hv⟩ := hv
  have S : CallFix p m c prog_10_method_123_code 2 s _ (Cond.code yMo_forget prog_10_method_123_code 2 (some .int) :: sw_tb) R_Mo := ⟨B.exec, B.bytes, hml, findClass_of_methodNamed B.named, atoms_spec (ws := (Cond.code yMo_forget prog_10_method_123_code 2 (some .int) :: sw_tb)) B.pre⟩
  have hr := B.returns
  have hlk := B.notSynchronized
  have hw := sw_begin hv
  have hl := lv_entry [.ref (ξ.2.2.2.1 84)] (n := 2) (Nat.le_of_ble_eq_true rfl)
  rw [lg_entry_eq]
  generalize (lg_sl [.ref (ξ.2.2.2.1 84)] ++ List.replicate (2 - (lg_sl [.ref (ξ.2.2.2.1 84)]).length) Slot.unset).toArray = ls at hl ⊢
  have hl : lv_has ls 2 [(0, .ref (ξ.2.2.2.1 84))] := hl
  unfold fMo_forget at hm
  refine lv_aload_n S.1 S.2.1 dMo_forget_0 rfl (lv_at hl 0 rfl) ?_
  refine get_Mo (v := .ref (ξ.2.2.2.1 86)) S hw (is_84 hf) 2 (by decide) rfl wf_Mo_28 dMo_forget_1 ?_
  refine lv_bipush (v := (44 : Int32)) S.1 S.2.1 dMo_forget_4 (by decide) ?_
  refine sm_iald S hw (is_86 hf) hm dMo_forget_6 (fun v1 hm => ?_)
  refine lv_istore_n (lv' := [(1, .int v1), (0, .ref (ξ.2.2.2.1 84))]) S.1 S.2.1 dMo_forget_7 rfl hl (by decide) rfl (fun ls hl => ?_)
  refine lv_aload_n S.1 S.2.1 dMo_forget_8 rfl (lv_at hl 1 rfl) ?_
  refine get_Mo (v := .ref (ξ.2.2.2.1 86)) S hw (is_84 hf) 2 (by decide) rfl wf_Mo_28 dMo_forget_9 ?_
  refine lv_bipush (v := (44 : Int32)) S.1 S.2.1 dMo_forget_12 (by decide) ?_
  refine lv_iconst (v := (0 : Int32)) S.1 S.2.1 dMo_forget_14 (by decide) ?_
  refine sm_iast S hw (is_86 hf) hm dMo_forget_15 (fun μ2 H locs hm hw => ?_)
  refine lv_iload_n S.1 S.2.1 dMo_forget_16 rfl (lv_at hl 0 rfl) ?_
  obtain rfl := Option.some.inj hm
  exact sw_iret S hr hlk hw trivial dMo_forget_17
set_option maxHeartbeats 4000000 in
set_option maxRecDepth 100000 in
theorem wMo_heavyBy_27 {l : Launch} {p : Program} {e : Env} {s : State} {m : MethodId} {args : Array Value} {below : List Frame} {meth : Method} {c : Code} {Γ : sw_C} {A : Nat → Prop} {ξ : sw_x} {g : sw_g} {res : Int32 × sw_m} (S : CallFix p m c prog_10_method_124_code 4 s args (Cond.code yMo_heavyBy prog_10_method_124_code 4 (some .int) :: sw_tb) R_Mo) (hr : meth.sig.returnType = some .int) (hlk : meth.locks = false) (hf : sw_wf ξ g.2.2) (N : Nat) : ∀ (μ : sw_m) (u1 : Int32) (s0 : Int32) (H : Heap) (locs : List Loc) (ls : Array Slot), fMo_heavyBy_27 N   μ u1 s0 = some res → sw_S Γ A ξ g μ s H locs → lv_has ls 4 [(0, .ref (ξ.2.2.2.1 84)), (1, .int u1)] → W p l e (headSpec (Cond.code yMo_heavyBy prog_10_method_124_code 4 (some .int) :: sw_tb) rmMo_heavyBy).room s m args below meth c H locs 0 0 (MQ below (sw_Qi Γ A ξ g res.2 res.1 (True)) args s 0 0 A) (F0 m 27 ls [.int s0]) := by
  intro μ u1 s0 H locs ls hm hw hl
  unfold fMo_heavyBy_27 at hm
  refine lv_istore_n (lv' := [(3, .int s0), (0, .ref (ξ.2.2.2.1 84)), (1, .int u1)]) S.1 S.2.1 dMo_heavyBy_27 rfl hl (by decide) rfl (fun ls hl => ?_)
  refine lv_aload_n S.1 S.2.1 dMo_heavyBy_28 rfl (lv_at hl 1 rfl) ?_
  refine lv_iload_n S.1 S.2.1 dMo_heavyBy_29 rfl (lv_at hl 2 rfl) ?_
  obtain ⟨⟨v3, μ2⟩, h1, hm⟩ := ob hm
  refine sw_Vi (q := 84) (rest := []) S hw (cMo_heavyOf l N hf u1 h1) kMo_heavyOf wm_Mo_429 (is_84 hf).1 (e_Mo (is_84 hf)) rfl rfl rfl rfl hl.1 (Nat.le_of_ble_eq_true rfl) ⟨rfl, rfl, Nat.le_of_ble_eq_true rfl, Nat.le_of_ble_eq_true rfl⟩ ⟨Nat.le_of_ble_eq_true rfl, Nat.le_of_ble_eq_true rfl⟩ dMo_heavyBy_30 (fun H locs hw _ => ?_)
  refine lv_iload_n S.1 S.2.1 dMo_heavyBy_33 rfl (lv_at hl 0 rfl) ?_
  refine lv_iadd S.1 S.2.1 dMo_heavyBy_34 ?_
  obtain rfl := Option.some.inj hm
  exact sw_iret S hr hlk hw trivial dMo_heavyBy_35
set_option maxHeartbeats 4000000 in
set_option maxRecDepth 100000 in
theorem cMo_heavyBy (l : Launch) (N : Nat) {Γ : sw_C} {A : Nat → Prop} {ξ : sw_x} {g : sw_g} {μ : sw_m} (hf : sw_wf ξ g.2.2) (a1 : Int32) (a2 : Int32) {res : Int32 × sw_m} (hm : fMo_heavyBy N μ a1 a2 = some res) : Met l yMo_heavyBy (Cond.code yMo_heavyBy prog_10_method_124_code 4 (some .int) :: sw_tb) rmMo_heavyBy (va_Pc [.ref (ξ.2.2.2.1 84), .int a1, .int a2] (sw_V Γ A ξ g μ)) (sw_Qi Γ A ξ g res.2 res.1 (True)) 0 0 A := by
  refine Met.ofW (cc := prog_10_method_124_code) (maxL := 4) (ret := some .int) (by decide) rfl ?_
  intro p e s m args below meth c s₁ B hml hv
  obtain ⟨rfl, hv⟩ := hv
  have S : CallFix p m c prog_10_method_124_code 4 s _ (Cond.code yMo_heavyBy prog_10_method_124_code 4 (some .int) :: sw_tb) R_Mo := ⟨B.exec, B.bytes, hml, findClass_of_methodNamed B.named, atoms_spec (ws := (Cond.code yMo_heavyBy prog_10_method_124_code 4 (some .int) :: sw_tb)) B.pre⟩
  have hr := B.returns
  have hlk := B.notSynchronized
  have hw := sw_begin hv
  have hl := lv_entry [.ref (ξ.2.2.2.1 84), .int a1, .int a2] (n := 4) (Nat.le_of_ble_eq_true rfl)
  rw [lg_entry_eq]
  generalize (lg_sl [.ref (ξ.2.2.2.1 84), .int a1, .int a2] ++ List.replicate (4 - (lg_sl [.ref (ξ.2.2.2.1 84), .int a1, .int a2]).length) Slot.unset).toArray = ls at hl ⊢
  have hl : lv_has ls 4 [(0, .ref (ξ.2.2.2.1 84)), (1, .int a1), (2, .int a2)] := hl
  unfold fMo_heavyBy at hm
  refine lv_iload_n S.1 S.2.1 dMo_heavyBy_0 rfl (lv_at hl 2 rfl) ?_
  refine lv_bipush (v := (14 : Int32)) S.1 S.2.1 dMo_heavyBy_1 (by decide) ?_
  refine bicmp_ge (tgt := 26) S.1 S.2.1 hm dMo_heavyBy_3 (by decide) (fun hm => ?_) (fun hm => ?_)
  · refine lv_iconst (v := (0 : Int32)) S.1 S.2.1 dMo_heavyBy_26 (by decide) ?_
    exact wMo_heavyBy_27 S hr hlk hf N  μ a1 (0 : Int32) _ _ _ hm hw (lv_sub hl [0, 1] rfl)
  · refine lv_iload_n S.1 S.2.1 dMo_heavyBy_6 rfl (lv_at hl 1 rfl) ?_
    refine lv_iload_n S.1 S.2.1 dMo_heavyBy_7 rfl (lv_at hl 2 rfl) ?_
    refine lv_iconst (v := (2 : Int32)) S.1 S.2.1 dMo_heavyBy_8 (by decide) ?_
    refine lv_idiv S.1 S.2.1 dMo_heavyBy_9 (by decide) ?_
    obtain ⟨v5, h4, hm⟩ := ob hm
    refine sw_Si (rest := []) S hw (cMo_isIn l  hf a1 (a2 / (2 : Int32)) h4) kMo_isIn wm_Mo_423 rfl rfl hl.1 (Nat.le_of_ble_eq_true rfl) ⟨rfl, rfl, Nat.le_of_ble_eq_true rfl, Nat.le_of_ble_eq_true rfl⟩ ⟨Nat.le_of_ble_eq_true rfl, Nat.le_of_ble_eq_true rfl⟩ dMo_heavyBy_10 (fun H locs hw _ => ?_)
    refine bif_eq (tgt := 26) S.1 S.2.1 hm dMo_heavyBy_13 (by decide) (fun hm => ?_) (fun hm => ?_)
    · refine lv_iconst (v := (0 : Int32)) S.1 S.2.1 dMo_heavyBy_26 (by decide) ?_
      exact wMo_heavyBy_27 S hr hlk hf N  μ a1 (0 : Int32) _ _ _ hm hw (lv_sub hl [0, 1] rfl)
    · refine lv_iconst (v := (1 : Int32)) S.1 S.2.1 dMo_heavyBy_16 (by decide) ?_
      refine lv_iload_n S.1 S.2.1 dMo_heavyBy_17 rfl (lv_at hl 2 rfl) ?_
      refine lv_iconst (v := (2 : Int32)) S.1 S.2.1 dMo_heavyBy_18 (by decide) ?_
      refine lv_irem S.1 S.2.1 dMo_heavyBy_19 (by decide) ?_
      refine lv_iconst (v := (2 : Int32)) S.1 S.2.1 dMo_heavyBy_20 (by decide) ?_
      refine lv_imul S.1 S.2.1 dMo_heavyBy_21 ?_
      refine lv_isub S.1 S.2.1 dMo_heavyBy_22 ?_
      refine lv_goto (tgt := 27) S.1 S.2.1 dMo_heavyBy_23 (by decide) ?_
      exact wMo_heavyBy_27 S hr hlk hf N  μ a1 ((1 : Int32) - ((a2 - a2 / (2 : Int32) * (2 : Int32)) * (2 : Int32))) _ _ _ hm hw (lv_sub hl [0, 1] rfl)
set_option maxHeartbeats 4000000 in
set_option maxRecDepth 100000 in
theorem cMo_comesOf (l : Launch) (N : Nat) {Γ : sw_C} {A : Nat → Prop} {ξ : sw_x} {g : sw_g} {μ : sw_m} (hf : sw_wf ξ g.2.2) (a1 : Int32) (a2 : Int32) (a3 : Int32) {res : Int32 × sw_m} (hm : fMo_comesOf N μ a1 a2 a3 = some res) : Met l yMo_comesOf (Cond.code yMo_comesOf prog_10_method_125_code 5 (some .int) :: sw_tb) rmMo_comesOf (va_Pc [.ref (ξ.2.2.2.1 84), .int a1, .int a2, .int a3] (sw_V Γ A ξ g μ)) (sw_Qi Γ A ξ g res.2 res.1 (True)) 0 0 A := by
  refine Met.ofW (cc := prog_10_method_125_code) (maxL := 5) (ret := some .int) (by decide) rfl ?_
  intro p e s m args below meth c s₁ B hml hv
  obtain ⟨rfl, hv⟩ := hv
  have S : CallFix p m c prog_10_method_125_code 5 s _ (Cond.code yMo_comesOf prog_10_method_125_code 5 (some .int) :: sw_tb) R_Mo := ⟨B.exec, B.bytes, hml, findClass_of_methodNamed B.named, atoms_spec (ws := (Cond.code yMo_comesOf prog_10_method_125_code 5 (some .int) :: sw_tb)) B.pre⟩
  have hr := B.returns
  have hlk := B.notSynchronized
  have hw := sw_begin hv
  have hl := lv_entry [.ref (ξ.2.2.2.1 84), .int a1, .int a2, .int a3] (n := 5) (Nat.le_of_ble_eq_true rfl)
  rw [lg_entry_eq]
  generalize (lg_sl [.ref (ξ.2.2.2.1 84), .int a1, .int a2, .int a3] ++ List.replicate (5 - (lg_sl [.ref (ξ.2.2.2.1 84), .int a1, .int a2, .int a3]).length) Slot.unset).toArray = ls at hl ⊢
  have hl : lv_has ls 5 [(0, .ref (ξ.2.2.2.1 84)), (1, .int a1), (2, .int a2), (3, .int a3)] := hl
  unfold fMo_comesOf at hm
  refine lv_aload_n S.1 S.2.1 dMo_comesOf_0 rfl (lv_at hl 0 rfl) ?_
  refine lv_iload_n S.1 S.2.1 dMo_comesOf_1 rfl (lv_at hl 1 rfl) ?_
  refine lv_iload_n S.1 S.2.1 dMo_comesOf_2 rfl (lv_at hl 3 rfl) ?_
  obtain ⟨⟨v3, μ2⟩, h1, hm⟩ := ob hm
  refine sw_Vi (q := 84) (rest := []) S hw (cMo_heavyBy l N hf a1 a3 h1) kMo_heavyBy wm_Mo_447 (is_84 hf).1 (e_Mo (is_84 hf)) rfl rfl rfl rfl hl.1 (Nat.le_of_ble_eq_true rfl) ⟨rfl, rfl, Nat.le_of_ble_eq_true rfl, Nat.le_of_ble_eq_true rfl⟩ ⟨Nat.le_of_ble_eq_true rfl, Nat.le_of_ble_eq_true rfl⟩ dMo_comesOf_3 (fun H locs hw _ => ?_)
  refine lv_aload_n S.1 S.2.1 dMo_comesOf_6 rfl (lv_at hl 0 rfl) ?_
  refine lv_iload_n S.1 S.2.1 dMo_comesOf_7 rfl (lv_at hl 2 rfl) ?_
  refine lv_iload_n S.1 S.2.1 dMo_comesOf_8 rfl (lv_at hl 3 rfl) ?_
  obtain ⟨⟨v6, μ5⟩, h4, hm⟩ := ob hm
  refine sw_Vi (q := 84) (rest := [.int v3]) S hw (cMo_heavyBy l N hf a2 a3 h4) kMo_heavyBy wm_Mo_447 (is_84 hf).1 (e_Mo (is_84 hf)) rfl rfl rfl rfl hl.1 (Nat.le_of_ble_eq_true rfl) ⟨rfl, rfl, Nat.le_of_ble_eq_true rfl, Nat.le_of_ble_eq_true rfl⟩ ⟨Nat.le_of_ble_eq_true rfl, Nat.le_of_ble_eq_true rfl⟩ dMo_comesOf_9 (fun H locs hw _ => ?_)
  refine lv_isub S.1 S.2.1 dMo_comesOf_12 ?_
  refine nm_i hm (fun x7 hm => ?_)
  refine lv_istore (lv' := [(4, .int x7), (0, .ref (ξ.2.2.2.1 84)), (1, .int a1), (2, .int a2), (3, .int a3)]) S.1 S.2.1 dMo_comesOf_13 hl (by decide) rfl (fun ls hl => ?_)
  refine lv_iload S.1 S.2.1 dMo_comesOf_15 (lv_at hl 0 rfl) ?_
  refine bif_ne (tgt := 24) S.1 S.2.1 hm dMo_comesOf_17 (by decide) (fun hm => ?_) (fun hm => ?_)
  · refine lv_iload S.1 S.2.1 dMo_comesOf_24 (lv_at hl 0 rfl) ?_
    refine bif_le (tgt := 33) S.1 S.2.1 hm dMo_comesOf_26 (by decide) (fun hm => ?_) (fun hm => ?_)
    · refine lv_iconst (v := (2 : Int32)) S.1 S.2.1 dMo_comesOf_33 (by decide) ?_
      obtain rfl := Option.some.inj hm
      exact sw_iret S hr hlk hw trivial dMo_comesOf_34
    · refine lv_iconst (v := (1 : Int32)) S.1 S.2.1 dMo_comesOf_29 (by decide) ?_
      refine lv_goto (tgt := 34) S.1 S.2.1 dMo_comesOf_30 (by decide) ?_
      obtain rfl := Option.some.inj hm
      exact sw_iret S hr hlk hw trivial dMo_comesOf_34
  · refine lv_iconst (v := (0 : Int32)) S.1 S.2.1 dMo_comesOf_20 (by decide) ?_
    refine lv_goto (tgt := 34) S.1 S.2.1 dMo_comesOf_21 (by decide) ?_
    obtain rfl := Option.some.inj hm
    exact sw_iret S hr hlk hw trivial dMo_comesOf_34
set_option maxHeartbeats 4000000 in
set_option maxRecDepth 100000 in
theorem wMo_isSo_24 {l : Launch} {p : Program} {e : Env} {s : State} {m : MethodId} {args : Array Value} {below : List Frame} {meth : Method} {c : Code} {Γ : sw_C} {A : Nat → Prop} {ξ : sw_x} {g : sw_g} {res : Int32 × sw_m} (S : CallFix p m c prog_10_method_126_code 5 s args (Cond.code yMo_isSo prog_10_method_126_code 5 (some .boolean) :: sw_tb) R_Mo) (hr : meth.sig.returnType = some .boolean) (hlk : meth.locks = false) (hf : sw_wf ξ g.2.2) (N : Nat) : ∀ (fu : Nat) (μ : sw_m) (u1 : Int32) (u2 : Int32) (u3 : Int32) (H : Heap) (locs : List Loc) (ls : Array Slot), fMo_isSo_24 N   fu μ u1 u2 u3 = some res → sw_S Γ A ξ g μ s H locs → lv_has ls 5 [(0, .ref (ξ.2.2.2.1 84)), (1, .int u1), (2, .int u2), (3, .int u3)] → W p l e (headSpec (Cond.code yMo_isSo prog_10_method_126_code 5 (some .boolean) :: sw_tb) rmMo_isSo).room s m args below meth c H locs 0 0 (MQ below (sw_Qi Γ A ξ g res.2 res.1 (True)) args s 0 0 A) (F0 m 24 ls []) := by
  intro fu
  induction fu with
  | zero => intro μ u1 u2 u3 H locs ls hm; rw [fMo_isSo_24.eq_1] at hm; cases hm
  | succ fu ih =>
    intro μ u1 u2 u3 H locs ls hm hw hl
    rw [fMo_isSo_24.eq_2] at hm
    refine lv_iload_n S.1 S.2.1 dMo_isSo_24 rfl (lv_at hl 3 rfl) ?_
    refine lv_aload_n S.1 S.2.1 dMo_isSo_25 rfl (lv_at hl 0 rfl) ?_
    refine get_Mo (v := .ref (ξ.2.2.2.1 86)) S hw (is_84 hf) 2 (by decide) rfl wf_Mo_28 dMo_isSo_26 ?_
    refine lv_bipush (v := (44 : Int32)) S.1 S.2.1 dMo_isSo_29 (by decide) ?_
    refine sm_iald S hw (is_86 hf) hm dMo_isSo_31 (fun v1 hm => ?_)
    refine bicmp_ge (tgt := 92) S.1 S.2.1 hm dMo_isSo_32 (by decide) (fun hm => ?_) (fun hm => ?_)
    · refine lv_iload_n S.1 S.2.1 dMo_isSo_92 rfl (lv_at hl 2 rfl) ?_
      obtain ⟨hz, hm⟩ := ob_tz hm
      obtain rfl := Option.some.inj hm
      exact sw_zret S hr hlk hz hw trivial dMo_isSo_93
    · refine lv_iload_n S.1 S.2.1 dMo_isSo_35 rfl (lv_at hl 2 rfl) ?_
      refine bif_eq (tgt := 92) S.1 S.2.1 hm dMo_isSo_36 (by decide) (fun hm => ?_) (fun hm => ?_)
      · refine lv_iload_n S.1 S.2.1 dMo_isSo_92 rfl (lv_at hl 2 rfl) ?_
        obtain ⟨hz, hm⟩ := ob_tz hm
        obtain rfl := Option.some.inj hm
        exact sw_zret S hr hlk hz hw trivial dMo_isSo_93
      · refine lv_bipush (v := (22 : Int32)) S.1 S.2.1 dMo_isSo_39 (by decide) ?_
        refine lv_iconst (v := (3 : Int32)) S.1 S.2.1 dMo_isSo_41 (by decide) ?_
        refine lv_iload_n S.1 S.2.1 dMo_isSo_42 rfl (lv_at hl 3 rfl) ?_
        refine lv_imul S.1 S.2.1 dMo_isSo_43 ?_
        refine lv_iadd S.1 S.2.1 dMo_isSo_44 ?_
        refine nm_i hm (fun x2 hm => ?_)
        refine lv_istore (lv' := [(4, .int x2), (0, .ref (ξ.2.2.2.1 84)), (1, .int u1), (2, .int u2), (3, .int u3)]) S.1 S.2.1 dMo_isSo_45 hl (by decide) rfl (fun ls hl => ?_)
        refine lv_aload_n S.1 S.2.1 dMo_isSo_47 rfl (lv_at hl 1 rfl) ?_
        refine lv_aload_n S.1 S.2.1 dMo_isSo_48 rfl (lv_at hl 1 rfl) ?_
        refine get_Mo (v := .ref (ξ.2.2.2.1 86)) S hw (is_84 hf) 2 (by decide) rfl wf_Mo_28 dMo_isSo_49 ?_
        refine lv_iload S.1 S.2.1 dMo_isSo_52 (lv_at hl 0 rfl) ?_
        refine sm_iald S hw (is_86 hf) hm dMo_isSo_54 (fun v3 hm => ?_)
        refine lv_aload_n S.1 S.2.1 dMo_isSo_55 rfl (lv_at hl 1 rfl) ?_
        refine get_Mo (v := .ref (ξ.2.2.2.1 86)) S hw (is_84 hf) 2 (by decide) rfl wf_Mo_28 dMo_isSo_56 ?_
        refine lv_iload S.1 S.2.1 dMo_isSo_59 (lv_at hl 0 rfl) ?_
        refine lv_iconst (v := (1 : Int32)) S.1 S.2.1 dMo_isSo_61 (by decide) ?_
        refine lv_iadd S.1 S.2.1 dMo_isSo_62 ?_
        refine sm_iald S hw (is_86 hf) hm dMo_isSo_63 (fun v4 hm => ?_)
        refine lv_iload_n S.1 S.2.1 dMo_isSo_64 rfl (lv_at hl 2 rfl) ?_
        obtain ⟨⟨v7, μ6⟩, h5, hm⟩ := ob hm
        refine sw_Vi (q := 84) (rest := []) S hw (cMo_comesOf l N hf v3 v4 u1 h5) kMo_comesOf wm_Mo_450 (is_84 hf).1 (e_Mo (is_84 hf)) rfl rfl rfl rfl hl.1 (Nat.le_of_ble_eq_true rfl) ⟨rfl, rfl, Nat.le_of_ble_eq_true rfl, Nat.le_of_ble_eq_true rfl⟩ ⟨Nat.le_of_ble_eq_true rfl, Nat.le_of_ble_eq_true rfl⟩ dMo_isSo_65 (fun H locs hw _ => ?_)
        refine lv_aload_n S.1 S.2.1 dMo_isSo_68 rfl (lv_at hl 1 rfl) ?_
        refine get_Mo (v := .ref (ξ.2.2.2.1 86)) S hw (is_84 hf) 2 (by decide) rfl wf_Mo_28 dMo_isSo_69 ?_
        refine lv_iload S.1 S.2.1 dMo_isSo_72 (lv_at hl 0 rfl) ?_
        refine lv_iconst (v := (2 : Int32)) S.1 S.2.1 dMo_isSo_74 (by decide) ?_
        refine lv_iadd S.1 S.2.1 dMo_isSo_75 ?_
        refine sm_iald S hw (is_86 hf) hm dMo_isSo_76 (fun v8 hm => ?_)
        refine bicmp_ne (tgt := 84) S.1 S.2.1 hm dMo_isSo_77 (by decide) (fun hm => ?_) (fun hm => ?_)
        · refine lv_iconst (v := (0 : Int32)) S.1 S.2.1 dMo_isSo_84 (by decide) ?_
          refine lv_istore_n (lv' := [(2, .int (0 : Int32)), (4, .int x2), (0, .ref (ξ.2.2.2.1 84)), (1, .int u1), (3, .int u3)]) S.1 S.2.1 dMo_isSo_85 rfl hl (by decide) rfl (fun ls hl => ?_)
          obtain ⟨x9, ex9, hm⟩ := nm_x hm
          refine lv_iinc (v := x9) (lv' := [(3, .int x9), (2, .int (0 : Int32)), (4, .int x2), (0, .ref (ξ.2.2.2.1 84)), (1, .int u1)]) S.1 S.2.1 dMo_isSo_86 hl (k := 4) rfl (by rw [ex9]; rfl) (by decide) rfl (fun ls hl => ?_)
          refine lv_goto (tgt := 24) S.1 S.2.1 dMo_isSo_89 (by decide) ?_
          exact ih μ6 u1 (0 : Int32) x9 _ _ _ hm hw (lv_sub hl [3, 4, 1, 0] rfl)
        · refine lv_iconst (v := (1 : Int32)) S.1 S.2.1 dMo_isSo_80 (by decide) ?_
          refine lv_goto (tgt := 85) S.1 S.2.1 dMo_isSo_81 (by decide) ?_
          refine lv_istore_n (lv' := [(2, .int (1 : Int32)), (4, .int x2), (0, .ref (ξ.2.2.2.1 84)), (1, .int u1), (3, .int u3)]) S.1 S.2.1 dMo_isSo_85 rfl hl (by decide) rfl (fun ls hl => ?_)
          obtain ⟨x10, ex10, hm⟩ := nm_x hm
          refine lv_iinc (v := x10) (lv' := [(3, .int x10), (2, .int (1 : Int32)), (4, .int x2), (0, .ref (ξ.2.2.2.1 84)), (1, .int u1)]) S.1 S.2.1 dMo_isSo_86 hl (k := 4) rfl (by rw [ex10]; rfl) (by decide) rfl (fun ls hl => ?_)
          refine lv_goto (tgt := 24) S.1 S.2.1 dMo_isSo_89 (by decide) ?_
          exact ih μ6 u1 (1 : Int32) x10 _ _ _ hm hw (lv_sub hl [3, 4, 1, 0] rfl)
set_option maxHeartbeats 4000000 in
set_option maxRecDepth 100000 in
theorem cMo_isSo (l : Launch) (N : Nat) {Γ : sw_C} {A : Nat → Prop} {ξ : sw_x} {g : sw_g} {μ : sw_m} (hf : sw_wf ξ g.2.2) (a1 : Int32) {res : Int32 × sw_m} (hm : fMo_isSo N μ a1 = some res) : Met l yMo_isSo (Cond.code yMo_isSo prog_10_method_126_code 5 (some .boolean) :: sw_tb) rmMo_isSo (va_Pc [.ref (ξ.2.2.2.1 84), .int a1] (sw_V Γ A ξ g μ)) (sw_Qi Γ A ξ g res.2 res.1 (True)) 0 0 A := by
  refine Met.ofW (cc := prog_10_method_126_code) (maxL := 5) (ret := some .boolean) (by decide) rfl ?_
  intro p e s m args below meth c s₁ B hml hv
  obtain ⟨rfl, hv⟩ := hv
  have S : CallFix p m c prog_10_method_126_code 5 s _ (Cond.code yMo_isSo prog_10_method_126_code 5 (some .boolean) :: sw_tb) R_Mo := ⟨B.exec, B.bytes, hml, findClass_of_methodNamed B.named, atoms_spec (ws := (Cond.code yMo_isSo prog_10_method_126_code 5 (some .boolean) :: sw_tb)) B.pre⟩
  have hr := B.returns
  have hlk := B.notSynchronized
  have hw := sw_begin hv
  have hl := lv_entry [.ref (ξ.2.2.2.1 84), .int a1] (n := 5) (Nat.le_of_ble_eq_true rfl)
  rw [lg_entry_eq]
  generalize (lg_sl [.ref (ξ.2.2.2.1 84), .int a1] ++ List.replicate (5 - (lg_sl [.ref (ξ.2.2.2.1 84), .int a1]).length) Slot.unset).toArray = ls at hl ⊢
  have hl : lv_has ls 5 [(0, .ref (ξ.2.2.2.1 84)), (1, .int a1)] := hl
  unfold fMo_isSo at hm
  refine lv_iload_n S.1 S.2.1 dMo_isSo_0 rfl (lv_at hl 1 rfl) ?_
  refine lv_bipush (v := (14 : Int32)) S.1 S.2.1 dMo_isSo_1 (by decide) ?_
  refine bicmp_eq (tgt := 16) S.1 S.2.1 hm dMo_isSo_3 (by decide) (fun hm => ?_) (fun hm => ?_)
  · refine lv_iconst (v := (1 : Int32)) S.1 S.2.1 dMo_isSo_16 (by decide) ?_
    refine lv_goto (tgt := 21) S.1 S.2.1 dMo_isSo_17 (by decide) ?_
    refine lv_istore_n (lv' := [(2, .int (1 : Int32)), (0, .ref (ξ.2.2.2.1 84)), (1, .int a1)]) S.1 S.2.1 dMo_isSo_21 rfl hl (by decide) rfl (fun ls hl => ?_)
    refine lv_iconst (v := (0 : Int32)) S.1 S.2.1 dMo_isSo_22 (by decide) ?_
    refine lv_istore_n (lv' := [(3, .int (0 : Int32)), (2, .int (1 : Int32)), (0, .ref (ξ.2.2.2.1 84)), (1, .int a1)]) S.1 S.2.1 dMo_isSo_23 rfl hl (by decide) rfl (fun ls hl => ?_)
    exact wMo_isSo_24 S hr hlk hf N  N μ a1 (1 : Int32) (0 : Int32) _ _ _ hm hw (lv_sub hl [2, 3, 1, 0] rfl)
  · refine lv_iload_n S.1 S.2.1 dMo_isSo_6 rfl (lv_at hl 1 rfl) ?_
    refine lv_iconst (v := (2 : Int32)) S.1 S.2.1 dMo_isSo_7 (by decide) ?_
    refine lv_idiv S.1 S.2.1 dMo_isSo_8 (by decide) ?_
    refine lv_aload_n S.1 S.2.1 dMo_isSo_9 rfl (lv_at hl 0 rfl) ?_
    obtain ⟨⟨v13, μ12⟩, h11, hm⟩ := ob hm
    refine sw_Vi (q := 84) (rest := [.int (a1 / (2 : Int32))]) S hw (cMo_many l  hf  h11) kMo_many wm_Mo_119 (is_84 hf).1 (e_Mo (is_84 hf)) rfl rfl rfl rfl hl.1 (Nat.le_of_ble_eq_true rfl) ⟨rfl, rfl, Nat.le_of_ble_eq_true rfl, Nat.le_of_ble_eq_true rfl⟩ ⟨Nat.le_of_ble_eq_true rfl, Nat.le_of_ble_eq_true rfl⟩ dMo_isSo_10 (fun H locs hw _ => ?_)
    refine bicmp_ge (tgt := 20) S.1 S.2.1 hm dMo_isSo_13 (by decide) (fun hm => ?_) (fun hm => ?_)
    · refine lv_iconst (v := (0 : Int32)) S.1 S.2.1 dMo_isSo_20 (by decide) ?_
      refine lv_istore_n (lv' := [(2, .int (0 : Int32)), (0, .ref (ξ.2.2.2.1 84)), (1, .int a1)]) S.1 S.2.1 dMo_isSo_21 rfl hl (by decide) rfl (fun ls hl => ?_)
      refine lv_iconst (v := (0 : Int32)) S.1 S.2.1 dMo_isSo_22 (by decide) ?_
      refine lv_istore_n (lv' := [(3, .int (0 : Int32)), (2, .int (0 : Int32)), (0, .ref (ξ.2.2.2.1 84)), (1, .int a1)]) S.1 S.2.1 dMo_isSo_23 rfl hl (by decide) rfl (fun ls hl => ?_)
      exact wMo_isSo_24 S hr hlk hf N  N μ12 a1 (0 : Int32) (0 : Int32) _ _ _ hm hw (lv_sub hl [2, 3, 1, 0] rfl)
    · refine lv_iconst (v := (1 : Int32)) S.1 S.2.1 dMo_isSo_16 (by decide) ?_
      refine lv_goto (tgt := 21) S.1 S.2.1 dMo_isSo_17 (by decide) ?_
      refine lv_istore_n (lv' := [(2, .int (1 : Int32)), (0, .ref (ξ.2.2.2.1 84)), (1, .int a1)]) S.1 S.2.1 dMo_isSo_21 rfl hl (by decide) rfl (fun ls hl => ?_)
      refine lv_iconst (v := (0 : Int32)) S.1 S.2.1 dMo_isSo_22 (by decide) ?_
      refine lv_istore_n (lv' := [(3, .int (0 : Int32)), (2, .int (1 : Int32)), (0, .ref (ξ.2.2.2.1 84)), (1, .int a1)]) S.1 S.2.1 dMo_isSo_23 rfl hl (by decide) rfl (fun ls hl => ?_)
      exact wMo_isSo_24 S hr hlk hf N  N μ12 a1 (1 : Int32) (0 : Int32) _ _ _ hm hw (lv_sub hl [2, 3, 1, 0] rfl)
