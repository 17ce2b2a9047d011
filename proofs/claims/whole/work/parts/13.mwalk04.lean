set_option maxHeartbeats 4000000 in
set_option maxRecDepth 100000 in
theorem wMo_laysOff_33 {l : Launch} {p : Program} {e : Env} {s : State} {m : MethodId} {args : Array Value} {below : List Frame} {meth : Method} {c : Code} {Γ : sw_C} {A : Nat → Prop} {ξ : sw_x} {g : sw_g} {res : sw_m} (S : CallFix p m c prog_10_method_118_code 4 s args (Cond.code yMo_laysOff prog_10_method_118_code 4 (none) :: sw_tb) R_Mo) (hr : meth.sig.returnType = none) (hlk : meth.locks = false) (hf : sw_wf ξ g.2.2) (N : Nat) (k11 : sw_m → Int32 → Int32 → Option (sw_m)) (hk11 : ∀ (μ : sw_m) (u1 : Int32) (u2 : Int32) (H : Heap) (locs : List Loc) (ls : Array Slot), k11 μ u1 u2 = some res → sw_S Γ A ξ g μ s H locs → lv_has ls 4 [(0, .ref (ξ.2.2.2.1 84)), (1, .int u1), (2, .int u2)] → W p l e (headSpec (Cond.code yMo_laysOff prog_10_method_118_code 4 (none) :: sw_tb) rmMo_laysOff).room s m args below meth c H locs 0 0 (MQ below (sw_Qv Γ A ξ g res (True)) args s 0 0 A) (F0 m 11 ls [])) : ∀ (fu : Nat) (μ : sw_m) (u1 : Int32) (u2 : Int32) (u3 : Int32) (H : Heap) (locs : List Loc) (ls : Array Slot), fMo_laysOff_33 N  k11 fu μ u1 u2 u3 = some res → sw_S Γ A ξ g μ s H locs → lv_has ls 4 [(0, .ref (ξ.2.2.2.1 84)), (1, .int u1), (2, .int u2), (3, .int u3)] → W p l e (headSpec (Cond.code yMo_laysOff prog_10_method_118_code 4 (none) :: sw_tb) rmMo_laysOff).room s m args below meth c H locs 0 0 (MQ below (sw_Qv Γ A ξ g res (True)) args s 0 0 A) (F0 m 33 ls []) := by
  intro fu
  induction fu with
  | zero => intro μ u1 u2 u3 H locs ls hm; rw [fMo_laysOff_33.eq_1] at hm; cases hm
  | succ fu ih =>
    intro μ u1 u2 u3 H locs ls hm hw hl
    rw [fMo_laysOff_33.eq_2] at hm
    refine lv_iload_n S.1 S.2.1 dMo_laysOff_33 rfl (lv_at hl 3 rfl) ?_
    refine lv_aload_n S.1 S.2.1 dMo_laysOff_34 rfl (lv_at hl 0 rfl) ?_
    obtain ⟨⟨v9, μ8⟩, h7, hm⟩ := ob hm
    refine sw_Vi (q := 84) (rest := [.int u3]) S hw (cMo_many l  hf  h7) kMo_many wm_Mo_119 (is_84 hf).1 (e_Mo (is_84 hf)) rfl rfl rfl rfl hl.1 (Nat.le_of_ble_eq_true rfl) ⟨rfl, rfl, Nat.le_of_ble_eq_true rfl, Nat.le_of_ble_eq_true rfl⟩ ⟨Nat.le_of_ble_eq_true rfl, Nat.le_of_ble_eq_true rfl⟩ dMo_laysOff_35 (fun H locs hw _ => ?_)
    refine bicmp_ge (tgt := 79) S.1 S.2.1 hm dMo_laysOff_38 (by decide) (fun hm => ?_) (fun hm => ?_)
    · obtain ⟨x10, ex10, hm⟩ := nm_x hm
      refine lv_iinc (v := x10) (lv' := [(2, .int x10), (0, .ref (ξ.2.2.2.1 84)), (1, .int u1), (3, .int u3)]) S.1 S.2.1 dMo_laysOff_79 hl (k := 2) rfl (by rw [ex10]; rfl) (by decide) rfl (fun ls hl => ?_)
      refine lv_goto (tgt := 11) S.1 S.2.1 dMo_laysOff_82 (by decide) ?_
      exact hk11 μ8 u1 x10 _ _ _ hm hw (lv_sub hl [1, 2, 0] rfl)
    · refine lv_aload_n S.1 S.2.1 dMo_laysOff_41 rfl (lv_at hl 0 rfl) ?_
      refine get_Mo (v := .ref (ξ.2.2.2.1 104)) S hw (is_84 hf) 39 (by decide) rfl wf_Mo_88 dMo_laysOff_42 ?_
      refine lv_iload_n S.1 S.2.1 dMo_laysOff_45 rfl (lv_at hl 2 rfl) ?_
      refine lv_dup2_11 S.1 S.2.1 dMo_laysOff_46 rfl rfl ?_
      refine sm_iald S hw (is_104 hf) hm dMo_laysOff_47 (fun v11 hm => ?_)
      refine lv_aload_n S.1 S.2.1 dMo_laysOff_48 rfl (lv_at hl 0 rfl) ?_
      refine lv_iload_n S.1 S.2.1 dMo_laysOff_49 rfl (lv_at hl 2 rfl) ?_
      refine lv_iload_n S.1 S.2.1 dMo_laysOff_50 rfl (lv_at hl 3 rfl) ?_
      obtain ⟨⟨v14, μ13⟩, h12, hm⟩ := ob hm
      refine sw_Vi (q := 84) (rest := [.int v11, .int u2, .ref (ξ.2.2.2.1 104)]) S hw (cMo_canOff l  hf u2 u3 h12) kMo_canOff wm_Mo_438 (is_84 hf).1 (e_Mo (is_84 hf)) rfl rfl rfl rfl hl.1 (Nat.le_of_ble_eq_true rfl) ⟨rfl, rfl, Nat.le_of_ble_eq_true rfl, Nat.le_of_ble_eq_true rfl⟩ ⟨Nat.le_of_ble_eq_true rfl, Nat.le_of_ble_eq_true rfl⟩ dMo_laysOff_51 (fun H locs hw _ => ?_)
      refine bif_eq (tgt := 70) S.1 S.2.1 hm dMo_laysOff_54 (by decide) (fun hm => ?_) (fun hm => ?_)
      · refine lv_iconst (v := (0 : Int32)) S.1 S.2.1 dMo_laysOff_70 (by decide) ?_
        refine lv_iadd S.1 S.2.1 dMo_laysOff_71 ?_
        refine sm_iast S hw (is_104 hf) hm dMo_laysOff_72 (fun μ15 H locs hm hw => ?_)
        obtain ⟨x16, ex16, hm⟩ := nm_x hm
        refine lv_iinc (v := x16) (lv' := [(3, .int x16), (0, .ref (ξ.2.2.2.1 84)), (1, .int u1), (2, .int u2)]) S.1 S.2.1 dMo_laysOff_73 hl (k := 3) rfl (by rw [ex16]; rfl) (by decide) rfl (fun ls hl => ?_)
        refine lv_goto (tgt := 33) S.1 S.2.1 dMo_laysOff_76 (by decide) ?_
        exact ih μ15 u1 u2 x16 _ _ _ hm hw (lv_sub hl [1, 2, 3, 0] rfl)
      · refine lv_aload_n S.1 S.2.1 dMo_laysOff_57 rfl (lv_at hl 0 rfl) ?_
        refine get_Mo (v := .ref (ξ.2.2.2.1 104)) S hw (is_84 hf) 39 (by decide) rfl wf_Mo_88 dMo_laysOff_58 ?_
        refine lv_iload_n S.1 S.2.1 dMo_laysOff_61 rfl (lv_at hl 2 rfl) ?_
        refine lv_iconst (v := (1 : Int32)) S.1 S.2.1 dMo_laysOff_62 (by decide) ?_
        refine lv_iload_n S.1 S.2.1 dMo_laysOff_63 rfl (lv_at hl 3 rfl) ?_
        refine lv_ishl S.1 S.2.1 dMo_laysOff_64 ?_
        refine lv_ixor S.1 S.2.1 dMo_laysOff_65 ?_
        refine sm_iald S hw (is_104 hf) hm dMo_laysOff_66 (fun v17 hm => ?_)
        refine lv_goto (tgt := 71) S.1 S.2.1 dMo_laysOff_67 (by decide) ?_
        refine lv_iadd S.1 S.2.1 dMo_laysOff_71 ?_
        refine sm_iast S hw (is_104 hf) hm dMo_laysOff_72 (fun μ18 H locs hm hw => ?_)
        obtain ⟨x19, ex19, hm⟩ := nm_x hm
        refine lv_iinc (v := x19) (lv' := [(3, .int x19), (0, .ref (ξ.2.2.2.1 84)), (1, .int u1), (2, .int u2)]) S.1 S.2.1 dMo_laysOff_73 hl (k := 3) rfl (by rw [ex19]; rfl) (by decide) rfl (fun ls hl => ?_)
        refine lv_goto (tgt := 33) S.1 S.2.1 dMo_laysOff_76 (by decide) ?_
        exact ih μ18 u1 u2 x19 _ _ _ hm hw (lv_sub hl [1, 2, 3, 0] rfl)
set_option maxHeartbeats 4000000 in
set_option maxRecDepth 100000 in
theorem wMo_laysOff_11 {l : Launch} {p : Program} {e : Env} {s : State} {m : MethodId} {args : Array Value} {below : List Frame} {meth : Method} {c : Code} {Γ : sw_C} {A : Nat → Prop} {ξ : sw_x} {g : sw_g} {res : sw_m} (S : CallFix p m c prog_10_method_118_code 4 s args (Cond.code yMo_laysOff prog_10_method_118_code 4 (none) :: sw_tb) R_Mo) (hr : meth.sig.returnType = none) (hlk : meth.locks = false) (hf : sw_wf ξ g.2.2) (N : Nat) : ∀ (fu : Nat) (μ : sw_m) (u1 : Int32) (u2 : Int32) (H : Heap) (locs : List Loc) (ls : Array Slot), fMo_laysOff_11 N   fu μ u1 u2 = some res → sw_S Γ A ξ g μ s H locs → lv_has ls 4 [(0, .ref (ξ.2.2.2.1 84)), (1, .int u1), (2, .int u2)] → W p l e (headSpec (Cond.code yMo_laysOff prog_10_method_118_code 4 (none) :: sw_tb) rmMo_laysOff).room s m args below meth c H locs 0 0 (MQ below (sw_Qv Γ A ξ g res (True)) args s 0 0 A) (F0 m 11 ls []) := by
  intro fu
  induction fu with
  | zero => intro μ u1 u2 H locs ls hm; rw [fMo_laysOff_11.eq_1] at hm; cases hm
  | succ fu ih =>
    intro μ u1 u2 H locs ls hm hw hl
    rw [fMo_laysOff_11.eq_2] at hm
    refine lv_iload_n S.1 S.2.1 dMo_laysOff_11 rfl (lv_at hl 2 rfl) ?_
    refine lv_iload_n S.1 S.2.1 dMo_laysOff_12 rfl (lv_at hl 1 rfl) ?_
    refine bicmp_gt (tgt := 85) S.1 S.2.1 hm dMo_laysOff_13 (by decide) (fun hm => ?_) (fun hm => ?_)
    · obtain rfl := Option.some.inj hm
      exact sw_vret S hr hlk hw trivial dMo_laysOff_85
    · refine lv_aload_n S.1 S.2.1 dMo_laysOff_16 rfl (lv_at hl 0 rfl) ?_
      refine get_Mo (v := .ref (ξ.2.2.2.1 104)) S hw (is_84 hf) 39 (by decide) rfl wf_Mo_88 dMo_laysOff_17 ?_
      refine lv_iload_n S.1 S.2.1 dMo_laysOff_20 rfl (lv_at hl 2 rfl) ?_
      refine lv_iload_n S.1 S.2.1 dMo_laysOff_21 rfl (lv_at hl 2 rfl) ?_
      refine bif_ne (tgt := 29) S.1 S.2.1 hm dMo_laysOff_22 (by decide) (fun hm => ?_) (fun hm => ?_)
      · refine lv_iconst (v := (0 : Int32)) S.1 S.2.1 dMo_laysOff_29 (by decide) ?_
        refine sm_iast S hw (is_104 hf) hm dMo_laysOff_30 (fun μ6 H locs hm hw => ?_)
        refine lv_iconst (v := (0 : Int32)) S.1 S.2.1 dMo_laysOff_31 (by decide) ?_
        refine lv_istore_n (lv' := [(3, .int (0 : Int32)), (0, .ref (ξ.2.2.2.1 84)), (1, .int u1), (2, .int u2)]) S.1 S.2.1 dMo_laysOff_32 rfl hl (by decide) rfl (fun ls hl => ?_)
        exact wMo_laysOff_33 S hr hlk hf N (fMo_laysOff_11 N   fu) ih N μ6 u1 u2 (0 : Int32) _ _ _ hm hw (lv_sub hl [1, 2, 3, 0] rfl)
      · refine lv_iconst (v := (1 : Int32)) S.1 S.2.1 dMo_laysOff_25 (by decide) ?_
        refine lv_goto (tgt := 30) S.1 S.2.1 dMo_laysOff_26 (by decide) ?_
        refine sm_iast S hw (is_104 hf) hm dMo_laysOff_30 (fun μ20 H locs hm hw => ?_)
        refine lv_iconst (v := (0 : Int32)) S.1 S.2.1 dMo_laysOff_31 (by decide) ?_
        refine lv_istore_n (lv' := [(3, .int (0 : Int32)), (0, .ref (ξ.2.2.2.1 84)), (1, .int u1), (2, .int u2)]) S.1 S.2.1 dMo_laysOff_32 rfl hl (by decide) rfl (fun ls hl => ?_)
        exact wMo_laysOff_33 S hr hlk hf N (fMo_laysOff_11 N   fu) ih N μ20 u1 u2 (0 : Int32) _ _ _ hm hw (lv_sub hl [1, 2, 3, 0] rfl)
set_option maxHeartbeats 4000000 in
set_option maxRecDepth 100000 in
theorem cMo_laysOff (l : Launch) (N : Nat) {Γ : sw_C} {A : Nat → Prop} {ξ : sw_x} {g : sw_g} {μ : sw_m} (hf : sw_wf ξ g.2.2) {res : sw_m} (hm : fMo_laysOff N μ = some res) : Met l yMo_laysOff (Cond.code yMo_laysOff prog_10_method_118_code 4 (none) :: sw_tb) rmMo_laysOff (va_Pc [.ref (ξ.2.2.2.1 84)] (sw_V Γ A ξ g μ)) (sw_Qv Γ A ξ g res (True)) 0 0 A := by
  refine Met.ofW (cc := prog_10_method_118_code) (maxL := 4) (ret := none) (by decide) rfl ?_
  intro p e s m args below meth c s₁ B hml hv
  obtain ⟨rfl, hv⟩ := hv
  have S : CallFix p m c prog_10_method_118_code 4 s _ (Cond.code yMo_laysOff prog_10_method_118_code 4 (none) :: sw_tb) R_Mo := ⟨B.exec, B.bytes, hml, findClass_of_methodNamed B.named, atoms_spec (ws := (Cond.code yMo_laysOff prog_10_method_118_code 4 (none) :: sw_tb)) B.pre⟩
  have hr := B.returns
  have hlk := B.notSynchronized
  have hw := sw_begin hv
  have hl := lv_entry [.ref (ξ.2.2.2.1 84)] (n := 4) (Nat.le_of_ble_eq_true rfl)
  rw [lg_entry_eq]
  generalize (lg_sl [.ref (ξ.2.2.2.1 84)] ++ List.replicate (4 - (lg_sl [.ref (ξ.2.2.2.1 84)]).length) Slot.unset).toArray = ls at hl ⊢
  have hl : lv_has ls 4 [(0, .ref (ξ.2.2.2.1 84))] := hl
  unfold fMo_laysOff at hm
  refine lv_aload_n S.1 S.2.1 dMo_laysOff_0 rfl (lv_at hl 0 rfl) ?_
  obtain ⟨μ2, h1, hm⟩ := ob hm
  refine sw_Vv (q := 84) (rest := []) S hw (cMo_laysTilts l N hf  h1) kMo_laysTilts wm_Mo_435 (is_84 hf).1 (e_Mo (is_84 hf)) rfl rfl rfl rfl hl.1 (Nat.le_of_ble_eq_true rfl) ⟨rfl, rfl, Nat.le_of_ble_eq_true rfl, Nat.le_of_ble_eq_true rfl⟩ ⟨Nat.le_of_ble_eq_true rfl, Nat.le_of_ble_eq_true rfl⟩ dMo_laysOff_1 (fun H locs hw _ => ?_)
  refine lv_aload_n S.1 S.2.1 dMo_laysOff_4 rfl (lv_at hl 0 rfl) ?_
  obtain ⟨⟨v5, μ4⟩, h3, hm⟩ := ob hm
  refine sw_Vi (q := 84) (rest := []) S hw (cMo_onNow l N hf  h3) kMo_onNow wm_Mo_432 (is_84 hf).1 (e_Mo (is_84 hf)) rfl rfl rfl rfl hl.1 (Nat.le_of_ble_eq_true rfl) ⟨rfl, rfl, Nat.le_of_ble_eq_true rfl, Nat.le_of_ble_eq_true rfl⟩ ⟨Nat.le_of_ble_eq_true rfl, Nat.le_of_ble_eq_true rfl⟩ dMo_laysOff_5 (fun H locs hw _ => ?_)
  refine lv_istore_n (lv' := [(1, .int v5), (0, .ref (ξ.2.2.2.1 84))]) S.1 S.2.1 dMo_laysOff_8 rfl hl (by decide) rfl (fun ls hl => ?_)
  refine lv_iconst (v := (0 : Int32)) S.1 S.2.1 dMo_laysOff_9 (by decide) ?_
  refine lv_istore_n (lv' := [(2, .int (0 : Int32)), (1, .int v5), (0, .ref (ξ.2.2.2.1 84))]) S.1 S.2.1 dMo_laysOff_10 rfl hl (by decide) rfl (fun ls hl => ?_)
  exact wMo_laysOff_11 S hr hlk hf N  N μ4 v5 (0 : Int32) _ _ _ hm hw (lv_sub hl [2, 1, 0] rfl)
set_option maxHeartbeats 4000000 in
set_option maxRecDepth 100000 in
theorem wMo_off_58 {l : Launch} {p : Program} {e : Env} {s : State} {m : MethodId} {args : Array Value} {below : List Frame} {meth : Method} {c : Code} {Γ : sw_C} {A : Nat → Prop} {ξ : sw_x} {g : sw_g} {res : Int32 × sw_m} (S : CallFix p m c prog_10_method_119_code 5 s args (Cond.code yMo_off prog_10_method_119_code 5 (some .int) :: sw_tb) R_Mo) (hr : meth.sig.returnType = some .int) (hlk : meth.locks = false) (hf : sw_wf ξ g.2.2) (N : Nat) (k44 : sw_m → Int32 → Int32 → Int32 → Int32 → Option (Int32 × sw_m)) (hk44 : ∀ (μ : sw_m) (u1 : Int32) (u2 : Int32) (u3 : Int32) (u4 : Int32) (H : Heap) (locs : List Loc) (ls : Array Slot), k44 μ u1 u2 u3 u4 = some res → sw_S Γ A ξ g μ s H locs → lv_has ls 5 [(0, .ref (ξ.2.2.2.1 84)), (1, .int u1), (2, .int u2), (3, .int u3), (4, .int u4)] → W p l e (headSpec (Cond.code yMo_off prog_10_method_119_code 5 (some .int) :: sw_tb) rmMo_off).room s m args below meth c H locs 0 0 (MQ below (sw_Qi Γ A ξ g res.2 res.1 (True)) args s 0 0 A) (F0 m 44 ls [])) : ∀ (fu : Nat) (μ : sw_m) (u1 : Int32) (u2 : Int32) (u3 : Int32) (u4 : Int32) (H : Heap) (locs : List Loc) (ls : Array Slot), fMo_off_58 N  k44 fu μ u1 u2 u3 u4 = some res → sw_S Γ A ξ g μ s H locs → lv_has ls 5 [(0, .ref (ξ.2.2.2.1 84)), (1, .int u1), (2, .int u2), (3, .int u3), (4, .int u4)] → W p l e (headSpec (Cond.code yMo_off prog_10_method_119_code 5 (some .int) :: sw_tb) rmMo_off).room s m args below meth c H locs 0 0 (MQ below (sw_Qi Γ A ξ g res.2 res.1 (True)) args s 0 0 A) (F0 m 58 ls []) := by
  intro fu
  induction fu with
  | zero => intro μ u1 u2 u3 u4 H locs ls hm; rw [fMo_off_58.eq_1] at hm; cases hm
  | succ fu ih =>
    intro μ u1 u2 u3 u4 H locs ls hm hw hl
    rw [fMo_off_58.eq_2] at hm
    refine lv_aload_n S.1 S.2.1 dMo_off_58 rfl (lv_at hl 0 rfl) ?_
    refine lv_iload_n S.1 S.2.1 dMo_off_59 rfl (lv_at hl 2 rfl) ?_
    refine lv_iload_n S.1 S.2.1 dMo_off_60 rfl (lv_at hl 3 rfl) ?_
    obtain ⟨⟨v9, μ8⟩, h7, hm⟩ := ob hm
    refine sw_Vi (q := 84) (rest := []) S hw (cMo_canOff l  hf u2 u3 h7) kMo_canOff wm_Mo_438 (is_84 hf).1 (e_Mo (is_84 hf)) rfl rfl rfl rfl hl.1 (Nat.le_of_ble_eq_true rfl) ⟨rfl, rfl, Nat.le_of_ble_eq_true rfl, Nat.le_of_ble_eq_true rfl⟩ ⟨Nat.le_of_ble_eq_true rfl, Nat.le_of_ble_eq_true rfl⟩ dMo_off_61 (fun H locs hw _ => ?_)
    refine bif_eq (tgt := 80) S.1 S.2.1 hm dMo_off_64 (by decide) (fun hm => ?_) (fun hm => ?_)
    · obtain ⟨x10, ex10, hm⟩ := nm_x hm
      refine lv_iinc (v := x10) (lv' := [(3, .int x10), (0, .ref (ξ.2.2.2.1 84)), (1, .int u1), (2, .int u2), (4, .int u4)]) S.1 S.2.1 dMo_off_80 hl (k := 3) rfl (by rw [ex10]; rfl) (by decide) rfl (fun ls hl => ?_)
      refine lv_goto (tgt := 58) S.1 S.2.1 dMo_off_83 (by decide) ?_
      exact ih μ8 u1 u2 x10 u4 _ _ _ hm hw (lv_sub hl [1, 2, 3, 0, 4] rfl)
    · refine lv_aload_n S.1 S.2.1 dMo_off_67 rfl (lv_at hl 0 rfl) ?_
      refine get_Mo (v := .ref (ξ.2.2.2.1 104)) S hw (is_84 hf) 39 (by decide) rfl wf_Mo_88 dMo_off_68 ?_
      refine lv_iload_n S.1 S.2.1 dMo_off_71 rfl (lv_at hl 2 rfl) ?_
      refine lv_iconst (v := (1 : Int32)) S.1 S.2.1 dMo_off_72 (by decide) ?_
      refine lv_iload_n S.1 S.2.1 dMo_off_73 rfl (lv_at hl 3 rfl) ?_
      refine lv_ishl S.1 S.2.1 dMo_off_74 ?_
      refine lv_ixor S.1 S.2.1 dMo_off_75 ?_
      refine sm_iald S hw (is_104 hf) hm dMo_off_76 (fun v11 hm => ?_)
      refine bif_ne (tgt := 86) S.1 S.2.1 hm dMo_off_77 (by decide) (fun hm => ?_) (fun hm => ?_)
      · refine lv_iload_n S.1 S.2.1 dMo_off_86 rfl (lv_at hl 2 rfl) ?_
        refine lv_iconst (v := (1 : Int32)) S.1 S.2.1 dMo_off_87 (by decide) ?_
        refine lv_iload_n S.1 S.2.1 dMo_off_88 rfl (lv_at hl 3 rfl) ?_
        refine lv_ishl S.1 S.2.1 dMo_off_89 ?_
        refine lv_ixor S.1 S.2.1 dMo_off_90 ?_
        refine nm_i hm (fun x12 hm => ?_)
        refine lv_istore_n (lv' := [(2, .int x12), (0, .ref (ξ.2.2.2.1 84)), (1, .int u1), (3, .int u3), (4, .int u4)]) S.1 S.2.1 dMo_off_91 rfl hl (by decide) rfl (fun ls hl => ?_)
        obtain ⟨x13, ex13, hm⟩ := nm_x hm
        refine lv_iinc (v := x13) (lv' := [(4, .int x13), (2, .int x12), (0, .ref (ξ.2.2.2.1 84)), (1, .int u1), (3, .int u3)]) S.1 S.2.1 dMo_off_92 hl (k := 4) rfl (by rw [ex13]; rfl) (by decide) rfl (fun ls hl => ?_)
        refine lv_goto (tgt := 44) S.1 S.2.1 dMo_off_95 (by decide) ?_
        exact hk44 μ8 u1 x12 u3 x13 _ _ _ hm hw (lv_sub hl [2, 3, 1, 4, 0] rfl)
      · obtain ⟨x14, ex14, hm⟩ := nm_x hm
        refine lv_iinc (v := x14) (lv' := [(3, .int x14), (0, .ref (ξ.2.2.2.1 84)), (1, .int u1), (2, .int u2), (4, .int u4)]) S.1 S.2.1 dMo_off_80 hl (k := 3) rfl (by rw [ex14]; rfl) (by decide) rfl (fun ls hl => ?_)
        refine lv_goto (tgt := 58) S.1 S.2.1 dMo_off_83 (by decide) ?_
        exact ih μ8 u1 u2 x14 u4 _ _ _ hm hw (lv_sub hl [1, 2, 3, 0, 4] rfl)
set_option maxHeartbeats 4000000 in
set_option maxRecDepth 100000 in
theorem wMo_off_44 {l : Launch} {p : Program} {e : Env} {s : State} {m : MethodId} {args : Array Value} {below : List Frame} {meth : Method} {c : Code} {Γ : sw_C} {A : Nat → Prop} {ξ : sw_x} {g : sw_g} {res : Int32 × sw_m} (S : CallFix p m c prog_10_method_119_code 5 s args (Cond.code yMo_off prog_10_method_119_code 5 (some .int) :: sw_tb) R_Mo) (hr : meth.sig.returnType = some .int) (hlk : meth.locks = false) (hf : sw_wf ξ g.2.2) (N : Nat) : ∀ (fu : Nat) (μ : sw_m) (u1 : Int32) (u2 : Int32) (u3 : Int32) (u4 : Int32) (H : Heap) (locs : List Loc) (ls : Array Slot), fMo_off_44 N   fu μ u1 u2 u3 u4 = some res → sw_S Γ A ξ g μ s H locs → lv_has ls 5 [(0, .ref (ξ.2.2.2.1 84)), (1, .int u1), (2, .int u2), (3, .int u3), (4, .int u4)] → W p l e (headSpec (Cond.code yMo_off prog_10_method_119_code 5 (some .int) :: sw_tb) rmMo_off).room s m args below meth c H locs 0 0 (MQ below (sw_Qi Γ A ξ g res.2 res.1 (True)) args s 0 0 A) (F0 m 44 ls []) := by
  intro fu
  induction fu with
  | zero => intro μ u1 u2 u3 u4 H locs ls hm; rw [fMo_off_44.eq_1] at hm; cases hm
  | succ fu ih =>
    intro μ u1 u2 u3 u4 H locs ls hm hw hl
    rw [fMo_off_44.eq_2] at hm
    refine lv_iload S.1 S.2.1 dMo_off_44 (lv_at hl 4 rfl) ?_
    refine lv_iload_n S.1 S.2.1 dMo_off_46 rfl (lv_at hl 1 rfl) ?_
    refine bicmp_gt (tgt := 98) S.1 S.2.1 hm dMo_off_47 (by decide) (fun hm => ?_) (fun hm => ?_)
    · refine lv_iload_n S.1 S.2.1 dMo_off_98 rfl (lv_at hl 3 rfl) ?_
      obtain rfl := Option.some.inj hm
      exact sw_iret S hr hlk hw trivial dMo_off_99
    · refine lv_iload_n S.1 S.2.1 dMo_off_50 rfl (lv_at hl 2 rfl) ?_
      refine bif_ne (tgt := 56) S.1 S.2.1 hm dMo_off_51 (by decide) (fun hm => ?_) (fun hm => ?_)
      · refine lv_iconst (v := (0 : Int32)) S.1 S.2.1 dMo_off_56 (by decide) ?_
        refine lv_istore_n (lv' := [(3, .int (0 : Int32)), (0, .ref (ξ.2.2.2.1 84)), (1, .int u1), (2, .int u2), (4, .int u4)]) S.1 S.2.1 dMo_off_57 rfl hl (by decide) rfl (fun ls hl => ?_)
        exact wMo_off_58 S hr hlk hf N (fMo_off_44 N   fu) ih N μ u1 u2 (0 : Int32) u4 _ _ _ hm hw (lv_sub hl [1, 2, 3, 0, 4] rfl)
      · refine lv_iconst (v := (-1 : Int32)) S.1 S.2.1 dMo_off_54 (by decide) ?_
        obtain rfl := Option.some.inj hm
        exact sw_iret S hr hlk hw trivial dMo_off_55
set_option maxHeartbeats 4000000 in
set_option maxRecDepth 100000 in
theorem cMo_off (l : Launch) (N : Nat) {Γ : sw_C} {A : Nat → Prop} {ξ : sw_x} {g : sw_g} {μ : sw_m} (hf : sw_wf ξ g.2.2) (a1 : Int32) {res : Int32 × sw_m} (hm : fMo_off N μ a1 = some res) : Met l yMo_off (Cond.code yMo_off prog_10_method_119_code 5 (some .int) :: sw_tb) rmMo_off (va_Pc [.ref (ξ.2.2.2.1 84), .int a1] (sw_V Γ A ξ g μ)) (sw_Qi Γ A ξ g res.2 res.1 (True)) 0 0 A := by
  refine Met.ofW (cc := prog_10_method_119_code) (maxL := 5) (ret := some .int) (by decide) rfl ?_
  intro p e s m args below meth c s₁ B hml hv
  obtain ⟨rfl, hv⟩ := hv
  have S : CallFix p m c prog_10_method_119_code 5 s _ (Cond.code yMo_off prog_10_method_119_code 5 (some .int) :: sw_tb) R_Mo := ⟨B.exec, B.bytes, hml, findClass_of_methodNamed B.named, atoms_spec (ws := (Cond.code yMo_off prog_10_method_119_code 5 (some .int) :: sw_tb)) B.pre⟩
  have hr := B.returns
  have hlk := B.notSynchronized
  have hw := sw_begin hv
  have hl := lv_entry [.ref (ξ.2.2.2.1 84), .int a1] (n := 5) (Nat.le_of_ble_eq_true rfl)
  rw [lg_entry_eq]
  generalize (lg_sl [.ref (ξ.2.2.2.1 84), .int a1] ++ List.replicate (5 - (lg_sl [.ref (ξ.2.2.2.1 84), .int a1]).length) Slot.unset).toArray = ls at hl ⊢
  have hl : lv_has ls 5 [(0, .ref (ξ.2.2.2.1 84)), (1, .int a1)] := hl
  unfold fMo_off at hm
  refine lv_iload_n S.1 S.2.1 dMo_off_0 rfl (lv_at hl 1 rfl) ?_
  refine lv_iconst (v := (-1 : Int32)) S.1 S.2.1 dMo_off_1 (by decide) ?_
  refine bicmp_ge (tgt := 7) S.1 S.2.1 hm dMo_off_2 (by decide) (fun hm => ?_) (fun hm => ?_)
  · refine lv_aload_n S.1 S.2.1 dMo_off_7 rfl (lv_at hl 0 rfl) ?_
    obtain ⟨μ2, h1, hm⟩ := ob hm
    refine sw_Vv (q := 84) (rest := []) S hw (cMo_laysOff l N hf  h1) kMo_laysOff wm_Mo_441 (is_84 hf).1 (e_Mo (is_84 hf)) rfl rfl rfl rfl hl.1 (Nat.le_of_ble_eq_true rfl) ⟨rfl, rfl, Nat.le_of_ble_eq_true rfl, Nat.le_of_ble_eq_true rfl⟩ ⟨Nat.le_of_ble_eq_true rfl, Nat.le_of_ble_eq_true rfl⟩ dMo_off_8 (fun H locs hw _ => ?_)
    refine lv_aload_n S.1 S.2.1 dMo_off_11 rfl (lv_at hl 0 rfl) ?_
    obtain ⟨⟨v5, μ4⟩, h3, hm⟩ := ob hm
    refine sw_Vi (q := 84) (rest := []) S hw (cMo_onNow l N hf  h3) kMo_onNow wm_Mo_432 (is_84 hf).1 (e_Mo (is_84 hf)) rfl rfl rfl rfl hl.1 (Nat.le_of_ble_eq_true rfl) ⟨rfl, rfl, Nat.le_of_ble_eq_true rfl, Nat.le_of_ble_eq_true rfl⟩ ⟨Nat.le_of_ble_eq_true rfl, Nat.le_of_ble_eq_true rfl⟩ dMo_off_12 (fun H locs hw _ => ?_)
    refine lv_istore_n (lv' := [(2, .int v5), (0, .ref (ξ.2.2.2.1 84)), (1, .int a1)]) S.1 S.2.1 dMo_off_15 rfl hl (by decide) rfl (fun ls hl => ?_)
    refine lv_iload_n S.1 S.2.1 dMo_off_16 rfl (lv_at hl 2 rfl) ?_
    refine lv_iconst (v := (-1 : Int32)) S.1 S.2.1 dMo_off_17 (by decide) ?_
    refine bicmp_ne (tgt := 28) S.1 S.2.1 hm dMo_off_18 (by decide) (fun hm => ?_) (fun hm => ?_)
    · refine lv_aload_n S.1 S.2.1 dMo_off_28 rfl (lv_at hl 1 rfl) ?_
      refine get_Mo (v := .ref (ξ.2.2.2.1 104)) S hw (is_84 hf) 39 (by decide) rfl wf_Mo_88 dMo_off_29 ?_
      refine lv_iload_n S.1 S.2.1 dMo_off_32 rfl (lv_at hl 0 rfl) ?_
      refine sm_iald S hw (is_104 hf) hm dMo_off_33 (fun v6 hm => ?_)
      refine bif_ne (tgt := 39) S.1 S.2.1 hm dMo_off_34 (by decide) (fun hm => ?_) (fun hm => ?_)
      · refine lv_iconst (v := (-1 : Int32)) S.1 S.2.1 dMo_off_39 (by decide) ?_
        refine lv_istore_n (lv' := [(3, .int (-1 : Int32)), (2, .int v5), (0, .ref (ξ.2.2.2.1 84)), (1, .int a1)]) S.1 S.2.1 dMo_off_40 rfl hl (by decide) rfl (fun ls hl => ?_)
        refine lv_iconst (v := (0 : Int32)) S.1 S.2.1 dMo_off_41 (by decide) ?_
        refine lv_istore (lv' := [(4, .int (0 : Int32)), (3, .int (-1 : Int32)), (2, .int v5), (0, .ref (ξ.2.2.2.1 84)), (1, .int a1)]) S.1 S.2.1 dMo_off_42 hl (by decide) rfl (fun ls hl => ?_)
        exact wMo_off_44 S hr hlk hf N  N μ4 a1 v5 (-1 : Int32) (0 : Int32) _ _ _ hm hw (lv_sub hl [3, 4, 2, 1, 0] rfl)
      · refine lv_iconst (v := (-1 : Int32)) S.1 S.2.1 dMo_off_37 (by decide) ?_
        obtain rfl := Option.some.inj hm
        exact sw_iret S hr hlk hw trivial dMo_off_38
    · refine lv_aload_n S.1 S.2.1 dMo_off_21 rfl (lv_at hl 1 rfl) ?_
      refine get_Mo (v := .ref (ξ.2.2.2.1 104)) S hw (is_84 hf) 39 (by decide) rfl wf_Mo_88 dMo_off_22 ?_
      refine lv_iload_n S.1 S.2.1 dMo_off_25 rfl (lv_at hl 0 rfl) ?_
      refine sm_iald S hw (is_104 hf) hm dMo_off_26 (fun v15 hm => ?_)
      obtain rfl := Option.some.inj hm
      exact sw_iret S hr hlk hw trivial dMo_off_27
  · refine lv_iconst (v := (-1 : Int32)) S.1 S.2.1 dMo_off_5 (by decide) ?_
    obtain rfl := Option.some.inj hm
    exact sw_iret S hr hlk hw trivial dMo_off_6
set_option maxHeartbeats 4000000 in
set_option maxRecDepth 100000 in
theorem wMo_byTurns_22 {l : Launch} {p : Program} {e : Env} {s : State} {m : MethodId} {args : Array Value} {below : List Frame} {meth : Method} {c : Code} {Γ : sw_C} {A : Nat → Prop} {ξ : sw_x} {g : sw_g} {res : Int32 × sw_m} (S : CallFix p m c prog_10_method_121_code 4 s args (Cond.code yMo_byTurns prog_10_method_121_code 4 (some .int) :: sw_tb) R_Mo) (hr : meth.sig.returnType = some .int) (hlk : meth.locks = false) (hf : sw_wf ξ g.2.2) (N : Nat) : ∀ (fu : Nat) (μ : sw_m) (u1 : Int32) (u2 : Int32) (u3 : Int32) (H : Heap) (locs : List Loc) (ls : Array Slot), fMo_byTurns_22 N   fu μ u1 u2 u3 = some res → sw_S Γ A ξ g μ s H locs → lv_has ls 4 [(0, .ref (ξ.2.2.2.1 84)), (1, .int u1), (2, .int u2), (3, .int u3)] → W p l e (headSpec (Cond.code yMo_byTurns prog_10_method_121_code 4 (some .int) :: sw_tb) rmMo_byTurns).room s m args below meth c H locs 0 0 (MQ below (sw_Qi Γ A ξ g res.2 res.1 (True)) args s 0 0 A) (F0 m 22 ls []) := by
  intro fu
  induction fu with
  | zero => intro μ u1 u2 u3 H locs ls hm; rw [fMo_byTurns_22.eq_1] at hm; cases hm
  | succ fu ih =>
    intro μ u1 u2 u3 H locs ls hm hw hl
    rw [fMo_byTurns_22.eq_2] at hm
    refine lv_iload_n S.1 S.2.1 dMo_byTurns_22 rfl (lv_at hl 3 rfl) ?_
    refine lv_iload_n S.1 S.2.1 dMo_byTurns_23 rfl (lv_at hl 2 rfl) ?_
    refine bicmp_gt (tgt := 53) S.1 S.2.1 hm dMo_byTurns_24 (by decide) (fun hm => ?_) (fun hm => ?_)
    · refine lv_iload_n S.1 S.2.1 dMo_byTurns_53 rfl (lv_at hl 1 rfl) ?_
      refine lv_iconst (v := (1 : Int32)) S.1 S.2.1 dMo_byTurns_54 (by decide) ?_
      refine bicmp_ne (tgt := 66) S.1 S.2.1 hm dMo_byTurns_55 (by decide) (fun hm => ?_) (fun hm => ?_)
      · refine lv_aload_n S.1 S.2.1 dMo_byTurns_66 rfl (lv_at hl 0 rfl) ?_
        refine get_Mo (v := .ref (ξ.2.2.2.1 105)) S hw (is_84 hf) 40 (by decide) rfl wf_Mo_91 dMo_byTurns_67 ?_
        refine lv_iload_n S.1 S.2.1 dMo_byTurns_70 rfl (lv_at hl 2 rfl) ?_
        refine sm_zald S hw (is_105 hf) hm dMo_byTurns_71 (fun v8 hm => ?_)
        refine bif_eq (tgt := 79) S.1 S.2.1 hm dMo_byTurns_72 (by decide) (fun hm => ?_) (fun hm => ?_)
        · refine lv_iconst (v := (0 : Int32)) S.1 S.2.1 dMo_byTurns_79 (by decide) ?_
          obtain rfl := Option.some.inj hm
          exact sw_iret S hr hlk hw trivial dMo_byTurns_80
        · refine lv_iconst (v := (1 : Int32)) S.1 S.2.1 dMo_byTurns_75 (by decide) ?_
          refine lv_goto (tgt := 80) S.1 S.2.1 dMo_byTurns_76 (by decide) ?_
          obtain rfl := Option.some.inj hm
          exact sw_iret S hr hlk hw trivial dMo_byTurns_80
      · refine lv_aload_n S.1 S.2.1 dMo_byTurns_58 rfl (lv_at hl 0 rfl) ?_
        refine lv_iload_n S.1 S.2.1 dMo_byTurns_59 rfl (lv_at hl 2 rfl) ?_
        obtain ⟨⟨v11, μ10⟩, h9, hm⟩ := ob hm
        refine sw_Vi (q := 84) (rest := []) S hw (cMo_winsBy l N hf u2 h9) kMo_winsBy wm_Mo_444 (is_84 hf).1 (e_Mo (is_84 hf)) rfl rfl rfl rfl hl.1 (Nat.le_of_ble_eq_true rfl) ⟨rfl, rfl, Nat.le_of_ble_eq_true rfl, Nat.le_of_ble_eq_true rfl⟩ ⟨Nat.le_of_ble_eq_true rfl, Nat.le_of_ble_eq_true rfl⟩ dMo_byTurns_60 (fun H locs hw _ => ?_)
        refine lv_goto (tgt := 80) S.1 S.2.1 dMo_byTurns_63 (by decide) ?_
        obtain rfl := Option.some.inj hm
        exact sw_iret S hr hlk hw trivial dMo_byTurns_80
    · refine lv_aload_n S.1 S.2.1 dMo_byTurns_27 rfl (lv_at hl 0 rfl) ?_
      refine get_Mo (v := .ref (ξ.2.2.2.1 105)) S hw (is_84 hf) 40 (by decide) rfl wf_Mo_91 dMo_byTurns_28 ?_
      refine lv_iload_n S.1 S.2.1 dMo_byTurns_31 rfl (lv_at hl 3 rfl) ?_
      refine lv_aload_n S.1 S.2.1 dMo_byTurns_32 rfl (lv_at hl 0 rfl) ?_
      refine lv_iload_n S.1 S.2.1 dMo_byTurns_33 rfl (lv_at hl 3 rfl) ?_
      obtain ⟨⟨v14, μ13⟩, h12, hm⟩ := ob hm
      refine sw_Vi (q := 84) (rest := [.int u3, .ref (ξ.2.2.2.1 105)]) S hw (cMo_winsBy l N hf u3 h12) kMo_winsBy wm_Mo_444 (is_84 hf).1 (e_Mo (is_84 hf)) rfl rfl rfl rfl hl.1 (Nat.le_of_ble_eq_true rfl) ⟨rfl, rfl, Nat.le_of_ble_eq_true rfl, Nat.le_of_ble_eq_true rfl⟩ ⟨Nat.le_of_ble_eq_true rfl, Nat.le_of_ble_eq_true rfl⟩ dMo_byTurns_34 (fun H locs hw _ => ?_)
      refine lv_iconst (v := (-1 : Int32)) S.1 S.2.1 dMo_byTurns_37 (by decide) ?_
      refine bicmp_eq (tgt := 45) S.1 S.2.1 hm dMo_byTurns_38 (by decide) (fun hm => ?_) (fun hm => ?_)
      · refine lv_iconst (v := (0 : Int32)) S.1 S.2.1 dMo_byTurns_45 (by decide) ?_
        refine sm_zast S hw (is_105 hf) hm dMo_byTurns_46 (fun μ15 H locs hm hw => ?_)
        obtain ⟨x16, ex16, hm⟩ := nm_x hm
        refine lv_iinc (v := x16) (lv' := [(3, .int x16), (0, .ref (ξ.2.2.2.1 84)), (1, .int u1), (2, .int u2)]) S.1 S.2.1 dMo_byTurns_47 hl (k := 3) rfl (by rw [ex16]; rfl) (by decide) rfl (fun ls hl => ?_)
        refine lv_goto (tgt := 22) S.1 S.2.1 dMo_byTurns_50 (by decide) ?_
        exact ih μ15 u1 u2 x16 _ _ _ hm hw (lv_sub hl [1, 2, 3, 0] rfl)
      · refine lv_iconst (v := (1 : Int32)) S.1 S.2.1 dMo_byTurns_41 (by decide) ?_
        refine lv_goto (tgt := 46) S.1 S.2.1 dMo_byTurns_42 (by decide) ?_
        refine sm_zast S hw (is_105 hf) hm dMo_byTurns_46 (fun μ17 H locs hm hw => ?_)
        obtain ⟨x18, ex18, hm⟩ := nm_x hm
        refine lv_iinc (v := x18) (lv' := [(3, .int x18), (0, .ref (ξ.2.2.2.1 84)), (1, .int u1), (2, .int u2)]) S.1 S.2.1 dMo_byTurns_47 hl (k := 3) rfl (by rw [ex18]; rfl) (by decide) rfl (fun ls hl => ?_)
        refine lv_goto (tgt := 22) S.1 S.2.1 dMo_byTurns_50 (by decide) ?_
        exact ih μ17 u1 u2 x18 _ _ _ hm hw (lv_sub hl [1, 2, 3, 0] rfl)
set_option maxHeartbeats 4000000 in
set_option maxRecDepth 100000 in
theorem cMo_byTurns (l : Launch) (N : Nat) {Γ : sw_C} {A : Nat → Prop} {ξ : sw_x} {g : sw_g} {μ : sw_m} (hf : sw_wf ξ g.2.2) (a1 : Int32) {res : Int32 × sw_m} (hm : fMo_byTurns N μ a1 = some res) : Met l yMo_byTurns (Cond.code yMo_byTurns prog_10_method_121_code 4 (some .int) :: sw_tb) rmMo_byTurns (va_Pc [.ref (ξ.2.2.2.1 84), .int a1] (sw_V Γ A ξ g μ)) (sw_Qi Γ A ξ g res.2 res.1 (True)) 0 0 A := by
  refine Met.ofW (cc := prog_10_method_121_code) (maxL := 4) (ret := some .int) (by decide) rfl ?_
  intro p e s m args below meth c s₁ B hml hv
  obtain ⟨rfl, hv⟩ := hv
  have S : CallFix p m c prog_10_method_121_code 4 s _ (Cond.code yMo_byTurns prog_10_method_121_code 4 (some .int) :: sw_tb) R_Mo := ⟨B.exec, B.bytes, hml, findClass_of_methodNamed B.named, atoms_spec (ws := (Cond.code yMo_byTurns prog_10_method_121_code 4 (some .int) :: sw_tb)) B.pre⟩
  have hr := B.returns
  have hlk := B.notSynchronized
  have hw := sw_begin hv
  have hl := lv_entry [.ref (ξ.2.2.2.1 84), .int a1] (n := 4) (Nat.le_of_ble_eq_true rfl)
  rw [lg_entry_eq]
  generalize (lg_sl [.ref (ξ.2.2.2.1 84), .int a1] ++ List.replicate (4 - (lg_sl [.ref (ξ.2.2.2.1 84), .int a1]).length) Slot.unset).toArray = ls at hl ⊢
  have hl : lv_has ls 4 [(0, .ref (ξ.2.2.2.1 84)), (1, .int a1)] := hl
  unfold fMo_byTurns at hm
  refine lv_iload_n S.1 S.2.1 dMo_byTurns_0 rfl (lv_at hl 1 rfl) ?_
  refine lv_iconst (v := (0 : Int32)) S.1 S.2.1 dMo_byTurns_1 (by decide) ?_
  refine lv_iconst (v := (1 : Int32)) S.1 S.2.1 dMo_byTurns_2 (by decide) ?_
  obtain ⟨v2, h1, hm⟩ := ob hm
  refine sw_Si (rest := []) S hw (cMo_lies l  hf a1 (0 : Int32) (1 : Int32) h1) kMo_lies wm_Mo_18 rfl rfl hl.1 (Nat.le_of_ble_eq_true rfl) ⟨rfl, rfl, Nat.le_of_ble_eq_true rfl, Nat.le_of_ble_eq_true rfl⟩ ⟨Nat.le_of_ble_eq_true rfl, Nat.le_of_ble_eq_true rfl⟩ dMo_byTurns_3 (fun H locs hw _ => ?_)
  refine bif_ne (tgt := 11) S.1 S.2.1 hm dMo_byTurns_6 (by decide) (fun hm => ?_) (fun hm => ?_)
  · refine lv_aload_n S.1 S.2.1 dMo_byTurns_11 rfl (lv_at hl 0 rfl) ?_
    obtain ⟨μ4, h3, hm⟩ := ob hm
    refine sw_Vv (q := 84) (rest := []) S hw (cMo_laysTilts l N hf  h3) kMo_laysTilts wm_Mo_435 (is_84 hf).1 (e_Mo (is_84 hf)) rfl rfl rfl rfl hl.1 (Nat.le_of_ble_eq_true rfl) ⟨rfl, rfl, Nat.le_of_ble_eq_true rfl, Nat.le_of_ble_eq_true rfl⟩ ⟨Nat.le_of_ble_eq_true rfl, Nat.le_of_ble_eq_true rfl⟩ dMo_byTurns_12 (fun H locs hw _ => ?_)
    refine lv_aload_n S.1 S.2.1 dMo_byTurns_15 rfl (lv_at hl 0 rfl) ?_
    obtain ⟨⟨v7, μ6⟩, h5, hm⟩ := ob hm
    refine sw_Vi (q := 84) (rest := []) S hw (cMo_onNow l N hf  h5) kMo_onNow wm_Mo_432 (is_84 hf).1 (e_Mo (is_84 hf)) rfl rfl rfl rfl hl.1 (Nat.le_of_ble_eq_true rfl) ⟨rfl, rfl, Nat.le_of_ble_eq_true rfl, Nat.le_of_ble_eq_true rfl⟩ ⟨Nat.le_of_ble_eq_true rfl, Nat.le_of_ble_eq_true rfl⟩ dMo_byTurns_16 (fun H locs hw _ => ?_)
    refine lv_istore_n (lv' := [(2, .int v7), (0, .ref (ξ.2.2.2.1 84)), (1, .int a1)]) S.1 S.2.1 dMo_byTurns_19 rfl hl (by decide) rfl (fun ls hl => ?_)
    refine lv_iconst (v := (0 : Int32)) S.1 S.2.1 dMo_byTurns_20 (by decide) ?_
    refine lv_istore_n (lv' := [(3, .int (0 : Int32)), (2, .int v7), (0, .ref (ξ.2.2.2.1 84)), (1, .int a1)]) S.1 S.2.1 dMo_byTurns_21 rfl hl (by decide) rfl (fun ls hl => ?_)
    exact wMo_byTurns_22 S hr hlk hf N  N μ6 a1 v7 (0 : Int32) _ _ _ hm hw (lv_sub hl [2, 3, 1, 0] rfl)
  · refine lv_iconst (v := (-1 : Int32)) S.1 S.2.1 dMo_byTurns_9 (by decide) ?_
    obtain rfl := Option.some.inj hm
    exact sw_iret S hr hlk hw trivial dMo_byTurns_10
set_option maxHeartbeats 4000000 in
set_option maxRecDepth 100000 in
theorem wMo_goesAlong_113 {l : Launch} {p : Program} {e : Env} {s : State} {m : MethodId} {args : Array Value} {below : List Frame} {meth : Method} {c : Code} {Γ : sw_C} {A : Nat → Prop} {ξ : sw_x} {g : sw_g} {res : sw_m} (S : CallFix p m c prog_10_method_133_code 5 s args (Cond.code yMo_goesAlong prog_10_method_133_code 5 (none) :: sw_tb) R_Mo) (hr : meth.sig.returnType = none) (hlk : meth.locks = false) (hf : sw_wf ξ g.2.2) (N : Nat) (k92 : sw_m → Int32 → Int32 → Int32 → Option (sw_m)) (hk92 : ∀ (μ : sw_m) (u2 : Int32) (u3 : Int32) (u4 : Int32) (H : Heap) (locs : List Loc) (ls : Array Slot), k92 μ u2 u3 u4 = some res → sw_S Γ A ξ g μ s H locs → lv_has ls 5 [(0, .ref (ξ.2.2.2.1 84)), (2, .int u2), (3, .int u3), (4, .int u4)] → W p l e (headSpec (Cond.code yMo_goesAlong prog_10_method_133_code 5 (none) :: sw_tb) rmMo_goesAlong).room s m args below meth c H locs 0 0 (MQ below (sw_Qv Γ A ξ g res (True)) args s 0 0 A) (F0 m 92 ls [])) : ∀ (μ : sw_m) (u2 : Int32) (u3 : Int32) (u4 : Int32) (H : Heap) (locs : List Loc) (ls : Array Slot), fMo_goesAlong_113 N  k92 μ u2 u3 u4 = some res → sw_S Γ A ξ g μ s H locs → lv_has ls 5 [(0, .ref (ξ.2.2.2.1 84)), (2, .int u2), (3, .int u3), (4, .int u4)] → W p l e (headSpec (Cond.code yMo_goesAlong prog_10_method_133_code 5 (none) :: sw_tb) rmMo_goesAlong).room s m args below meth c H locs 0 0 (MQ below (sw_Qv Γ A ξ g res (True)) args s 0 0 A) (F0 m 113 ls []) := by
  intro μ u2 u3 u4 H locs ls hm hw hl
  unfold fMo_goesAlong_113 at hm
  refine lv_aload_n S.1 S.2.1 dMo_goesAlong_113 rfl (lv_at hl 0 rfl) ?_
  refine lv_iconst (v := (0 : Int32)) S.1 S.2.1 dMo_goesAlong_114 (by decide) ?_
  refine put_Mo S hw (is_84 hf) 24 (by decide) ps_Mo_24 rfl rfl rfl wf_Mo_296 hm dMo_goesAlong_115 (fun μ32 H locs hm hw => ?_)
  refine lv_aload_n S.1 S.2.1 dMo_goesAlong_118 rfl (lv_at hl 0 rfl) ?_
  refine get_Mo (v := .ref (ξ.2.2.2.1 108)) S hw (is_84 hf) 49 (by decide) rfl wf_Mo_104 dMo_goesAlong_119 ?_
  refine lv_iload S.1 S.2.1 dMo_goesAlong_122 (lv_at hl 3 rfl) ?_
  refine lv_aload_n S.1 S.2.1 dMo_goesAlong_124 rfl (lv_at hl 0 rfl) ?_
  refine lv_iload_n S.1 S.2.1 dMo_goesAlong_125 rfl (lv_at hl 1 rfl) ?_
  obtain ⟨⟨v35, μ34⟩, h33, hm⟩ := ob hm
  refine sw_Vl (q := 84) (rest := [.int u4, .ref (ξ.2.2.2.1 108)]) S hw (cMo_sumOf l N 10 hf u2 h33) kMo_sumOf wm_Mo_313 (is_84 hf).1 (e_Mo (is_84 hf)) rfl rfl rfl rfl hl.1 (Nat.le_of_ble_eq_true rfl) ⟨rfl, rfl, Nat.le_of_ble_eq_true rfl, Nat.le_of_ble_eq_true rfl⟩ ⟨Nat.le_of_ble_eq_true rfl, Nat.le_of_ble_eq_true rfl⟩ dMo_goesAlong_126 (fun H locs hw _ => ?_)
  refine sm_last S hw (is_108 hf) hm dMo_goesAlong_129 (fun μ36 H locs hm hw => ?_)
  refine lv_aload_n S.1 S.2.1 dMo_goesAlong_130 rfl (lv_at hl 0 rfl) ?_
  refine lv_aload_n S.1 S.2.1 dMo_goesAlong_131 rfl (lv_at hl 0 rfl) ?_
  refine get_Mo (v := .int (μ36.1 84 47)) S hw (is_84 hf) 47 (by decide) rfl wf_Mo_483 dMo_goesAlong_132 ?_
  refine bif_eq (tgt := 149) S.1 S.2.1 hm dMo_goesAlong_135 (by decide) (fun hm => ?_) (fun hm => ?_)
  · refine lv_iconst (v := (0 : Int32)) S.1 S.2.1 dMo_goesAlong_149 (by decide) ?_
    refine put_Mo S hw (is_84 hf) 47 (by decide) ps_Mo_47 rfl rfl rfl wf_Mo_483 hm dMo_goesAlong_150 (fun μ37 H locs hm hw => ?_)
    obtain ⟨x38, ex38, hm⟩ := nm_x hm
    refine lv_iinc (v := x38) (lv' := [(4, .int x38), (0, .ref (ξ.2.2.2.1 84)), (2, .int u2), (3, .int u3)]) S.1 S.2.1 dMo_goesAlong_153 hl (k := 3) rfl (by rw [ex38]; rfl) (by decide) rfl (fun ls hl => ?_)
    refine lv_goto (tgt := 92) S.1 S.2.1 dMo_goesAlong_156 (by decide) ?_
    exact hk92 μ37 u2 u3 x38 _ _ _ hm hw (lv_sub hl [1, 2, 3, 0] rfl)
  · refine lv_aload_n S.1 S.2.1 dMo_goesAlong_138 rfl (lv_at hl 0 rfl) ?_
    refine get_Mo (v := .int (μ36.1 84 24)) S hw (is_84 hf) 24 (by decide) rfl wf_Mo_296 dMo_goesAlong_139 ?_
    refine bif_ne (tgt := 149) S.1 S.2.1 hm dMo_goesAlong_142 (by decide) (fun hm => ?_) (fun hm => ?_)
    · refine lv_iconst (v := (0 : Int32)) S.1 S.2.1 dMo_goesAlong_149 (by decide) ?_
      refine put_Mo S hw (is_84 hf) 47 (by decide) ps_Mo_47 rfl rfl rfl wf_Mo_483 hm dMo_goesAlong_150 (fun μ39 H locs hm hw => ?_)
      obtain ⟨x40, ex40, hm⟩ := nm_x hm
      refine lv_iinc (v := x40) (lv' := [(4, .int x40), (0, .ref (ξ.2.2.2.1 84)), (2, .int u2), (3, .int u3)]) S.1 S.2.1 dMo_goesAlong_153 hl (k := 3) rfl (by rw [ex40]; rfl) (by decide) rfl (fun ls hl => ?_)
      refine lv_goto (tgt := 92) S.1 S.2.1 dMo_goesAlong_156 (by decide) ?_
      exact hk92 μ39 u2 u3 x40 _ _ _ hm hw (lv_sub hl [1, 2, 3, 0] rfl)
    · refine lv_iconst (v := (1 : Int32)) S.1 S.2.1 dMo_goesAlong_145 (by decide) ?_
      refine lv_goto (tgt := 150) S.1 S.2.1 dMo_goesAlong_146 (by decide) ?_
      refine put_Mo S hw (is_84 hf) 47 (by decide) ps_Mo_47 rfl rfl rfl wf_Mo_483 hm dMo_goesAlong_150 (fun μ41 H locs hm hw => ?_)
      obtain ⟨x42, ex42, hm⟩ := nm_x hm
      refine lv_iinc (v := x42) (lv' := [(4, .int x42), (0, .ref (ξ.2.2.2.1 84)), (2, .int u2), (3, .int u3)]) S.1 S.2.1 dMo_goesAlong_153 hl (k := 3) rfl (by rw [ex42]; rfl) (by decide) rfl (fun ls hl => ?_)
      refine lv_goto (tgt := 92) S.1 S.2.1 dMo_goesAlong_156 (by decide) ?_
      exact hk92 μ41 u2 u3 x42 _ _ _ hm hw (lv_sub hl [1, 2, 3, 0] rfl)
set_option maxHeartbeats 4000000 in
set_option maxRecDepth 100000 in
theorem wMo_goesAlong_227 {l : Launch} {p : Program} {e : Env} {s : State} {m : MethodId} {args : Array Value} {below : List Frame} {meth : Method} {c : Code} {Γ : sw_C} {A : Nat → Prop} {ξ : sw_x} {g : sw_g} {res : sw_m} (S : CallFix p m c prog_10_method_133_code 5 s args (Cond.code yMo_goesAlong prog_10_method_133_code 5 (none) :: sw_tb) R_Mo) (hr : meth.sig.returnType = none) (hlk : meth.locks = false) (hf : sw_wf ξ g.2.2) (N : Nat) : ∀ (μ : sw_m) (s0 : Int32) (H : Heap) (locs : List Loc) (ls : Array Slot), fMo_goesAlong_227 N   μ s0 = some res → sw_S Γ A ξ g μ s H locs → lv_has ls 5 [(0, .ref (ξ.2.2.2.1 84))] → W p l e (headSpec (Cond.code yMo_goesAlong prog_10_method_133_code 5 (none) :: sw_tb) rmMo_goesAlong).room s m args below meth c H locs 0 0 (MQ below (sw_Qv Γ A ξ g res (True)) args s 0 0 A) (F0 m 227 ls [.int s0, .ref (ξ.2.2.2.1 84)]) := by
  intro μ s0 H locs ls hm hw hl
  unfold fMo_goesAlong_227 at hm
  obtain ⟨hz, hm⟩ := ob_tz hm
  refine put_Mo S hw (is_84 hf) 48 (by decide) ps_Mo_48 rfl (tz_narrow hz) (tz_fits hz) wf_Mo_489 hm dMo_goesAlong_227 (fun μ19 H locs hm hw => ?_)
  refine lv_aload_n S.1 S.2.1 dMo_goesAlong_230 rfl (lv_at hl 0 rfl) ?_
  refine lv_aload_n S.1 S.2.1 dMo_goesAlong_231 rfl (lv_at hl 0 rfl) ?_
  refine get_Mo (v := .int (μ19.1 84 48)) S hw (is_84 hf) 48 (by decide) rfl wf_Mo_489 dMo_goesAlong_232 ?_
  refine bif_eq (tgt := 249) S.1 S.2.1 hm dMo_goesAlong_235 (by decide) (fun hm => ?_) (fun hm => ?_)
  · refine lv_iconst (v := (0 : Int32)) S.1 S.2.1 dMo_goesAlong_249 (by decide) ?_
    refine put_Mo S hw (is_84 hf) 48 (by decide) ps_Mo_48 rfl rfl rfl wf_Mo_489 hm dMo_goesAlong_250 (fun μ20 H locs hm hw => ?_)
    refine lv_aload_n S.1 S.2.1 dMo_goesAlong_253 rfl (lv_at hl 0 rfl) ?_
    refine lv_dup S.1 S.2.1 dMo_goesAlong_254 rfl ?_
    refine get_Mo (v := .int (μ20.1 84 22)) S hw (is_84 hf) 22 (by decide) rfl wf_Mo_286 dMo_goesAlong_255 ?_
    refine lv_iconst (v := (1 : Int32)) S.1 S.2.1 dMo_goesAlong_258 (by decide) ?_
    refine lv_iadd S.1 S.2.1 dMo_goesAlong_259 ?_
    refine put_Mo S hw (is_84 hf) 22 (by decide) ps_Mo_22 rfl rfl rfl wf_Mo_286 hm dMo_goesAlong_260 (fun μ21 H locs hm hw => ?_)
    obtain rfl := Option.some.inj hm
    exact sw_vret S hr hlk hw trivial dMo_goesAlong_263
  · refine lv_aload_n S.1 S.2.1 dMo_goesAlong_238 rfl (lv_at hl 0 rfl) ?_
    refine get_Mo (v := .int (μ19.1 84 24)) S hw (is_84 hf) 24 (by decide) rfl wf_Mo_296 dMo_goesAlong_239 ?_
    refine bif_ne (tgt := 249) S.1 S.2.1 hm dMo_goesAlong_242 (by decide) (fun hm => ?_) (fun hm => ?_)
    · refine lv_iconst (v := (0 : Int32)) S.1 S.2.1 dMo_goesAlong_249 (by decide) ?_
      refine put_Mo S hw (is_84 hf) 48 (by decide) ps_Mo_48 rfl rfl rfl wf_Mo_489 hm dMo_goesAlong_250 (fun μ22 H locs hm hw => ?_)
      refine lv_aload_n S.1 S.2.1 dMo_goesAlong_253 rfl (lv_at hl 0 rfl) ?_
      refine lv_dup S.1 S.2.1 dMo_goesAlong_254 rfl ?_
      refine get_Mo (v := .int (μ22.1 84 22)) S hw (is_84 hf) 22 (by decide) rfl wf_Mo_286 dMo_goesAlong_255 ?_
      refine lv_iconst (v := (1 : Int32)) S.1 S.2.1 dMo_goesAlong_258 (by decide) ?_
      refine lv_iadd S.1 S.2.1 dMo_goesAlong_259 ?_
      refine put_Mo S hw (is_84 hf) 22 (by decide) ps_Mo_22 rfl rfl rfl wf_Mo_286 hm dMo_goesAlong_260 (fun μ23 H locs hm hw => ?_)
      obtain rfl := Option.some.inj hm
      exact sw_vret S hr hlk hw trivial dMo_goesAlong_263
    · refine lv_iconst (v := (1 : Int32)) S.1 S.2.1 dMo_goesAlong_245 (by decide) ?_
      refine lv_goto (tgt := 250) S.1 S.2.1 dMo_goesAlong_246 (by decide) ?_
      refine put_Mo S hw (is_84 hf) 48 (by decide) ps_Mo_48 rfl rfl rfl wf_Mo_489 hm dMo_goesAlong_250 (fun μ24 H locs hm hw => ?_)
      refine lv_aload_n S.1 S.2.1 dMo_goesAlong_253 rfl (lv_at hl 0 rfl) ?_
      refine lv_dup S.1 S.2.1 dMo_goesAlong_254 rfl ?_
      refine get_Mo (v := .int (μ24.1 84 22)) S hw (is_84 hf) 22 (by decide) rfl wf_Mo_286 dMo_goesAlong_255 ?_
      refine lv_iconst (v := (1 : Int32)) S.1 S.2.1 dMo_goesAlong_258 (by decide) ?_
      refine lv_iadd S.1 S.2.1 dMo_goesAlong_259 ?_
      refine put_Mo S hw (is_84 hf) 22 (by decide) ps_Mo_22 rfl rfl rfl wf_Mo_286 hm dMo_goesAlong_260 (fun μ25 H locs hm hw => ?_)
      obtain rfl := Option.some.inj hm
      exact sw_vret S hr hlk hw trivial dMo_goesAlong_263
set_option maxHeartbeats 4000000 in
set_option maxRecDepth 100000 in
theorem wMo_goesAlong_200 {l : Launch} {p : Program} {e : Env} {s : State} {m : MethodId} {args : Array Value} {below : List Frame} {meth : Method} {c : Code} {Γ : sw_C} {A : Nat → Prop} {ξ : sw_x} {g : sw_g} {res : sw_m} (S : CallFix p m c prog_10_method_133_code 5 s args (Cond.code yMo_goesAlong prog_10_method_133_code 5 (none) :: sw_tb) R_Mo) (hr : meth.sig.returnType = none) (hlk : meth.locks = false) (hf : sw_wf ξ g.2.2) (N : Nat) : ∀ (μ : sw_m) (u2 : Int32) (H : Heap) (locs : List Loc) (ls : Array Slot), fMo_goesAlong_200 N   μ u2 = some res → sw_S Γ A ξ g μ s H locs → lv_has ls 5 [(0, .ref (ξ.2.2.2.1 84)), (2, .int u2)] → W p l e (headSpec (Cond.code yMo_goesAlong prog_10_method_133_code 5 (none) :: sw_tb) rmMo_goesAlong).room s m args below meth c H locs 0 0 (MQ below (sw_Qv Γ A ξ g res (True)) args s 0 0 A) (F0 m 200 ls []) := by
  intro μ u2 H locs ls hm hw hl
  unfold fMo_goesAlong_200 at hm
  refine lv_aload_n S.1 S.2.1 dMo_goesAlong_200 rfl (lv_at hl 0 rfl) ?_
  refine lv_iconst (v := (0 : Int32)) S.1 S.2.1 dMo_goesAlong_201 (by decide) ?_
  refine put_Mo S hw (is_84 hf) 24 (by decide) ps_Mo_24 rfl rfl rfl wf_Mo_296 hm dMo_goesAlong_202 (fun μ15 H locs hm hw => ?_)
  refine lv_aload_n S.1 S.2.1 dMo_goesAlong_205 rfl (lv_at hl 0 rfl) ?_
  refine lv_aload_n S.1 S.2.1 dMo_goesAlong_206 rfl (lv_at hl 0 rfl) ?_
  refine lv_iconst (v := (4 : Int32)) S.1 S.2.1 dMo_goesAlong_207 (by decide) ?_
  obtain ⟨⟨v18, μ17⟩, h16, hm⟩ := ob hm
  refine sw_Vi (q := 84) (rest := [.ref (ξ.2.2.2.1 84)]) S hw (cMo_passes0 l N hf (4 : Int32) h16) kMo_passes0 wm_Mo_310 (is_84 hf).1 (e_Mo (is_84 hf)) rfl rfl rfl rfl hl.1 (Nat.le_of_ble_eq_true rfl) ⟨rfl, rfl, Nat.le_of_ble_eq_true rfl, Nat.le_of_ble_eq_true rfl⟩ ⟨Nat.le_of_ble_eq_true rfl, Nat.le_of_ble_eq_true rfl⟩ dMo_goesAlong_208 (fun H locs hw _ => ?_)
  refine bif_eq (tgt := 222) S.1 S.2.1 hm dMo_goesAlong_211 (by decide) (fun hm => ?_) (fun hm => ?_)
  · refine lv_iconst (v := (1 : Int32)) S.1 S.2.1 dMo_goesAlong_222 (by decide) ?_
    refine lv_goto (tgt := 227) S.1 S.2.1 dMo_goesAlong_223 (by decide) ?_
    exact wMo_goesAlong_227 S hr hlk hf N  μ17 (1 : Int32) _ _ _ hm hw (lv_sub hl [0] rfl)
  · refine lv_aload_n S.1 S.2.1 dMo_goesAlong_214 rfl (lv_at hl 0 rfl) ?_
    refine lv_iload_n S.1 S.2.1 dMo_goesAlong_215 rfl (lv_at hl 1 rfl) ?_
    obtain ⟨⟨v28, μ27⟩, h26, hm⟩ := ob hm
    refine sw_Vi (q := 84) (rest := [.ref (ξ.2.2.2.1 84)]) S hw (cMo_testOf l N 10 hf u2 h26) kMo_testOf wm_Mo_343 (is_84 hf).1 (e_Mo (is_84 hf)) rfl rfl rfl rfl hl.1 (Nat.le_of_ble_eq_true rfl) ⟨rfl, rfl, Nat.le_of_ble_eq_true rfl, Nat.le_of_ble_eq_true rfl⟩ ⟨Nat.le_of_ble_eq_true rfl, Nat.le_of_ble_eq_true rfl⟩ dMo_goesAlong_216 (fun H locs hw _ => ?_)
    refine bif_eq (tgt := 226) S.1 S.2.1 hm dMo_goesAlong_219 (by decide) (fun hm => ?_) (fun hm => ?_)
    · refine lv_iconst (v := (0 : Int32)) S.1 S.2.1 dMo_goesAlong_226 (by decide) ?_
      exact wMo_goesAlong_227 S hr hlk hf N  μ27 (0 : Int32) _ _ _ hm hw (lv_sub hl [0] rfl)
    · refine lv_iconst (v := (1 : Int32)) S.1 S.2.1 dMo_goesAlong_222 (by decide) ?_
      refine lv_goto (tgt := 227) S.1 S.2.1 dMo_goesAlong_223 (by decide) ?_
      exact wMo_goesAlong_227 S hr hlk hf N  μ27 (1 : Int32) _ _ _ hm hw (lv_sub hl [0] rfl)
set_option maxHeartbeats 4000000 in
set_option maxRecDepth 100000 in
theorem wMo_goesAlong_92 {l : Launch} {p : Program} {e : Env} {s : State} {m : MethodId} {args : Array Value} {below : List Frame} {meth : Method} {c : Code} {Γ : sw_C} {A : Nat → Prop} {ξ : sw_x} {g : sw_g} {res : sw_m} (S : CallFix p m c prog_10_method_133_code 5 s args (Cond.code yMo_goesAlong prog_10_method_133_code 5 (none) :: sw_tb) R_Mo) (hr : meth.sig.returnType = none) (hlk : meth.locks = false) (hf : sw_wf ξ g.2.2) (N : Nat) : ∀ (fu : Nat) (μ : sw_m) (u2 : Int32) (u3 : Int32) (u4 : Int32) (H : Heap) (locs : List Loc) (ls : Array Slot), fMo_goesAlong_92 N   fu μ u2 u3 u4 = some res → sw_S Γ A ξ g μ s H locs → lv_has ls 5 [(0, .ref (ξ.2.2.2.1 84)), (2, .int u2), (3, .int u3), (4, .int u4)] → W p l e (headSpec (Cond.code yMo_goesAlong prog_10_method_133_code 5 (none) :: sw_tb) rmMo_goesAlong).room s m args below meth c H locs 0 0 (MQ below (sw_Qv Γ A ξ g res (True)) args s 0 0 A) (F0 m 92 ls []) := by
  intro fu
  induction fu with
  | zero => intro μ u2 u3 u4 H locs ls hm; rw [fMo_goesAlong_92.eq_1] at hm; cases hm
  | succ fu ih =>
    intro μ u2 u3 u4 H locs ls hm hw hl
    rw [fMo_goesAlong_92.eq_2] at hm
    refine lv_iload S.1 S.2.1 dMo_goesAlong_92 (lv_at hl 3 rfl) ?_
    refine lv_iload_n S.1 S.2.1 dMo_goesAlong_94 rfl (lv_at hl 2 rfl) ?_
    refine bicmp_ge (tgt := 159) S.1 S.2.1 hm dMo_goesAlong_95 (by decide) (fun hm => ?_) (fun hm => ?_)
    · refine lv_aload_n S.1 S.2.1 dMo_goesAlong_159 rfl (lv_at hl 0 rfl) ?_
      refine lv_iconst (v := (1 : Int32)) S.1 S.2.1 dMo_goesAlong_160 (by decide) ?_
      refine put_Mo S hw (is_84 hf) 45 (by decide) ps_Mo_45 rfl rfl rfl wf_Mo_486 hm dMo_goesAlong_161 (fun μ11 H locs hm hw => ?_)
      refine lv_aload_n S.1 S.2.1 dMo_goesAlong_164 rfl (lv_at hl 0 rfl) ?_
      refine lv_bipush (v := (26 : Int32)) S.1 S.2.1 dMo_goesAlong_165 (by decide) ?_
      obtain ⟨⟨v14, μ13⟩, h12, hm⟩ := ob hm
      refine sw_Vi (q := 84) (rest := []) S hw (cMo_passes0 l N hf (26 : Int32) h12) kMo_passes0 wm_Mo_310 (is_84 hf).1 (e_Mo (is_84 hf)) rfl rfl rfl rfl hl.1 (Nat.le_of_ble_eq_true rfl) ⟨rfl, rfl, Nat.le_of_ble_eq_true rfl, Nat.le_of_ble_eq_true rfl⟩ ⟨Nat.le_of_ble_eq_true rfl, Nat.le_of_ble_eq_true rfl⟩ dMo_goesAlong_167 (fun H locs hw _ => ?_)
      refine bif_eq (tgt := 200) S.1 S.2.1 hm dMo_goesAlong_170 (by decide) (fun hm => ?_) (fun hm => ?_)
      · exact wMo_goesAlong_200 S hr hlk hf N  μ13 u2 _ _ _ hm hw (lv_sub hl [0, 1] rfl)
      · refine lv_aload_n S.1 S.2.1 dMo_goesAlong_173 rfl (lv_at hl 0 rfl) ?_
        refine lv_aload_n S.1 S.2.1 dMo_goesAlong_174 rfl (lv_at hl 0 rfl) ?_
        refine get_Mo (v := .ref (ξ.2.2.2.1 86)) S hw (is_84 hf) 2 (by decide) rfl wf_Mo_28 dMo_goesAlong_175 ?_
        refine lv_sipush (v := (2854 : Int32)) S.1 S.2.1 dMo_goesAlong_178 (by decide) ?_
        refine lv_aload_n S.1 S.2.1 dMo_goesAlong_181 rfl (lv_at hl 0 rfl) ?_
        refine get_Mo (v := .int (μ13.1 84 22)) S hw (is_84 hf) 22 (by decide) rfl wf_Mo_286 dMo_goesAlong_182 ?_
        refine lv_iadd S.1 S.2.1 dMo_goesAlong_185 ?_
        refine sm_iald S hw (is_86 hf) hm dMo_goesAlong_186 (fun v29 hm => ?_)
        refine put_Mo S hw (is_84 hf) 45 (by decide) ps_Mo_45 rfl rfl rfl wf_Mo_486 hm dMo_goesAlong_187 (fun μ30 H locs hm hw => ?_)
        refine lv_aload_n S.1 S.2.1 dMo_goesAlong_190 rfl (lv_at hl 0 rfl) ?_
        refine lv_dup S.1 S.2.1 dMo_goesAlong_191 rfl ?_
        refine get_Mo (v := .int (μ30.1 84 22)) S hw (is_84 hf) 22 (by decide) rfl wf_Mo_286 dMo_goesAlong_192 ?_
        refine lv_iconst (v := (1 : Int32)) S.1 S.2.1 dMo_goesAlong_195 (by decide) ?_
        refine lv_iadd S.1 S.2.1 dMo_goesAlong_196 ?_
        refine put_Mo S hw (is_84 hf) 22 (by decide) ps_Mo_22 rfl rfl rfl wf_Mo_286 hm dMo_goesAlong_197 (fun μ31 H locs hm hw => ?_)
        exact wMo_goesAlong_200 S hr hlk hf N  μ31 u2 _ _ _ hm hw (lv_sub hl [0, 1] rfl)
    · refine lv_iload S.1 S.2.1 dMo_goesAlong_98 (lv_at hl 3 rfl) ?_
      refine bif_le (tgt := 113) S.1 S.2.1 hm dMo_goesAlong_100 (by decide) (fun hm => ?_) (fun hm => ?_)
      · exact wMo_goesAlong_113 S hr hlk hf N (fMo_goesAlong_92 N   fu) ih μ u2 u3 u4 _ _ _ hm hw (lv_sub hl [0, 1, 2, 3] rfl)
      · refine lv_aload_n S.1 S.2.1 dMo_goesAlong_103 rfl (lv_at hl 0 rfl) ?_
        refine lv_dup S.1 S.2.1 dMo_goesAlong_104 rfl ?_
        refine get_Mo (v := .int (μ.1 84 22)) S hw (is_84 hf) 22 (by decide) rfl wf_Mo_286 dMo_goesAlong_105 ?_
        refine lv_iconst (v := (1 : Int32)) S.1 S.2.1 dMo_goesAlong_108 (by decide) ?_
        refine lv_iadd S.1 S.2.1 dMo_goesAlong_109 ?_
        refine put_Mo S hw (is_84 hf) 22 (by decide) ps_Mo_22 rfl rfl rfl wf_Mo_286 hm dMo_goesAlong_110 (fun μ43 H locs hm hw => ?_)
        exact wMo_goesAlong_113 S hr hlk hf N (fMo_goesAlong_92 N   fu) ih μ43 u2 u3 u4 _ _ _ hm hw (lv_sub hl [0, 1, 2, 3] rfl)
set_option maxHeartbeats 4000000 in
set_option maxRecDepth 100000 in
theorem wMo_goesAlong_13 {l : Launch} {p : Program} {e : Env} {s : State} {m : MethodId} {args : Array Value} {below : List Frame} {meth : Method} {c : Code} {Γ : sw_C} {A : Nat → Prop} {ξ : sw_x} {g : sw_g} {res : sw_m} (S : CallFix p m c prog_10_method_133_code 5 s args (Cond.code yMo_goesAlong prog_10_method_133_code 5 (none) :: sw_tb) R_Mo) (hr : meth.sig.returnType = none) (hlk : meth.locks = false) (hf : sw_wf ξ g.2.2) (N : Nat) : ∀ (μ : sw_m) (u1 : Int32) (u2 : Int32) (s0 : Int32) (H : Heap) (locs : List Loc) (ls : Array Slot), fMo_goesAlong_13 N   μ u1 u2 s0 = some res → sw_S Γ A ξ g μ s H locs → lv_has ls 5 [(0, .ref (ξ.2.2.2.1 84)), (1, .int u1), (2, .int u2)] → W p l e (headSpec (Cond.code yMo_goesAlong prog_10_method_133_code 5 (none) :: sw_tb) rmMo_goesAlong).room s m args below meth c H locs 0 0 (MQ below (sw_Qv Γ A ξ g res (True)) args s 0 0 A) (F0 m 13 ls [.int s0, .ref (ξ.2.2.2.1 84)]) := by
  intro μ u1 u2 s0 H locs ls hm hw hl
  unfold fMo_goesAlong_13 at hm
  refine put_Mo S hw (is_84 hf) 29 (by decide) ps_Mo_29 rfl rfl rfl wf_Mo_328 hm dMo_goesAlong_13 (fun μ1 H locs hm hw => ?_)
  refine lv_aload_n S.1 S.2.1 dMo_goesAlong_16 rfl (lv_at hl 0 rfl) ?_
  refine lv_iconst (v := (1 : Int32)) S.1 S.2.1 dMo_goesAlong_17 (by decide) ?_
  refine put_Mo S hw (is_84 hf) 25 (by decide) ps_Mo_25 rfl rfl rfl wf_Mo_316 hm dMo_goesAlong_18 (fun μ2 H locs hm hw => ?_)
  refine lv_aload_n S.1 S.2.1 dMo_goesAlong_21 rfl (lv_at hl 0 rfl) ?_
  refine lv_iload_n S.1 S.2.1 dMo_goesAlong_22 rfl (lv_at hl 1 rfl) ?_
  refine put_Mo S hw (is_84 hf) 23 (by decide) ps_Mo_23 rfl rfl rfl wf_Mo_283 hm dMo_goesAlong_23 (fun μ3 H locs hm hw => ?_)
  refine lv_aload_n S.1 S.2.1 dMo_goesAlong_26 rfl (lv_at hl 0 rfl) ?_
  refine lv_aload_n S.1 S.2.1 dMo_goesAlong_27 rfl (lv_at hl 0 rfl) ?_
  refine get_Mo (v := .int (μ3.1 84 44)) S hw (is_84 hf) 44 (by decide) rfl wf_Mo_471 dMo_goesAlong_28 ?_
  refine put_Mo S hw (is_84 hf) 22 (by decide) ps_Mo_22 rfl rfl rfl wf_Mo_286 hm dMo_goesAlong_31 (fun μ4 H locs hm hw => ?_)
  refine lv_aload_n S.1 S.2.1 dMo_goesAlong_34 rfl (lv_at hl 0 rfl) ?_
  refine lv_aload_n S.1 S.2.1 dMo_goesAlong_35 rfl (lv_at hl 0 rfl) ?_
  refine lv_aload_n S.1 S.2.1 dMo_goesAlong_36 rfl (lv_at hl 0 rfl) ?_
  refine get_Mo (v := .int (μ4.1 84 22)) S hw (is_84 hf) 22 (by decide) rfl wf_Mo_286 dMo_goesAlong_37 ?_
  obtain ⟨⟨v7, μ6⟩, h5, hm⟩ := ob hm
  refine sw_Vi (q := 84) (rest := [.ref (ξ.2.2.2.1 84)]) S hw (cMo_codeAt l  hf (μ4.1 84 22) h5) kMo_codeAt wm_Mo_289 (is_84 hf).1 (e_Mo (is_84 hf)) rfl rfl rfl rfl hl.1 (Nat.le_of_ble_eq_true rfl) ⟨rfl, rfl, Nat.le_of_ble_eq_true rfl, Nat.le_of_ble_eq_true rfl⟩ ⟨Nat.le_of_ble_eq_true rfl, Nat.le_of_ble_eq_true rfl⟩ dMo_goesAlong_40 (fun H locs hw _ => ?_)
  refine put_Mo S hw (is_84 hf) 46 (by decide) ps_Mo_46 rfl rfl rfl wf_Mo_480 hm dMo_goesAlong_43 (fun μ8 H locs hm hw => ?_)
  refine lv_aload_n S.1 S.2.1 dMo_goesAlong_46 rfl (lv_at hl 0 rfl) ?_
  refine lv_dup S.1 S.2.1 dMo_goesAlong_47 rfl ?_
  refine get_Mo (v := .int (μ8.1 84 22)) S hw (is_84 hf) 22 (by decide) rfl wf_Mo_286 dMo_goesAlong_48 ?_
  refine lv_iconst (v := (1 : Int32)) S.1 S.2.1 dMo_goesAlong_51 (by decide) ?_
  refine lv_iadd S.1 S.2.1 dMo_goesAlong_52 ?_
  refine put_Mo S hw (is_84 hf) 22 (by decide) ps_Mo_22 rfl rfl rfl wf_Mo_286 hm dMo_goesAlong_53 (fun μ9 H locs hm hw => ?_)
  refine lv_aload_n S.1 S.2.1 dMo_goesAlong_56 rfl (lv_at hl 0 rfl) ?_
  refine lv_iconst (v := (1 : Int32)) S.1 S.2.1 dMo_goesAlong_57 (by decide) ?_
  refine put_Mo S hw (is_84 hf) 47 (by decide) ps_Mo_47 rfl rfl rfl wf_Mo_483 hm dMo_goesAlong_58 (fun μ10 H locs hm hw => ?_)
  refine lv_aload_n S.1 S.2.1 dMo_goesAlong_61 rfl (lv_at hl 0 rfl) ?_
  refine get_Mo (v := .int (μ10.1 84 46)) S hw (is_84 hf) 46 (by decide) rfl wf_Mo_480 dMo_goesAlong_62 ?_
  refine lv_bipush (v := (25 : Int32)) S.1 S.2.1 dMo_goesAlong_65 (by decide) ?_
  refine bicmp_ne (tgt := 74) S.1 S.2.1 hm dMo_goesAlong_67 (by decide) (fun hm => ?_) (fun hm => ?_)
  · refine lv_aload_n S.1 S.2.1 dMo_goesAlong_74 rfl (lv_at hl 0 rfl) ?_
    refine get_Mo (v := .int (μ10.1 84 46)) S hw (is_84 hf) 46 (by decide) rfl wf_Mo_480 dMo_goesAlong_75 ?_
    refine lv_bipush (v := (22 : Int32)) S.1 S.2.1 dMo_goesAlong_78 (by decide) ?_
    refine bicmp_ne (tgt := 87) S.1 S.2.1 hm dMo_goesAlong_80 (by decide) (fun hm => ?_) (fun hm => ?_)
    · refine lv_iconst (v := (2 : Int32)) S.1 S.2.1 dMo_goesAlong_87 (by decide) ?_
      refine lv_istore_n (lv' := [(3, .int (2 : Int32)), (0, .ref (ξ.2.2.2.1 84)), (1, .int u1), (2, .int u2)]) S.1 S.2.1 dMo_goesAlong_88 rfl hl (by decide) rfl (fun ls hl => ?_)
      refine lv_iconst (v := (0 : Int32)) S.1 S.2.1 dMo_goesAlong_89 (by decide) ?_
      refine lv_istore (lv' := [(4, .int (0 : Int32)), (3, .int (2 : Int32)), (0, .ref (ξ.2.2.2.1 84)), (1, .int u1), (2, .int u2)]) S.1 S.2.1 dMo_goesAlong_90 hl (by decide) rfl (fun ls hl => ?_)
      exact wMo_goesAlong_92 S hr hlk hf N  N μ10 u2 (2 : Int32) (0 : Int32) _ _ _ hm hw (lv_sub hl [2, 4, 1, 0] rfl)
    · refine lv_iconst (v := (1 : Int32)) S.1 S.2.1 dMo_goesAlong_83 (by decide) ?_
      refine lv_goto (tgt := 88) S.1 S.2.1 dMo_goesAlong_84 (by decide) ?_
      refine lv_istore_n (lv' := [(3, .int (1 : Int32)), (0, .ref (ξ.2.2.2.1 84)), (1, .int u1), (2, .int u2)]) S.1 S.2.1 dMo_goesAlong_88 rfl hl (by decide) rfl (fun ls hl => ?_)
      refine lv_iconst (v := (0 : Int32)) S.1 S.2.1 dMo_goesAlong_89 (by decide) ?_
      refine lv_istore (lv' := [(4, .int (0 : Int32)), (3, .int (1 : Int32)), (0, .ref (ξ.2.2.2.1 84)), (1, .int u1), (2, .int u2)]) S.1 S.2.1 dMo_goesAlong_90 hl (by decide) rfl (fun ls hl => ?_)
      exact wMo_goesAlong_92 S hr hlk hf N  N μ10 u2 (1 : Int32) (0 : Int32) _ _ _ hm hw (lv_sub hl [2, 4, 1, 0] rfl)
  · refine lv_iconst (v := (0 : Int32)) S.1 S.2.1 dMo_goesAlong_70 (by decide) ?_
    refine lv_goto (tgt := 88) S.1 S.2.1 dMo_goesAlong_71 (by decide) ?_
    refine lv_istore_n (lv' := [(3, .int (0 : Int32)), (0, .ref (ξ.2.2.2.1 84)), (1, .int u1), (2, .int u2)]) S.1 S.2.1 dMo_goesAlong_88 rfl hl (by decide) rfl (fun ls hl => ?_)
    refine lv_iconst (v := (0 : Int32)) S.1 S.2.1 dMo_goesAlong_89 (by decide) ?_
    refine lv_istore (lv' := [(4, .int (0 : Int32)), (3, .int (0 : Int32)), (0, .ref (ξ.2.2.2.1 84)), (1, .int u1), (2, .int u2)]) S.1 S.2.1 dMo_goesAlong_90 hl (by decide) rfl (fun ls hl => ?_)
    exact wMo_goesAlong_92 S hr hlk hf N  N μ10 u2 (0 : Int32) (0 : Int32) _ _ _ hm hw (lv_sub hl [2, 4, 1, 0] rfl)
set_option maxHeartbeats 4000000 in
set_option maxRecDepth 100000 in
theorem cMo_goesAlong (l : Launch) (N : Nat) {Γ : sw_C} {A : Nat → Prop} {ξ : sw_x} {g : sw_g} {μ : sw_m} (hf : sw_wf ξ g.2.2) (a1 : Int32) (a2 : Int32) {res : sw_m} (hm : fMo_goesAlong N μ a1 a2 = some res) : Met l yMo_goesAlong (Cond.code yMo_goesAlong prog_10_method_133_code 5 (none) :: sw_tb) rmMo_goesAlong (va_Pc [.ref (ξ.2.2.2.1 84), .int a1, .int a2] (sw_V Γ A ξ g μ)) (sw_Qv Γ A ξ g res (True)) 0 0 A := by
  refine Met.ofW (cc := prog_10_method_133_code) (maxL := 5) (ret := none) (by decide) rfl ?_
  intro p e s m args below meth c s₁ B hml hv
  obtain ⟨rfl, hv⟩ := hv
  have S : CallFix p m c prog_10_method_133_code 5 s _ (Cond.code yMo_goesAlong prog_10_method_133_code 5 (none) :: sw_tb) R_Mo := ⟨B.exec, B.bytes, hml, findClass_of_methodNamed B.named, atoms_spec (ws := (Cond.code yMo_goesAlong prog_10_method_133_code 5 (none) :: sw_tb)) B.pre⟩
  have hr := B.returns
  have hlk := B.notSynchronized
  have hw := sw_begin hv
  have hl := lv_entry [.ref (ξ.2.2.2.1 84), .int a1, .int a2] (n := 5) (Nat.le_of_ble_eq_true rfl)
  rw [lg_entry_eq]
  generalize (lg_sl [.ref (ξ.2.2.2.1 84), .int a1, .int a2] ++ List.replicate (5 - (lg_sl [.ref (ξ.2.2.2.1 84), .int a1, .int a2]).length) Slot.unset).toArray = ls at hl ⊢
  have hl : lv_has ls 5 [(0, .ref (ξ.2.2.2.1 84)), (1, .int a1), (2, .int a2)] := hl
  unfold fMo_goesAlong at hm
  refine lv_aload_n S.1 S.2.1 dMo_goesAlong_0 rfl (lv_at hl 0 rfl) ?_
  refine lv_iload_n S.1 S.2.1 dMo_goesAlong_1 rfl (lv_at hl 2 rfl) ?_
  refine bif_eq (tgt := 12) S.1 S.2.1 hm dMo_goesAlong_2 (by decide) (fun hm => ?_) (fun hm => ?_)
  · refine lv_iconst (v := (0 : Int32)) S.1 S.2.1 dMo_goesAlong_12 (by decide) ?_
    exact wMo_goesAlong_13 S hr hlk hf N  μ a1 a2 (0 : Int32) _ _ _ hm hw (lv_sub hl [0, 1, 2] rfl)
  · refine lv_aload_n S.1 S.2.1 dMo_goesAlong_5 rfl (lv_at hl 0 rfl) ?_
    obtain ⟨⟨v46, μ45⟩, h44, hm⟩ := ob hm
    refine sw_Vi (q := 84) (rest := [.ref (ξ.2.2.2.1 84)]) S hw (cMo_tiltNow l N hf  h44) kMo_tiltNow wm_Mo_154 (is_84 hf).1 (e_Mo (is_84 hf)) rfl rfl rfl rfl hl.1 (Nat.le_of_ble_eq_true rfl) ⟨rfl, rfl, Nat.le_of_ble_eq_true rfl, Nat.le_of_ble_eq_true rfl⟩ ⟨Nat.le_of_ble_eq_true rfl, Nat.le_of_ble_eq_true rfl⟩ dMo_goesAlong_6 (fun H locs hw _ => ?_)
    refine lv_goto (tgt := 13) S.1 S.2.1 dMo_goesAlong_9 (by decide) ?_
    exact wMo_goesAlong_13 S hr hlk hf N  μ45 a1 a2 v46 _ _ _ hm hw (lv_sub hl [0, 1, 2] rfl)
set_option maxHeartbeats 4000000 in
set_option maxRecDepth 100000 in
theorem wMo_obeys_70 {l : Launch} {p : Program} {e : Env} {s : State} {m : MethodId} {args : Array Value} {below : List Frame} {meth : Method} {c : Code} {Γ : sw_C} {A : Nat → Prop} {ξ : sw_x} {g : sw_g} {res : Int32 × sw_m} (S : CallFix p m c prog_10_method_135_code 3 s args (Cond.code yMo_obeys prog_10_method_135_code 3 (some .int) :: sw_tb) R_Mo) (hr : meth.sig.returnType = some .int) (hlk : meth.locks = false) (hf : sw_wf ξ g.2.2) (N : Nat) : ∀ (μ : sw_m) (u1 : Int32) (H : Heap) (locs : List Loc) (ls : Array Slot), fMo_obeys_70 N   μ u1 = some res → sw_S Γ A ξ g μ s H locs → lv_has ls 3 [(0, .ref (ξ.2.2.2.1 84)), (1, .int u1)] → W p l e (headSpec (Cond.code yMo_obeys prog_10_method_135_code 3 (some .int) :: sw_tb) rmMo_obeys).room s m args below meth c H locs 0 0 (MQ below (sw_Qi Γ A ξ g res.2 res.1 (True)) args s 0 0 A) (F0 m 70 ls []) := by
  intro μ u1 H locs ls hm hw hl
  unfold fMo_obeys_70 at hm
  refine lv_aload_n S.1 S.2.1 dMo_obeys_70 rfl (lv_at hl 0 rfl) ?_
  refine lv_iload_n S.1 S.2.1 dMo_obeys_71 rfl (lv_at hl 1 rfl) ?_
  refine lv_aload_n S.1 S.2.1 dMo_obeys_72 rfl (lv_at hl 0 rfl) ?_
  refine get_Mo (v := .ref (ξ.2.2.2.1 108)) S hw (is_84 hf) 49 (by decide) rfl wf_Mo_104 dMo_obeys_73 ?_
  refine lv_iconst (v := (1 : Int32)) S.1 S.2.1 dMo_obeys_76 (by decide) ?_
  refine sm_lald S hw (is_108 hf) hm dMo_obeys_77 (fun v14 hm => ?_)
  obtain ⟨v16, h15, hm⟩ := ob hm
  refine sw_Si (rest := [.int u1, .ref (ξ.2.2.2.1 84)]) S hw (cMo_small l  hf v14 h15) kMo_small wm_Mo_494 rfl rfl hl.1 (Nat.le_of_ble_eq_true rfl) ⟨rfl, rfl, Nat.le_of_ble_eq_true rfl, Nat.le_of_ble_eq_true rfl⟩ ⟨Nat.le_of_ble_eq_true rfl, Nat.le_of_ble_eq_true rfl⟩ dMo_obeys_78 (fun H locs hw _ => ?_)
  obtain ⟨⟨v19, μ18⟩, h17, hm⟩ := ob hm
  refine sw_Vi (q := 84) (rest := []) S hw (cMo_putsKept l N hf u1 v16 h17) kMo_putsKept wm_Mo_365 (is_84 hf).1 (e_Mo (is_84 hf)) rfl rfl rfl rfl hl.1 (Nat.le_of_ble_eq_true rfl) ⟨rfl, rfl, Nat.le_of_ble_eq_true rfl, Nat.le_of_ble_eq_true rfl⟩ ⟨Nat.le_of_ble_eq_true rfl, Nat.le_of_ble_eq_true rfl⟩ dMo_obeys_81 (fun H locs hw _ => ?_)
  refine lv_istore_n (lv' := [(2, .int v19), (0, .ref (ξ.2.2.2.1 84)), (1, .int u1)]) S.1 S.2.1 dMo_obeys_84 rfl hl (by decide) rfl (fun ls hl => ?_)
  refine lv_aload_n S.1 S.2.1 dMo_obeys_85 rfl (lv_at hl 1 rfl) ?_
  refine lv_iload_n S.1 S.2.1 dMo_obeys_86 rfl (lv_at hl 0 rfl) ?_
  refine bif_ge (tgt := 97) S.1 S.2.1 hm dMo_obeys_87 (by decide) (fun hm => ?_) (fun hm => ?_)
  · refine lv_iload_n S.1 S.2.1 dMo_obeys_97 rfl (lv_at hl 0 rfl) ?_
    refine put_Mo S hw (is_84 hf) 28 (by decide) ps_Mo_28 rfl rfl rfl wf_Mo_325 hm dMo_obeys_98 (fun μ20 H locs hm hw => ?_)
    refine lv_iload_n S.1 S.2.1 dMo_obeys_101 rfl (lv_at hl 0 rfl) ?_
    obtain rfl := Option.some.inj hm
    exact sw_iret S hr hlk hw trivial dMo_obeys_102
  · refine lv_aload_n S.1 S.2.1 dMo_obeys_90 rfl (lv_at hl 1 rfl) ?_
    refine get_Mo (v := .int (μ18.1 84 28)) S hw (is_84 hf) 28 (by decide) rfl wf_Mo_325 dMo_obeys_91 ?_
    refine lv_goto (tgt := 98) S.1 S.2.1 dMo_obeys_94 (by decide) ?_
    refine put_Mo S hw (is_84 hf) 28 (by decide) ps_Mo_28 rfl rfl rfl wf_Mo_325 hm dMo_obeys_98 (fun μ21 H locs hm hw => ?_)
    refine lv_iload_n S.1 S.2.1 dMo_obeys_101 rfl (lv_at hl 0 rfl) ?_
    obtain rfl := Option.some.inj hm
    exact sw_iret S hr hlk hw trivial dMo_obeys_102
set_option maxHeartbeats 4000000 in
set_option maxRecDepth 100000 in
theorem cMo_obeys (l : Launch) (N : Nat) {Γ : sw_C} {A : Nat → Prop} {ξ : sw_x} {g : sw_g} {μ : sw_m} (hf : sw_wf ξ g.2.2) {res : Int32 × sw_m} (hm : fMo_obeys N μ = some res) : Met l yMo_obeys (Cond.code yMo_obeys prog_10_method_135_code 3 (some .int) :: sw_tb) rmMo_obeys (va_Pc [.ref (ξ.2.2.2.1 84)] (sw_V Γ A ξ g μ)) (sw_Qi Γ A ξ g res.2 res.1 (True)) 0 0 A := by
  refine Met.ofW (cc := prog_10_method_135_code) (maxL := 3) (ret := some .int) (by decide) rfl ?_
  intro p e s m args below meth c s₁ B hml hv
  obtain ⟨rfl, hv⟩ := hv
  have S : CallFix p m c prog_10_method_135_code 3 s _ (Cond.code yMo_obeys prog_10_method_135_code 3 (some .int) :: sw_tb) R_Mo := ⟨B.exec, B.bytes, hml, findClass_of_methodNamed B.named, atoms_spec (ws := (Cond.code yMo_obeys prog_10_method_135_code 3 (some .int) :: sw_tb)) B.pre⟩
  have hr := B.returns
  have hlk := B.notSynchronized
  have hw := sw_begin hv
  have hl := lv_entry [.ref (ξ.2.2.2.1 84)] (n := 3) (Nat.le_of_ble_eq_true rfl)
  rw [lg_entry_eq]
  generalize (lg_sl [.ref (ξ.2.2.2.1 84)] ++ List.replicate (3 - (lg_sl [.ref (ξ.2.2.2.1 84)]).length) Slot.unset).toArray = ls at hl ⊢
  have hl : lv_has ls 3 [(0, .ref (ξ.2.2.2.1 84))] := hl
  unfold fMo_obeys at hm
  refine lv_aload_n S.1 S.2.1 dMo_obeys_0 rfl (lv_at hl 0 rfl) ?_
  refine get_Mo (v := .ref (ξ.2.2.2.1 108)) S hw (is_84 hf) 49 (by decide) rfl wf_Mo_104 dMo_obeys_1 ?_
  refine lv_iconst (v := (0 : Int32)) S.1 S.2.1 dMo_obeys_4 (by decide) ?_
  refine sm_lald S hw (is_108 hf) hm dMo_obeys_5 (fun v1 hm => ?_)
  obtain ⟨v3, h2, hm⟩ := ob hm
  refine sw_Si (rest := []) S hw (cMo_small l  hf v1 h2) kMo_small wm_Mo_494 rfl rfl hl.1 (Nat.le_of_ble_eq_true rfl) ⟨rfl, rfl, Nat.le_of_ble_eq_true rfl, Nat.le_of_ble_eq_true rfl⟩ ⟨Nat.le_of_ble_eq_true rfl, Nat.le_of_ble_eq_true rfl⟩ dMo_obeys_6 (fun H locs hw _ => ?_)
  refine lv_istore_n (lv' := [(1, .int v3), (0, .ref (ξ.2.2.2.1 84))]) S.1 S.2.1 dMo_obeys_9 rfl hl (by decide) rfl (fun ls hl => ?_)
  refine lv_aload_n S.1 S.2.1 dMo_obeys_10 rfl (lv_at hl 1 rfl) ?_
  refine get_Mo (v := .int (μ.1 84 46)) S hw (is_84 hf) 46 (by decide) rfl wf_Mo_480 dMo_obeys_11 ?_
  refine nm_i hm (fun x4 hm => ?_)
  by_cases c0 : x4 = (22 : Int32)
  · have hm := sw_it c0 hm
    refine lv_tableIn (off := 30) (tgt := 44) S.1 S.2.1 dMo_obeys_14 (by rw [c0]; decide) (by rw [c0]; decide) (by rw [c0]; decide) (by decide) ?_
    refine lv_aload_n S.1 S.2.1 dMo_obeys_44 rfl (lv_at hl 1 rfl) ?_
    refine lv_iload_n S.1 S.2.1 dMo_obeys_45 rfl (lv_at hl 0 rfl) ?_
    obtain ⟨⟨v7, μ6⟩, h5, hm⟩ := ob hm
    refine sw_Vi (q := 84) (rest := []) S hw (cMo_takesKept l N hf v3 h5) kMo_takesKept wm_Mo_371 (is_84 hf).1 (e_Mo (is_84 hf)) rfl rfl rfl rfl hl.1 (Nat.le_of_ble_eq_true rfl) ⟨rfl, rfl, Nat.le_of_ble_eq_true rfl, Nat.le_of_ble_eq_true rfl⟩ ⟨Nat.le_of_ble_eq_true rfl, Nat.le_of_ble_eq_true rfl⟩ dMo_obeys_46 (fun H locs hw _ => ?_)
    obtain rfl := Option.some.inj hm
    exact sw_iret S hr hlk hw trivial dMo_obeys_49
  · have hm := sw_if c0 hm
    by_cases c1 : x4 = (23 : Int32)
    · have hm := sw_it c1 hm
      refine lv_tableIn (off := 36) (tgt := 50) S.1 S.2.1 dMo_obeys_14 (by rw [c1]; decide) (by rw [c1]; decide) (by rw [c1]; decide) (by decide) ?_
      refine lv_aload_n S.1 S.2.1 dMo_obeys_50 rfl (lv_at hl 1 rfl) ?_
      refine lv_iload_n S.1 S.2.1 dMo_obeys_51 rfl (lv_at hl 0 rfl) ?_
      refine lv_aload_n S.1 S.2.1 dMo_obeys_52 rfl (lv_at hl 1 rfl) ?_
      refine get_Mo (v := .ref (ξ.2.2.2.1 108)) S hw (is_84 hf) 49 (by decide) rfl wf_Mo_104 dMo_obeys_53 ?_
      refine lv_iconst (v := (1 : Int32)) S.1 S.2.1 dMo_obeys_56 (by decide) ?_
      refine sm_lald S hw (is_108 hf) hm dMo_obeys_57 (fun v8 hm => ?_)
      obtain ⟨v10, h9, hm⟩ := ob hm
      refine sw_Si (rest := [.int v3, .ref (ξ.2.2.2.1 84)]) S hw (cMo_small l  hf v8 h9) kMo_small wm_Mo_494 rfl rfl hl.1 (Nat.le_of_ble_eq_true rfl) ⟨rfl, rfl, Nat.le_of_ble_eq_true rfl, Nat.le_of_ble_eq_true rfl⟩ ⟨Nat.le_of_ble_eq_true rfl, Nat.le_of_ble_eq_true rfl⟩ dMo_obeys_58 (fun H locs hw _ => ?_)
      obtain ⟨⟨v13, μ12⟩, h11, hm⟩ := ob hm
      refine sw_Vi (q := 84) (rest := []) S hw (cMo_padsKept l N hf v3 v10 h11) kMo_padsKept wm_Mo_374 (is_84 hf).1 (e_Mo (is_84 hf)) rfl rfl rfl rfl hl.1 (Nat.le_of_ble_eq_true rfl) ⟨rfl, rfl, Nat.le_of_ble_eq_true rfl, Nat.le_of_ble_eq_true rfl⟩ ⟨Nat.le_of_ble_eq_true rfl, Nat.le_of_ble_eq_true rfl⟩ dMo_obeys_61 (fun H locs hw _ => ?_)
      obtain rfl := Option.some.inj hm
      exact sw_iret S hr hlk hw trivial dMo_obeys_64
    · have hm := sw_if c1 hm
      by_cases c2 : x4 = (24 : Int32)
      · have hm := sw_it c2 hm
        refine lv_tableIn (off := 56) (tgt := 70) S.1 S.2.1 dMo_obeys_14 (by rw [c2]; decide) (by rw [c2]; decide) (by rw [c2]; decide) (by decide) ?_
        exact wMo_obeys_70 S hr hlk hf N  μ v3 _ _ _ hm hw (lv_sub hl [1, 0] rfl)
      · have hm := sw_if c2 hm
        by_cases c3 : x4 = (25 : Int32)
        · have hm := sw_it c3 hm
          refine lv_tableIn (off := 51) (tgt := 65) S.1 S.2.1 dMo_obeys_14 (by rw [c3]; decide) (by rw [c3]; decide) (by rw [c3]; decide) (by decide) ?_
          refine lv_aload_n S.1 S.2.1 dMo_obeys_65 rfl (lv_at hl 1 rfl) ?_
          obtain ⟨⟨v24, μ23⟩, h22, hm⟩ := ob hm
          refine sw_Vi (q := 84) (rest := []) S hw (cMo_passesKept l N hf  h22) kMo_passesKept wm_Mo_377 (is_84 hf).1 (e_Mo (is_84 hf)) rfl rfl rfl rfl hl.1 (Nat.le_of_ble_eq_true rfl) ⟨rfl, rfl, Nat.le_of_ble_eq_true rfl, Nat.le_of_ble_eq_true rfl⟩ ⟨Nat.le_of_ble_eq_true rfl, Nat.le_of_ble_eq_true rfl⟩ dMo_obeys_66 (fun H locs hw _ => ?_)
          obtain rfl := Option.some.inj hm
          exact sw_iret S hr hlk hw trivial dMo_obeys_69
        · have hm := sw_if c3 hm
          refine lv_tableOut (tgt := 70) S.1 S.2.1 dMo_obeys_14 (by have := lv_neT c0 (show ((22 : Int32)).toInt = 22 from rfl); have := lv_neT c1 (show ((23 : Int32)).toInt = 23 from rfl); have := lv_neT c2 (show ((24 : Int32)).toInt = 24 from rfl); have := lv_neT c3 (show ((25 : Int32)).toInt = 25 from rfl); omega) (by decide) ?_
          exact wMo_obeys_70 S hr hlk hf N  μ v3 _ _ _ hm hw (lv_sub hl [1, 0] rfl)
set_option maxHeartbeats 4000000 in
set_option maxRecDepth 100000 in
theorem wMo_runs_19 {l : Launch} {p : Program} {e : Env} {s : State} {m : MethodId} {args : Array Value} {below : List Frame} {meth : Method} {c : Code} {Γ : sw_C} {A : Nat → Prop} {ξ : sw_x} {g : sw_g} {res : Int32 × sw_m} (S : CallFix p m c prog_10_method_136_code 5 s args (Cond.code yMo_runs prog_10_method_136_code 5 (some .boolean) :: sw_tb) R_Mo) (hr : meth.sig.returnType = some .boolean) (hlk : meth.locks = false) (hf : sw_wf ξ g.2.2) (N : Nat) : ∀ (fu : Nat) (μ : sw_m) (u1 : Int32) (u2 : Int32) (u3 : Int32) (u4 : Int32) (H : Heap) (locs : List Loc) (ls : Array Slot), fMo_runs_19 N   fu μ u1 u2 u3 u4 = some res → sw_S Γ A ξ g μ s H locs → lv_has ls 5 [(0, .ref (ξ.2.2.2.1 84)), (1, .int u1), (2, .int u2), (3, .int u3), (4, .int u4)] → W p l e (headSpec (Cond.code yMo_runs prog_10_method_136_code 5 (some .boolean) :: sw_tb) rmMo_runs).room s m args below meth c H locs 0 0 (MQ below (sw_Qi Γ A ξ g res.2 res.1 (True)) args s 0 0 A) (F0 m 19 ls []) := by
  intro fu
  induction fu with
  | zero => intro μ u1 u2 u3 u4 H locs ls hm; rw [fMo_runs_19.eq_1] at hm; cases hm
  | succ fu ih =>
    intro μ u1 u2 u3 u4 H locs ls hm hw hl
    rw [fMo_runs_19.eq_2] at hm
    refine lv_iload S.1 S.2.1 dMo_runs_19 (lv_at hl 4 rfl) ?_
    refine lv_iload_n S.1 S.2.1 dMo_runs_21 rfl (lv_at hl 2 rfl) ?_
    refine bicmp_ge (tgt := 73) S.1 S.2.1 hm dMo_runs_22 (by decide) (fun hm => ?_) (fun hm => ?_)
    · refine lv_aload_n S.1 S.2.1 dMo_runs_73 rfl (lv_at hl 0 rfl) ?_
      refine lv_iload_n S.1 S.2.1 dMo_runs_74 rfl (lv_at hl 3 rfl) ?_
      refine put_Mo S hw (is_84 hf) 44 (by decide) ps_Mo_44 rfl rfl rfl wf_Mo_471 hm dMo_runs_75 (fun μ5 H locs hm hw => ?_)
      refine lv_iconst (v := (1 : Int32)) S.1 S.2.1 dMo_runs_78 (by decide) ?_
      obtain rfl := Option.some.inj hm
      exact sw_zret S hr hlk (Or.inr rfl) hw trivial dMo_runs_79
    · refine lv_aload_n S.1 S.2.1 dMo_runs_25 rfl (lv_at hl 0 rfl) ?_
      refine lv_iload_n S.1 S.2.1 dMo_runs_26 rfl (lv_at hl 1 rfl) ?_
      refine lv_iconst (v := (1 : Int32)) S.1 S.2.1 dMo_runs_27 (by decide) ?_
      obtain ⟨μ7, h6, hm⟩ := ob hm
      refine sw_Vv (q := 84) (rest := []) S hw (cMo_goesAlong l N hf u1 (1 : Int32) h6) kMo_goesAlong wm_Mo_498 (is_84 hf).1 (e_Mo (is_84 hf)) rfl rfl rfl rfl hl.1 (Nat.le_of_ble_eq_true rfl) ⟨rfl, rfl, Nat.le_of_ble_eq_true rfl, Nat.le_of_ble_eq_true rfl⟩ ⟨Nat.le_of_ble_eq_true rfl, Nat.le_of_ble_eq_true rfl⟩ dMo_runs_28 (fun H locs hw _ => ?_)
      refine lv_aload_n S.1 S.2.1 dMo_runs_31 rfl (lv_at hl 0 rfl) ?_
      refine get_Mo (v := .int (μ7.1 84 48)) S hw (is_84 hf) 48 (by decide) rfl wf_Mo_489 dMo_runs_32 ?_
      refine bif_ne (tgt := 41) S.1 S.2.1 hm dMo_runs_35 (by decide) (fun hm => ?_) (fun hm => ?_)
      · refine lv_aload_n S.1 S.2.1 dMo_runs_41 rfl (lv_at hl 0 rfl) ?_
        refine get_Mo (v := .int (μ7.1 84 47)) S hw (is_84 hf) 47 (by decide) rfl wf_Mo_483 dMo_runs_42 ?_
        refine bif_eq (tgt := 55) S.1 S.2.1 hm dMo_runs_45 (by decide) (fun hm => ?_) (fun hm => ?_)
        · refine lv_iconst (v := (0 : Int32)) S.1 S.2.1 dMo_runs_55 (by decide) ?_
          obtain rfl := Option.some.inj hm
          exact sw_zret S hr hlk (Or.inl rfl) hw trivial dMo_runs_56
        · refine lv_aload_n S.1 S.2.1 dMo_runs_48 rfl (lv_at hl 0 rfl) ?_
          obtain ⟨⟨v10, μ9⟩, h8, hm⟩ := ob hm
          refine sw_Vi (q := 84) (rest := []) S hw (cMo_obeys l N hf  h8) kMo_obeys wm_Mo_502 (is_84 hf).1 (e_Mo (is_84 hf)) rfl rfl rfl rfl hl.1 (Nat.le_of_ble_eq_true rfl) ⟨rfl, rfl, Nat.le_of_ble_eq_true rfl, Nat.le_of_ble_eq_true rfl⟩ ⟨Nat.le_of_ble_eq_true rfl, Nat.le_of_ble_eq_true rfl⟩ dMo_runs_49 (fun H locs hw _ => ?_)
          refine bif_ge (tgt := 57) S.1 S.2.1 hm dMo_runs_52 (by decide) (fun hm => ?_) (fun hm => ?_)
          · refine lv_aload_n S.1 S.2.1 dMo_runs_57 rfl (lv_at hl 0 rfl) ?_
            refine lv_dup S.1 S.2.1 dMo_runs_58 rfl ?_
            refine get_Mo (v := .int (μ9.1 84 27)) S hw (is_84 hf) 27 (by decide) rfl wf_Mo_322 dMo_runs_59 ?_
            refine lv_iconst (v := (1 : Int32)) S.1 S.2.1 dMo_runs_62 (by decide) ?_
            refine lv_iadd S.1 S.2.1 dMo_runs_63 ?_
            refine put_Mo S hw (is_84 hf) 27 (by decide) ps_Mo_27 rfl rfl rfl wf_Mo_322 hm dMo_runs_64 (fun μ11 H locs hm hw => ?_)
            obtain ⟨x12, ex12, hm⟩ := nm_x hm
            refine lv_iinc (v := x12) (lv' := [(4, .int x12), (0, .ref (ξ.2.2.2.1 84)), (1, .int u1), (2, .int u2), (3, .int u3)]) S.1 S.2.1 dMo_runs_67 hl (k := 4) rfl (by rw [ex12]; rfl) (by decide) rfl (fun ls hl => ?_)
            refine lv_goto (tgt := 19) S.1 S.2.1 dMo_runs_70 (by decide) ?_
            exact ih μ11 u1 u2 u3 x12 _ _ _ hm hw (lv_sub hl [1, 2, 3, 4, 0] rfl)
          · refine lv_iconst (v := (0 : Int32)) S.1 S.2.1 dMo_runs_55 (by decide) ?_
            obtain rfl := Option.some.inj hm
            exact sw_zret S hr hlk (Or.inl rfl) hw trivial dMo_runs_56
      · refine lv_goto (tgt := 67) S.1 S.2.1 dMo_runs_38 (by decide) ?_
        obtain ⟨x13, ex13, hm⟩ := nm_x hm
        refine lv_iinc (v := x13) (lv' := [(4, .int x13), (0, .ref (ξ.2.2.2.1 84)), (1, .int u1), (2, .int u2), (3, .int u3)]) S.1 S.2.1 dMo_runs_67 hl (k := 4) rfl (by rw [ex13]; rfl) (by decide) rfl (fun ls hl => ?_)
        refine lv_goto (tgt := 19) S.1 S.2.1 dMo_runs_70 (by decide) ?_
        exact ih μ7 u1 u2 u3 x13 _ _ _ hm hw (lv_sub hl [1, 2, 3, 4, 0] rfl)
set_option maxHeartbeats 4000000 in
set_option maxRecDepth 100000 in
theorem cMo_runs (l : Launch) (N : Nat) {Γ : sw_C} {A : Nat → Prop} {ξ : sw_x} {g : sw_g} {μ : sw_m} (hf : sw_wf ξ g.2.2) (a1 : Int32) {res : Int32 × sw_m} (hm : fMo_runs N μ a1 = some res) : Met l yMo_runs (Cond.code yMo_runs prog_10_method_136_code 5 (some .boolean) :: sw_tb) rmMo_runs (va_Pc [.ref (ξ.2.2.2.1 84), .int a1] (sw_V Γ A ξ g μ)) (sw_Qi Γ A ξ g res.2 res.1 (True)) 0 0 A := by
  refine Met.ofW (cc := prog_10_method_136_code) (maxL := 5) (ret := some .boolean) (by decide) rfl ?_
  intro p e s m args below meth c s₁ B hml hv
  obtain ⟨rfl, hv⟩ := hv
  have S : CallFix p m c prog_10_method_136_code 5 s _ (Cond.code yMo_runs prog_10_method_136_code 5 (some .boolean) :: sw_tb) R_Mo := ⟨B.exec, B.bytes, hml, findClass_of_methodNamed B.named, atoms_spec (ws := (Cond.code yMo_runs prog_10_method_136_code 5 (some .boolean) :: sw_tb)) B.pre⟩
  have hr := B.returns
  have hlk := B.notSynchronized
  have hw := sw_begin hv
  have hl := lv_entry [.ref (ξ.2.2.2.1 84), .int a1] (n := 5) (Nat.le_of_ble_eq_true rfl)
  rw [lg_entry_eq]
  generalize (lg_sl [.ref (ξ.2.2.2.1 84), .int a1] ++ List.replicate (5 - (lg_sl [.ref (ξ.2.2.2.1 84), .int a1]).length) Slot.unset).toArray = ls at hl ⊢
  have hl : lv_has ls 5 [(0, .ref (ξ.2.2.2.1 84)), (1, .int a1)] := hl
  unfold fMo_runs at hm
  refine lv_aload_n S.1 S.2.1 dMo_runs_0 rfl (lv_at hl 0 rfl) ?_
  refine lv_iload_n S.1 S.2.1 dMo_runs_1 rfl (lv_at hl 1 rfl) ?_
  refine lv_iconst (v := (0 : Int32)) S.1 S.2.1 dMo_runs_2 (by decide) ?_
  obtain ⟨μ2, h1, hm⟩ := ob hm
  refine sw_Vv (q := 84) (rest := []) S hw (cMo_goesAlong l N hf a1 (0 : Int32) h1) kMo_goesAlong wm_Mo_498 (is_84 hf).1 (e_Mo (is_84 hf)) rfl rfl rfl rfl hl.1 (Nat.le_of_ble_eq_true rfl) ⟨rfl, rfl, Nat.le_of_ble_eq_true rfl, Nat.le_of_ble_eq_true rfl⟩ ⟨Nat.le_of_ble_eq_true rfl, Nat.le_of_ble_eq_true rfl⟩ dMo_runs_3 (fun H locs hw _ => ?_)
  refine lv_aload_n S.1 S.2.1 dMo_runs_6 rfl (lv_at hl 0 rfl) ?_
  refine get_Mo (v := .int (μ2.1 84 45)) S hw (is_84 hf) 45 (by decide) rfl wf_Mo_486 dMo_runs_7 ?_
  refine nm_i hm (fun x3 hm => ?_)
  refine lv_istore_n (lv' := [(2, .int x3), (0, .ref (ξ.2.2.2.1 84)), (1, .int a1)]) S.1 S.2.1 dMo_runs_10 rfl hl (by decide) rfl (fun ls hl => ?_)
  refine lv_aload_n S.1 S.2.1 dMo_runs_11 rfl (lv_at hl 1 rfl) ?_
  refine get_Mo (v := .int (μ2.1 84 22)) S hw (is_84 hf) 22 (by decide) rfl wf_Mo_286 dMo_runs_12 ?_
  refine nm_i hm (fun x4 hm => ?_)
  refine lv_istore_n (lv' := [(3, .int x4), (2, .int x3), (0, .ref (ξ.2.2.2.1 84)), (1, .int a1)]) S.1 S.2.1 dMo_runs_15 rfl hl (by decide) rfl (fun ls hl => ?_)
  refine lv_iconst (v := (0 : Int32)) S.1 S.2.1 dMo_runs_16 (by decide) ?_
  refine lv_istore (lv' := [(4, .int (0 : Int32)), (3, .int x4), (2, .int x3), (0, .ref (ξ.2.2.2.1 84)), (1, .int a1)]) S.1 S.2.1 dMo_runs_17 hl (by decide) rfl (fun ls hl => ?_)
  exact wMo_runs_19 S hr hlk hf N  N μ2 a1 x3 x4 (0 : Int32) _ _ _ hm hw (lv_sub hl [3, 4, 2, 1, 0] rfl)
set_option maxHeartbeats 4000000 in
set_option maxRecDepth 100000 in
theorem wMo_days_20 {l : Launch} {p : Program} {e : Env} {s : State} {m : MethodId} {args : Array Value} {below : List Frame} {meth : Method} {c : Code} {Γ : sw_C} {A : Nat → Prop} {ξ : sw_x} {g : sw_g} {res : Int32 × sw_m} (S : CallFix p m c prog_10_method_138_code 7 s args (Cond.code yMo_days prog_10_method_138_code 7 (some .int) :: sw_tb) R_Mo) (hr : meth.sig.returnType = some .int) (hlk : meth.locks = false) (hf : sw_wf ξ g.2.2) (N : Nat) : ∀ (μ : sw_m)  (H : Heap) (locs : List Loc) (ls : Array Slot), fMo_days_20 N   μ = some res → sw_S Γ A ξ g μ s H locs → lv_has ls 7 [(0, .ref (ξ.2.2.2.1 84))] → W p l e (headSpec (Cond.code yMo_days prog_10_method_138_code 7 (some .int) :: sw_tb) rmMo_days).room s m args below meth c H locs 0 0 (MQ below (sw_Qi Γ A ξ g res.2 res.1 (True)) args s 0 0 A) (F0 m 20 ls []) := by
  intro μ H locs ls hm hw hl
  unfold fMo_days_20 at hm
  refine lv_aload_n S.1 S.2.1 dMo_days_20 rfl (lv_at hl 0 rfl) ?_
  refine lv_iconst (v := (-1 : Int32)) S.1 S.2.1 dMo_days_21 (by decide) ?_
  obtain ⟨⟨v5, μ4⟩, h3, hm⟩ := ob hm
  refine sw_Vi (q := 84) (rest := []) S hw (cMo_refuses l  hf (-1 : Int32) h3) kMo_refuses wm_Mo_113 (is_84 hf).1 (e_Mo (is_84 hf)) rfl rfl rfl rfl hl.1 (Nat.le_of_ble_eq_true rfl) ⟨rfl, rfl, Nat.le_of_ble_eq_true rfl, Nat.le_of_ble_eq_true rfl⟩ ⟨Nat.le_of_ble_eq_true rfl, Nat.le_of_ble_eq_true rfl⟩ dMo_days_22 (fun H locs hw _ => ?_)
  obtain rfl := Option.some.inj hm
  exact sw_iret S hr hlk hw trivial dMo_days_25
set_option maxHeartbeats 4000000 in
set_option maxRecDepth 100000 in
theorem wMo_days_149 {l : Launch} {p : Program} {e : Env} {s : State} {m : MethodId} {args : Array Value} {below : List Frame} {meth : Method} {c : Code} {Γ : sw_C} {A : Nat → Prop} {ξ : sw_x} {g : sw_g} {res : Int32 × sw_m} (S : CallFix p m c prog_10_method_138_code 7 s args (Cond.code yMo_days prog_10_method_138_code 7 (some .int) :: sw_tb) R_Mo) (hr : meth.sig.returnType = some .int) (hlk : meth.locks = false) (hf : sw_wf ξ g.2.2) (N : Nat) (k60 : sw_m → Int32 → Int32 → Option (Int32 × sw_m)) (hk60 : ∀ (μ : sw_m) (u2 : Int32) (u3 : Int32) (H : Heap) (locs : List Loc) (ls : Array Slot), k60 μ u2 u3 = some res → sw_S Γ A ξ g μ s H locs → lv_has ls 7 [(0, .ref (ξ.2.2.2.1 84)), (2, .int u2), (3, .int u3)] → W p l e (headSpec (Cond.code yMo_days prog_10_method_138_code 7 (some .int) :: sw_tb) rmMo_days).room s m args below meth c H locs 0 0 (MQ below (sw_Qi Γ A ξ g res.2 res.1 (True)) args s 0 0 A) (F0 m 60 ls [])) : ∀ (μ : sw_m) (u2 : Int32) (u3 : Int32) (H : Heap) (locs : List Loc) (ls : Array Slot), fMo_days_149 N  k60 μ u2 u3 = some res → sw_S Γ A ξ g μ s H locs → lv_has ls 7 [(0, .ref (ξ.2.2.2.1 84)), (2, .int u2), (3, .int u3)] → W p l e (headSpec (Cond.code yMo_days prog_10_method_138_code 7 (some .int) :: sw_tb) rmMo_days).room s m args below meth c H locs 0 0 (MQ below (sw_Qi Γ A ξ g res.2 res.1 (True)) args s 0 0 A) (F0 m 149 ls []) := by
  intro μ u2 u3 H locs ls hm hw hl
  unfold fMo_days_149 at hm
  refine lv_aload_n S.1 S.2.1 dMo_days_149 rfl (lv_at hl 0 rfl) ?_
  obtain ⟨⟨v46, μ45⟩, h44, hm⟩ := ob hm
  refine sw_Vi (q := 84) (rest := []) S hw (cMo_dayPasses l N hf  h44) kMo_dayPasses wm_Mo_362 (is_84 hf).1 (e_Mo (is_84 hf)) rfl rfl rfl rfl hl.1 (Nat.le_of_ble_eq_true rfl) ⟨rfl, rfl, Nat.le_of_ble_eq_true rfl, Nat.le_of_ble_eq_true rfl⟩ ⟨Nat.le_of_ble_eq_true rfl, Nat.le_of_ble_eq_true rfl⟩ dMo_days_150 (fun H locs hw _ => ?_)
  refine lv_pop S.1 S.2.1 dMo_days_153 rfl ?_
  obtain ⟨x47, ex47, hm⟩ := nm_x hm
  refine lv_iinc (v := x47) (lv' := [(3, .int x47), (0, .ref (ξ.2.2.2.1 84)), (2, .int u2)]) S.1 S.2.1 dMo_days_154 hl (k := 2) rfl (by rw [ex47]; rfl) (by decide) rfl (fun ls hl => ?_)
  refine lv_goto (tgt := 60) S.1 S.2.1 dMo_days_157 (by decide) ?_
  exact hk60 μ45 u2 x47 _ _ _ hm hw (lv_sub hl [1, 2, 0] rfl)
set_option maxHeartbeats 4000000 in
set_option maxRecDepth 100000 in
theorem wMo_days_132 {l : Launch} {p : Program} {e : Env} {s : State} {m : MethodId} {args : Array Value} {below : List Frame} {meth : Method} {c : Code} {Γ : sw_C} {A : Nat → Prop} {ξ : sw_x} {g : sw_g} {res : Int32 × sw_m} (S : CallFix p m c prog_10_method_138_code 7 s args (Cond.code yMo_days prog_10_method_138_code 7 (some .int) :: sw_tb) R_Mo) (hr : meth.sig.returnType = some .int) (hlk : meth.locks = false) (hf : sw_wf ξ g.2.2) (N : Nat) (k60 : sw_m → Int32 → Int32 → Option (Int32 × sw_m)) (hk60 : ∀ (μ : sw_m) (u2 : Int32) (u3 : Int32) (H : Heap) (locs : List Loc) (ls : Array Slot), k60 μ u2 u3 = some res → sw_S Γ A ξ g μ s H locs → lv_has ls 7 [(0, .ref (ξ.2.2.2.1 84)), (2, .int u2), (3, .int u3)] → W p l e (headSpec (Cond.code yMo_days prog_10_method_138_code 7 (some .int) :: sw_tb) rmMo_days).room s m args below meth c H locs 0 0 (MQ below (sw_Qi Γ A ξ g res.2 res.1 (True)) args s 0 0 A) (F0 m 60 ls [])) : ∀ (μ : sw_m) (u2 : Int32) (u3 : Int32) (u4 : Int32) (u6 : Int32) (H : Heap) (locs : List Loc) (ls : Array Slot), fMo_days_132 N  k60 μ u2 u3 u4 u6 = some res → sw_S Γ A ξ g μ s H locs → lv_has ls 7 [(0, .ref (ξ.2.2.2.1 84)), (2, .int u2), (3, .int u3), (4, .int u4), (6, .int u6)] → W p l e (headSpec (Cond.code yMo_days prog_10_method_138_code 7 (some .int) :: sw_tb) rmMo_days).room s m args below meth c H locs 0 0 (MQ below (sw_Qi Γ A ξ g res.2 res.1 (True)) args s 0 0 A) (F0 m 132 ls []) := by
  intro μ u2 u3 u4 u6 H locs ls hm hw hl
  unfold fMo_days_132 at hm
  refine lv_iload S.1 S.2.1 dMo_days_132 (lv_at hl 4 rfl) ?_
  refine lv_iconst (v := (2 : Int32)) S.1 S.2.1 dMo_days_134 (by decide) ?_
  refine bicmp_ne (tgt := 149) S.1 S.2.1 hm dMo_days_135 (by decide) (fun hm => ?_) (fun hm => ?_)
  · exact wMo_days_149 S hr hlk hf N k60 hk60 μ u2 u3 _ _ _ hm hw (lv_sub hl [0, 1, 2] rfl)
  · refine lv_aload_n S.1 S.2.1 dMo_days_138 rfl (lv_at hl 0 rfl) ?_
    refine get_Mo (v := .ref (ξ.2.2.2.1 86)) S hw (is_84 hf) 2 (by decide) rfl wf_Mo_28 dMo_days_139 ?_
    refine lv_bipush (v := (7 : Int32)) S.1 S.2.1 dMo_days_142 (by decide) ?_
    refine lv_iload S.1 S.2.1 dMo_days_144 (lv_at hl 3 rfl) ?_
    refine lv_iadd S.1 S.2.1 dMo_days_146 ?_
    refine lv_iconst (v := (-1 : Int32)) S.1 S.2.1 dMo_days_147 (by decide) ?_
    refine sm_iast S hw (is_86 hf) hm dMo_days_148 (fun μ48 H locs hm hw => ?_)
    exact wMo_days_149 S hr hlk hf N k60 hk60 μ48 u2 u3 _ _ _ hm hw (lv_sub hl [0, 1, 2] rfl)
set_option maxHeartbeats 4000000 in
set_option maxRecDepth 100000 in
theorem wMo_days_171 {l : Launch} {p : Program} {e : Env} {s : State} {m : MethodId} {args : Array Value} {below : List Frame} {meth : Method} {c : Code} {Γ : sw_C} {A : Nat → Prop} {ξ : sw_x} {g : sw_g} {res : Int32 × sw_m} (S : CallFix p m c prog_10_method_138_code 7 s args (Cond.code yMo_days prog_10_method_138_code 7 (some .int) :: sw_tb) R_Mo) (hr : meth.sig.returnType = some .int) (hlk : meth.locks = false) (hf : sw_wf ξ g.2.2) (N : Nat) : ∀ (fu : Nat) (μ : sw_m) (u3 : Int32) (u4 : Int32) (H : Heap) (locs : List Loc) (ls : Array Slot), fMo_days_171 N   fu μ u3 u4 = some res → sw_S Γ A ξ g μ s H locs → lv_has ls 7 [(0, .ref (ξ.2.2.2.1 84)), (3, .int u3), (4, .int u4)] → W p l e (headSpec (Cond.code yMo_days prog_10_method_138_code 7 (some .int) :: sw_tb) rmMo_days).room s m args below meth c H locs 0 0 (MQ below (sw_Qi Γ A ξ g res.2 res.1 (True)) args s 0 0 A) (F0 m 171 ls []) := by
  intro fu
  induction fu with
  | zero => intro μ u3 u4 H locs ls hm; rw [fMo_days_171.eq_1] at hm; cases hm
  | succ fu ih =>
    intro μ u3 u4 H locs ls hm hw hl
    rw [fMo_days_171.eq_2] at hm
    refine lv_iload S.1 S.2.1 dMo_days_171 (lv_at hl 2 rfl) ?_
    refine lv_bipush (v := (15 : Int32)) S.1 S.2.1 dMo_days_173 (by decide) ?_
    refine bicmp_ge (tgt := 198) S.1 S.2.1 hm dMo_days_175 (by decide) (fun hm => ?_) (fun hm => ?_)
    · refine lv_aload_n S.1 S.2.1 dMo_days_198 rfl (lv_at hl 0 rfl) ?_
      refine lv_iconst (v := (0 : Int32)) S.1 S.2.1 dMo_days_199 (by decide) ?_
      obtain ⟨μ24, h23, hm⟩ := ob hm
      refine sw_Vv (q := 84) (rest := []) S hw (cMo_takesBack l N hf (0 : Int32) h23) kMo_takesBack wm_Mo_477 (is_84 hf).1 (e_Mo (is_84 hf)) rfl rfl rfl rfl hl.1 (Nat.le_of_ble_eq_true rfl) ⟨rfl, rfl, Nat.le_of_ble_eq_true rfl, Nat.le_of_ble_eq_true rfl⟩ ⟨Nat.le_of_ble_eq_true rfl, Nat.le_of_ble_eq_true rfl⟩ dMo_days_200 (fun H locs hw _ => ?_)
      refine lv_aload_n S.1 S.2.1 dMo_days_203 rfl (lv_at hl 0 rfl) ?_
      refine lv_iload_n S.1 S.2.1 dMo_days_204 rfl (lv_at hl 1 rfl) ?_
      obtain ⟨⟨v27, μ26⟩, h25, hm⟩ := ob hm
      refine sw_Vi (q := 84) (rest := []) S hw (cMo_good l  hf u3 h25) kMo_good wm_Mo_14 (is_84 hf).1 (e_Mo (is_84 hf)) rfl rfl rfl rfl hl.1 (Nat.le_of_ble_eq_true rfl) ⟨rfl, rfl, Nat.le_of_ble_eq_true rfl, Nat.le_of_ble_eq_true rfl⟩ ⟨Nat.le_of_ble_eq_true rfl, Nat.le_of_ble_eq_true rfl⟩ dMo_days_205 (fun H locs hw _ => ?_)
      obtain rfl := Option.some.inj hm
      exact sw_iret S hr hlk hw trivial dMo_days_208
    · refine lv_aload_n S.1 S.2.1 dMo_days_178 rfl (lv_at hl 0 rfl) ?_
      refine get_Mo (v := .ref (ξ.2.2.2.1 109)) S hw (is_84 hf) 50 (by decide) rfl wf_Mo_107 dMo_days_179 ?_
      refine lv_iload S.1 S.2.1 dMo_days_182 (lv_at hl 2 rfl) ?_
      refine lv_aload_n S.1 S.2.1 dMo_days_184 rfl (lv_at hl 0 rfl) ?_
      refine get_Mo (v := .ref (ξ.2.2.2.1 86)) S hw (is_84 hf) 2 (by decide) rfl wf_Mo_28 dMo_days_185 ?_
      refine lv_iload S.1 S.2.1 dMo_days_188 (lv_at hl 2 rfl) ?_
      refine sm_iald S hw (is_86 hf) hm dMo_days_190 (fun v28 hm => ?_)
      refine sm_iast S hw (is_109 hf) hm dMo_days_191 (fun μ29 H locs hm hw => ?_)
      obtain ⟨x30, ex30, hm⟩ := nm_x hm
      refine lv_iinc (v := x30) (lv' := [(4, .int x30), (0, .ref (ξ.2.2.2.1 84)), (3, .int u3)]) S.1 S.2.1 dMo_days_192 hl (k := 2) rfl (by rw [ex30]; rfl) (by decide) rfl (fun ls hl => ?_)
      refine lv_goto (tgt := 171) S.1 S.2.1 dMo_days_195 (by decide) ?_
      exact ih μ29 u3 x30 _ _ _ hm hw (lv_sub hl [1, 2, 0] rfl)
set_option maxHeartbeats 4000000 in
set_option maxRecDepth 100000 in
theorem wMo_days_160 {l : Launch} {p : Program} {e : Env} {s : State} {m : MethodId} {args : Array Value} {below : List Frame} {meth : Method} {c : Code} {Γ : sw_C} {A : Nat → Prop} {ξ : sw_x} {g : sw_g} {res : Int32 × sw_m} (S : CallFix p m c prog_10_method_138_code 7 s args (Cond.code yMo_days prog_10_method_138_code 7 (some .int) :: sw_tb) R_Mo) (hr : meth.sig.returnType = some .int) (hlk : meth.locks = false) (hf : sw_wf ξ g.2.2) (N : Nat) : ∀ (μ : sw_m)  (H : Heap) (locs : List Loc) (ls : Array Slot), fMo_days_160 N   μ = some res → sw_S Γ A ξ g μ s H locs → lv_has ls 7 [(0, .ref (ξ.2.2.2.1 84))] → W p l e (headSpec (Cond.code yMo_days prog_10_method_138_code 7 (some .int) :: sw_tb) rmMo_days).room s m args below meth c H locs 0 0 (MQ below (sw_Qi Γ A ξ g res.2 res.1 (True)) args s 0 0 A) (F0 m 160 ls []) := by
  intro μ H locs ls hm hw hl
  unfold fMo_days_160 at hm
  refine lv_aload_n S.1 S.2.1 dMo_days_160 rfl (lv_at hl 0 rfl) ?_
  obtain ⟨⟨v20, μ19⟩, h18, hm⟩ := ob hm
  refine sw_Vi (q := 84) (rest := []) S hw (cMo_tiltNow l N hf  h18) kMo_tiltNow wm_Mo_154 (is_84 hf).1 (e_Mo (is_84 hf)) rfl rfl rfl rfl hl.1 (Nat.le_of_ble_eq_true rfl) ⟨rfl, rfl, Nat.le_of_ble_eq_true rfl, Nat.le_of_ble_eq_true rfl⟩ ⟨Nat.le_of_ble_eq_true rfl, Nat.le_of_ble_eq_true rfl⟩ dMo_days_161 (fun H locs hw _ => ?_)
  obtain ⟨v22, h21, hm⟩ := ob hm
  refine sw_Si (rest := []) S hw (cMo_either l  hf v20 h21) kMo_either wm_Mo_163 rfl rfl hl.1 (Nat.le_of_ble_eq_true rfl) ⟨rfl, rfl, Nat.le_of_ble_eq_true rfl, Nat.le_of_ble_eq_true rfl⟩ ⟨Nat.le_of_ble_eq_true rfl, Nat.le_of_ble_eq_true rfl⟩ dMo_days_164 (fun H locs hw _ => ?_)
  refine lv_istore_n (lv' := [(3, .int v22), (0, .ref (ξ.2.2.2.1 84))]) S.1 S.2.1 dMo_days_167 rfl hl (by decide) rfl (fun ls hl => ?_)
  refine lv_iconst (v := (0 : Int32)) S.1 S.2.1 dMo_days_168 (by decide) ?_
  refine lv_istore (lv' := [(4, .int (0 : Int32)), (3, .int v22), (0, .ref (ξ.2.2.2.1 84))]) S.1 S.2.1 dMo_days_169 hl (by decide) rfl (fun ls hl => ?_)
  exact wMo_days_171 S hr hlk hf N  N μ19 v22 (0 : Int32) _ _ _ hm hw (lv_sub hl [2, 1, 0] rfl)
set_option maxHeartbeats 4000000 in
set_option maxRecDepth 100000 in
theorem wMo_days_60 {l : Launch} {p : Program} {e : Env} {s : State} {m : MethodId} {args : Array Value} {below : List Frame} {meth : Method} {c : Code} {Γ : sw_C} {A : Nat → Prop} {ξ : sw_x} {g : sw_g} {res : Int32 × sw_m} (S : CallFix p m c prog_10_method_138_code 7 s args (Cond.code yMo_days prog_10_method_138_code 7 (some .int) :: sw_tb) R_Mo) (hr : meth.sig.returnType = some .int) (hlk : meth.locks = false) (hf : sw_wf ξ g.2.2) (N : Nat) : ∀ (fu : Nat) (μ : sw_m) (u2 : Int32) (u3 : Int32) (H : Heap) (locs : List Loc) (ls : Array Slot), fMo_days_60 N   fu μ u2 u3 = some res → sw_S Γ A ξ g μ s H locs → lv_has ls 7 [(0, .ref (ξ.2.2.2.1 84)), (2, .int u2), (3, .int u3)] → W p l e (headSpec (Cond.code yMo_days prog_10_method_138_code 7 (some .int) :: sw_tb) rmMo_days).room s m args below meth c H locs 0 0 (MQ below (sw_Qi Γ A ξ g res.2 res.1 (True)) args s 0 0 A) (F0 m 60 ls []) := by
  intro fu
  induction fu with
  | zero => intro μ u2 u3 H locs ls hm; rw [fMo_days_60.eq_1] at hm; cases hm
  | succ fu ih =>
    intro μ u2 u3 H locs ls hm hw hl
    rw [fMo_days_60.eq_2] at hm
    refine lv_iload_n S.1 S.2.1 dMo_days_60 rfl (lv_at hl 2 rfl) ?_
    refine lv_iload_n S.1 S.2.1 dMo_days_61 rfl (lv_at hl 1 rfl) ?_
    refine bicmp_ge (tgt := 160) S.1 S.2.1 hm dMo_days_62 (by decide) (fun hm => ?_) (fun hm => ?_)
    · exact wMo_days_160 S hr hlk hf N  μ _ _ _ hm hw (lv_sub hl [0] rfl)
    · refine lv_aload_n S.1 S.2.1 dMo_days_65 rfl (lv_at hl 0 rfl) ?_
      refine get_Mo (v := .ref (ξ.2.2.2.1 86)) S hw (is_84 hf) 2 (by decide) rfl wf_Mo_28 dMo_days_66 ?_
      refine lv_bipush (v := (14 : Int32)) S.1 S.2.1 dMo_days_69 (by decide) ?_
      refine sm_iald S hw (is_86 hf) hm dMo_days_71 (fun v31 hm => ?_)
      refine lv_sipush (v := (999 : Int32)) S.1 S.2.1 dMo_days_72 (by decide) ?_
      refine bicmp_ge (tgt := 160) S.1 S.2.1 hm dMo_days_75 (by decide) (fun hm => ?_) (fun hm => ?_)
      · exact wMo_days_160 S hr hlk hf N  μ _ _ _ hm hw (lv_sub hl [0] rfl)
      · refine lv_aload_n S.1 S.2.1 dMo_days_78 rfl (lv_at hl 0 rfl) ?_
        refine lv_aload_n S.1 S.2.1 dMo_days_79 rfl (lv_at hl 0 rfl) ?_
        obtain ⟨⟨v34, μ33⟩, h32, hm⟩ := ob hm
        refine sw_Vi (q := 84) (rest := [.ref (ξ.2.2.2.1 84)]) S hw (cMo_many l  hf  h32) kMo_many wm_Mo_119 (is_84 hf).1 (e_Mo (is_84 hf)) rfl rfl rfl rfl hl.1 (Nat.le_of_ble_eq_true rfl) ⟨rfl, rfl, Nat.le_of_ble_eq_true rfl, Nat.le_of_ble_eq_true rfl⟩ ⟨Nat.le_of_ble_eq_true rfl, Nat.le_of_ble_eq_true rfl⟩ dMo_days_80 (fun H locs hw _ => ?_)
        obtain ⟨⟨v37, μ36⟩, h35, hm⟩ := ob hm
        refine sw_Vi (q := 84) (rest := []) S hw (cMo_draws l  hf v34 h35) kMo_draws wm_Mo_514 (is_84 hf).1 (e_Mo (is_84 hf)) rfl rfl rfl rfl hl.1 (Nat.le_of_ble_eq_true rfl) ⟨rfl, rfl, Nat.le_of_ble_eq_true rfl, Nat.le_of_ble_eq_true rfl⟩ ⟨Nat.le_of_ble_eq_true rfl, Nat.le_of_ble_eq_true rfl⟩ dMo_days_83 (fun H locs hw _ => ?_)
        refine lv_istore (lv' := [(4, .int v37), (0, .ref (ξ.2.2.2.1 84)), (2, .int u2), (3, .int u3)]) S.1 S.2.1 dMo_days_86 hl (by decide) rfl (fun ls hl => ?_)
        refine lv_aload_n S.1 S.2.1 dMo_days_88 rfl (lv_at hl 1 rfl) ?_
        refine lv_bipush (v := (7 : Int32)) S.1 S.2.1 dMo_days_89 (by decide) ?_
        obtain ⟨⟨v40, μ39⟩, h38, hm⟩ := ob hm
        refine sw_Vi (q := 84) (rest := []) S hw (cMo_draws l  hf (7 : Int32) h38) kMo_draws wm_Mo_514 (is_84 hf).1 (e_Mo (is_84 hf)) rfl rfl rfl rfl hl.1 (Nat.le_of_ble_eq_true rfl) ⟨rfl, rfl, Nat.le_of_ble_eq_true rfl, Nat.le_of_ble_eq_true rfl⟩ ⟨Nat.le_of_ble_eq_true rfl, Nat.le_of_ble_eq_true rfl⟩ dMo_days_91 (fun H locs hw _ => ?_)
        refine lv_istore (lv' := [(5, .int v40), (4, .int v37), (0, .ref (ξ.2.2.2.1 84)), (2, .int u2), (3, .int u3)]) S.1 S.2.1 dMo_days_94 hl (by decide) rfl (fun ls hl => ?_)
        refine lv_aload_n S.1 S.2.1 dMo_days_96 rfl (lv_at hl 2 rfl) ?_
        refine lv_iconst (v := (3 : Int32)) S.1 S.2.1 dMo_days_97 (by decide) ?_
        obtain ⟨⟨v43, μ42⟩, h41, hm⟩ := ob hm
        refine sw_Vi (q := 84) (rest := []) S hw (cMo_draws l  hf (3 : Int32) h41) kMo_draws wm_Mo_514 (is_84 hf).1 (e_Mo (is_84 hf)) rfl rfl rfl rfl hl.1 (Nat.le_of_ble_eq_true rfl) ⟨rfl, rfl, Nat.le_of_ble_eq_true rfl, Nat.le_of_ble_eq_true rfl⟩ ⟨Nat.le_of_ble_eq_true rfl, Nat.le_of_ble_eq_true rfl⟩ dMo_days_98 (fun H locs hw _ => ?_)
        refine lv_istore (lv' := [(6, .int v43), (5, .int v40), (4, .int v37), (0, .ref (ξ.2.2.2.1 84)), (2, .int u2), (3, .int u3)]) S.1 S.2.1 dMo_days_101 hl (by decide) rfl (fun ls hl => ?_)
        refine lv_iload S.1 S.2.1 dMo_days_103 (lv_at hl 0 rfl) ?_
        refine lv_iconst (v := (2 : Int32)) S.1 S.2.1 dMo_days_105 (by decide) ?_
        refine bicmp_ge (tgt := 132) S.1 S.2.1 hm dMo_days_106 (by decide) (fun hm => ?_) (fun hm => ?_)
        · exact wMo_days_132 S hr hlk hf N (fMo_days_60 N   fu) ih μ42 u2 u3 v37 v43 _ _ _ hm hw (lv_sub hl [3, 4, 5, 2, 0] rfl)
        · refine lv_aload_n S.1 S.2.1 dMo_days_109 rfl (lv_at hl 3 rfl) ?_
          refine lv_iload S.1 S.2.1 dMo_days_110 (lv_at hl 2 rfl) ?_
          refine lv_iload S.1 S.2.1 dMo_days_112 (lv_at hl 1 rfl) ?_
          obtain ⟨⟨v51, μ50⟩, h49, hm⟩ := ob hm
          refine sw_Vi (q := 84) (rest := []) S hw (cMo_canPut l N hf v37 v40 h49) kMo_canPut wm_Mo_356 (is_84 hf).1 (e_Mo (is_84 hf)) rfl rfl rfl rfl hl.1 (Nat.le_of_ble_eq_true rfl) ⟨rfl, rfl, Nat.le_of_ble_eq_true rfl, Nat.le_of_ble_eq_true rfl⟩ ⟨Nat.le_of_ble_eq_true rfl, Nat.le_of_ble_eq_true rfl⟩ dMo_days_114 (fun H locs hw _ => ?_)
          refine bif_eq (tgt := 132) S.1 S.2.1 hm dMo_days_117 (by decide) (fun hm => ?_) (fun hm => ?_)
          · exact wMo_days_132 S hr hlk hf N (fMo_days_60 N   fu) ih μ50 u2 u3 v37 v43 _ _ _ hm hw (lv_sub hl [3, 4, 5, 2, 0] rfl)
          · refine lv_aload_n S.1 S.2.1 dMo_days_120 rfl (lv_at hl 3 rfl) ?_
            refine get_Mo (v := .ref (ξ.2.2.2.1 86)) S hw (is_84 hf) 2 (by decide) rfl wf_Mo_28 dMo_days_121 ?_
            refine lv_bipush (v := (7 : Int32)) S.1 S.2.1 dMo_days_124 (by decide) ?_
            refine lv_iload S.1 S.2.1 dMo_days_126 (lv_at hl 2 rfl) ?_
            refine lv_iadd S.1 S.2.1 dMo_days_128 ?_
            refine lv_iload S.1 S.2.1 dMo_days_129 (lv_at hl 1 rfl) ?_
            refine sm_iast S hw (is_86 hf) hm dMo_days_131 (fun μ52 H locs hm hw => ?_)
            exact wMo_days_132 S hr hlk hf N (fMo_days_60 N   fu) ih μ52 u2 u3 v37 v43 _ _ _ hm hw (lv_sub hl [3, 4, 5, 2, 0] rfl)
set_option maxHeartbeats 4000000 in
set_option maxRecDepth 100000 in
theorem cMo_days (l : Launch) (N : Nat) {Γ : sw_C} {A : Nat → Prop} {ξ : sw_x} {g : sw_g} {μ : sw_m} (hf : sw_wf ξ g.2.2) (a1 : Int32) (a2 : Int32) {res : Int32 × sw_m} (hm : fMo_days N μ a1 a2 = some res) : Met l yMo_days (Cond.code yMo_days prog_10_method_138_code 7 (some .int) :: sw_tb) rmMo_days (va_Pc [.ref (ξ.2.2.2.1 84), .int a1, .int a2] (sw_V Γ A ξ g μ)) (sw_Qi Γ A ξ g res.2 res.1 (True)) 0 0 A := by
  refine Met.ofW (cc := prog_10_method_138_code) (maxL := 7) (ret := some .int) (by decide) rfl ?_
  intro p e s m args below meth c s₁ B hml hv
  obtain ⟨rfl, hv⟩ := hv
  have S : CallFix p m c prog_10_method_138_code 7 s _ (Cond.code yMo_days prog_10_method_138_code 7 (some .int) :: sw_tb) R_Mo := ⟨B.exec, B.bytes, hml, findClass_of_methodNamed B.named, atoms_spec (ws := (Cond.code yMo_days prog_10_method_138_code 7 (some .int) :: sw_tb)) B.pre⟩
  have hr := B.returns
  have hlk := B.notSynchronized
  have hw := sw_begin hv
  have hl := lv_entry [.ref (ξ.2.2.2.1 84), .int a1, .int a2] (n := 7) (Nat.le_of_ble_eq_true rfl)
  rw [lg_entry_eq]
  generalize (lg_sl [.ref (ξ.2.2.2.1 84), .int a1, .int a2] ++ List.replicate (7 - (lg_sl [.ref (ξ.2.2.2.1 84), .int a1, .int a2]).length) Slot.unset).toArray = ls at hl ⊢
  have hl : lv_has ls 7 [(0, .ref (ξ.2.2.2.1 84)), (1, .int a1), (2, .int a2)] := hl
  unfold fMo_days at hm
  refine lv_iload_n S.1 S.2.1 dMo_days_0 rfl (lv_at hl 1 rfl) ?_
  refine lv_iconst (v := (0 : Int32)) S.1 S.2.1 dMo_days_1 (by decide) ?_
  refine lv_ldc S.1 S.2.1 S.2.2.2.1 (sw_word S wc_Mo_193) dMo_days_2 ?_
  obtain ⟨v2, h1, hm⟩ := ob hm
  refine sw_Si (rest := []) S hw (cMo_lies l  hf a1 (0 : Int32) (1000000 : Int32) h1) kMo_lies wm_Mo_18 rfl rfl hl.1 (Nat.le_of_ble_eq_true rfl) ⟨rfl, rfl, Nat.le_of_ble_eq_true rfl, Nat.le_of_ble_eq_true rfl⟩ ⟨Nat.le_of_ble_eq_true rfl, Nat.le_of_ble_eq_true rfl⟩ dMo_days_4 (fun H locs hw _ => ?_)
  refine bif_eq (tgt := 20) S.1 S.2.1 hm dMo_days_7 (by decide) (fun hm => ?_) (fun hm => ?_)
  · exact wMo_days_20 S hr hlk hf N  μ _ _ _ hm hw (lv_sub hl [0] rfl)
  · refine lv_iload_n S.1 S.2.1 dMo_days_10 rfl (lv_at hl 2 rfl) ?_
    refine lv_iconst (v := (1 : Int32)) S.1 S.2.1 dMo_days_11 (by decide) ?_
    refine lv_bipush (v := (60 : Int32)) S.1 S.2.1 dMo_days_12 (by decide) ?_
    obtain ⟨v7, h6, hm⟩ := ob hm
    refine sw_Si (rest := []) S hw (cMo_lies l  hf a2 (1 : Int32) (60 : Int32) h6) kMo_lies wm_Mo_18 rfl rfl hl.1 (Nat.le_of_ble_eq_true rfl) ⟨rfl, rfl, Nat.le_of_ble_eq_true rfl, Nat.le_of_ble_eq_true rfl⟩ ⟨Nat.le_of_ble_eq_true rfl, Nat.le_of_ble_eq_true rfl⟩ dMo_days_14 (fun H locs hw _ => ?_)
    refine bif_ne (tgt := 26) S.1 S.2.1 hm dMo_days_17 (by decide) (fun hm => ?_) (fun hm => ?_)
    · refine lv_aload_n S.1 S.2.1 dMo_days_26 rfl (lv_at hl 0 rfl) ?_
      obtain ⟨⟨v10, μ9⟩, h8, hm⟩ := ob hm
      refine sw_Vi (q := 84) (rest := []) S hw (cMo_many l  hf  h8) kMo_many wm_Mo_119 (is_84 hf).1 (e_Mo (is_84 hf)) rfl rfl rfl rfl hl.1 (Nat.le_of_ble_eq_true rfl) ⟨rfl, rfl, Nat.le_of_ble_eq_true rfl, Nat.le_of_ble_eq_true rfl⟩ ⟨Nat.le_of_ble_eq_true rfl, Nat.le_of_ble_eq_true rfl⟩ dMo_days_27 (fun H locs hw _ => ?_)
      refine bif_ne (tgt := 40) S.1 S.2.1 hm dMo_days_30 (by decide) (fun hm => ?_) (fun hm => ?_)
      · refine lv_aload_n S.1 S.2.1 dMo_days_40 rfl (lv_at hl 0 rfl) ?_
        refine lv_iload_n S.1 S.2.1 dMo_days_41 rfl (lv_at hl 1 rfl) ?_
        refine put_Mo S hw (is_84 hf) 52 (by decide) ps_Mo_52 rfl rfl rfl wf_Mo_507 hm dMo_days_42 (fun μ11 H locs hm hw => ?_)
        refine lv_aload_n S.1 S.2.1 dMo_days_45 rfl (lv_at hl 0 rfl) ?_
        refine lv_aload_n S.1 S.2.1 dMo_days_46 rfl (lv_at hl 0 rfl) ?_
        obtain ⟨⟨v14, μ13⟩, h12, hm⟩ := ob hm
        refine sw_Vi (q := 84) (rest := [.ref (ξ.2.2.2.1 84)]) S hw (cMo_many l  hf  h12) kMo_many wm_Mo_119 (is_84 hf).1 (e_Mo (is_84 hf)) rfl rfl rfl rfl hl.1 (Nat.le_of_ble_eq_true rfl) ⟨rfl, rfl, Nat.le_of_ble_eq_true rfl, Nat.le_of_ble_eq_true rfl⟩ ⟨Nat.le_of_ble_eq_true rfl, Nat.le_of_ble_eq_true rfl⟩ dMo_days_47 (fun H locs hw _ => ?_)
        refine put_Mo S hw (is_84 hf) 51 (by decide) ps_Mo_51 rfl rfl rfl wf_Mo_110 hm dMo_days_50 (fun μ15 H locs hm hw => ?_)
        refine lv_aload_n S.1 S.2.1 dMo_days_53 rfl (lv_at hl 0 rfl) ?_
        refine lv_iconst (v := (0 : Int32)) S.1 S.2.1 dMo_days_54 (by decide) ?_
        obtain ⟨μ17, h16, hm⟩ := ob hm
        refine sw_Vv (q := 84) (rest := []) S hw (cMo_laysAside l N hf (0 : Int32) h16) kMo_laysAside wm_Mo_468 (is_84 hf).1 (e_Mo (is_84 hf)) rfl rfl rfl rfl hl.1 (Nat.le_of_ble_eq_true rfl) ⟨rfl, rfl, Nat.le_of_ble_eq_true rfl, Nat.le_of_ble_eq_true rfl⟩ ⟨Nat.le_of_ble_eq_true rfl, Nat.le_of_ble_eq_true rfl⟩ dMo_days_55 (fun H locs hw _ => ?_)
        refine lv_iconst (v := (0 : Int32)) S.1 S.2.1 dMo_days_58 (by decide) ?_
        refine lv_istore_n (lv' := [(3, .int (0 : Int32)), (0, .ref (ξ.2.2.2.1 84)), (1, .int a1), (2, .int a2)]) S.1 S.2.1 dMo_days_59 rfl hl (by decide) rfl (fun ls hl => ?_)
        exact wMo_days_60 S hr hlk hf N  N μ17 a2 (0 : Int32) _ _ _ hm hw (lv_sub hl [1, 3, 0] rfl)
      · refine lv_aload_n S.1 S.2.1 dMo_days_33 rfl (lv_at hl 0 rfl) ?_
        refine lv_bipush (v := (-3 : Int32)) S.1 S.2.1 dMo_days_34 (by decide) ?_
        obtain ⟨⟨v55, μ54⟩, h53, hm⟩ := ob hm
        refine sw_Vi (q := 84) (rest := []) S hw (cMo_refuses l  hf (-3 : Int32) h53) kMo_refuses wm_Mo_113 (is_84 hf).1 (e_Mo (is_84 hf)) rfl rfl rfl rfl hl.1 (Nat.le_of_ble_eq_true rfl) ⟨rfl, rfl, Nat.le_of_ble_eq_true rfl, Nat.le_of_ble_eq_true rfl⟩ ⟨Nat.le_of_ble_eq_true rfl, Nat.le_of_ble_eq_true rfl⟩ dMo_days_36 (fun H locs hw _ => ?_)
        obtain rfl := Option.some.inj hm
        exact sw_iret S hr hlk hw trivial dMo_days_39
    · exact wMo_days_20 S hr hlk hf N  μ _ _ _ hm hw (lv_sub hl [0] rfl)
set_option maxHeartbeats 4000000 in
set_option maxRecDepth 100000 in
theorem cMo_of (l : Launch) (N : Nat) {Γ : sw_C} {A : Nat → Prop} {ξ : sw_x} {g : sw_g} {μ : sw_m} (hf : sw_wf ξ g.2.2) (a1 : Int32) (a2 : Int32) {res : Int32 × sw_m} (hm : fMo_of N μ a1 a2 = some res) : Met l yMo_of (Cond.code yMo_of prog_10_method_24_code 3 (some .int) :: sw_tb) rmMo_of (va_Pc [.ref (ξ.2.2.2.1 84), .int a1, .int a2] (sw_V Γ A ξ g μ)) (sw_Qi Γ A ξ g res.2 res.1 (True)) 0 0 A := by
  refine Met.ofW (cc := prog_10_method_24_code) (maxL := 3) (ret := some .int) (by decide) rfl ?_
  intro p e s m args below meth c s₁ B hml hv
  obtain ⟨rfl, hv⟩ := hv
  have S : CallFix p m c prog_10_method_24_code 3 s _ (Cond.code yMo_of prog_10_method_24_code 3 (some .int) :: sw_tb) R_Mo := ⟨B.exec, B.bytes, hml, findClass_of_methodNamed B.named, atoms_spec (ws := (Cond.code yMo_of prog_10_method_24_code 3 (some .int) :: sw_tb)) B.pre⟩
  have hr := B.returns
  have hlk := B.notSynchronized
  have hw := sw_begin hv
  have hl := lv_entry [.ref (ξ.2.2.2.1 84), .int a1, .int a2] (n := 3) (Nat.le_of_ble_eq_true rfl)
  rw [lg_entry_eq]
  generalize (lg_sl [.ref (ξ.2.2.2.1 84), .int a1, .int a2] ++ List.replicate (3 - (lg_sl [.ref (ξ.2.2.2.1 84), .int a1, .int a2]).length) Slot.unset).toArray = ls at hl ⊢
  have hl : lv_has ls 3 [(0, .ref (ξ.2.2.2.1 84)), (1, .int a1), (2, .int a2)] := hl
  unfold fMo_of at hm
  refine lv_aload_n S.1 S.2.1 dMo_of_0 rfl (lv_at hl 0 rfl) ?_
  refine lv_iload_n S.1 S.2.1 dMo_of_1 rfl (lv_at hl 1 rfl) ?_
  obtain ⟨⟨v3, μ2⟩, h1, hm⟩ := ob hm
  refine sw_Vi (q := 84) (rest := []) S hw (cMo_isClaim l  hf a1 h1) kMo_isClaim wm_Mo_135 (is_84 hf).1 (e_Mo (is_84 hf)) rfl rfl rfl rfl hl.1 (Nat.le_of_ble_eq_true rfl) ⟨rfl, rfl, Nat.le_of_ble_eq_true rfl, Nat.le_of_ble_eq_true rfl⟩ ⟨Nat.le_of_ble_eq_true rfl, Nat.le_of_ble_eq_true rfl⟩ dMo_of_2 (fun H locs hw _ => ?_)
  refine bif_ne (tgt := 10) S.1 S.2.1 hm dMo_of_5 (by decide) (fun hm => ?_) (fun hm => ?_)
  · refine lv_iload_n S.1 S.2.1 dMo_of_10 rfl (lv_at hl 2 rfl) ?_
    by_cases c0 : a2 = (0 : Int32)
    · have hm := sw_it c0 hm
      refine lv_tableIn (off := 33) (tgt := 44) S.1 S.2.1 dMo_of_11 (by rw [c0]; decide) (by rw [c0]; decide) (by rw [c0]; decide) (by decide) ?_
      refine lv_aload_n S.1 S.2.1 dMo_of_44 rfl (lv_at hl 0 rfl) ?_
      refine get_Mo (v := .ref (ξ.2.2.2.1 86)) S hw (is_84 hf) 2 (by decide) rfl wf_Mo_28 dMo_of_45 ?_
      refine lv_iconst (v := (0 : Int32)) S.1 S.2.1 dMo_of_48 (by decide) ?_
      refine lv_iload_n S.1 S.2.1 dMo_of_49 rfl (lv_at hl 1 rfl) ?_
      refine lv_iadd S.1 S.2.1 dMo_of_50 ?_
      refine sm_iald S hw (is_86 hf) hm dMo_of_51 (fun v4 hm => ?_)
      obtain rfl := Option.some.inj hm
      exact sw_iret S hr hlk hw trivial dMo_of_52
    · have hm := sw_if c0 hm
      by_cases c1 : a2 = (1 : Int32)
      · have hm := sw_it c1 hm
        refine lv_tableIn (off := 42) (tgt := 53) S.1 S.2.1 dMo_of_11 (by rw [c1]; decide) (by rw [c1]; decide) (by rw [c1]; decide) (by decide) ?_
        refine lv_aload_n S.1 S.2.1 dMo_of_53 rfl (lv_at hl 0 rfl) ?_
        refine get_Mo (v := .ref (ξ.2.2.2.1 86)) S hw (is_84 hf) 2 (by decide) rfl wf_Mo_28 dMo_of_54 ?_
        refine lv_bipush (v := (15 : Int32)) S.1 S.2.1 dMo_of_57 (by decide) ?_
        refine lv_iload_n S.1 S.2.1 dMo_of_59 rfl (lv_at hl 1 rfl) ?_
        refine lv_iadd S.1 S.2.1 dMo_of_60 ?_
        refine sm_iald S hw (is_86 hf) hm dMo_of_61 (fun v5 hm => ?_)
        obtain rfl := Option.some.inj hm
        exact sw_iret S hr hlk hw trivial dMo_of_62
      · have hm := sw_if c1 hm
        by_cases c2 : a2 = (2 : Int32)
        · have hm := sw_it c2 hm
          refine lv_tableIn (off := 52) (tgt := 63) S.1 S.2.1 dMo_of_11 (by rw [c2]; decide) (by rw [c2]; decide) (by rw [c2]; decide) (by decide) ?_
          refine lv_aload_n S.1 S.2.1 dMo_of_63 rfl (lv_at hl 0 rfl) ?_
          refine get_Mo (v := .ref (ξ.2.2.2.1 86)) S hw (is_84 hf) 2 (by decide) rfl wf_Mo_28 dMo_of_64 ?_
          refine lv_bipush (v := (7 : Int32)) S.1 S.2.1 dMo_of_67 (by decide) ?_
          refine lv_iload_n S.1 S.2.1 dMo_of_69 rfl (lv_at hl 1 rfl) ?_
          refine lv_iadd S.1 S.2.1 dMo_of_70 ?_
          refine sm_iald S hw (is_86 hf) hm dMo_of_71 (fun v6 hm => ?_)
          obtain rfl := Option.some.inj hm
          exact sw_iret S hr hlk hw trivial dMo_of_72
        · have hm := sw_if c2 hm
          by_cases c3 : a2 = (3 : Int32)
          · have hm := sw_it c3 hm
            refine lv_tableIn (off := 62) (tgt := 73) S.1 S.2.1 dMo_of_11 (by rw [c3]; decide) (by rw [c3]; decide) (by rw [c3]; decide) (by decide) ?_
            refine lv_aload_n S.1 S.2.1 dMo_of_73 rfl (lv_at hl 0 rfl) ?_
            refine lv_iload_n S.1 S.2.1 dMo_of_74 rfl (lv_at hl 1 rfl) ?_
            obtain ⟨⟨v9, μ8⟩, h7, hm⟩ := ob hm
            refine sw_Vi (q := 84) (rest := []) S hw (cMo_isOn l  hf a1 h7) kMo_isOn wm_Mo_138 (is_84 hf).1 (e_Mo (is_84 hf)) rfl rfl rfl rfl hl.1 (Nat.le_of_ble_eq_true rfl) ⟨rfl, rfl, Nat.le_of_ble_eq_true rfl, Nat.le_of_ble_eq_true rfl⟩ ⟨Nat.le_of_ble_eq_true rfl, Nat.le_of_ble_eq_true rfl⟩ dMo_of_75 (fun H locs hw _ => ?_)
            refine bif_eq (tgt := 98) S.1 S.2.1 hm dMo_of_78 (by decide) (fun hm => ?_) (fun hm => ?_)
            · refine lv_iconst (v := (-1 : Int32)) S.1 S.2.1 dMo_of_98 (by decide) ?_
              obtain rfl := Option.some.inj hm
              exact sw_iret S hr hlk hw trivial dMo_of_99
            · refine lv_aload_n S.1 S.2.1 dMo_of_81 rfl (lv_at hl 0 rfl) ?_
              refine lv_iload_n S.1 S.2.1 dMo_of_82 rfl (lv_at hl 1 rfl) ?_
              refine lv_aload_n S.1 S.2.1 dMo_of_83 rfl (lv_at hl 0 rfl) ?_
              refine get_Mo (v := .ref (ξ.2.2.2.1 86)) S hw (is_84 hf) 2 (by decide) rfl wf_Mo_28 dMo_of_84 ?_
              refine lv_bipush (v := (7 : Int32)) S.1 S.2.1 dMo_of_87 (by decide) ?_
              refine lv_iload_n S.1 S.2.1 dMo_of_89 rfl (lv_at hl 1 rfl) ?_
              refine lv_iadd S.1 S.2.1 dMo_of_90 ?_
              refine sm_iald S hw (is_86 hf) hm dMo_of_91 (fun v10 hm => ?_)
              obtain ⟨⟨v13, μ12⟩, h11, hm⟩ := ob hm
              refine sw_Vi (q := 84) (rest := []) S hw (cMo_countsAt l N hf a1 v10 h11) kMo_countsAt wm_Mo_141 (is_84 hf).1 (e_Mo (is_84 hf)) rfl rfl rfl rfl hl.1 (Nat.le_of_ble_eq_true rfl) ⟨rfl, rfl, Nat.le_of_ble_eq_true rfl, Nat.le_of_ble_eq_true rfl⟩ ⟨Nat.le_of_ble_eq_true rfl, Nat.le_of_ble_eq_true rfl⟩ dMo_of_92 (fun H locs hw _ => ?_)
              refine lv_goto (tgt := 99) S.1 S.2.1 dMo_of_95 (by decide) ?_
              obtain rfl := Option.some.inj hm
              exact sw_iret S hr hlk hw trivial dMo_of_99
          · have hm := sw_if c3 hm
            by_cases c4 : a2 = (4 : Int32)
            · have hm := sw_it c4 hm
              refine lv_tableIn (off := 89) (tgt := 100) S.1 S.2.1 dMo_of_11 (by rw [c4]; decide) (by rw [c4]; decide) (by rw [c4]; decide) (by decide) ?_
              refine lv_aload_n S.1 S.2.1 dMo_of_100 rfl (lv_at hl 0 rfl) ?_
              refine lv_iload_n S.1 S.2.1 dMo_of_101 rfl (lv_at hl 1 rfl) ?_
              obtain ⟨⟨v16, μ15⟩, h14, hm⟩ := ob hm
              refine sw_Vi (q := 84) (rest := []) S hw (cMo_isOn l  hf a1 h14) kMo_isOn wm_Mo_138 (is_84 hf).1 (e_Mo (is_84 hf)) rfl rfl rfl rfl hl.1 (Nat.le_of_ble_eq_true rfl) ⟨rfl, rfl, Nat.le_of_ble_eq_true rfl, Nat.le_of_ble_eq_true rfl⟩ ⟨Nat.le_of_ble_eq_true rfl, Nat.le_of_ble_eq_true rfl⟩ dMo_of_102 (fun H locs hw _ => ?_)
              refine bif_eq (tgt := 125) S.1 S.2.1 hm dMo_of_105 (by decide) (fun hm => ?_) (fun hm => ?_)
              · refine lv_iconst (v := (-1 : Int32)) S.1 S.2.1 dMo_of_125 (by decide) ?_
                obtain rfl := Option.some.inj hm
                exact sw_iret S hr hlk hw trivial dMo_of_126
              · refine lv_aload_n S.1 S.2.1 dMo_of_108 rfl (lv_at hl 0 rfl) ?_
                refine lv_iload_n S.1 S.2.1 dMo_of_109 rfl (lv_at hl 1 rfl) ?_
                refine lv_aload_n S.1 S.2.1 dMo_of_110 rfl (lv_at hl 0 rfl) ?_
                refine get_Mo (v := .ref (ξ.2.2.2.1 86)) S hw (is_84 hf) 2 (by decide) rfl wf_Mo_28 dMo_of_111 ?_
                refine lv_bipush (v := (7 : Int32)) S.1 S.2.1 dMo_of_114 (by decide) ?_
                refine lv_iload_n S.1 S.2.1 dMo_of_116 rfl (lv_at hl 1 rfl) ?_
                refine lv_iadd S.1 S.2.1 dMo_of_117 ?_
                refine sm_iald S hw (is_86 hf) hm dMo_of_118 (fun v17 hm => ?_)
                obtain ⟨⟨v20, μ19⟩, h18, hm⟩ := ob hm
                refine sw_Vi (q := 84) (rest := []) S hw (cMo_shedsAt l N hf a1 v17 h18) kMo_shedsAt wm_Mo_145 (is_84 hf).1 (e_Mo (is_84 hf)) rfl rfl rfl rfl hl.1 (Nat.le_of_ble_eq_true rfl) ⟨rfl, rfl, Nat.le_of_ble_eq_true rfl, Nat.le_of_ble_eq_true rfl⟩ ⟨Nat.le_of_ble_eq_true rfl, Nat.le_of_ble_eq_true rfl⟩ dMo_of_119 (fun H locs hw _ => ?_)
                refine lv_goto (tgt := 126) S.1 S.2.1 dMo_of_122 (by decide) ?_
                obtain rfl := Option.some.inj hm
                exact sw_iret S hr hlk hw trivial dMo_of_126
            · have hm := sw_if c4 hm
              refine lv_tableOut (tgt := 127) S.1 S.2.1 dMo_of_11 (by have := lv_neT c0 (show ((0 : Int32)).toInt = 0 from rfl); have := lv_neT c1 (show ((1 : Int32)).toInt = 1 from rfl); have := lv_neT c2 (show ((2 : Int32)).toInt = 2 from rfl); have := lv_neT c3 (show ((3 : Int32)).toInt = 3 from rfl); have := lv_neT c4 (show ((4 : Int32)).toInt = 4 from rfl); omega) (by decide) ?_
              refine lv_iconst (v := (-1 : Int32)) S.1 S.2.1 dMo_of_127 (by decide) ?_
              obtain rfl := Option.some.inj hm
              exact sw_iret S hr hlk hw trivial dMo_of_128
  · refine lv_iconst (v := (-1 : Int32)) S.1 S.2.1 dMo_of_8 (by decide) ?_
    obtain rfl := Option.some.inj hm
    exact sw_iret S hr hlk hw trivial dMo_of_9
set_option maxHeartbeats 4000000 in
set_option maxRecDepth 100000 in
theorem cMo_asks (l : Launch) (N : Nat) {Γ : sw_C} {A : Nat → Prop} {ξ : sw_x} {g : sw_g} {μ : sw_m} (hf : sw_wf ξ g.2.2) (a1 : Int32) (a2 : Int32) (a3 : Int32) {res : Int32 × sw_m} (hm : fMo_asks N μ a1 a2 a3 = some res) : Met l yMo_asks (Cond.code yMo_asks prog_10_method_25_code 4 (some .int) :: sw_tb) rmMo_asks (va_Pc [.ref (ξ.2.2.2.1 84), .int a1, .int a2, .int a3] (sw_V Γ A ξ g μ)) (sw_Qi Γ A ξ g res.2 res.1 (True)) 0 0 A := by
  refine Met.ofW (cc := prog_10_method_25_code) (maxL := 4) (ret := some .int) (by decide) rfl ?_
  intro p e s m args below meth c s₁ B hml hv
  obtain ⟨rfl, hv⟩ := hv
  have S : CallFix p m c prog_10_method_25_code 4 s _ (Cond.code yMo_asks prog_10_method_25_code 4 (some .int) :: sw_tb) R_Mo := ⟨B.exec, B.bytes, hml, findClass_of_methodNamed B.named, atoms_spec (ws := (Cond.code yMo_asks prog_10_method_25_code 4 (some .int) :: sw_tb)) B.pre⟩
  have hr := B.returns
  have hlk := B.notSynchronized
  have hw := sw_begin hv
  have hl := lv_entry [.ref (ξ.2.2.2.1 84), .int a1, .int a2, .int a3] (n := 4) (Nat.le_of_ble_eq_true rfl)
  rw [lg_entry_eq]
  generalize (lg_sl [.ref (ξ.2.2.2.1 84), .int a1, .int a2, .int a3] ++ List.replicate (4 - (lg_sl [.ref (ξ.2.2.2.1 84), .int a1, .int a2, .int a3]).length) Slot.unset).toArray = ls at hl ⊢
  have hl : lv_has ls 4 [(0, .ref (ξ.2.2.2.1 84)), (1, .int a1), (2, .int a2), (3, .int a3)] := hl
  unfold fMo_asks at hm
  refine lv_aload_n S.1 S.2.1 dMo_asks_0 rfl (lv_at hl 0 rfl) ?_
  refine lv_iload_n S.1 S.2.1 dMo_asks_1 rfl (lv_at hl 1 rfl) ?_
  obtain ⟨⟨v3, μ2⟩, h1, hm⟩ := ob hm
  refine sw_Vi (q := 84) (rest := []) S hw (cMo_isClaim l  hf a1 h1) kMo_isClaim wm_Mo_135 (is_84 hf).1 (e_Mo (is_84 hf)) rfl rfl rfl rfl hl.1 (Nat.le_of_ble_eq_true rfl) ⟨rfl, rfl, Nat.le_of_ble_eq_true rfl, Nat.le_of_ble_eq_true rfl⟩ ⟨Nat.le_of_ble_eq_true rfl, Nat.le_of_ble_eq_true rfl⟩ dMo_asks_2 (fun H locs hw _ => ?_)
  refine bif_eq (tgt := 15) S.1 S.2.1 hm dMo_asks_5 (by decide) (fun hm => ?_) (fun hm => ?_)
  · refine lv_iconst (v := (-1 : Int32)) S.1 S.2.1 dMo_asks_15 (by decide) ?_
    obtain rfl := Option.some.inj hm
    exact sw_iret S hr hlk hw trivial dMo_asks_16
  · refine lv_iload_n S.1 S.2.1 dMo_asks_8 rfl (lv_at hl 2 rfl) ?_
    obtain ⟨v5, h4, hm⟩ := ob hm
    refine sw_Si (rest := []) S hw (cMo_isPlace l  hf a2 h4) kMo_isPlace wm_Mo_148 rfl rfl hl.1 (Nat.le_of_ble_eq_true rfl) ⟨rfl, rfl, Nat.le_of_ble_eq_true rfl, Nat.le_of_ble_eq_true rfl⟩ ⟨Nat.le_of_ble_eq_true rfl, Nat.le_of_ble_eq_true rfl⟩ dMo_asks_9 (fun H locs hw _ => ?_)
    refine bif_ne (tgt := 17) S.1 S.2.1 hm dMo_asks_12 (by decide) (fun hm => ?_) (fun hm => ?_)
    · refine lv_iload_n S.1 S.2.1 dMo_asks_17 rfl (lv_at hl 3 rfl) ?_
      by_cases c0 : a3 = (0 : Int32)
      · have hm := sw_it c0 hm
        refine lv_tableIn (off := 26) (tgt := 44) S.1 S.2.1 dMo_asks_18 (by rw [c0]; decide) (by rw [c0]; decide) (by rw [c0]; decide) (by decide) ?_
        refine lv_aload_n S.1 S.2.1 dMo_asks_44 rfl (lv_at hl 0 rfl) ?_
        refine lv_iload_n S.1 S.2.1 dMo_asks_45 rfl (lv_at hl 1 rfl) ?_
        refine lv_iload_n S.1 S.2.1 dMo_asks_46 rfl (lv_at hl 2 rfl) ?_
        obtain ⟨⟨v8, μ7⟩, h6, hm⟩ := ob hm
        refine sw_Vi (q := 84) (rest := []) S hw (cMo_countsAt l N hf a1 a2 h6) kMo_countsAt wm_Mo_141 (is_84 hf).1 (e_Mo (is_84 hf)) rfl rfl rfl rfl hl.1 (Nat.le_of_ble_eq_true rfl) ⟨rfl, rfl, Nat.le_of_ble_eq_true rfl, Nat.le_of_ble_eq_true rfl⟩ ⟨Nat.le_of_ble_eq_true rfl, Nat.le_of_ble_eq_true rfl⟩ dMo_asks_47 (fun H locs hw _ => ?_)
        obtain rfl := Option.some.inj hm
        exact sw_iret S hr hlk hw trivial dMo_asks_50
      · have hm := sw_if c0 hm
        by_cases c1 : a3 = (1 : Int32)
        · have hm := sw_it c1 hm
          refine lv_tableIn (off := 33) (tgt := 51) S.1 S.2.1 dMo_asks_18 (by rw [c1]; decide) (by rw [c1]; decide) (by rw [c1]; decide) (by decide) ?_
          refine lv_aload_n S.1 S.2.1 dMo_asks_51 rfl (lv_at hl 0 rfl) ?_
          refine lv_iload_n S.1 S.2.1 dMo_asks_52 rfl (lv_at hl 1 rfl) ?_
          refine lv_iload_n S.1 S.2.1 dMo_asks_53 rfl (lv_at hl 2 rfl) ?_
          obtain ⟨⟨v11, μ10⟩, h9, hm⟩ := ob hm
          refine sw_Vi (q := 84) (rest := []) S hw (cMo_isBarred l N hf a1 a2 h9) kMo_isBarred wm_Mo_151 (is_84 hf).1 (e_Mo (is_84 hf)) rfl rfl rfl rfl hl.1 (Nat.le_of_ble_eq_true rfl) ⟨rfl, rfl, Nat.le_of_ble_eq_true rfl, Nat.le_of_ble_eq_true rfl⟩ ⟨Nat.le_of_ble_eq_true rfl, Nat.le_of_ble_eq_true rfl⟩ dMo_asks_54 (fun H locs hw _ => ?_)
          refine bif_eq (tgt := 64) S.1 S.2.1 hm dMo_asks_57 (by decide) (fun hm => ?_) (fun hm => ?_)
          · refine lv_iconst (v := (0 : Int32)) S.1 S.2.1 dMo_asks_64 (by decide) ?_
            obtain rfl := Option.some.inj hm
            exact sw_iret S hr hlk hw trivial dMo_asks_65
          · refine lv_iconst (v := (1 : Int32)) S.1 S.2.1 dMo_asks_60 (by decide) ?_
            refine lv_goto (tgt := 65) S.1 S.2.1 dMo_asks_61 (by decide) ?_
            obtain rfl := Option.some.inj hm
            exact sw_iret S hr hlk hw trivial dMo_asks_65
        · have hm := sw_if c1 hm
          by_cases c2 : a3 = (2 : Int32)
          · have hm := sw_it c2 hm
            refine lv_tableIn (off := 48) (tgt := 66) S.1 S.2.1 dMo_asks_18 (by rw [c2]; decide) (by rw [c2]; decide) (by rw [c2]; decide) (by decide) ?_
            refine lv_aload_n S.1 S.2.1 dMo_asks_66 rfl (lv_at hl 0 rfl) ?_
            obtain ⟨⟨v14, μ13⟩, h12, hm⟩ := ob hm
            refine sw_Vi (q := 84) (rest := []) S hw (cMo_tiltNow l N hf  h12) kMo_tiltNow wm_Mo_154 (is_84 hf).1 (e_Mo (is_84 hf)) rfl rfl rfl rfl hl.1 (Nat.le_of_ble_eq_true rfl) ⟨rfl, rfl, Nat.le_of_ble_eq_true rfl, Nat.le_of_ble_eq_true rfl⟩ ⟨Nat.le_of_ble_eq_true rfl, Nat.le_of_ble_eq_true rfl⟩ dMo_asks_67 (fun H locs hw _ => ?_)
            refine lv_aload_n S.1 S.2.1 dMo_asks_70 rfl (lv_at hl 0 rfl) ?_
            refine lv_iload_n S.1 S.2.1 dMo_asks_71 rfl (lv_at hl 1 rfl) ?_
            obtain ⟨⟨v17, μ16⟩, h15, hm⟩ := ob hm
            refine sw_Vi (q := 84) (rest := [.int v14]) S hw (cMo_pullOf l N hf a1 h15) kMo_pullOf wm_Mo_157 (is_84 hf).1 (e_Mo (is_84 hf)) rfl rfl rfl rfl hl.1 (Nat.le_of_ble_eq_true rfl) ⟨rfl, rfl, Nat.le_of_ble_eq_true rfl, Nat.le_of_ble_eq_true rfl⟩ ⟨Nat.le_of_ble_eq_true rfl, Nat.le_of_ble_eq_true rfl⟩ dMo_asks_72 (fun H locs hw _ => ?_)
            refine lv_isub S.1 S.2.1 dMo_asks_75 ?_
            refine lv_aload_n S.1 S.2.1 dMo_asks_76 rfl (lv_at hl 0 rfl) ?_
            refine lv_iload_n S.1 S.2.1 dMo_asks_77 rfl (lv_at hl 1 rfl) ?_
            refine lv_iload_n S.1 S.2.1 dMo_asks_78 rfl (lv_at hl 2 rfl) ?_
            obtain ⟨⟨v20, μ19⟩, h18, hm⟩ := ob hm
            refine sw_Vi (q := 84) (rest := [.int (v14 - v17)]) S hw (cMo_countsAt l N hf a1 a2 h18) kMo_countsAt wm_Mo_141 (is_84 hf).1 (e_Mo (is_84 hf)) rfl rfl rfl rfl hl.1 (Nat.le_of_ble_eq_true rfl) ⟨rfl, rfl, Nat.le_of_ble_eq_true rfl, Nat.le_of_ble_eq_true rfl⟩ ⟨Nat.le_of_ble_eq_true rfl, Nat.le_of_ble_eq_true rfl⟩ dMo_asks_79 (fun H locs hw _ => ?_)
            refine lv_iload_n S.1 S.2.1 dMo_asks_82 rfl (lv_at hl 2 rfl) ?_
            obtain ⟨v22, h21, hm⟩ := ob hm
            refine sw_Si (rest := [.int v20, .int (v14 - v17)]) S hw (cMo_armOf l  hf a2 h21) kMo_armOf wm_Mo_160 rfl rfl hl.1 (Nat.le_of_ble_eq_true rfl) ⟨rfl, rfl, Nat.le_of_ble_eq_true rfl, Nat.le_of_ble_eq_true rfl⟩ ⟨Nat.le_of_ble_eq_true rfl, Nat.le_of_ble_eq_true rfl⟩ dMo_asks_83 (fun H locs hw _ => ?_)
            refine lv_imul S.1 S.2.1 dMo_asks_86 ?_
            refine lv_iadd S.1 S.2.1 dMo_asks_87 ?_
            obtain ⟨v24, h23, hm⟩ := ob hm
            refine sw_Si (rest := []) S hw (cMo_either l  hf ((v14 - v17) + (v20 * v22)) h23) kMo_either wm_Mo_163 rfl rfl hl.1 (Nat.le_of_ble_eq_true rfl) ⟨rfl, rfl, Nat.le_of_ble_eq_true rfl, Nat.le_of_ble_eq_true rfl⟩ ⟨Nat.le_of_ble_eq_true rfl, Nat.le_of_ble_eq_true rfl⟩ dMo_asks_88 (fun H locs hw _ => ?_)
            obtain rfl := Option.some.inj hm
            exact sw_iret S hr hlk hw trivial dMo_asks_91
          · have hm := sw_if c2 hm
            refine lv_tableOut (tgt := 92) S.1 S.2.1 dMo_asks_18 (by have := lv_neT c0 (show ((0 : Int32)).toInt = 0 from rfl); have := lv_neT c1 (show ((1 : Int32)).toInt = 1 from rfl); have := lv_neT c2 (show ((2 : Int32)).toInt = 2 from rfl); omega) (by decide) ?_
            refine lv_iconst (v := (-1 : Int32)) S.1 S.2.1 dMo_asks_92 (by decide) ?_
            obtain rfl := Option.some.inj hm
            exact sw_iret S hr hlk hw trivial dMo_asks_93
    · refine lv_iconst (v := (-1 : Int32)) S.1 S.2.1 dMo_asks_15 (by decide) ?_
      obtain rfl := Option.some.inj hm
      exact sw_iret S hr hlk hw trivial dMo_asks_16
set_option maxHeartbeats 4000000 in
set_option maxRecDepth 100000 in
theorem cMo_tilt (l : Launch) (N : Nat) {Γ : sw_C} {A : Nat → Prop} {ξ : sw_x} {g : sw_g} {μ : sw_m} (hf : sw_wf ξ g.2.2) (a1 : Int32) {res : Int32 × sw_m} (hm : fMo_tilt N μ a1 = some res) : Met l yMo_tilt (Cond.code yMo_tilt prog_10_method_26_code 3 (some .int) :: sw_tb) rmMo_tilt (va_Pc [.ref (ξ.2.2.2.1 84), .int a1] (sw_V Γ A ξ g μ)) (sw_Qi Γ A ξ g res.2 res.1 (True)) 0 0 A := by
  refine Met.ofW (cc := prog_10_method_26_code) (maxL := 3) (ret := some .int) (by decide) rfl ?_
  intro p e s m args below meth c s₁ B hml hv
  obtain ⟨rfl, hv⟩ := hv
  have S : CallFix p m c prog_10_method_26_code 3 s _ (Cond.code yMo_tilt prog_10_method_26_code 3 (some .int) :: sw_tb) R_Mo := ⟨B.exec, B.bytes, hml, findClass_of_methodNamed B.named, atoms_spec (ws := (Cond.code yMo_tilt prog_10_method_26_code 3 (some .int) :: sw_tb)) B.pre⟩
  have hr := B.returns
  have hlk := B.notSynchronized
  have hw := sw_begin hv
  have hl := lv_entry [.ref (ξ.2.2.2.1 84), .int a1] (n := 3) (Nat.le_of_ble_eq_true rfl)
  rw [lg_entry_eq]
  generalize (lg_sl [.ref (ξ.2.2.2.1 84), .int a1] ++ List.replicate (3 - (lg_sl [.ref (ξ.2.2.2.1 84), .int a1]).length) Slot.unset).toArray = ls at hl ⊢
  have hl : lv_has ls 3 [(0, .ref (ξ.2.2.2.1 84)), (1, .int a1)] := hl
  unfold fMo_tilt at hm
  refine lv_aload_n S.1 S.2.1 dMo_tilt_0 rfl (lv_at hl 0 rfl) ?_
  obtain ⟨⟨v3, μ2⟩, h1, hm⟩ := ob hm
  refine sw_Vi (q := 84) (rest := []) S hw (cMo_tiltNow l N hf  h1) kMo_tiltNow wm_Mo_154 (is_84 hf).1 (e_Mo (is_84 hf)) rfl rfl rfl rfl hl.1 (Nat.le_of_ble_eq_true rfl) ⟨rfl, rfl, Nat.le_of_ble_eq_true rfl, Nat.le_of_ble_eq_true rfl⟩ ⟨Nat.le_of_ble_eq_true rfl, Nat.le_of_ble_eq_true rfl⟩ dMo_tilt_1 (fun H locs hw _ => ?_)
  refine lv_istore_n (lv' := [(2, .int v3), (0, .ref (ξ.2.2.2.1 84)), (1, .int a1)]) S.1 S.2.1 dMo_tilt_4 rfl hl (by decide) rfl (fun ls hl => ?_)
  refine lv_iload_n S.1 S.2.1 dMo_tilt_5 rfl (lv_at hl 2 rfl) ?_
  by_cases c0 : a1 = (0 : Int32)
  · have hm := sw_it c0 hm
    refine lv_tableIn (off := 26) (tgt := 32) S.1 S.2.1 dMo_tilt_6 (by rw [c0]; decide) (by rw [c0]; decide) (by rw [c0]; decide) (by decide) ?_
    refine lv_iload_n S.1 S.2.1 dMo_tilt_32 rfl (lv_at hl 0 rfl) ?_
    obtain ⟨v5, h4, hm⟩ := ob hm
    refine sw_Si (rest := []) S hw (cMo_either l  hf v3 h4) kMo_either wm_Mo_163 rfl rfl hl.1 (Nat.le_of_ble_eq_true rfl) ⟨rfl, rfl, Nat.le_of_ble_eq_true rfl, Nat.le_of_ble_eq_true rfl⟩ ⟨Nat.le_of_ble_eq_true rfl, Nat.le_of_ble_eq_true rfl⟩ dMo_tilt_33 (fun H locs hw _ => ?_)
    obtain rfl := Option.some.inj hm
    exact sw_iret S hr hlk hw trivial dMo_tilt_36
  · have hm := sw_if c0 hm
    by_cases c1 : a1 = (1 : Int32)
    · have hm := sw_it c1 hm
      refine lv_tableIn (off := 31) (tgt := 37) S.1 S.2.1 dMo_tilt_6 (by rw [c1]; decide) (by rw [c1]; decide) (by rw [c1]; decide) (by decide) ?_
      refine lv_iload_n S.1 S.2.1 dMo_tilt_37 rfl (lv_at hl 0 rfl) ?_
      refine bif_ne (tgt := 45) S.1 S.2.1 hm dMo_tilt_38 (by decide) (fun hm => ?_) (fun hm => ?_)
      · refine lv_iload_n S.1 S.2.1 dMo_tilt_45 rfl (lv_at hl 0 rfl) ?_
        refine bif_ge (tgt := 53) S.1 S.2.1 hm dMo_tilt_46 (by decide) (fun hm => ?_) (fun hm => ?_)
        · refine lv_iconst (v := (2 : Int32)) S.1 S.2.1 dMo_tilt_53 (by decide) ?_
          obtain rfl := Option.some.inj hm
          exact sw_iret S hr hlk hw trivial dMo_tilt_54
        · refine lv_iconst (v := (1 : Int32)) S.1 S.2.1 dMo_tilt_49 (by decide) ?_
          refine lv_goto (tgt := 54) S.1 S.2.1 dMo_tilt_50 (by decide) ?_
          obtain rfl := Option.some.inj hm
          exact sw_iret S hr hlk hw trivial dMo_tilt_54
      · refine lv_iconst (v := (0 : Int32)) S.1 S.2.1 dMo_tilt_41 (by decide) ?_
        refine lv_goto (tgt := 54) S.1 S.2.1 dMo_tilt_42 (by decide) ?_
        obtain rfl := Option.some.inj hm
        exact sw_iret S hr hlk hw trivial dMo_tilt_54
    · have hm := sw_if c1 hm
      by_cases c2 : a1 = (2 : Int32)
      · have hm := sw_it c2 hm
        refine lv_tableIn (off := 49) (tgt := 55) S.1 S.2.1 dMo_tilt_6 (by rw [c2]; decide) (by rw [c2]; decide) (by rw [c2]; decide) (by decide) ?_
        refine lv_aload_n S.1 S.2.1 dMo_tilt_55 rfl (lv_at hl 1 rfl) ?_
        refine lv_iload_n S.1 S.2.1 dMo_tilt_56 rfl (lv_at hl 0 rfl) ?_
        obtain ⟨⟨v8, μ7⟩, h6, hm⟩ := ob hm
        refine sw_Vi (q := 84) (rest := []) S hw (cMo_isLevel l  hf v3 h6) kMo_isLevel wm_Mo_166 (is_84 hf).1 (e_Mo (is_84 hf)) rfl rfl rfl rfl hl.1 (Nat.le_of_ble_eq_true rfl) ⟨rfl, rfl, Nat.le_of_ble_eq_true rfl, Nat.le_of_ble_eq_true rfl⟩ ⟨Nat.le_of_ble_eq_true rfl, Nat.le_of_ble_eq_true rfl⟩ dMo_tilt_57 (fun H locs hw _ => ?_)
        refine bif_eq (tgt := 67) S.1 S.2.1 hm dMo_tilt_60 (by decide) (fun hm => ?_) (fun hm => ?_)
        · refine lv_iconst (v := (0 : Int32)) S.1 S.2.1 dMo_tilt_67 (by decide) ?_
          obtain rfl := Option.some.inj hm
          exact sw_iret S hr hlk hw trivial dMo_tilt_68
        · refine lv_iconst (v := (1 : Int32)) S.1 S.2.1 dMo_tilt_63 (by decide) ?_
          refine lv_goto (tgt := 68) S.1 S.2.1 dMo_tilt_64 (by decide) ?_
          obtain rfl := Option.some.inj hm
          exact sw_iret S hr hlk hw trivial dMo_tilt_68
      · have hm := sw_if c2 hm
        refine lv_tableOut (tgt := 69) S.1 S.2.1 dMo_tilt_6 (by have := lv_neT c0 (show ((0 : Int32)).toInt = 0 from rfl); have := lv_neT c1 (show ((1 : Int32)).toInt = 1 from rfl); have := lv_neT c2 (show ((2 : Int32)).toInt = 2 from rfl); omega) (by decide) ?_
        refine lv_iconst (v := (-1 : Int32)) S.1 S.2.1 dMo_tilt_69 (by decide) ?_
        obtain rfl := Option.some.inj hm
        exact sw_iret S hr hlk hw trivial dMo_tilt_70
set_option maxHeartbeats 4000000 in
set_option maxRecDepth 100000 in
theorem wMo_orders_122 {l : Launch} {p : Program} {e : Env} {s : State} {m : MethodId} {args : Array Value} {below : List Frame} {meth : Method} {c : Code} {Γ : sw_C} {A : Nat → Prop} {ξ : sw_x} {g : sw_g} {res : Int32 × sw_m} (S : CallFix p m c prog_10_method_132_code 5 s args (Cond.code yMo_orders prog_10_method_132_code 5 (some .int) :: sw_tb) R_Mo) (hr : meth.sig.returnType = some .int) (hlk : meth.locks = false) (hf : sw_wf ξ g.2.2) (N : Nat) : ∀ (fu : Nat) (μ : sw_m) (u1 : Int32) (u3 : Int32) (u4 : Int32) (H : Heap) (locs : List Loc) (ls : Array Slot), fMo_orders_122 N   fu μ u1 u3 u4 = some res → sw_S Γ A ξ g μ s H locs → lv_has ls 5 [(0, .ref (ξ.2.2.2.1 84)), (1, .int u1), (3, .int u3), (4, .int u4)] → W p l e (headSpec (Cond.code yMo_orders prog_10_method_132_code 5 (some .int) :: sw_tb) rmMo_orders).room s m args below meth c H locs 0 0 (MQ below (sw_Qi Γ A ξ g res.2 res.1 (True)) args s 0 0 A) (F0 m 122 ls []) := by
  intro fu
  induction fu with
  | zero => intro μ u1 u3 u4 H locs ls hm; rw [fMo_orders_122.eq_1] at hm; cases hm
  | succ fu ih =>
    intro μ u1 u3 u4 H locs ls hm hw hl
    rw [fMo_orders_122.eq_2] at hm
    refine lv_iload S.1 S.2.1 dMo_orders_122 (lv_at hl 3 rfl) ?_
    refine lv_sipush (v := (256 : Int32)) S.1 S.2.1 dMo_orders_124 (by decide) ?_
    refine bicmp_ge (tgt := 150) S.1 S.2.1 hm dMo_orders_127 (by decide) (fun hm => ?_) (fun hm => ?_)
    · refine lv_aload_n S.1 S.2.1 dMo_orders_150 rfl (lv_at hl 0 rfl) ?_
      refine lv_iload_n S.1 S.2.1 dMo_orders_151 rfl (lv_at hl 1 rfl) ?_
      refine put_Mo S hw (is_84 hf) 33 (by decide) ps_Mo_33 rfl rfl rfl wf_Mo_11 hm dMo_orders_152 (fun μ23 H locs hm hw => ?_)
      refine lv_aload_n S.1 S.2.1 dMo_orders_155 rfl (lv_at hl 0 rfl) ?_
      refine lv_iload_n S.1 S.2.1 dMo_orders_156 rfl (lv_at hl 2 rfl) ?_
      refine put_Mo S hw (is_84 hf) 43 (by decide) ps_Mo_43 rfl rfl rfl wf_Mo_101 hm dMo_orders_157 (fun μ24 H locs hm hw => ?_)
      refine lv_aload_n S.1 S.2.1 dMo_orders_160 rfl (lv_at hl 0 rfl) ?_
      refine lv_bipush (v := (-3 : Int32)) S.1 S.2.1 dMo_orders_161 (by decide) ?_
      obtain ⟨⟨v27, μ26⟩, h25, hm⟩ := ob hm
      refine sw_Vi (q := 84) (rest := []) S hw (cMo_refuses l  hf (-3 : Int32) h25) kMo_refuses wm_Mo_113 (is_84 hf).1 (e_Mo (is_84 hf)) rfl rfl rfl rfl hl.1 (Nat.le_of_ble_eq_true rfl) ⟨rfl, rfl, Nat.le_of_ble_eq_true rfl, Nat.le_of_ble_eq_true rfl⟩ ⟨Nat.le_of_ble_eq_true rfl, Nat.le_of_ble_eq_true rfl⟩ dMo_orders_163 (fun H locs hw _ => ?_)
      obtain rfl := Option.some.inj hm
      exact sw_iret S hr hlk hw trivial dMo_orders_166
    · refine lv_aload_n S.1 S.2.1 dMo_orders_130 rfl (lv_at hl 0 rfl) ?_
      refine get_Mo (v := .ref (ξ.2.2.2.1 98)) S hw (is_84 hf) 31 (by decide) rfl wf_Mo_69 dMo_orders_131 ?_
      refine lv_iload S.1 S.2.1 dMo_orders_134 (lv_at hl 3 rfl) ?_
      refine lv_aload_n S.1 S.2.1 dMo_orders_136 rfl (lv_at hl 0 rfl) ?_
      refine get_Mo (v := .ref (ξ.2.2.2.1 99)) S hw (is_84 hf) 32 (by decide) rfl wf_Mo_72 dMo_orders_137 ?_
      refine lv_iload S.1 S.2.1 dMo_orders_140 (lv_at hl 3 rfl) ?_
      refine sm_iald S hw (is_99 hf) hm dMo_orders_142 (fun v28 hm => ?_)
      refine sm_iast S hw (is_98 hf) hm dMo_orders_143 (fun μ29 H locs hm hw => ?_)
      obtain ⟨x30, ex30, hm⟩ := nm_x hm
      refine lv_iinc (v := x30) (lv' := [(4, .int x30), (0, .ref (ξ.2.2.2.1 84)), (1, .int u1), (3, .int u3)]) S.1 S.2.1 dMo_orders_144 hl (k := 3) rfl (by rw [ex30]; rfl) (by decide) rfl (fun ls hl => ?_)
      refine lv_goto (tgt := 122) S.1 S.2.1 dMo_orders_147 (by decide) ?_
      exact ih μ29 u1 u3 x30 _ _ _ hm hw (lv_sub hl [1, 2, 3, 0] rfl)
set_option maxHeartbeats 4000000 in
set_option maxRecDepth 100000 in
theorem wMo_orders_95 {l : Launch} {p : Program} {e : Env} {s : State} {m : MethodId} {args : Array Value} {below : List Frame} {meth : Method} {c : Code} {Γ : sw_C} {A : Nat → Prop} {ξ : sw_x} {g : sw_g} {res : Int32 × sw_m} (S : CallFix p m c prog_10_method_132_code 5 s args (Cond.code yMo_orders prog_10_method_132_code 5 (some .int) :: sw_tb) R_Mo) (hr : meth.sig.returnType = some .int) (hlk : meth.locks = false) (hf : sw_wf ξ g.2.2) (N : Nat) : ∀ (fu : Nat) (μ : sw_m) (u1 : Int32) (u2 : Int32) (u3 : Int32) (H : Heap) (locs : List Loc) (ls : Array Slot), fMo_orders_95 N   fu μ u1 u2 u3 = some res → sw_S Γ A ξ g μ s H locs → lv_has ls 5 [(0, .ref (ξ.2.2.2.1 84)), (1, .int u1), (2, .int u2), (3, .int u3)] → W p l e (headSpec (Cond.code yMo_orders prog_10_method_132_code 5 (some .int) :: sw_tb) rmMo_orders).room s m args below meth c H locs 0 0 (MQ below (sw_Qi Γ A ξ g res.2 res.1 (True)) args s 0 0 A) (F0 m 95 ls []) := by
  intro fu
  induction fu with
  | zero => intro μ u1 u2 u3 H locs ls hm; rw [fMo_orders_95.eq_1] at hm; cases hm
  | succ fu ih =>
    intro μ u1 u2 u3 H locs ls hm hw hl
    rw [fMo_orders_95.eq_2] at hm
    refine lv_aload_n S.1 S.2.1 dMo_orders_95 rfl (lv_at hl 0 rfl) ?_
    refine get_Mo (v := .int (μ.1 84 44)) S hw (is_84 hf) 44 (by decide) rfl wf_Mo_471 dMo_orders_96 ?_
    refine lv_iload_n S.1 S.2.1 dMo_orders_99 rfl (lv_at hl 2 rfl) ?_
    refine bicmp_ge (tgt := 173) S.1 S.2.1 hm dMo_orders_100 (by decide) (fun hm => ?_) (fun hm => ?_)
    · refine lv_aload_n S.1 S.2.1 dMo_orders_173 rfl (lv_at hl 0 rfl) ?_
      refine lv_aload_n S.1 S.2.1 dMo_orders_174 rfl (lv_at hl 0 rfl) ?_
      refine get_Mo (v := .int (μ.1 84 27)) S hw (is_84 hf) 27 (by decide) rfl wf_Mo_322 dMo_orders_175 ?_
      obtain ⟨⟨v17, μ16⟩, h15, hm⟩ := ob hm
      refine sw_Vi (q := 84) (rest := []) S hw (cMo_good l  hf (μ.1 84 27) h15) kMo_good wm_Mo_14 (is_84 hf).1 (e_Mo (is_84 hf)) rfl rfl rfl rfl hl.1 (Nat.le_of_ble_eq_true rfl) ⟨rfl, rfl, Nat.le_of_ble_eq_true rfl, Nat.le_of_ble_eq_true rfl⟩ ⟨Nat.le_of_ble_eq_true rfl, Nat.le_of_ble_eq_true rfl⟩ dMo_orders_178 (fun H locs hw _ => ?_)
      obtain rfl := Option.some.inj hm
      exact sw_iret S hr hlk hw trivial dMo_orders_181
    · refine lv_aload_n S.1 S.2.1 dMo_orders_103 rfl (lv_at hl 0 rfl) ?_
      refine lv_iload_n S.1 S.2.1 dMo_orders_104 rfl (lv_at hl 2 rfl) ?_
      obtain ⟨⟨v20, μ19⟩, h18, hm⟩ := ob hm
      refine sw_Vi (q := 84) (rest := []) S hw (cMo_runs l N hf u2 h18) kMo_runs wm_Mo_474 (is_84 hf).1 (e_Mo (is_84 hf)) rfl rfl rfl rfl hl.1 (Nat.le_of_ble_eq_true rfl) ⟨rfl, rfl, Nat.le_of_ble_eq_true rfl, Nat.le_of_ble_eq_true rfl⟩ ⟨Nat.le_of_ble_eq_true rfl, Nat.le_of_ble_eq_true rfl⟩ dMo_orders_105 (fun H locs hw _ => ?_)
      refine bif_eq (tgt := 114) S.1 S.2.1 hm dMo_orders_108 (by decide) (fun hm => ?_) (fun hm => ?_)
      · refine lv_aload_n S.1 S.2.1 dMo_orders_114 rfl (lv_at hl 0 rfl) ?_
        refine lv_iconst (v := (1 : Int32)) S.1 S.2.1 dMo_orders_115 (by decide) ?_
        obtain ⟨μ22, h21, hm⟩ := ob hm
        refine sw_Vv (q := 84) (rest := []) S hw (cMo_takesBack l N hf (1 : Int32) h21) kMo_takesBack wm_Mo_477 (is_84 hf).1 (e_Mo (is_84 hf)) rfl rfl rfl rfl hl.1 (Nat.le_of_ble_eq_true rfl) ⟨rfl, rfl, Nat.le_of_ble_eq_true rfl, Nat.le_of_ble_eq_true rfl⟩ ⟨Nat.le_of_ble_eq_true rfl, Nat.le_of_ble_eq_true rfl⟩ dMo_orders_116 (fun H locs hw _ => ?_)
        refine lv_iconst (v := (0 : Int32)) S.1 S.2.1 dMo_orders_119 (by decide) ?_
        refine lv_istore (lv' := [(4, .int (0 : Int32)), (0, .ref (ξ.2.2.2.1 84)), (1, .int u1), (2, .int u2), (3, .int u3)]) S.1 S.2.1 dMo_orders_120 hl (by decide) rfl (fun ls hl => ?_)
        exact wMo_orders_122 S hr hlk hf N  N μ22 u1 u3 (0 : Int32) _ _ _ hm hw (lv_sub hl [1, 2, 4, 0] rfl)
      · refine lv_goto (tgt := 167) S.1 S.2.1 dMo_orders_111 (by decide) ?_
        obtain ⟨x31, ex31, hm⟩ := nm_x hm
        refine lv_iinc (v := x31) (lv' := [(3, .int x31), (0, .ref (ξ.2.2.2.1 84)), (1, .int u1), (2, .int u2)]) S.1 S.2.1 dMo_orders_167 hl (k := 3) rfl (by rw [ex31]; rfl) (by decide) rfl (fun ls hl => ?_)
        refine lv_goto (tgt := 95) S.1 S.2.1 dMo_orders_170 (by decide) ?_
        exact ih μ19 u1 u2 x31 _ _ _ hm hw (lv_sub hl [1, 2, 3, 0] rfl)
set_option maxHeartbeats 4000000 in
set_option maxRecDepth 100000 in
theorem wMo_orders_27 {l : Launch} {p : Program} {e : Env} {s : State} {m : MethodId} {args : Array Value} {below : List Frame} {meth : Method} {c : Code} {Γ : sw_C} {A : Nat → Prop} {ξ : sw_x} {g : sw_g} {res : Int32 × sw_m} (S : CallFix p m c prog_10_method_132_code 5 s args (Cond.code yMo_orders prog_10_method_132_code 5 (some .int) :: sw_tb) R_Mo) (hr : meth.sig.returnType = some .int) (hlk : meth.locks = false) (hf : sw_wf ξ g.2.2) (N : Nat) : ∀ (fu : Nat) (μ : sw_m) (u1 : Int32) (H : Heap) (locs : List Loc) (ls : Array Slot), fMo_orders_27 N   fu μ u1 = some res → sw_S Γ A ξ g μ s H locs → lv_has ls 5 [(0, .ref (ξ.2.2.2.1 84)), (1, .int u1)] → W p l e (headSpec (Cond.code yMo_orders prog_10_method_132_code 5 (some .int) :: sw_tb) rmMo_orders).room s m args below meth c H locs 0 0 (MQ below (sw_Qi Γ A ξ g res.2 res.1 (True)) args s 0 0 A) (F0 m 27 ls []) := by
  intro fu
  induction fu with
  | zero => intro μ u1 H locs ls hm; rw [fMo_orders_27.eq_1] at hm; cases hm
  | succ fu ih =>
    intro μ u1 H locs ls hm hw hl
    rw [fMo_orders_27.eq_2] at hm
    refine lv_iload_n S.1 S.2.1 dMo_orders_27 rfl (lv_at hl 1 rfl) ?_
    refine lv_sipush (v := (256 : Int32)) S.1 S.2.1 dMo_orders_28 (by decide) ?_
    refine bicmp_ge (tgt := 52) S.1 S.2.1 hm dMo_orders_31 (by decide) (fun hm => ?_) (fun hm => ?_)
    · refine lv_aload_n S.1 S.2.1 dMo_orders_52 rfl (lv_at hl 0 rfl) ?_
      refine get_Mo (v := .int (μ.1 84 33)) S hw (is_84 hf) 33 (by decide) rfl wf_Mo_11 dMo_orders_53 ?_
      refine nm_i hm (fun x7 hm => ?_)
      refine lv_istore_n (lv' := [(1, .int x7), (0, .ref (ξ.2.2.2.1 84))]) S.1 S.2.1 dMo_orders_56 rfl hl (by decide) rfl (fun ls hl => ?_)
      refine lv_aload_n S.1 S.2.1 dMo_orders_57 rfl (lv_at hl 1 rfl) ?_
      refine lv_bipush (v := (6 : Int32)) S.1 S.2.1 dMo_orders_58 (by decide) ?_
      obtain ⟨μ9, h8, hm⟩ := ob hm
      refine sw_Vv (q := 84) (rest := []) S hw (cMo_lays l N hf (6 : Int32) h8) kMo_lays wm_Mo_277 (is_84 hf).1 (e_Mo (is_84 hf)) rfl rfl rfl rfl hl.1 (Nat.le_of_ble_eq_true rfl) ⟨rfl, rfl, Nat.le_of_ble_eq_true rfl, Nat.le_of_ble_eq_true rfl⟩ ⟨Nat.le_of_ble_eq_true rfl, Nat.le_of_ble_eq_true rfl⟩ dMo_orders_60 (fun H locs hw _ => ?_)
      refine lv_aload_n S.1 S.2.1 dMo_orders_63 rfl (lv_at hl 1 rfl) ?_
      refine lv_iconst (v := (0 : Int32)) S.1 S.2.1 dMo_orders_64 (by decide) ?_
      refine put_Mo S hw (is_84 hf) 27 (by decide) ps_Mo_27 rfl rfl rfl wf_Mo_322 hm dMo_orders_65 (fun μ10 H locs hm hw => ?_)
      refine lv_aload_n S.1 S.2.1 dMo_orders_68 rfl (lv_at hl 1 rfl) ?_
      refine lv_iconst (v := (-1 : Int32)) S.1 S.2.1 dMo_orders_69 (by decide) ?_
      refine put_Mo S hw (is_84 hf) 28 (by decide) ps_Mo_28 rfl rfl rfl wf_Mo_325 hm dMo_orders_70 (fun μ11 H locs hm hw => ?_)
      refine lv_aload_n S.1 S.2.1 dMo_orders_73 rfl (lv_at hl 1 rfl) ?_
      refine lv_sipush (v := (2400 : Int32)) S.1 S.2.1 dMo_orders_74 (by decide) ?_
      refine put_Mo S hw (is_84 hf) 44 (by decide) ps_Mo_44 rfl rfl rfl wf_Mo_471 hm dMo_orders_77 (fun μ12 H locs hm hw => ?_)
      refine lv_aload_n S.1 S.2.1 dMo_orders_80 rfl (lv_at hl 1 rfl) ?_
      refine get_Mo (v := .int (μ12.1 84 44)) S hw (is_84 hf) 44 (by decide) rfl wf_Mo_471 dMo_orders_81 ?_
      refine lv_aload_n S.1 S.2.1 dMo_orders_84 rfl (lv_at hl 1 rfl) ?_
      refine get_Mo (v := .ref (ξ.2.2.2.1 86)) S hw (is_84 hf) 2 (by decide) rfl wf_Mo_28 dMo_orders_85 ?_
      refine lv_bipush (v := (53 : Int32)) S.1 S.2.1 dMo_orders_88 (by decide) ?_
      refine sm_iald S hw (is_86 hf) hm dMo_orders_90 (fun v13 hm => ?_)
      refine lv_iadd S.1 S.2.1 dMo_orders_91 ?_
      refine nm_i hm (fun x14 hm => ?_)
      refine lv_istore_n (lv' := [(2, .int x14), (1, .int x7), (0, .ref (ξ.2.2.2.1 84))]) S.1 S.2.1 dMo_orders_92 rfl hl (by decide) rfl (fun ls hl => ?_)
      refine lv_iconst (v := (0 : Int32)) S.1 S.2.1 dMo_orders_93 (by decide) ?_
      refine lv_istore_n (lv' := [(3, .int (0 : Int32)), (2, .int x14), (1, .int x7), (0, .ref (ξ.2.2.2.1 84))]) S.1 S.2.1 dMo_orders_94 rfl hl (by decide) rfl (fun ls hl => ?_)
      exact wMo_orders_95 S hr hlk hf N  N μ12 x7 x14 (0 : Int32) _ _ _ hm hw (lv_sub hl [3, 2, 1, 0] rfl)
    · refine lv_aload_n S.1 S.2.1 dMo_orders_34 rfl (lv_at hl 0 rfl) ?_
      refine get_Mo (v := .ref (ξ.2.2.2.1 99)) S hw (is_84 hf) 32 (by decide) rfl wf_Mo_72 dMo_orders_35 ?_
      refine lv_iload_n S.1 S.2.1 dMo_orders_38 rfl (lv_at hl 1 rfl) ?_
      refine lv_aload_n S.1 S.2.1 dMo_orders_39 rfl (lv_at hl 0 rfl) ?_
      refine get_Mo (v := .ref (ξ.2.2.2.1 98)) S hw (is_84 hf) 31 (by decide) rfl wf_Mo_69 dMo_orders_40 ?_
      refine lv_iload_n S.1 S.2.1 dMo_orders_43 rfl (lv_at hl 1 rfl) ?_
      refine sm_iald S hw (is_98 hf) hm dMo_orders_44 (fun v32 hm => ?_)
      refine sm_iast S hw (is_99 hf) hm dMo_orders_45 (fun μ33 H locs hm hw => ?_)
      obtain ⟨x34, ex34, hm⟩ := nm_x hm
      refine lv_iinc (v := x34) (lv' := [(1, .int x34), (0, .ref (ξ.2.2.2.1 84))]) S.1 S.2.1 dMo_orders_46 hl (k := 1) rfl (by rw [ex34]; rfl) (by decide) rfl (fun ls hl => ?_)
      refine lv_goto (tgt := 27) S.1 S.2.1 dMo_orders_49 (by decide) ?_
      exact ih μ33 x34 _ _ _ hm hw (lv_sub hl [1, 0] rfl)
set_option maxHeartbeats 4000000 in
set_option maxRecDepth 100000 in
theorem cMo_orders (l : Launch) (N : Nat) {Γ : sw_C} {A : Nat → Prop} {ξ : sw_x} {g : sw_g} {μ : sw_m} (hf : sw_wf ξ g.2.2) {res : Int32 × sw_m} (hm : fMo_orders N μ = some res) : Met l yMo_orders (Cond.code yMo_orders prog_10_method_132_code 5 (some .int) :: sw_tb) rmMo_orders (va_Pc [.ref (ξ.2.2.2.1 84)] (sw_V Γ A ξ g μ)) (sw_Qi Γ A ξ g res.2 res.1 (True)) 0 0 A := by
  refine Met.ofW (cc := prog_10_method_132_code) (maxL := 5) (ret := some .int) (by decide) rfl ?_
  intro p e s m args below meth c s₁ B hml hv
  obtain ⟨rfl, hv⟩ := hv
  have S : CallFix p m c prog_10_method_132_code 5 s _ (Cond.code yMo_orders prog_10_method_132_code 5 (some .int) :: sw_tb) R_Mo := ⟨B.exec, B.bytes, hml, findClass_of_methodNamed B.named, atoms_spec (ws := (Cond.code yMo_orders prog_10_method_132_code 5 (some .int) :: sw_tb)) B.pre⟩
  have hr := B.returns
  have hlk := B.notSynchronized
  have hw := sw_begin hv
  have hl := lv_entry [.ref (ξ.2.2.2.1 84)] (n := 5) (Nat.le_of_ble_eq_true rfl)
  rw [lg_entry_eq]
  generalize (lg_sl [.ref (ξ.2.2.2.1 84)] ++ List.replicate (5 - (lg_sl [.ref (ξ.2.2.2.1 84)]).length) Slot.unset).toArray = ls at hl ⊢
  have hl : lv_has ls 5 [(0, .ref (ξ.2.2.2.1 84))] := hl
  unfold fMo_orders at hm
  refine lv_aload_n S.1 S.2.1 dMo_orders_0 rfl (lv_at hl 0 rfl) ?_
  refine lv_iconst (v := (-1 : Int32)) S.1 S.2.1 dMo_orders_1 (by decide) ?_
  refine put_Mo S hw (is_84 hf) 43 (by decide) ps_Mo_43 rfl rfl rfl wf_Mo_101 hm dMo_orders_2 (fun μ1 H locs hm hw => ?_)
  refine lv_aload_n S.1 S.2.1 dMo_orders_5 rfl (lv_at hl 0 rfl) ?_
  refine lv_iconst (v := (1 : Int32)) S.1 S.2.1 dMo_orders_6 (by decide) ?_
  obtain ⟨⟨v4, μ3⟩, h2, hm⟩ := ob hm
  refine sw_Vi (q := 84) (rest := []) S hw (cMo_readsAs l N hf (1 : Int32) h2) kMo_readsAs wm_Mo_273 (is_84 hf).1 (e_Mo (is_84 hf)) rfl rfl rfl rfl hl.1 (Nat.le_of_ble_eq_true rfl) ⟨rfl, rfl, Nat.le_of_ble_eq_true rfl, Nat.le_of_ble_eq_true rfl⟩ ⟨Nat.le_of_ble_eq_true rfl, Nat.le_of_ble_eq_true rfl⟩ dMo_orders_7 (fun H locs hw _ => ?_)
  refine bif_ne (tgt := 20) S.1 S.2.1 hm dMo_orders_10 (by decide) (fun hm => ?_) (fun hm => ?_)
  · refine lv_aload_n S.1 S.2.1 dMo_orders_20 rfl (lv_at hl 0 rfl) ?_
    refine lv_iconst (v := (1 : Int32)) S.1 S.2.1 dMo_orders_21 (by decide) ?_
    obtain ⟨μ6, h5, hm⟩ := ob hm
    refine sw_Vv (q := 84) (rest := []) S hw (cMo_laysAside l N hf (1 : Int32) h5) kMo_laysAside wm_Mo_468 (is_84 hf).1 (e_Mo (is_84 hf)) rfl rfl rfl rfl hl.1 (Nat.le_of_ble_eq_true rfl) ⟨rfl, rfl, Nat.le_of_ble_eq_true rfl, Nat.le_of_ble_eq_true rfl⟩ ⟨Nat.le_of_ble_eq_true rfl, Nat.le_of_ble_eq_true rfl⟩ dMo_orders_22 (fun H locs hw _ => ?_)
    refine lv_iconst (v := (0 : Int32)) S.1 S.2.1 dMo_orders_25 (by decide) ?_
    refine lv_istore_n (lv' := [(1, .int (0 : Int32)), (0, .ref (ξ.2.2.2.1 84))]) S.1 S.2.1 dMo_orders_26 rfl hl (by decide) rfl (fun ls hl => ?_)
    exact wMo_orders_27 S hr hlk hf N  N μ6 (0 : Int32) _ _ _ hm hw (lv_sub hl [1, 0] rfl)
  · refine lv_aload_n S.1 S.2.1 dMo_orders_13 rfl (lv_at hl 0 rfl) ?_
    refine lv_bipush (v := (-6 : Int32)) S.1 S.2.1 dMo_orders_14 (by decide) ?_
    obtain ⟨⟨v37, μ36⟩, h35, hm⟩ := ob hm
    refine sw_Vi (q := 84) (rest := []) S hw (cMo_refuses l  hf (-6 : Int32) h35) kMo_refuses wm_Mo_113 (is_84 hf).1 (e_Mo (is_84 hf)) rfl rfl rfl rfl hl.1 (Nat.le_of_ble_eq_true rfl) ⟨rfl, rfl, Nat.le_of_ble_eq_true rfl, Nat.le_of_ble_eq_true rfl⟩ ⟨Nat.le_of_ble_eq_true rfl, Nat.le_of_ble_eq_true rfl⟩ dMo_orders_16 (fun H locs hw _ => ?_)
    obtain rfl := Option.some.inj hm
    exact sw_iret S hr hlk hw trivial dMo_orders_19
