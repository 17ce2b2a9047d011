set_option maxHeartbeats 4000000 in
set_option maxRecDepth 100000 in
theorem wMo_canBe_4 {l : Launch} {p : Program} {e : Env} {s : State} {m : MethodId} {args : Array Value} {below : List Frame} {meth : Method} {c : Code} {Γ : sw_C} {A : Nat → Prop} {ξ : sw_x} {g : sw_g} {res : Int32 × sw_m} (S : CallFix p m c prog_10_method_127_code 3 s args (Cond.code yMo_canBe prog_10_method_127_code 3 (some .int) :: sw_tb) R_Mo) (hr : meth.sig.returnType = some .int) (hlk : meth.locks = false) (hf : sw_wf ξ g.2.2) (N : Nat) : ∀ (fu : Nat) (μ : sw_m) (u1 : Int32) (u2 : Int32) (H : Heap) (locs : List Loc) (ls : Array Slot), fMo_canBe_4 N   fu μ u1 u2 = some res → sw_S Γ A ξ g μ s H locs → lv_has ls 3 [(0, .ref (ξ.2.2.2.1 84)), (1, .int u1), (2, .int u2)] → W p l e (headSpec (Cond.code yMo_canBe prog_10_method_127_code 3 (some .int) :: sw_tb) rmMo_canBe).room s m args below meth c H locs 0 0 (MQ below (sw_Qi Γ A ξ g res.2 res.1 (True)) args s 0 0 A) (F0 m 4 ls []) := by
  intro fu
  induction fu with
  | zero => intro μ u1 u2 H locs ls hm; rw [fMo_canBe_4.eq_1] at hm; cases hm
  | succ fu ih =>
    intro μ u1 u2 H locs ls hm hw hl
    rw [fMo_canBe_4.eq_2] at hm
    refine lv_iload_n S.1 S.2.1 dMo_canBe_4 rfl (lv_at hl 2 rfl) ?_
    refine lv_bipush (v := (14 : Int32)) S.1 S.2.1 dMo_canBe_5 (by decide) ?_
    refine bicmp_gt (tgt := 34) S.1 S.2.1 hm dMo_canBe_7 (by decide) (fun hm => ?_) (fun hm => ?_)
    · refine lv_iload_n S.1 S.2.1 dMo_canBe_34 rfl (lv_at hl 1 rfl) ?_
      obtain rfl := Option.some.inj hm
      exact sw_iret S hr hlk hw trivial dMo_canBe_35
    · refine lv_iload_n S.1 S.2.1 dMo_canBe_10 rfl (lv_at hl 1 rfl) ?_
      refine lv_aload_n S.1 S.2.1 dMo_canBe_11 rfl (lv_at hl 0 rfl) ?_
      refine lv_iload_n S.1 S.2.1 dMo_canBe_12 rfl (lv_at hl 2 rfl) ?_
      obtain ⟨⟨v3, μ2⟩, h1, hm⟩ := ob hm
      refine sw_Vi (q := 84) (rest := [.int u1]) S hw (cMo_isSo l N hf u2 h1) kMo_isSo wm_Mo_453 (is_84 hf).1 (e_Mo (is_84 hf)) rfl rfl rfl rfl hl.1 (Nat.le_of_ble_eq_true rfl) ⟨rfl, rfl, Nat.le_of_ble_eq_true rfl, Nat.le_of_ble_eq_true rfl⟩ ⟨Nat.le_of_ble_eq_true rfl, Nat.le_of_ble_eq_true rfl⟩ dMo_canBe_13 (fun H locs hw _ => ?_)
      refine bif_eq (tgt := 25) S.1 S.2.1 hm dMo_canBe_16 (by decide) (fun hm => ?_) (fun hm => ?_)
      · refine lv_iconst (v := (0 : Int32)) S.1 S.2.1 dMo_canBe_25 (by decide) ?_
        refine lv_ior S.1 S.2.1 dMo_canBe_26 ?_
        refine nm_i hm (fun x4 hm => ?_)
        refine lv_istore_n (lv' := [(1, .int x4), (0, .ref (ξ.2.2.2.1 84)), (2, .int u2)]) S.1 S.2.1 dMo_canBe_27 rfl hl (by decide) rfl (fun ls hl => ?_)
        obtain ⟨x5, ex5, hm⟩ := nm_x hm
        refine lv_iinc (v := x5) (lv' := [(2, .int x5), (1, .int x4), (0, .ref (ξ.2.2.2.1 84))]) S.1 S.2.1 dMo_canBe_28 hl (k := 2) rfl (by rw [ex5]; rfl) (by decide) rfl (fun ls hl => ?_)
        refine lv_goto (tgt := 4) S.1 S.2.1 dMo_canBe_31 (by decide) ?_
        exact ih μ2 x4 x5 _ _ _ hm hw (lv_sub hl [2, 1, 0] rfl)
      · refine lv_iconst (v := (1 : Int32)) S.1 S.2.1 dMo_canBe_19 (by decide) ?_
        refine lv_iload_n S.1 S.2.1 dMo_canBe_20 rfl (lv_at hl 2 rfl) ?_
        refine lv_ishl S.1 S.2.1 dMo_canBe_21 ?_
        refine lv_goto (tgt := 26) S.1 S.2.1 dMo_canBe_22 (by decide) ?_
        refine lv_ior S.1 S.2.1 dMo_canBe_26 ?_
        refine nm_i hm (fun x6 hm => ?_)
        refine lv_istore_n (lv' := [(1, .int x6), (0, .ref (ξ.2.2.2.1 84)), (2, .int u2)]) S.1 S.2.1 dMo_canBe_27 rfl hl (by decide) rfl (fun ls hl => ?_)
        obtain ⟨x7, ex7, hm⟩ := nm_x hm
        refine lv_iinc (v := x7) (lv' := [(2, .int x7), (1, .int x6), (0, .ref (ξ.2.2.2.1 84))]) S.1 S.2.1 dMo_canBe_28 hl (k := 2) rfl (by rw [ex7]; rfl) (by decide) rfl (fun ls hl => ?_)
        refine lv_goto (tgt := 4) S.1 S.2.1 dMo_canBe_31 (by decide) ?_
        exact ih μ2 x6 x7 _ _ _ hm hw (lv_sub hl [2, 1, 0] rfl)
set_option maxHeartbeats 4000000 in
set_option maxRecDepth 100000 in
theorem cMo_canBe (l : Launch) (N : Nat) {Γ : sw_C} {A : Nat → Prop} {ξ : sw_x} {g : sw_g} {μ : sw_m} (hf : sw_wf ξ g.2.2) {res : Int32 × sw_m} (hm : fMo_canBe N μ = some res) : Met l yMo_canBe (Cond.code yMo_canBe prog_10_method_127_code 3 (some .int) :: sw_tb) rmMo_canBe (va_Pc [.ref (ξ.2.2.2.1 84)] (sw_V Γ A ξ g μ)) (sw_Qi Γ A ξ g res.2 res.1 (True)) 0 0 A := by
  refine Met.ofW (cc := prog_10_method_127_code) (maxL := 3) (ret := some .int) (by decide) rfl ?_
  intro p e s m args below meth c s₁ B hml hv
  obtain ⟨rfl, hv⟩ := hv
  have S : CallFix p m c prog_10_method_127_code 3 s _ (Cond.code yMo_canBe prog_10_method_127_code 3 (some .int) :: sw_tb) R_Mo := ⟨B.exec, B.bytes, hml, findClass_of_methodNamed B.named, atoms_spec (ws := (Cond.code yMo_canBe prog_10_method_127_code 3 (some .int) :: sw_tb)) B.pre⟩
  have hr := B.returns
  have hlk := B.notSynchronized
  have hw := sw_begin hv
  have hl := lv_entry [.ref (ξ.2.2.2.1 84)] (n := 3) (Nat.le_of_ble_eq_true rfl)
  rw [lg_entry_eq]
  generalize (lg_sl [.ref (ξ.2.2.2.1 84)] ++ List.replicate (3 - (lg_sl [.ref (ξ.2.2.2.1 84)]).length) Slot.unset).toArray = ls at hl ⊢
  have hl : lv_has ls 3 [(0, .ref (ξ.2.2.2.1 84))] := hl
  unfold fMo_canBe at hm
  refine lv_iconst (v := (0 : Int32)) S.1 S.2.1 dMo_canBe_0 (by decide) ?_
  refine lv_istore_n (lv' := [(1, .int (0 : Int32)), (0, .ref (ξ.2.2.2.1 84))]) S.1 S.2.1 dMo_canBe_1 rfl hl (by decide) rfl (fun ls hl => ?_)
  refine lv_iconst (v := (0 : Int32)) S.1 S.2.1 dMo_canBe_2 (by decide) ?_
  refine lv_istore_n (lv' := [(2, .int (0 : Int32)), (1, .int (0 : Int32)), (0, .ref (ξ.2.2.2.1 84))]) S.1 S.2.1 dMo_canBe_3 rfl hl (by decide) rfl (fun ls hl => ?_)
  exact wMo_canBe_4 S hr hlk hf N  N μ (0 : Int32) (0 : Int32) _ _ _ hm hw (lv_sub hl [2, 1, 0] rfl)
set_option maxHeartbeats 4000000 in
set_option maxRecDepth 100000 in
theorem wMo_mostAlike_29 {l : Launch} {p : Program} {e : Env} {s : State} {m : MethodId} {args : Array Value} {below : List Frame} {meth : Method} {c : Code} {Γ : sw_C} {A : Nat → Prop} {ξ : sw_x} {g : sw_g} {res : Int32 × sw_m} (S : CallFix p m c prog_10_method_128_code 7 s args (Cond.code yMo_mostAlike prog_10_method_128_code 7 (some .int) :: sw_tb) R_Mo) (hr : meth.sig.returnType = some .int) (hlk : meth.locks = false) (hf : sw_wf ξ g.2.2) (N : Nat) : ∀ (fu : Nat) (μ : sw_m) (u1 : Int32) (u2 : Int32) (u3 : Int32) (u4 : Int32) (u5 : Int32) (H : Heap) (locs : List Loc) (ls : Array Slot), fMo_mostAlike_29 N   fu μ u1 u2 u3 u4 u5 = some res → sw_S Γ A ξ g μ s H locs → lv_has ls 7 [(0, .ref (ξ.2.2.2.1 84)), (1, .int u1), (2, .int u2), (3, .int u3), (4, .int u4), (5, .int u5)] → W p l e (headSpec (Cond.code yMo_mostAlike prog_10_method_128_code 7 (some .int) :: sw_tb) rmMo_mostAlike).room s m args below meth c H locs 0 0 (MQ below (sw_Qi Γ A ξ g res.2 res.1 (True)) args s 0 0 A) (F0 m 29 ls []) := by
  intro fu
  induction fu with
  | zero => intro μ u1 u2 u3 u4 u5 H locs ls hm; rw [fMo_mostAlike_29.eq_1] at hm; cases hm
  | succ fu ih =>
    intro μ u1 u2 u3 u4 u5 H locs ls hm hw hl
    rw [fMo_mostAlike_29.eq_2] at hm
    refine lv_iload S.1 S.2.1 dMo_mostAlike_29 (lv_at hl 5 rfl) ?_
    refine lv_bipush (v := (14 : Int32)) S.1 S.2.1 dMo_mostAlike_31 (by decide) ?_
    refine bicmp_gt (tgt := 89) S.1 S.2.1 hm dMo_mostAlike_33 (by decide) (fun hm => ?_) (fun hm => ?_)
    · refine lv_iload S.1 S.2.1 dMo_mostAlike_89 (lv_at hl 4 rfl) ?_
      obtain rfl := Option.some.inj hm
      exact sw_iret S hr hlk hw trivial dMo_mostAlike_91
    · refine lv_iload_n S.1 S.2.1 dMo_mostAlike_36 rfl (lv_at hl 3 rfl) ?_
      refine lv_iload S.1 S.2.1 dMo_mostAlike_37 (lv_at hl 5 rfl) ?_
      obtain ⟨v2, h1, hm⟩ := ob hm
      refine sw_Si (rest := []) S hw (cMo_isIn l  hf u3 u5 h1) kMo_isIn wm_Mo_423 rfl rfl hl.1 (Nat.le_of_ble_eq_true rfl) ⟨rfl, rfl, Nat.le_of_ble_eq_true rfl, Nat.le_of_ble_eq_true rfl⟩ ⟨Nat.le_of_ble_eq_true rfl, Nat.le_of_ble_eq_true rfl⟩ dMo_mostAlike_39 (fun H locs hw _ => ?_)
      refine bif_ne (tgt := 48) S.1 S.2.1 hm dMo_mostAlike_42 (by decide) (fun hm => ?_) (fun hm => ?_)
      · refine lv_aload_n S.1 S.2.1 dMo_mostAlike_48 rfl (lv_at hl 0 rfl) ?_
        refine lv_iload_n S.1 S.2.1 dMo_mostAlike_49 rfl (lv_at hl 1 rfl) ?_
        refine lv_iload_n S.1 S.2.1 dMo_mostAlike_50 rfl (lv_at hl 2 rfl) ?_
        refine lv_iload S.1 S.2.1 dMo_mostAlike_51 (lv_at hl 5 rfl) ?_
        obtain ⟨⟨v5, μ4⟩, h3, hm⟩ := ob hm
        refine sw_Vi (q := 84) (rest := []) S hw (cMo_comesOf l N hf u1 u2 u5 h3) kMo_comesOf wm_Mo_450 (is_84 hf).1 (e_Mo (is_84 hf)) rfl rfl rfl rfl hl.1 (Nat.le_of_ble_eq_true rfl) ⟨rfl, rfl, Nat.le_of_ble_eq_true rfl, Nat.le_of_ble_eq_true rfl⟩ ⟨Nat.le_of_ble_eq_true rfl, Nat.le_of_ble_eq_true rfl⟩ dMo_mostAlike_53 (fun H locs hw _ => ?_)
        refine lv_istore (lv' := [(6, .int v5), (0, .ref (ξ.2.2.2.1 84)), (1, .int u1), (2, .int u2), (3, .int u3), (4, .int u4), (5, .int u5)]) S.1 S.2.1 dMo_mostAlike_56 hl (by decide) rfl (fun ls hl => ?_)
        refine lv_aload_n S.1 S.2.1 dMo_mostAlike_58 rfl (lv_at hl 1 rfl) ?_
        refine get_Mo (v := .ref (ξ.2.2.2.1 106)) S hw (is_84 hf) 41 (by decide) rfl wf_Mo_94 dMo_mostAlike_59 ?_
        refine lv_iload S.1 S.2.1 dMo_mostAlike_62 (lv_at hl 0 rfl) ?_
        refine lv_dup2_11 S.1 S.2.1 dMo_mostAlike_64 rfl rfl ?_
        refine sm_iald S hw (is_106 hf) hm dMo_mostAlike_65 (fun v6 hm => ?_)
        refine lv_iconst (v := (1 : Int32)) S.1 S.2.1 dMo_mostAlike_66 (by decide) ?_
        refine lv_iadd S.1 S.2.1 dMo_mostAlike_67 ?_
        refine sm_iast S hw (is_106 hf) hm dMo_mostAlike_68 (fun μ7 H locs hm hw => ?_)
        refine lv_iload S.1 S.2.1 dMo_mostAlike_69 (lv_at hl 5 rfl) ?_
        refine lv_aload_n S.1 S.2.1 dMo_mostAlike_71 rfl (lv_at hl 1 rfl) ?_
        refine get_Mo (v := .ref (ξ.2.2.2.1 106)) S hw (is_84 hf) 41 (by decide) rfl wf_Mo_94 dMo_mostAlike_72 ?_
        refine lv_iload S.1 S.2.1 dMo_mostAlike_75 (lv_at hl 0 rfl) ?_
        refine sm_iald S hw (is_106 hf) hm dMo_mostAlike_77 (fun v8 hm => ?_)
        obtain ⟨v10, h9, hm⟩ := ob hm
        refine sw_Si (rest := []) S hw (cMo_greater l  hf u4 v8 h9) kMo_greater wm_Mo_353 rfl rfl hl.1 (Nat.le_of_ble_eq_true rfl) ⟨rfl, rfl, Nat.le_of_ble_eq_true rfl, Nat.le_of_ble_eq_true rfl⟩ ⟨Nat.le_of_ble_eq_true rfl, Nat.le_of_ble_eq_true rfl⟩ dMo_mostAlike_78 (fun H locs hw _ => ?_)
        refine lv_istore (lv' := [(4, .int v10), (6, .int v5), (0, .ref (ξ.2.2.2.1 84)), (1, .int u1), (2, .int u2), (3, .int u3), (5, .int u5)]) S.1 S.2.1 dMo_mostAlike_81 hl (by decide) rfl (fun ls hl => ?_)
        obtain ⟨x11, ex11, hm⟩ := nm_x hm
        refine lv_iinc (v := x11) (lv' := [(5, .int x11), (4, .int v10), (6, .int v5), (0, .ref (ξ.2.2.2.1 84)), (1, .int u1), (2, .int u2), (3, .int u3)]) S.1 S.2.1 dMo_mostAlike_83 hl (k := 6) rfl (by rw [ex11]; rfl) (by decide) rfl (fun ls hl => ?_)
        refine lv_goto (tgt := 29) S.1 S.2.1 dMo_mostAlike_86 (by decide) ?_
        exact ih μ7 u1 u2 u3 v10 x11 _ _ _ hm hw (lv_sub hl [3, 4, 5, 6, 1, 0] rfl)
      · refine lv_goto (tgt := 83) S.1 S.2.1 dMo_mostAlike_45 (by decide) ?_
        obtain ⟨x12, ex12, hm⟩ := nm_x hm
        refine lv_iinc (v := x12) (lv' := [(5, .int x12), (0, .ref (ξ.2.2.2.1 84)), (1, .int u1), (2, .int u2), (3, .int u3), (4, .int u4)]) S.1 S.2.1 dMo_mostAlike_83 hl (k := 5) rfl (by rw [ex12]; rfl) (by decide) rfl (fun ls hl => ?_)
        refine lv_goto (tgt := 29) S.1 S.2.1 dMo_mostAlike_86 (by decide) ?_
        exact ih μ u1 u2 u3 u4 x12 _ _ _ hm hw (lv_sub hl [1, 2, 3, 4, 5, 0] rfl)
set_option maxHeartbeats 4000000 in
set_option maxRecDepth 100000 in
theorem wMo_mostAlike_3 {l : Launch} {p : Program} {e : Env} {s : State} {m : MethodId} {args : Array Value} {below : List Frame} {meth : Method} {c : Code} {Γ : sw_C} {A : Nat → Prop} {ξ : sw_x} {g : sw_g} {res : Int32 × sw_m} (S : CallFix p m c prog_10_method_128_code 7 s args (Cond.code yMo_mostAlike prog_10_method_128_code 7 (some .int) :: sw_tb) R_Mo) (hr : meth.sig.returnType = some .int) (hlk : meth.locks = false) (hf : sw_wf ξ g.2.2) (N : Nat) : ∀ (fu : Nat) (μ : sw_m) (u1 : Int32) (u2 : Int32) (u3 : Int32) (u4 : Int32) (H : Heap) (locs : List Loc) (ls : Array Slot), fMo_mostAlike_3 N   fu μ u1 u2 u3 u4 = some res → sw_S Γ A ξ g μ s H locs → lv_has ls 7 [(0, .ref (ξ.2.2.2.1 84)), (1, .int u1), (2, .int u2), (3, .int u3), (4, .int u4)] → W p l e (headSpec (Cond.code yMo_mostAlike prog_10_method_128_code 7 (some .int) :: sw_tb) rmMo_mostAlike).room s m args below meth c H locs 0 0 (MQ below (sw_Qi Γ A ξ g res.2 res.1 (True)) args s 0 0 A) (F0 m 3 ls []) := by
  intro fu
  induction fu with
  | zero => intro μ u1 u2 u3 u4 H locs ls hm; rw [fMo_mostAlike_3.eq_1] at hm; cases hm
  | succ fu ih =>
    intro μ u1 u2 u3 u4 H locs ls hm hw hl
    rw [fMo_mostAlike_3.eq_2] at hm
    refine lv_iload S.1 S.2.1 dMo_mostAlike_3 (lv_at hl 4 rfl) ?_
    refine lv_iconst (v := (3 : Int32)) S.1 S.2.1 dMo_mostAlike_5 (by decide) ?_
    refine bicmp_ge (tgt := 23) S.1 S.2.1 hm dMo_mostAlike_6 (by decide) (fun hm => ?_) (fun hm => ?_)
    · refine lv_iconst (v := (0 : Int32)) S.1 S.2.1 dMo_mostAlike_23 (by decide) ?_
      refine lv_istore (lv' := [(4, .int (0 : Int32)), (0, .ref (ξ.2.2.2.1 84)), (1, .int u1), (2, .int u2), (3, .int u3)]) S.1 S.2.1 dMo_mostAlike_24 hl (by decide) rfl (fun ls hl => ?_)
      refine lv_iconst (v := (0 : Int32)) S.1 S.2.1 dMo_mostAlike_26 (by decide) ?_
      refine lv_istore (lv' := [(5, .int (0 : Int32)), (4, .int (0 : Int32)), (0, .ref (ξ.2.2.2.1 84)), (1, .int u1), (2, .int u2), (3, .int u3)]) S.1 S.2.1 dMo_mostAlike_27 hl (by decide) rfl (fun ls hl => ?_)
      exact wMo_mostAlike_29 S hr hlk hf N  N μ u1 u2 u3 (0 : Int32) (0 : Int32) _ _ _ hm hw (lv_sub hl [2, 3, 4, 5, 1, 0] rfl)
    · refine lv_aload_n S.1 S.2.1 dMo_mostAlike_9 rfl (lv_at hl 0 rfl) ?_
      refine get_Mo (v := .ref (ξ.2.2.2.1 106)) S hw (is_84 hf) 41 (by decide) rfl wf_Mo_94 dMo_mostAlike_10 ?_
      refine lv_iload S.1 S.2.1 dMo_mostAlike_13 (lv_at hl 4 rfl) ?_
      refine lv_iconst (v := (0 : Int32)) S.1 S.2.1 dMo_mostAlike_15 (by decide) ?_
      refine sm_iast S hw (is_106 hf) hm dMo_mostAlike_16 (fun μ13 H locs hm hw => ?_)
      obtain ⟨x14, ex14, hm⟩ := nm_x hm
      refine lv_iinc (v := x14) (lv' := [(4, .int x14), (0, .ref (ξ.2.2.2.1 84)), (1, .int u1), (2, .int u2), (3, .int u3)]) S.1 S.2.1 dMo_mostAlike_17 hl (k := 4) rfl (by rw [ex14]; rfl) (by decide) rfl (fun ls hl => ?_)
      refine lv_goto (tgt := 3) S.1 S.2.1 dMo_mostAlike_20 (by decide) ?_
      exact ih μ13 u1 u2 u3 x14 _ _ _ hm hw (lv_sub hl [1, 2, 3, 4, 0] rfl)
set_option maxHeartbeats 4000000 in
set_option maxRecDepth 100000 in
theorem cMo_mostAlike (l : Launch) (N : Nat) {Γ : sw_C} {A : Nat → Prop} {ξ : sw_x} {g : sw_g} {μ : sw_m} (hf : sw_wf ξ g.2.2) (a1 : Int32) (a2 : Int32) (a3 : Int32) {res : Int32 × sw_m} (hm : fMo_mostAlike N μ a1 a2 a3 = some res) : Met l yMo_mostAlike (Cond.code yMo_mostAlike prog_10_method_128_code 7 (some .int) :: sw_tb) rmMo_mostAlike (va_Pc [.ref (ξ.2.2.2.1 84), .int a1, .int a2, .int a3] (sw_V Γ A ξ g μ)) (sw_Qi Γ A ξ g res.2 res.1 (True)) 0 0 A := by
  refine Met.ofW (cc := prog_10_method_128_code) (maxL := 7) (ret := some .int) (by decide) rfl ?_
  intro p e s m args below meth c s₁ B hml hv
  obtain ⟨rfl, hv⟩ := hv
  have S : CallFix p m c prog_10_method_128_code 7 s _ (Cond.code yMo_mostAlike prog_10_method_128_code 7 (some .int) :: sw_tb) R_Mo := ⟨B.exec, B.bytes, hml, findClass_of_methodNamed B.named, atoms_spec (ws := (Cond.code yMo_mostAlike prog_10_method_128_code 7 (some .int) :: sw_tb)) B.pre⟩
  have hr := B.returns
  have hlk := B.notSynchronized
  have hw := sw_begin hv
  have hl := lv_entry [.ref (ξ.2.2.2.1 84), .int a1, .int a2, .int a3] (n := 7) (Nat.le_of_ble_eq_true rfl)
  rw [lg_entry_eq]
  generalize (lg_sl [.ref (ξ.2.2.2.1 84), .int a1, .int a2, .int a3] ++ List.replicate (7 - (lg_sl [.ref (ξ.2.2.2.1 84), .int a1, .int a2, .int a3]).length) Slot.unset).toArray = ls at hl ⊢
  have hl : lv_has ls 7 [(0, .ref (ξ.2.2.2.1 84)), (1, .int a1), (2, .int a2), (3, .int a3)] := hl
  unfold fMo_mostAlike at hm
  refine lv_iconst (v := (0 : Int32)) S.1 S.2.1 dMo_mostAlike_0 (by decide) ?_
  refine lv_istore (lv' := [(4, .int (0 : Int32)), (0, .ref (ξ.2.2.2.1 84)), (1, .int a1), (2, .int a2), (3, .int a3)]) S.1 S.2.1 dMo_mostAlike_1 hl (by decide) rfl (fun ls hl => ?_)
  exact wMo_mostAlike_3 S hr hlk hf N  N μ a1 a2 a3 (0 : Int32) _ _ _ hm hw (lv_sub hl [1, 2, 3, 4, 0] rfl)
set_option maxHeartbeats 4000000 in
set_option maxRecDepth 100000 in
theorem wMo_weigh_44 {l : Launch} {p : Program} {e : Env} {s : State} {m : MethodId} {args : Array Value} {below : List Frame} {meth : Method} {c : Code} {Γ : sw_C} {A : Nat → Prop} {ξ : sw_x} {g : sw_g} {res : Int32 × sw_m} (S : CallFix p m c prog_10_method_129_code 9 s args (Cond.code yMo_weigh prog_10_method_129_code 9 (some .int) :: sw_tb) R_Mo) (hr : meth.sig.returnType = some .int) (hlk : meth.locks = false) (hf : sw_wf ξ g.2.2) (N : Nat) (k28 : sw_m → Int32 → Int32 → Int32 → Int32 → Int32 → Int32 → Option (Int32 × sw_m)) (hk28 : ∀ (μ : sw_m) (u1 : Int32) (u2 : Int32) (u3 : Int32) (u4 : Int32) (u5 : Int32) (u6 : Int32) (H : Heap) (locs : List Loc) (ls : Array Slot), k28 μ u1 u2 u3 u4 u5 u6 = some res → sw_S Γ A ξ g μ s H locs → lv_has ls 9 [(0, .ref (ξ.2.2.2.1 84)), (1, .int u1), (2, .int u2), (3, .int u3), (4, .int u4), (5, .int u5), (6, .int u6)] → W p l e (headSpec (Cond.code yMo_weigh prog_10_method_129_code 9 (some .int) :: sw_tb) rmMo_weigh).room s m args below meth c H locs 0 0 (MQ below (sw_Qi Γ A ξ g res.2 res.1 (True)) args s 0 0 A) (F0 m 28 ls [])) : ∀ (fu : Nat) (μ : sw_m) (u1 : Int32) (u2 : Int32) (u3 : Int32) (u4 : Int32) (u5 : Int32) (u6 : Int32) (u7 : Int32) (H : Heap) (locs : List Loc) (ls : Array Slot), fMo_weigh_44 N  k28 fu μ u1 u2 u3 u4 u5 u6 u7 = some res → sw_S Γ A ξ g μ s H locs → lv_has ls 9 [(0, .ref (ξ.2.2.2.1 84)), (1, .int u1), (2, .int u2), (3, .int u3), (4, .int u4), (5, .int u5), (6, .int u6), (7, .int u7)] → W p l e (headSpec (Cond.code yMo_weigh prog_10_method_129_code 9 (some .int) :: sw_tb) rmMo_weigh).room s m args below meth c H locs 0 0 (MQ below (sw_Qi Γ A ξ g res.2 res.1 (True)) args s 0 0 A) (F0 m 44 ls []) := by
  intro fu
  induction fu with
  | zero => intro μ u1 u2 u3 u4 u5 u6 u7 H locs ls hm; rw [fMo_weigh_44.eq_1] at hm; cases hm
  | succ fu ih =>
    intro μ u1 u2 u3 u4 u5 u6 u7 H locs ls hm hw hl
    rw [fMo_weigh_44.eq_2] at hm
    refine lv_iload S.1 S.2.1 dMo_weigh_44 (lv_at hl 7 rfl) ?_
    refine lv_aload_n S.1 S.2.1 dMo_weigh_46 rfl (lv_at hl 0 rfl) ?_
    obtain ⟨⟨v11, μ10⟩, h9, hm⟩ := ob hm
    refine sw_Vi (q := 84) (rest := [.int u7]) S hw (cMo_everything l  hf  h9) kMo_everything wm_Mo_426 (is_84 hf).1 (e_Mo (is_84 hf)) rfl rfl rfl rfl hl.1 (Nat.le_of_ble_eq_true rfl) ⟨rfl, rfl, Nat.le_of_ble_eq_true rfl, Nat.le_of_ble_eq_true rfl⟩ ⟨Nat.le_of_ble_eq_true rfl, Nat.le_of_ble_eq_true rfl⟩ dMo_weigh_47 (fun H locs hw _ => ?_)
    refine bicmp_gt (tgt := 101) S.1 S.2.1 hm dMo_weigh_50 (by decide) (fun hm => ?_) (fun hm => ?_)
    · obtain ⟨x12, ex12, hm⟩ := nm_x hm
      refine lv_iinc (v := x12) (lv' := [(6, .int x12), (0, .ref (ξ.2.2.2.1 84)), (1, .int u1), (2, .int u2), (3, .int u3), (4, .int u4), (5, .int u5), (7, .int u7)]) S.1 S.2.1 dMo_weigh_101 hl (k := 6) rfl (by rw [ex12]; rfl) (by decide) rfl (fun ls hl => ?_)
      refine lv_goto (tgt := 28) S.1 S.2.1 dMo_weigh_104 (by decide) ?_
      exact hk28 μ10 u1 u2 u3 u4 u5 x12 _ _ _ hm hw (lv_sub hl [1, 2, 3, 4, 5, 6, 0] rfl)
    · refine lv_iload S.1 S.2.1 dMo_weigh_53 (lv_at hl 6 rfl) ?_
      refine lv_iload S.1 S.2.1 dMo_weigh_55 (lv_at hl 7 rfl) ?_
      refine lv_iand S.1 S.2.1 dMo_weigh_57 ?_
      refine bif_eq (tgt := 64) S.1 S.2.1 hm dMo_weigh_58 (by decide) (fun hm => ?_) (fun hm => ?_)
      · refine lv_aload_n S.1 S.2.1 dMo_weigh_64 rfl (lv_at hl 0 rfl) ?_
        refine lv_iload S.1 S.2.1 dMo_weigh_65 (lv_at hl 6 rfl) ?_
        refine lv_iload S.1 S.2.1 dMo_weigh_67 (lv_at hl 7 rfl) ?_
        refine lv_iload_n S.1 S.2.1 dMo_weigh_69 rfl (lv_at hl 2 rfl) ?_
        obtain ⟨⟨v15, μ14⟩, h13, hm⟩ := ob hm
        refine sw_Vi (q := 84) (rest := []) S hw (cMo_mostAlike l N hf u6 u7 u2 h13) kMo_mostAlike wm_Mo_459 (is_84 hf).1 (e_Mo (is_84 hf)) rfl rfl rfl rfl hl.1 (Nat.le_of_ble_eq_true rfl) ⟨rfl, rfl, Nat.le_of_ble_eq_true rfl, Nat.le_of_ble_eq_true rfl⟩ ⟨Nat.le_of_ble_eq_true rfl, Nat.le_of_ble_eq_true rfl⟩ dMo_weigh_70 (fun H locs hw _ => ?_)
        refine lv_istore (lv' := [(8, .int v15), (0, .ref (ξ.2.2.2.1 84)), (1, .int u1), (2, .int u2), (3, .int u3), (4, .int u4), (5, .int u5), (6, .int u6), (7, .int u7)]) S.1 S.2.1 dMo_weigh_73 hl (by decide) rfl (fun ls hl => ?_)
        refine lv_iload S.1 S.2.1 dMo_weigh_75 (lv_at hl 0 rfl) ?_
        refine lv_iload_n S.1 S.2.1 dMo_weigh_77 rfl (lv_at hl 4 rfl) ?_
        refine bicmp_lt (tgt := 84) S.1 S.2.1 hm dMo_weigh_78 (by decide) (fun hm => ?_) (fun hm => ?_)
        · refine lv_iload S.1 S.2.1 dMo_weigh_84 (lv_at hl 0 rfl) ?_
          refine lv_istore_n (lv' := [(3, .int v15), (8, .int v15), (0, .ref (ξ.2.2.2.1 84)), (1, .int u1), (2, .int u2), (4, .int u4), (5, .int u5), (6, .int u6), (7, .int u7)]) S.1 S.2.1 dMo_weigh_86 rfl hl (by decide) rfl (fun ls hl => ?_)
          refine lv_iload S.1 S.2.1 dMo_weigh_87 (lv_at hl 7 rfl) ?_
          refine lv_istore (lv' := [(4, .int u6), (3, .int v15), (8, .int v15), (0, .ref (ξ.2.2.2.1 84)), (1, .int u1), (2, .int u2), (5, .int u5), (6, .int u6), (7, .int u7)]) S.1 S.2.1 dMo_weigh_89 hl (by decide) rfl (fun ls hl => ?_)
          refine lv_iload S.1 S.2.1 dMo_weigh_91 (lv_at hl 8 rfl) ?_
          refine lv_istore (lv' := [(5, .int u7), (4, .int u6), (3, .int v15), (8, .int v15), (0, .ref (ξ.2.2.2.1 84)), (1, .int u1), (2, .int u2), (6, .int u6), (7, .int u7)]) S.1 S.2.1 dMo_weigh_93 hl (by decide) rfl (fun ls hl => ?_)
          obtain ⟨x16, ex16, hm⟩ := nm_x hm
          refine lv_iinc (v := x16) (lv' := [(7, .int x16), (5, .int u7), (4, .int u6), (3, .int v15), (8, .int v15), (0, .ref (ξ.2.2.2.1 84)), (1, .int u1), (2, .int u2), (6, .int u6)]) S.1 S.2.1 dMo_weigh_95 hl (k := 8) rfl (by rw [ex16]; rfl) (by decide) rfl (fun ls hl => ?_)
          refine lv_goto (tgt := 44) S.1 S.2.1 dMo_weigh_98 (by decide) ?_
          exact ih μ14 u1 u2 v15 u6 u7 u6 x16 _ _ _ hm hw (lv_sub hl [5, 6, 7, 3, 2, 1, 8, 0] rfl)
        · refine lv_goto (tgt := 95) S.1 S.2.1 dMo_weigh_81 (by decide) ?_
          obtain ⟨x17, ex17, hm⟩ := nm_x hm
          refine lv_iinc (v := x17) (lv' := [(7, .int x17), (8, .int v15), (0, .ref (ξ.2.2.2.1 84)), (1, .int u1), (2, .int u2), (3, .int u3), (4, .int u4), (5, .int u5), (6, .int u6)]) S.1 S.2.1 dMo_weigh_95 hl (k := 8) rfl (by rw [ex17]; rfl) (by decide) rfl (fun ls hl => ?_)
          refine lv_goto (tgt := 44) S.1 S.2.1 dMo_weigh_98 (by decide) ?_
          exact ih μ14 u1 u2 u3 u4 u5 u6 x17 _ _ _ hm hw (lv_sub hl [2, 3, 4, 5, 6, 7, 8, 0] rfl)
      · refine lv_goto (tgt := 95) S.1 S.2.1 dMo_weigh_61 (by decide) ?_
        obtain ⟨x18, ex18, hm⟩ := nm_x hm
        refine lv_iinc (v := x18) (lv' := [(7, .int x18), (0, .ref (ξ.2.2.2.1 84)), (1, .int u1), (2, .int u2), (3, .int u3), (4, .int u4), (5, .int u5), (6, .int u6)]) S.1 S.2.1 dMo_weigh_95 hl (k := 7) rfl (by rw [ex18]; rfl) (by decide) rfl (fun ls hl => ?_)
        refine lv_goto (tgt := 44) S.1 S.2.1 dMo_weigh_98 (by decide) ?_
        exact ih μ10 u1 u2 u3 u4 u5 u6 x18 _ _ _ hm hw (lv_sub hl [1, 2, 3, 4, 5, 6, 7, 0] rfl)
set_option maxHeartbeats 4000000 in
set_option maxRecDepth 100000 in
theorem wMo_weigh_107 {l : Launch} {p : Program} {e : Env} {s : State} {m : MethodId} {args : Array Value} {below : List Frame} {meth : Method} {c : Code} {Γ : sw_C} {A : Nat → Prop} {ξ : sw_x} {g : sw_g} {res : Int32 × sw_m} (S : CallFix p m c prog_10_method_129_code 9 s args (Cond.code yMo_weigh prog_10_method_129_code 9 (some .int) :: sw_tb) R_Mo) (hr : meth.sig.returnType = some .int) (hlk : meth.locks = false) (hf : sw_wf ξ g.2.2) (N : Nat) : ∀ (μ : sw_m) (u1 : Int32) (u2 : Int32) (u3 : Int32) (u4 : Int32) (u5 : Int32) (H : Heap) (locs : List Loc) (ls : Array Slot), fMo_weigh_107 N   μ u1 u2 u3 u4 u5 = some res → sw_S Γ A ξ g μ s H locs → lv_has ls 9 [(1, .int u1), (2, .int u2), (3, .int u3), (4, .int u4), (5, .int u5)] → W p l e (headSpec (Cond.code yMo_weigh prog_10_method_129_code 9 (some .int) :: sw_tb) rmMo_weigh).room s m args below meth c H locs 0 0 (MQ below (sw_Qi Γ A ξ g res.2 res.1 (True)) args s 0 0 A) (F0 m 107 ls []) := by
  intro μ u1 u2 u3 u4 u5 H locs ls hm hw hl
  unfold fMo_weigh_107 at hm
  refine lv_iload_n S.1 S.2.1 dMo_weigh_107 rfl (lv_at hl 1 rfl) ?_
  refine bif_ne (tgt := 115) S.1 S.2.1 hm dMo_weigh_108 (by decide) (fun hm => ?_) (fun hm => ?_)
  · refine lv_iload_n S.1 S.2.1 dMo_weigh_115 rfl (lv_at hl 0 rfl) ?_
    refine bif_ne (tgt := 124) S.1 S.2.1 hm dMo_weigh_116 (by decide) (fun hm => ?_) (fun hm => ?_)
    · refine lv_iload_n S.1 S.2.1 dMo_weigh_124 rfl (lv_at hl 0 rfl) ?_
      refine lv_iconst (v := (1 : Int32)) S.1 S.2.1 dMo_weigh_125 (by decide) ?_
      refine bicmp_ne (tgt := 134) S.1 S.2.1 hm dMo_weigh_126 (by decide) (fun hm => ?_) (fun hm => ?_)
      · refine lv_iload_n S.1 S.2.1 dMo_weigh_134 rfl (lv_at hl 2 rfl) ?_
        obtain rfl := Option.some.inj hm
        exact sw_iret S hr hlk hw trivial dMo_weigh_135
      · refine lv_iload S.1 S.2.1 dMo_weigh_129 (lv_at hl 4 rfl) ?_
        refine lv_goto (tgt := 135) S.1 S.2.1 dMo_weigh_131 (by decide) ?_
        obtain rfl := Option.some.inj hm
        exact sw_iret S hr hlk hw trivial dMo_weigh_135
    · refine lv_iload S.1 S.2.1 dMo_weigh_119 (lv_at hl 3 rfl) ?_
      refine lv_goto (tgt := 135) S.1 S.2.1 dMo_weigh_121 (by decide) ?_
      obtain rfl := Option.some.inj hm
      exact sw_iret S hr hlk hw trivial dMo_weigh_135
  · refine lv_iconst (v := (-1 : Int32)) S.1 S.2.1 dMo_weigh_111 (by decide) ?_
    refine lv_goto (tgt := 135) S.1 S.2.1 dMo_weigh_112 (by decide) ?_
    obtain rfl := Option.some.inj hm
    exact sw_iret S hr hlk hw trivial dMo_weigh_135
set_option maxHeartbeats 4000000 in
set_option maxRecDepth 100000 in
theorem wMo_weigh_28 {l : Launch} {p : Program} {e : Env} {s : State} {m : MethodId} {args : Array Value} {below : List Frame} {meth : Method} {c : Code} {Γ : sw_C} {A : Nat → Prop} {ξ : sw_x} {g : sw_g} {res : Int32 × sw_m} (S : CallFix p m c prog_10_method_129_code 9 s args (Cond.code yMo_weigh prog_10_method_129_code 9 (some .int) :: sw_tb) R_Mo) (hr : meth.sig.returnType = some .int) (hlk : meth.locks = false) (hf : sw_wf ξ g.2.2) (N : Nat) : ∀ (fu : Nat) (μ : sw_m) (u1 : Int32) (u2 : Int32) (u3 : Int32) (u4 : Int32) (u5 : Int32) (u6 : Int32) (H : Heap) (locs : List Loc) (ls : Array Slot), fMo_weigh_28 N   fu μ u1 u2 u3 u4 u5 u6 = some res → sw_S Γ A ξ g μ s H locs → lv_has ls 9 [(0, .ref (ξ.2.2.2.1 84)), (1, .int u1), (2, .int u2), (3, .int u3), (4, .int u4), (5, .int u5), (6, .int u6)] → W p l e (headSpec (Cond.code yMo_weigh prog_10_method_129_code 9 (some .int) :: sw_tb) rmMo_weigh).room s m args below meth c H locs 0 0 (MQ below (sw_Qi Γ A ξ g res.2 res.1 (True)) args s 0 0 A) (F0 m 28 ls []) := by
  intro fu
  induction fu with
  | zero => intro μ u1 u2 u3 u4 u5 u6 H locs ls hm; rw [fMo_weigh_28.eq_1] at hm; cases hm
  | succ fu ih =>
    intro μ u1 u2 u3 u4 u5 u6 H locs ls hm hw hl
    rw [fMo_weigh_28.eq_2] at hm
    refine lv_iload S.1 S.2.1 dMo_weigh_28 (lv_at hl 6 rfl) ?_
    refine lv_aload_n S.1 S.2.1 dMo_weigh_30 rfl (lv_at hl 0 rfl) ?_
    obtain ⟨⟨v8, μ7⟩, h6, hm⟩ := ob hm
    refine sw_Vi (q := 84) (rest := [.int u6]) S hw (cMo_everything l  hf  h6) kMo_everything wm_Mo_426 (is_84 hf).1 (e_Mo (is_84 hf)) rfl rfl rfl rfl hl.1 (Nat.le_of_ble_eq_true rfl) ⟨rfl, rfl, Nat.le_of_ble_eq_true rfl, Nat.le_of_ble_eq_true rfl⟩ ⟨Nat.le_of_ble_eq_true rfl, Nat.le_of_ble_eq_true rfl⟩ dMo_weigh_31 (fun H locs hw _ => ?_)
    refine bicmp_gt (tgt := 107) S.1 S.2.1 hm dMo_weigh_34 (by decide) (fun hm => ?_) (fun hm => ?_)
    · exact wMo_weigh_107 S hr hlk hf N  μ7 u1 u2 u3 u4 u5 _ _ _ hm hw (lv_sub hl [1, 2, 3, 4, 5] rfl)
    · refine lv_iload_n S.1 S.2.1 dMo_weigh_37 rfl (lv_at hl 2 rfl) ?_
      refine bif_eq (tgt := 107) S.1 S.2.1 hm dMo_weigh_38 (by decide) (fun hm => ?_) (fun hm => ?_)
      · exact wMo_weigh_107 S hr hlk hf N  μ7 u1 u2 u3 u4 u5 _ _ _ hm hw (lv_sub hl [1, 2, 3, 4, 5] rfl)
      · refine lv_iconst (v := (0 : Int32)) S.1 S.2.1 dMo_weigh_41 (by decide) ?_
        refine lv_istore (lv' := [(7, .int (0 : Int32)), (0, .ref (ξ.2.2.2.1 84)), (1, .int u1), (2, .int u2), (3, .int u3), (4, .int u4), (5, .int u5), (6, .int u6)]) S.1 S.2.1 dMo_weigh_42 hl (by decide) rfl (fun ls hl => ?_)
        exact wMo_weigh_44 S hr hlk hf N (fMo_weigh_28 N   fu) ih N μ7 u1 u2 u3 u4 u5 u6 (0 : Int32) _ _ _ hm hw (lv_sub hl [1, 2, 3, 4, 5, 6, 7, 0] rfl)
set_option maxHeartbeats 4000000 in
set_option maxRecDepth 100000 in
theorem cMo_weigh (l : Launch) (N : Nat) {Γ : sw_C} {A : Nat → Prop} {ξ : sw_x} {g : sw_g} {μ : sw_m} (hf : sw_wf ξ g.2.2) (a1 : Int32) {res : Int32 × sw_m} (hm : fMo_weigh N μ a1 = some res) : Met l yMo_weigh (Cond.code yMo_weigh prog_10_method_129_code 9 (some .int) :: sw_tb) rmMo_weigh (va_Pc [.ref (ξ.2.2.2.1 84), .int a1] (sw_V Γ A ξ g μ)) (sw_Qi Γ A ξ g res.2 res.1 (True)) 0 0 A := by
  refine Met.ofW (cc := prog_10_method_129_code) (maxL := 9) (ret := some .int) (by decide) rfl ?_
  intro p e s m args below meth c s₁ B hml hv
  obtain ⟨rfl, hv⟩ := hv
  have S : CallFix p m c prog_10_method_129_code 9 s _ (Cond.code yMo_weigh prog_10_method_129_code 9 (some .int) :: sw_tb) R_Mo := ⟨B.exec, B.bytes, hml, findClass_of_methodNamed B.named, atoms_spec (ws := (Cond.code yMo_weigh prog_10_method_129_code 9 (some .int) :: sw_tb)) B.pre⟩
  have hr := B.returns
  have hlk := B.notSynchronized
  have hw := sw_begin hv
  have hl := lv_entry [.ref (ξ.2.2.2.1 84), .int a1] (n := 9) (Nat.le_of_ble_eq_true rfl)
  rw [lg_entry_eq]
  generalize (lg_sl [.ref (ξ.2.2.2.1 84), .int a1] ++ List.replicate (9 - (lg_sl [.ref (ξ.2.2.2.1 84), .int a1]).length) Slot.unset).toArray = ls at hl ⊢
  have hl : lv_has ls 9 [(0, .ref (ξ.2.2.2.1 84)), (1, .int a1)] := hl
  unfold fMo_weigh at hm
  refine lv_iload_n S.1 S.2.1 dMo_weigh_0 rfl (lv_at hl 1 rfl) ?_
  refine lv_iconst (v := (0 : Int32)) S.1 S.2.1 dMo_weigh_1 (by decide) ?_
  refine lv_iconst (v := (2 : Int32)) S.1 S.2.1 dMo_weigh_2 (by decide) ?_
  obtain ⟨v2, h1, hm⟩ := ob hm
  refine sw_Si (rest := []) S hw (cMo_lies l  hf a1 (0 : Int32) (2 : Int32) h1) kMo_lies wm_Mo_18 rfl rfl hl.1 (Nat.le_of_ble_eq_true rfl) ⟨rfl, rfl, Nat.le_of_ble_eq_true rfl, Nat.le_of_ble_eq_true rfl⟩ ⟨Nat.le_of_ble_eq_true rfl, Nat.le_of_ble_eq_true rfl⟩ dMo_weigh_3 (fun H locs hw _ => ?_)
  refine bif_ne (tgt := 11) S.1 S.2.1 hm dMo_weigh_6 (by decide) (fun hm => ?_) (fun hm => ?_)
  · refine lv_aload_n S.1 S.2.1 dMo_weigh_11 rfl (lv_at hl 0 rfl) ?_
    obtain ⟨⟨v5, μ4⟩, h3, hm⟩ := ob hm
    refine sw_Vi (q := 84) (rest := []) S hw (cMo_canBe l N hf  h3) kMo_canBe wm_Mo_456 (is_84 hf).1 (e_Mo (is_84 hf)) rfl rfl rfl rfl hl.1 (Nat.le_of_ble_eq_true rfl) ⟨rfl, rfl, Nat.le_of_ble_eq_true rfl, Nat.le_of_ble_eq_true rfl⟩ ⟨Nat.le_of_ble_eq_true rfl, Nat.le_of_ble_eq_true rfl⟩ dMo_weigh_12 (fun H locs hw _ => ?_)
    refine lv_istore_n (lv' := [(2, .int v5), (0, .ref (ξ.2.2.2.1 84)), (1, .int a1)]) S.1 S.2.1 dMo_weigh_15 rfl hl (by decide) rfl (fun ls hl => ?_)
    refine lv_ldc S.1 S.2.1 S.2.2.2.1 (sw_word S wc_Mo_193) dMo_weigh_16 ?_
    refine lv_istore_n (lv' := [(3, .int (1000000 : Int32)), (2, .int v5), (0, .ref (ξ.2.2.2.1 84)), (1, .int a1)]) S.1 S.2.1 dMo_weigh_18 rfl hl (by decide) rfl (fun ls hl => ?_)
    refine lv_iconst (v := (-1 : Int32)) S.1 S.2.1 dMo_weigh_19 (by decide) ?_
    refine lv_istore (lv' := [(4, .int (-1 : Int32)), (3, .int (1000000 : Int32)), (2, .int v5), (0, .ref (ξ.2.2.2.1 84)), (1, .int a1)]) S.1 S.2.1 dMo_weigh_20 hl (by decide) rfl (fun ls hl => ?_)
    refine lv_iconst (v := (-1 : Int32)) S.1 S.2.1 dMo_weigh_22 (by decide) ?_
    refine lv_istore (lv' := [(5, .int (-1 : Int32)), (4, .int (-1 : Int32)), (3, .int (1000000 : Int32)), (2, .int v5), (0, .ref (ξ.2.2.2.1 84)), (1, .int a1)]) S.1 S.2.1 dMo_weigh_23 hl (by decide) rfl (fun ls hl => ?_)
    refine lv_iconst (v := (0 : Int32)) S.1 S.2.1 dMo_weigh_25 (by decide) ?_
    refine lv_istore (lv' := [(6, .int (0 : Int32)), (5, .int (-1 : Int32)), (4, .int (-1 : Int32)), (3, .int (1000000 : Int32)), (2, .int v5), (0, .ref (ξ.2.2.2.1 84)), (1, .int a1)]) S.1 S.2.1 dMo_weigh_26 hl (by decide) rfl (fun ls hl => ?_)
    exact wMo_weigh_28 S hr hlk hf N  N μ4 a1 v5 (1000000 : Int32) (-1 : Int32) (-1 : Int32) (0 : Int32) _ _ _ hm hw (lv_sub hl [5, 6, 4, 3, 2, 1, 0] rfl)
  · refine lv_iconst (v := (-1 : Int32)) S.1 S.2.1 dMo_weigh_9 (by decide) ?_
    obtain rfl := Option.some.inj hm
    exact sw_iret S hr hlk hw trivial dMo_weigh_10
set_option maxHeartbeats 4000000 in
set_option maxRecDepth 100000 in
theorem wMo_few_67 {l : Launch} {p : Program} {e : Env} {s : State} {m : MethodId} {args : Array Value} {below : List Frame} {meth : Method} {c : Code} {Γ : sw_C} {A : Nat → Prop} {ξ : sw_x} {g : sw_g} {res : Int64 × sw_m} (S : CallFix p m c prog_10_method_130_code 6 s args (Cond.code yMo_few prog_10_method_130_code 6 (some .long) :: sw_tb) R_Mo) (hr : meth.sig.returnType = some .long) (hlk : meth.locks = false) (hf : sw_wf ξ g.2.2) (N : Nat) (k57 : sw_m → Int32 → Int32 → Int32 → Option (Int64 × sw_m)) (hk57 : ∀ (μ : sw_m) (u1 : Int32) (u2 : Int32) (u3 : Int32) (H : Heap) (locs : List Loc) (ls : Array Slot), k57 μ u1 u2 u3 = some res → sw_S Γ A ξ g μ s H locs → lv_has ls 6 [(0, .ref (ξ.2.2.2.1 84)), (1, .int u1), (2, .int u2), (3, .int u3)] → W p l e (headSpec (Cond.code yMo_few prog_10_method_130_code 6 (some .long) :: sw_tb) rmMo_few).room s m args below meth c H locs 0 0 (MQ below (sw_Ql Γ A ξ g res.2 res.1 (True)) args s 0 0 A) (F0 m 57 ls [])) : ∀ (fu : Nat) (μ : sw_m) (u1 : Int32) (u2 : Int32) (u3 : Int32) (u4 : Int32) (H : Heap) (locs : List Loc) (ls : Array Slot), fMo_few_67 N  k57 fu μ u1 u2 u3 u4 = some res → sw_S Γ A ξ g μ s H locs → lv_has ls 6 [(0, .ref (ξ.2.2.2.1 84)), (1, .int u1), (2, .int u2), (3, .int u3), (4, .int u4)] → W p l e (headSpec (Cond.code yMo_few prog_10_method_130_code 6 (some .long) :: sw_tb) rmMo_few).room s m args below meth c H locs 0 0 (MQ below (sw_Ql Γ A ξ g res.2 res.1 (True)) args s 0 0 A) (F0 m 67 ls []) := by
  intro fu
  induction fu with
  | zero => intro μ u1 u2 u3 u4 H locs ls hm; rw [fMo_few_67.eq_1] at hm; cases hm
  | succ fu ih =>
    intro μ u1 u2 u3 u4 H locs ls hm hw hl
    rw [fMo_few_67.eq_2] at hm
    refine lv_iload S.1 S.2.1 dMo_few_67 (lv_at hl 4 rfl) ?_
    refine bif_lt (tgt := 140) S.1 S.2.1 hm dMo_few_69 (by decide) (fun hm => ?_) (fun hm => ?_)
    · obtain ⟨x9, ex9, hm⟩ := nm_x hm
      refine lv_iinc (v := x9) (lv' := [(3, .int x9), (0, .ref (ξ.2.2.2.1 84)), (1, .int u1), (2, .int u2), (4, .int u4)]) S.1 S.2.1 dMo_few_140 hl (k := 3) rfl (by rw [ex9]; rfl) (by decide) rfl (fun ls hl => ?_)
      refine lv_goto (tgt := 57) S.1 S.2.1 dMo_few_143 (by decide) ?_
      exact hk57 μ u1 u2 x9 _ _ _ hm hw (lv_sub hl [1, 2, 3, 0] rfl)
    · refine lv_aload_n S.1 S.2.1 dMo_few_72 rfl (lv_at hl 0 rfl) ?_
      refine get_Mo (v := .ref (ξ.2.2.2.1 107)) S hw (is_84 hf) 42 (by decide) rfl wf_Mo_97 dMo_few_73 ?_
      refine lv_iload S.1 S.2.1 dMo_few_76 (lv_at hl 4 rfl) ?_
      refine lv_iconst (v := (1 : Int32)) S.1 S.2.1 dMo_few_78 (by decide) ?_
      refine lv_iadd S.1 S.2.1 dMo_few_79 ?_
      refine nm_i hm (fun x10 hm => ?_)
      refine lv_dup2_11 S.1 S.2.1 dMo_few_80 rfl rfl ?_
      refine sm_lald S hw (is_107 hf) hm dMo_few_81 (fun v11 hm => ?_)
      refine lv_aload_n S.1 S.2.1 dMo_few_82 rfl (lv_at hl 0 rfl) ?_
      refine get_Mo (v := .ref (ξ.2.2.2.1 107)) S hw (is_84 hf) 42 (by decide) rfl wf_Mo_97 dMo_few_83 ?_
      refine lv_iload S.1 S.2.1 dMo_few_86 (lv_at hl 4 rfl) ?_
      refine sm_lald S hw (is_107 hf) hm dMo_few_88 (fun v12 hm => ?_)
      refine lv_aload_n S.1 S.2.1 dMo_few_89 rfl (lv_at hl 0 rfl) ?_
      refine get_Mo (v := .ref (ξ.2.2.2.1 86)) S hw (is_84 hf) 2 (by decide) rfl wf_Mo_28 dMo_few_90 ?_
      refine lv_bipush (v := (40 : Int32)) S.1 S.2.1 dMo_few_93 (by decide) ?_
      refine sm_iald S hw (is_86 hf) hm dMo_few_95 (fun v13 hm => ?_)
      refine lv_i2l (v := (v13).toInt64) S.1 S.2.1 dMo_few_96 rfl ?_
      refine lv_lmul S.1 S.2.1 dMo_few_97 ?_
      refine lv_ldc2 S.1 S.2.1 S.2.2.2.1 (sw_word S wc_Mo_466) dMo_few_98 ?_
      refine lv_ldiv S.1 S.2.1 dMo_few_101 (by decide) ?_
      refine lv_ladd S.1 S.2.1 dMo_few_102 ?_
      refine sm_last S hw (is_107 hf) hm dMo_few_103 (fun μ14 H locs hm hw => ?_)
      refine lv_aload_n S.1 S.2.1 dMo_few_104 rfl (lv_at hl 0 rfl) ?_
      refine get_Mo (v := .ref (ξ.2.2.2.1 107)) S hw (is_84 hf) 42 (by decide) rfl wf_Mo_97 dMo_few_105 ?_
      refine lv_iload S.1 S.2.1 dMo_few_108 (lv_at hl 4 rfl) ?_
      refine lv_aload_n S.1 S.2.1 dMo_few_110 rfl (lv_at hl 0 rfl) ?_
      refine get_Mo (v := .ref (ξ.2.2.2.1 107)) S hw (is_84 hf) 42 (by decide) rfl wf_Mo_97 dMo_few_111 ?_
      refine lv_iload S.1 S.2.1 dMo_few_114 (lv_at hl 4 rfl) ?_
      refine sm_lald S hw (is_107 hf) hm dMo_few_116 (fun v15 hm => ?_)
      refine lv_bipush (v := (10 : Int32)) S.1 S.2.1 dMo_few_117 (by decide) ?_
      refine lv_aload_n S.1 S.2.1 dMo_few_119 rfl (lv_at hl 0 rfl) ?_
      refine get_Mo (v := .ref (ξ.2.2.2.1 86)) S hw (is_84 hf) 2 (by decide) rfl wf_Mo_28 dMo_few_120 ?_
      refine lv_bipush (v := (40 : Int32)) S.1 S.2.1 dMo_few_123 (by decide) ?_
      refine sm_iald S hw (is_86 hf) hm dMo_few_125 (fun v16 hm => ?_)
      refine lv_isub S.1 S.2.1 dMo_few_126 ?_
      refine lv_i2l (v := (((10 : Int32) - v16)).toInt64) S.1 S.2.1 dMo_few_127 rfl ?_
      refine lv_lmul S.1 S.2.1 dMo_few_128 ?_
      refine lv_ldc2 S.1 S.2.1 S.2.2.2.1 (sw_word S wc_Mo_466) dMo_few_129 ?_
      refine lv_ldiv S.1 S.2.1 dMo_few_132 (by decide) ?_
      refine sm_last S hw (is_107 hf) hm dMo_few_133 (fun μ17 H locs hm hw => ?_)
      obtain ⟨x18, ex18, hm⟩ := nm_x hm
      refine lv_iinc (v := x18) (lv' := [(4, .int x18), (0, .ref (ξ.2.2.2.1 84)), (1, .int u1), (2, .int u2), (3, .int u3)]) S.1 S.2.1 dMo_few_134 hl (k := 4) rfl (by rw [ex18]; rfl) (by decide) rfl (fun ls hl => ?_)
      refine lv_goto (tgt := 67) S.1 S.2.1 dMo_few_137 (by decide) ?_
      exact ih μ17 u1 u2 u3 x18 _ _ _ hm hw (lv_sub hl [1, 2, 3, 4, 0] rfl)
set_option maxHeartbeats 4000000 in
set_option maxRecDepth 100000 in
theorem wMo_few_151 {l : Launch} {p : Program} {e : Env} {s : State} {m : MethodId} {args : Array Value} {below : List Frame} {meth : Method} {c : Code} {Γ : sw_C} {A : Nat → Prop} {ξ : sw_x} {g : sw_g} {res : Int64 × sw_m} (S : CallFix p m c prog_10_method_130_code 6 s args (Cond.code yMo_few prog_10_method_130_code 6 (some .long) :: sw_tb) R_Mo) (hr : meth.sig.returnType = some .long) (hlk : meth.locks = false) (hf : sw_wf ξ g.2.2) (N : Nat) : ∀ (fu : Nat) (μ : sw_m) (u1 : Int32) (u3 : Int64) (u5 : Int32) (H : Heap) (locs : List Loc) (ls : Array Slot), fMo_few_151 N   fu μ u1 u3 u5 = some res → sw_S Γ A ξ g μ s H locs → lv_has ls 6 [(0, .ref (ξ.2.2.2.1 84)), (1, .int u1), (3, .long u3), (5, .int u5)] → W p l e (headSpec (Cond.code yMo_few prog_10_method_130_code 6 (some .long) :: sw_tb) rmMo_few).room s m args below meth c H locs 0 0 (MQ below (sw_Ql Γ A ξ g res.2 res.1 (True)) args s 0 0 A) (F0 m 151 ls []) := by
  intro fu
  induction fu with
  | zero => intro μ u1 u3 u5 H locs ls hm; rw [fMo_few_151.eq_1] at hm; cases hm
  | succ fu ih =>
    intro μ u1 u3 u5 H locs ls hm hw hl
    rw [fMo_few_151.eq_2] at hm
    refine lv_iload S.1 S.2.1 dMo_few_151 (lv_at hl 3 rfl) ?_
    refine lv_iload_n S.1 S.2.1 dMo_few_153 rfl (lv_at hl 1 rfl) ?_
    refine bicmp_ge (tgt := 173) S.1 S.2.1 hm dMo_few_154 (by decide) (fun hm => ?_) (fun hm => ?_)
    · refine lv_lload_n S.1 S.2.1 dMo_few_173 rfl (lv_at hl 2 rfl) ?_
      obtain rfl := Option.some.inj hm
      exact sw_lret S hr hlk hw trivial dMo_few_174
    · refine lv_lload_n S.1 S.2.1 dMo_few_157 rfl (lv_at hl 2 rfl) ?_
      refine lv_aload_n S.1 S.2.1 dMo_few_158 rfl (lv_at hl 0 rfl) ?_
      refine get_Mo (v := .ref (ξ.2.2.2.1 107)) S hw (is_84 hf) 42 (by decide) rfl wf_Mo_97 dMo_few_159 ?_
      refine lv_iload S.1 S.2.1 dMo_few_162 (lv_at hl 3 rfl) ?_
      refine sm_lald S hw (is_107 hf) hm dMo_few_164 (fun v5 hm => ?_)
      refine lv_ladd S.1 S.2.1 dMo_few_165 ?_
      refine nm_l hm (fun x6 hm => ?_)
      refine lv_lstore_n (lv' := [(3, .long x6), (0, .ref (ξ.2.2.2.1 84)), (1, .int u1), (5, .int u5)]) S.1 S.2.1 dMo_few_166 rfl hl (by decide) rfl (fun ls hl => ?_)
      obtain ⟨x7, ex7, hm⟩ := nm_x hm
      refine lv_iinc (v := x7) (lv' := [(5, .int x7), (3, .long x6), (0, .ref (ξ.2.2.2.1 84)), (1, .int u1)]) S.1 S.2.1 dMo_few_167 hl (k := 3) rfl (by rw [ex7]; rfl) (by decide) rfl (fun ls hl => ?_)
      refine lv_goto (tgt := 151) S.1 S.2.1 dMo_few_170 (by decide) ?_
      exact ih μ u1 x6 x7 _ _ _ hm hw (lv_sub hl [2, 3, 1, 0] rfl)
set_option maxHeartbeats 4000000 in
set_option maxRecDepth 100000 in
theorem wMo_few_57 {l : Launch} {p : Program} {e : Env} {s : State} {m : MethodId} {args : Array Value} {below : List Frame} {meth : Method} {c : Code} {Γ : sw_C} {A : Nat → Prop} {ξ : sw_x} {g : sw_g} {res : Int64 × sw_m} (S : CallFix p m c prog_10_method_130_code 6 s args (Cond.code yMo_few prog_10_method_130_code 6 (some .long) :: sw_tb) R_Mo) (hr : meth.sig.returnType = some .long) (hlk : meth.locks = false) (hf : sw_wf ξ g.2.2) (N : Nat) : ∀ (fu : Nat) (μ : sw_m) (u1 : Int32) (u2 : Int32) (u3 : Int32) (H : Heap) (locs : List Loc) (ls : Array Slot), fMo_few_57 N   fu μ u1 u2 u3 = some res → sw_S Γ A ξ g μ s H locs → lv_has ls 6 [(0, .ref (ξ.2.2.2.1 84)), (1, .int u1), (2, .int u2), (3, .int u3)] → W p l e (headSpec (Cond.code yMo_few prog_10_method_130_code 6 (some .long) :: sw_tb) rmMo_few).room s m args below meth c H locs 0 0 (MQ below (sw_Ql Γ A ξ g res.2 res.1 (True)) args s 0 0 A) (F0 m 57 ls []) := by
  intro fu
  induction fu with
  | zero => intro μ u1 u2 u3 H locs ls hm; rw [fMo_few_57.eq_1] at hm; cases hm
  | succ fu ih =>
    intro μ u1 u2 u3 H locs ls hm hw hl
    rw [fMo_few_57.eq_2] at hm
    refine lv_iload_n S.1 S.2.1 dMo_few_57 rfl (lv_at hl 3 rfl) ?_
    refine lv_iload_n S.1 S.2.1 dMo_few_58 rfl (lv_at hl 2 rfl) ?_
    refine bicmp_ge (tgt := 146) S.1 S.2.1 hm dMo_few_59 (by decide) (fun hm => ?_) (fun hm => ?_)
    · refine lv_lconst (v := (0 : Int64)) S.1 S.2.1 dMo_few_146 (by decide) ?_
      refine lv_lstore_n (lv' := [(3, .long (0 : Int64)), (0, .ref (ξ.2.2.2.1 84)), (1, .int u1), (2, .int u2)]) S.1 S.2.1 dMo_few_147 rfl hl (by decide) rfl (fun ls hl => ?_)
      refine lv_iconst (v := (0 : Int32)) S.1 S.2.1 dMo_few_148 (by decide) ?_
      refine lv_istore (lv' := [(5, .int (0 : Int32)), (3, .long (0 : Int64)), (0, .ref (ξ.2.2.2.1 84)), (1, .int u1), (2, .int u2)]) S.1 S.2.1 dMo_few_149 hl (by decide) rfl (fun ls hl => ?_)
      exact wMo_few_151 S hr hlk hf N  N μ u1 (0 : Int64) (0 : Int32) _ _ _ hm hw (lv_sub hl [2, 3, 1, 0] rfl)
    · refine lv_iload_n S.1 S.2.1 dMo_few_62 rfl (lv_at hl 1 rfl) ?_
      refine lv_iconst (v := (1 : Int32)) S.1 S.2.1 dMo_few_63 (by decide) ?_
      refine lv_isub S.1 S.2.1 dMo_few_64 ?_
      refine nm_i hm (fun x8 hm => ?_)
      refine lv_istore (lv' := [(4, .int x8), (0, .ref (ξ.2.2.2.1 84)), (1, .int u1), (2, .int u2), (3, .int u3)]) S.1 S.2.1 dMo_few_65 hl (by decide) rfl (fun ls hl => ?_)
      exact wMo_few_67 S hr hlk hf N (fMo_few_57 N   fu) ih N μ u1 u2 u3 x8 _ _ _ hm hw (lv_sub hl [1, 2, 3, 4, 0] rfl)
set_option maxHeartbeats 4000000 in
set_option maxRecDepth 100000 in
theorem wMo_few_26 {l : Launch} {p : Program} {e : Env} {s : State} {m : MethodId} {args : Array Value} {below : List Frame} {meth : Method} {c : Code} {Γ : sw_C} {A : Nat → Prop} {ξ : sw_x} {g : sw_g} {res : Int64 × sw_m} (S : CallFix p m c prog_10_method_130_code 6 s args (Cond.code yMo_few prog_10_method_130_code 6 (some .long) :: sw_tb) R_Mo) (hr : meth.sig.returnType = some .long) (hlk : meth.locks = false) (hf : sw_wf ξ g.2.2) (N : Nat) : ∀ (fu : Nat) (μ : sw_m) (u1 : Int32) (u2 : Int32) (u3 : Int32) (H : Heap) (locs : List Loc) (ls : Array Slot), fMo_few_26 N   fu μ u1 u2 u3 = some res → sw_S Γ A ξ g μ s H locs → lv_has ls 6 [(0, .ref (ξ.2.2.2.1 84)), (1, .int u1), (2, .int u2), (3, .int u3)] → W p l e (headSpec (Cond.code yMo_few prog_10_method_130_code 6 (some .long) :: sw_tb) rmMo_few).room s m args below meth c H locs 0 0 (MQ below (sw_Ql Γ A ξ g res.2 res.1 (True)) args s 0 0 A) (F0 m 26 ls []) := by
  intro fu
  induction fu with
  | zero => intro μ u1 u2 u3 H locs ls hm; rw [fMo_few_26.eq_1] at hm; cases hm
  | succ fu ih =>
    intro μ u1 u2 u3 H locs ls hm hw hl
    rw [fMo_few_26.eq_2] at hm
    refine lv_iload_n S.1 S.2.1 dMo_few_26 rfl (lv_at hl 3 rfl) ?_
    refine lv_bipush (v := (20 : Int32)) S.1 S.2.1 dMo_few_27 (by decide) ?_
    refine bicmp_gt (tgt := 55) S.1 S.2.1 hm dMo_few_29 (by decide) (fun hm => ?_) (fun hm => ?_)
    · refine lv_iconst (v := (0 : Int32)) S.1 S.2.1 dMo_few_55 (by decide) ?_
      refine lv_istore_n (lv' := [(3, .int (0 : Int32)), (0, .ref (ξ.2.2.2.1 84)), (1, .int u1), (2, .int u2)]) S.1 S.2.1 dMo_few_56 rfl hl (by decide) rfl (fun ls hl => ?_)
      exact wMo_few_57 S hr hlk hf N  N μ u1 u2 (0 : Int32) _ _ _ hm hw (lv_sub hl [1, 2, 3, 0] rfl)
    · refine lv_aload_n S.1 S.2.1 dMo_few_32 rfl (lv_at hl 0 rfl) ?_
      refine get_Mo (v := .ref (ξ.2.2.2.1 107)) S hw (is_84 hf) 42 (by decide) rfl wf_Mo_97 dMo_few_33 ?_
      refine lv_iload_n S.1 S.2.1 dMo_few_36 rfl (lv_at hl 3 rfl) ?_
      refine lv_iload_n S.1 S.2.1 dMo_few_37 rfl (lv_at hl 3 rfl) ?_
      refine bif_ne (tgt := 47) S.1 S.2.1 hm dMo_few_38 (by decide) (fun hm => ?_) (fun hm => ?_)
      · refine lv_lconst (v := (0 : Int64)) S.1 S.2.1 dMo_few_47 (by decide) ?_
        refine sm_last S hw (is_107 hf) hm dMo_few_48 (fun μ19 H locs hm hw => ?_)
        obtain ⟨x20, ex20, hm⟩ := nm_x hm
        refine lv_iinc (v := x20) (lv' := [(3, .int x20), (0, .ref (ξ.2.2.2.1 84)), (1, .int u1), (2, .int u2)]) S.1 S.2.1 dMo_few_49 hl (k := 3) rfl (by rw [ex20]; rfl) (by decide) rfl (fun ls hl => ?_)
        refine lv_goto (tgt := 26) S.1 S.2.1 dMo_few_52 (by decide) ?_
        exact ih μ19 u1 u2 x20 _ _ _ hm hw (lv_sub hl [1, 2, 3, 0] rfl)
      · refine lv_ldc2 S.1 S.2.1 S.2.2.2.1 (sw_word S wc_Mo_464) dMo_few_41 ?_
        refine lv_goto (tgt := 48) S.1 S.2.1 dMo_few_44 (by decide) ?_
        refine sm_last S hw (is_107 hf) hm dMo_few_48 (fun μ21 H locs hm hw => ?_)
        obtain ⟨x22, ex22, hm⟩ := nm_x hm
        refine lv_iinc (v := x22) (lv' := [(3, .int x22), (0, .ref (ξ.2.2.2.1 84)), (1, .int u1), (2, .int u2)]) S.1 S.2.1 dMo_few_49 hl (k := 3) rfl (by rw [ex22]; rfl) (by decide) rfl (fun ls hl => ?_)
        refine lv_goto (tgt := 26) S.1 S.2.1 dMo_few_52 (by decide) ?_
        exact ih μ21 u1 u2 x22 _ _ _ hm hw (lv_sub hl [1, 2, 3, 0] rfl)
set_option maxHeartbeats 4000000 in
set_option maxRecDepth 100000 in
theorem cMo_few (l : Launch) (N : Nat) {Γ : sw_C} {A : Nat → Prop} {ξ : sw_x} {g : sw_g} {μ : sw_m} (hf : sw_wf ξ g.2.2) (a1 : Int32) (a2 : Int32) {res : Int64 × sw_m} (hm : fMo_few N μ a1 a2 = some res) : Met l yMo_few (Cond.code yMo_few prog_10_method_130_code 6 (some .long) :: sw_tb) rmMo_few (va_Pc [.ref (ξ.2.2.2.1 84), .int a1, .int a2] (sw_V Γ A ξ g μ)) (sw_Ql Γ A ξ g res.2 res.1 (True)) 0 0 A := by
  refine Met.ofW (cc := prog_10_method_130_code) (maxL := 6) (ret := some .long) (by decide) rfl ?_
  intro p e s m args below meth c s₁ B hml hv
  obtain ⟨rfl, hv⟩ := hv
  have S : CallFix p m c prog_10_method_130_code 6 s _ (Cond.code yMo_few prog_10_method_130_code 6 (some .long) :: sw_tb) R_Mo := ⟨B.exec, B.bytes, hml, findClass_of_methodNamed B.named, atoms_spec (ws := (Cond.code yMo_few prog_10_method_130_code 6 (some .long) :: sw_tb)) B.pre⟩
  have hr := B.returns
  have hlk := B.notSynchronized
  have hw := sw_begin hv
  have hl := lv_entry [.ref (ξ.2.2.2.1 84), .int a1, .int a2] (n := 6) (Nat.le_of_ble_eq_true rfl)
  rw [lg_entry_eq]
  generalize (lg_sl [.ref (ξ.2.2.2.1 84), .int a1, .int a2] ++ List.replicate (6 - (lg_sl [.ref (ξ.2.2.2.1 84), .int a1, .int a2]).length) Slot.unset).toArray = ls at hl ⊢
  have hl : lv_has ls 6 [(0, .ref (ξ.2.2.2.1 84)), (1, .int a1), (2, .int a2)] := hl
  unfold fMo_few at hm
  refine lv_iload_n S.1 S.2.1 dMo_few_0 rfl (lv_at hl 1 rfl) ?_
  refine lv_iconst (v := (1 : Int32)) S.1 S.2.1 dMo_few_1 (by decide) ?_
  refine lv_bipush (v := (20 : Int32)) S.1 S.2.1 dMo_few_2 (by decide) ?_
  obtain ⟨v2, h1, hm⟩ := ob hm
  refine sw_Si (rest := []) S hw (cMo_lies l  hf a1 (1 : Int32) (20 : Int32) h1) kMo_lies wm_Mo_18 rfl rfl hl.1 (Nat.le_of_ble_eq_true rfl) ⟨rfl, rfl, Nat.le_of_ble_eq_true rfl, Nat.le_of_ble_eq_true rfl⟩ ⟨Nat.le_of_ble_eq_true rfl, Nat.le_of_ble_eq_true rfl⟩ dMo_few_4 (fun H locs hw _ => ?_)
  refine bif_eq (tgt := 20) S.1 S.2.1 hm dMo_few_7 (by decide) (fun hm => ?_) (fun hm => ?_)
  · refine lv_ldc2 S.1 S.2.1 S.2.2.2.1 (sw_word S wc_Mo_462) dMo_few_20 ?_
    obtain rfl := Option.some.inj hm
    exact sw_lret S hr hlk hw trivial dMo_few_23
  · refine lv_iload_n S.1 S.2.1 dMo_few_10 rfl (lv_at hl 2 rfl) ?_
    refine lv_iconst (v := (0 : Int32)) S.1 S.2.1 dMo_few_11 (by decide) ?_
    refine lv_bipush (v := (99 : Int32)) S.1 S.2.1 dMo_few_12 (by decide) ?_
    obtain ⟨v4, h3, hm⟩ := ob hm
    refine sw_Si (rest := []) S hw (cMo_lies l  hf a2 (0 : Int32) (99 : Int32) h3) kMo_lies wm_Mo_18 rfl rfl hl.1 (Nat.le_of_ble_eq_true rfl) ⟨rfl, rfl, Nat.le_of_ble_eq_true rfl, Nat.le_of_ble_eq_true rfl⟩ ⟨Nat.le_of_ble_eq_true rfl, Nat.le_of_ble_eq_true rfl⟩ dMo_few_14 (fun H locs hw _ => ?_)
    refine bif_ne (tgt := 24) S.1 S.2.1 hm dMo_few_17 (by decide) (fun hm => ?_) (fun hm => ?_)
    · refine lv_iconst (v := (0 : Int32)) S.1 S.2.1 dMo_few_24 (by decide) ?_
      refine lv_istore_n (lv' := [(3, .int (0 : Int32)), (0, .ref (ξ.2.2.2.1 84)), (1, .int a1), (2, .int a2)]) S.1 S.2.1 dMo_few_25 rfl hl (by decide) rfl (fun ls hl => ?_)
      exact wMo_few_26 S hr hlk hf N  N μ a1 a2 (0 : Int32) _ _ _ hm hw (lv_sub hl [1, 2, 3, 0] rfl)
    · refine lv_ldc2 S.1 S.2.1 S.2.2.2.1 (sw_word S wc_Mo_462) dMo_few_20 ?_
      obtain rfl := Option.some.inj hm
      exact sw_lret S hr hlk hw trivial dMo_few_23
set_option maxHeartbeats 4000000 in
set_option maxRecDepth 100000 in
theorem cMo_stopped (l : Launch) {Γ : sw_C} {A : Nat → Prop} {ξ : sw_x} {g : sw_g} {μ : sw_m} (hf : sw_wf ξ g.2.2) {res : Int32 × sw_m} (hm : fMo_stopped μ = some res) : Met l yMo_stopped (Cond.code yMo_stopped prog_10_method_131_code 1 (some .int) :: sw_tb) rmMo_stopped (va_Pc [.ref (ξ.2.2.2.1 84)] (sw_V Γ A ξ g μ)) (sw_Qi Γ A ξ g res.2 res.1 (True)) 0 0 A := by
  refine Met.ofW (cc := prog_10_method_131_code) (maxL := 1) (ret := some .int) (by decide) rfl ?_
  intro p e s m args below meth c s₁ B hml hv
  obtain ⟨rfl, hv⟩ := hv
  have S : CallFix p m c prog_10_method_131_code 1 s _ (Cond.code yMo_stopped prog_10_method_131_code 1 (some .int) :: sw_tb) R_Mo := ⟨B.exec, B.bytes, hml, findClass_of_methodNamed B.named, atoms_spec (ws := (Cond.code yMo_stopped prog_10_method_131_code 1 (some .int) :: sw_tb)) B.pre⟩
  have hr := B.returns
  have hlk := B.notSynchronized
  have hw := sw_begin hv
  have hl := lv_entry [.ref (ξ.2.2.2.1 84)] (n := 1) (Nat.le_of_ble_eq_true rfl)
  rw [lg_entry_eq]
  generalize (lg_sl [.ref (ξ.2.2.2.1 84)] ++ List.replicate (1 - (lg_sl [.ref (ξ.2.2.2.1 84)]).length) Slot.unset).toArray = ls at hl ⊢
  have hl : lv_has ls 1 [(0, .ref (ξ.2.2.2.1 84))] := hl
  unfold fMo_stopped at hm
  refine lv_aload_n S.1 S.2.1 dMo_stopped_0 rfl (lv_at hl 0 rfl) ?_
  refine get_Mo (v := .int (μ.1 84 43)) S hw (is_84 hf) 43 (by decide) rfl wf_Mo_101 dMo_stopped_1 ?_
  obtain rfl := Option.some.inj hm
  exact sw_iret S hr hlk hw trivial dMo_stopped_4
set_option maxHeartbeats 4000000 in
set_option maxRecDepth 100000 in
theorem cMo_small (l : Launch) {Γ : sw_C} {A : Nat → Prop} {ξ : sw_x} {g : sw_g} {μ : sw_m} (hf : sw_wf ξ g.2.2) (a1 : Int64) {res : Int32} (hm : fMo_small a1 = some res) : Met l yMo_small (Cond.code yMo_small prog_10_method_134_code 2 (some .int) :: sw_tb) rmMo_small (va_Pc [.long a1] (sw_V Γ A ξ g μ)) (sw_Qi Γ A ξ g μ res (True)) 0 0 A := by
  refine Met.ofW (cc := prog_10_method_134_code) (maxL := 2) (ret := some .int) (by decide) rfl ?_
  intro p e s m args below meth c s₁ B hml hv
  obtain ⟨rfl, hv⟩ := hv
  have S : CallFix p m c prog_10_method_134_code 2 s _ (Cond.code yMo_small prog_10_method_134_code 2 (some .int) :: sw_tb) R_Mo := ⟨B.exec, B.bytes, hml, findClass_of_methodNamed B.named, atoms_spec (ws := (Cond.code yMo_small prog_10_method_134_code 2 (some .int) :: sw_tb)) B.pre⟩
  have hr := B.returns
  have hlk := B.notSynchronized
  have hw := sw_begin hv
  have hl := lv_entry [.long a1] (n := 2) (Nat.le_of_ble_eq_true rfl)
  rw [lg_entry_eq]
  generalize (lg_sl [.long a1] ++ List.replicate (2 - (lg_sl [.long a1]).length) Slot.unset).toArray = ls at hl ⊢
  have hl : lv_has ls 2 [(0, .long a1)] := hl
  unfold fMo_small at hm
  refine lv_lload_n S.1 S.2.1 dMo_small_0 rfl (lv_at hl 0 rfl) ?_
  refine lv_lconst (v := (0 : Int64)) S.1 S.2.1 dMo_small_1 (by decide) ?_
  refine W.lcmp S.1 S.2.1 dMo_small_2 ?_
  refine bif_lt (tgt := 14) S.1 S.2.1 hm dMo_small_3 (by decide) (fun hm => ?_) (fun hm => ?_)
  · refine lv_iconst (v := (-1 : Int32)) S.1 S.2.1 dMo_small_14 (by decide) ?_
    refine lv_goto (tgt := 20) S.1 S.2.1 dMo_small_15 (by decide) ?_
    obtain rfl := Option.some.inj hm
    exact sw_iret S hr hlk hw trivial dMo_small_20
  · refine lv_lload_n S.1 S.2.1 dMo_small_6 rfl (lv_at hl 0 rfl) ?_
    refine lv_ldc2 S.1 S.2.1 S.2.2.2.1 (sw_word S wc_Mo_492) dMo_small_7 ?_
    refine W.lcmp S.1 S.2.1 dMo_small_10 ?_
    refine bif_le (tgt := 18) S.1 S.2.1 hm dMo_small_11 (by decide) (fun hm => ?_) (fun hm => ?_)
    · refine lv_lload_n S.1 S.2.1 dMo_small_18 rfl (lv_at hl 0 rfl) ?_
      refine lv_l2i (v := (a1).toInt32) S.1 S.2.1 dMo_small_19 rfl ?_
      obtain rfl := Option.some.inj hm
      exact sw_iret S hr hlk hw trivial dMo_small_20
    · refine lv_iconst (v := (-1 : Int32)) S.1 S.2.1 dMo_small_14 (by decide) ?_
      refine lv_goto (tgt := 20) S.1 S.2.1 dMo_small_15 (by decide) ?_
      obtain rfl := Option.some.inj hm
      exact sw_iret S hr hlk hw trivial dMo_small_20
set_option maxHeartbeats 4000000 in
set_option maxRecDepth 100000 in
theorem cMo_draws (l : Launch) {Γ : sw_C} {A : Nat → Prop} {ξ : sw_x} {g : sw_g} {μ : sw_m} (hf : sw_wf ξ g.2.2) (a1 : Int32) {res : Int32 × sw_m} (hm : fMo_draws μ a1 = some res) : Met l yMo_draws (Cond.code yMo_draws prog_10_method_137_code 2 (some .int) :: sw_tb) rmMo_draws (va_Pc [.ref (ξ.2.2.2.1 84), .int a1] (sw_V Γ A ξ g μ)) (sw_Qi Γ A ξ g res.2 res.1 (True)) 0 0 A := by
  refine Met.ofW (cc := prog_10_method_137_code) (maxL := 2) (ret := some .int) (by decide) rfl ?_
  intro p e s m args below meth c s₁ B hml hv
  obtain ⟨rfl, hv⟩ := hv
  have S : CallFix p m c prog_10_method_137_code 2 s _ (Cond.code yMo_draws prog_10_method_137_code 2 (some .int) :: sw_tb) R_Mo := ⟨B.exec, B.bytes, hml, findClass_of_methodNamed B.named, atoms_spec (ws := (Cond.code yMo_draws prog_10_method_137_code 2 (some .int) :: sw_tb)) B.pre⟩
  have hr := B.returns
  have hlk := B.notSynchronized
  have hw := sw_begin hv
  have hl := lv_entry [.ref (ξ.2.2.2.1 84), .int a1] (n := 2) (Nat.le_of_ble_eq_true rfl)
  rw [lg_entry_eq]
  generalize (lg_sl [.ref (ξ.2.2.2.1 84), .int a1] ++ List.replicate (2 - (lg_sl [.ref (ξ.2.2.2.1 84), .int a1]).length) Slot.unset).toArray = ls at hl ⊢
  have hl : lv_has ls 2 [(0, .ref (ξ.2.2.2.1 84)), (1, .int a1)] := hl
  unfold fMo_draws at hm
  refine lv_aload_n S.1 S.2.1 dMo_draws_0 rfl (lv_at hl 0 rfl) ?_
  refine lv_ldc2 S.1 S.2.1 S.2.2.2.1 (sw_word S wc_Mo_505) dMo_draws_1 ?_
  refine lv_aload_n S.1 S.2.1 dMo_draws_4 rfl (lv_at hl 0 rfl) ?_
  refine get_Mo (v := .int (μ.1 84 52)) S hw (is_84 hf) 52 (by decide) rfl wf_Mo_507 dMo_draws_5 ?_
  refine lv_i2l (v := ((μ.1 84 52)).toInt64) S.1 S.2.1 dMo_draws_8 rfl ?_
  refine lv_lmul S.1 S.2.1 dMo_draws_9 ?_
  refine lv_ldc2 S.1 S.2.1 S.2.2.2.1 (sw_word S wc_Mo_510) dMo_draws_10 ?_
  refine lv_ladd S.1 S.2.1 dMo_draws_13 ?_
  refine lv_ldc2 S.1 S.2.1 S.2.2.2.1 (sw_word S wc_Mo_512) dMo_draws_14 ?_
  refine lv_lrem S.1 S.2.1 dMo_draws_17 (by decide) ?_
  refine lv_l2i (v := (((((1103 : Int64) * (((μ.1 84 52)).toInt64)) + (12345 : Int64)) - (((1103 : Int64) * (((μ.1 84 52)).toInt64)) + (12345 : Int64)) / (1000003 : Int64) * (1000003 : Int64))).toInt32) S.1 S.2.1 dMo_draws_18 rfl ?_
  refine put_Mo S hw (is_84 hf) 52 (by decide) ps_Mo_52 rfl rfl rfl wf_Mo_507 hm dMo_draws_19 (fun μ1 H locs hm hw => ?_)
  refine lv_aload_n S.1 S.2.1 dMo_draws_22 rfl (lv_at hl 0 rfl) ?_
  refine get_Mo (v := .int (μ1.1 84 52)) S hw (is_84 hf) 52 (by decide) rfl wf_Mo_507 dMo_draws_23 ?_
  refine lv_iload_n S.1 S.2.1 dMo_draws_26 rfl (lv_at hl 1 rfl) ?_
  obtain ⟨hz, hm⟩ := ob_nz hm
  refine lv_irem S.1 S.2.1 dMo_draws_27 hz ?_
  obtain rfl := Option.some.inj hm
  exact sw_iret S hr hlk hw trivial dMo_draws_28
set_option maxHeartbeats 4000000 in
set_option maxRecDepth 100000 in
theorem cMo_drawn (l : Launch) {Γ : sw_C} {A : Nat → Prop} {ξ : sw_x} {g : sw_g} {μ : sw_m} (hf : sw_wf ξ g.2.2) (a1 : Int32) (a2 : Int32) {res : Int32 × sw_m} (hm : fMo_drawn μ a1 a2 = some res) : Met l yMo_drawn (Cond.code yMo_drawn prog_10_method_139_code 3 (some .int) :: sw_tb) rmMo_drawn (va_Pc [.ref (ξ.2.2.2.1 84), .int a1, .int a2] (sw_V Γ A ξ g μ)) (sw_Qi Γ A ξ g res.2 res.1 (True)) 0 0 A := by
  refine Met.ofW (cc := prog_10_method_139_code) (maxL := 3) (ret := some .int) (by decide) rfl ?_
  intro p e s m args below meth c s₁ B hml hv
  obtain ⟨rfl, hv⟩ := hv
  have S : CallFix p m c prog_10_method_139_code 3 s _ (Cond.code yMo_drawn prog_10_method_139_code 3 (some .int) :: sw_tb) R_Mo := ⟨B.exec, B.bytes, hml, findClass_of_methodNamed B.named, atoms_spec (ws := (Cond.code yMo_drawn prog_10_method_139_code 3 (some .int) :: sw_tb)) B.pre⟩
  have hr := B.returns
  have hlk := B.notSynchronized
  have hw := sw_begin hv
  have hl := lv_entry [.ref (ξ.2.2.2.1 84), .int a1, .int a2] (n := 3) (Nat.le_of_ble_eq_true rfl)
  rw [lg_entry_eq]
  generalize (lg_sl [.ref (ξ.2.2.2.1 84), .int a1, .int a2] ++ List.replicate (3 - (lg_sl [.ref (ξ.2.2.2.1 84), .int a1, .int a2]).length) Slot.unset).toArray = ls at hl ⊢
  have hl : lv_has ls 3 [(0, .ref (ξ.2.2.2.1 84)), (1, .int a1), (2, .int a2)] := hl
  unfold fMo_drawn at hm
  refine lv_iload_n S.1 S.2.1 dMo_drawn_0 rfl (lv_at hl 1 rfl) ?_
  refine lv_iconst (v := (0 : Int32)) S.1 S.2.1 dMo_drawn_1 (by decide) ?_
  refine lv_aload_n S.1 S.2.1 dMo_drawn_2 rfl (lv_at hl 0 rfl) ?_
  refine get_Mo (v := .int (μ.1 84 51)) S hw (is_84 hf) 51 (by decide) rfl wf_Mo_110 dMo_drawn_3 ?_
  refine lv_iconst (v := (1 : Int32)) S.1 S.2.1 dMo_drawn_6 (by decide) ?_
  refine lv_isub S.1 S.2.1 dMo_drawn_7 ?_
  obtain ⟨v2, h1, hm⟩ := ob hm
  refine sw_Si (rest := []) S hw (cMo_lies l  hf a1 (0 : Int32) ((μ.1 84 51) - (1 : Int32)) h1) kMo_lies wm_Mo_18 rfl rfl hl.1 (Nat.le_of_ble_eq_true rfl) ⟨rfl, rfl, Nat.le_of_ble_eq_true rfl, Nat.le_of_ble_eq_true rfl⟩ ⟨Nat.le_of_ble_eq_true rfl, Nat.le_of_ble_eq_true rfl⟩ dMo_drawn_8 (fun H locs hw _ => ?_)
  refine bif_eq (tgt := 23) S.1 S.2.1 hm dMo_drawn_11 (by decide) (fun hm => ?_) (fun hm => ?_)
  · refine lv_iconst (v := (-1 : Int32)) S.1 S.2.1 dMo_drawn_23 (by decide) ?_
    obtain rfl := Option.some.inj hm
    exact sw_iret S hr hlk hw trivial dMo_drawn_24
  · refine lv_iload_n S.1 S.2.1 dMo_drawn_14 rfl (lv_at hl 2 rfl) ?_
    refine lv_iconst (v := (0 : Int32)) S.1 S.2.1 dMo_drawn_15 (by decide) ?_
    refine lv_iconst (v := (1 : Int32)) S.1 S.2.1 dMo_drawn_16 (by decide) ?_
    obtain ⟨v4, h3, hm⟩ := ob hm
    refine sw_Si (rest := []) S hw (cMo_lies l  hf a2 (0 : Int32) (1 : Int32) h3) kMo_lies wm_Mo_18 rfl rfl hl.1 (Nat.le_of_ble_eq_true rfl) ⟨rfl, rfl, Nat.le_of_ble_eq_true rfl, Nat.le_of_ble_eq_true rfl⟩ ⟨Nat.le_of_ble_eq_true rfl, Nat.le_of_ble_eq_true rfl⟩ dMo_drawn_17 (fun H locs hw _ => ?_)
    refine bif_ne (tgt := 25) S.1 S.2.1 hm dMo_drawn_20 (by decide) (fun hm => ?_) (fun hm => ?_)
    · refine lv_aload_n S.1 S.2.1 dMo_drawn_25 rfl (lv_at hl 0 rfl) ?_
      refine get_Mo (v := .ref (ξ.2.2.2.1 109)) S hw (is_84 hf) 50 (by decide) rfl wf_Mo_107 dMo_drawn_26 ?_
      refine lv_iload_n S.1 S.2.1 dMo_drawn_29 rfl (lv_at hl 2 rfl) ?_
      refine bif_ne (tgt := 37) S.1 S.2.1 hm dMo_drawn_30 (by decide) (fun hm => ?_) (fun hm => ?_)
      · refine lv_bipush (v := (7 : Int32)) S.1 S.2.1 dMo_drawn_37 (by decide) ?_
        refine lv_iload_n S.1 S.2.1 dMo_drawn_39 rfl (lv_at hl 1 rfl) ?_
        refine lv_iadd S.1 S.2.1 dMo_drawn_40 ?_
        refine sm_iald S hw (is_109 hf) hm dMo_drawn_41 (fun v5 hm => ?_)
        obtain rfl := Option.some.inj hm
        exact sw_iret S hr hlk hw trivial dMo_drawn_42
      · refine lv_iconst (v := (0 : Int32)) S.1 S.2.1 dMo_drawn_33 (by decide) ?_
        refine lv_goto (tgt := 39) S.1 S.2.1 dMo_drawn_34 (by decide) ?_
        refine lv_iload_n S.1 S.2.1 dMo_drawn_39 rfl (lv_at hl 1 rfl) ?_
        refine lv_iadd S.1 S.2.1 dMo_drawn_40 ?_
        refine sm_iald S hw (is_109 hf) hm dMo_drawn_41 (fun v6 hm => ?_)
        obtain rfl := Option.some.inj hm
        exact sw_iret S hr hlk hw trivial dMo_drawn_42
    · refine lv_iconst (v := (-1 : Int32)) S.1 S.2.1 dMo_drawn_23 (by decide) ?_
      obtain rfl := Option.some.inj hm
      exact sw_iret S hr hlk hw trivial dMo_drawn_24
set_option maxHeartbeats 4000000 in
set_option maxRecDepth 100000 in
theorem wMo_count_162 {l : Launch} {p : Program} {e : Env} {s : State} {m : MethodId} {args : Array Value} {below : List Frame} {meth : Method} {c : Code} {Γ : sw_C} {A : Nat → Prop} {ξ : sw_x} {g : sw_g} {res : Int32 × sw_m} (S : CallFix p m c prog_10_method_140_code 2 s args (Cond.code yMo_count prog_10_method_140_code 2 (some .int) :: sw_tb) R_Mo) (hr : meth.sig.returnType = some .int) (hlk : meth.locks = false) (hf : sw_wf ξ g.2.2) (N : Nat) : ∀ (μ : sw_m) (u1 : Int32) (H : Heap) (locs : List Loc) (ls : Array Slot), fMo_count_162 N   μ u1 = some res → sw_S Γ A ξ g μ s H locs → lv_has ls 2 [(0, .ref (ξ.2.2.2.1 84)), (1, .int u1)] → W p l e (headSpec (Cond.code yMo_count prog_10_method_140_code 2 (some .int) :: sw_tb) rmMo_count).room s m args below meth c H locs 0 0 (MQ below (sw_Qi Γ A ξ g res.2 res.1 (True)) args s 0 0 A) (F0 m 162 ls []) := by
  intro μ u1 H locs ls hm hw hl
  unfold fMo_count_162 at hm
  refine lv_aload_n S.1 S.2.1 dMo_count_162 rfl (lv_at hl 0 rfl) ?_
  refine get_Mo (v := .ref (ξ.2.2.2.1 86)) S hw (is_84 hf) 2 (by decide) rfl wf_Mo_28 dMo_count_163 ?_
  refine lv_iload_n S.1 S.2.1 dMo_count_166 rfl (lv_at hl 1 rfl) ?_
  refine lv_bipush (v := (13 : Int32)) S.1 S.2.1 dMo_count_167 (by decide) ?_
  refine lv_isub S.1 S.2.1 dMo_count_169 ?_
  obtain ⟨v22, h21, hm⟩ := ob hm
  refine sw_Si (rest := [.ref (ξ.2.2.2.1 86)]) S hw (cMo_termAt l  hf (u1 - (13 : Int32)) h21) kMo_termAt wm_Mo_172 rfl rfl hl.1 (Nat.le_of_ble_eq_true rfl) ⟨rfl, rfl, Nat.le_of_ble_eq_true rfl, Nat.le_of_ble_eq_true rfl⟩ ⟨Nat.le_of_ble_eq_true rfl, Nat.le_of_ble_eq_true rfl⟩ dMo_count_170 (fun H locs hw _ => ?_)
  refine sm_iald S hw (is_86 hf) hm dMo_count_173 (fun v23 hm => ?_)
  obtain rfl := Option.some.inj hm
  exact sw_iret S hr hlk hw trivial dMo_count_174
set_option maxHeartbeats 4000000 in
set_option maxRecDepth 100000 in
theorem cMo_count (l : Launch) (N : Nat) {Γ : sw_C} {A : Nat → Prop} {ξ : sw_x} {g : sw_g} {μ : sw_m} (hf : sw_wf ξ g.2.2) (a1 : Int32) {res : Int32 × sw_m} (hm : fMo_count N μ a1 = some res) : Met l yMo_count (Cond.code yMo_count prog_10_method_140_code 2 (some .int) :: sw_tb) rmMo_count (va_Pc [.ref (ξ.2.2.2.1 84), .int a1] (sw_V Γ A ξ g μ)) (sw_Qi Γ A ξ g res.2 res.1 (True)) 0 0 A := by
  refine Met.ofW (cc := prog_10_method_140_code) (maxL := 2) (ret := some .int) (by decide) rfl ?_
  intro p e s m args below meth c s₁ B hml hv
  obtain ⟨rfl, hv⟩ := hv
  have S : CallFix p m c prog_10_method_140_code 2 s _ (Cond.code yMo_count prog_10_method_140_code 2 (some .int) :: sw_tb) R_Mo := ⟨B.exec, B.bytes, hml, findClass_of_methodNamed B.named, atoms_spec (ws := (Cond.code yMo_count prog_10_method_140_code 2 (some .int) :: sw_tb)) B.pre⟩
  have hr := B.returns
  have hlk := B.notSynchronized
  have hw := sw_begin hv
  have hl := lv_entry [.ref (ξ.2.2.2.1 84), .int a1] (n := 2) (Nat.le_of_ble_eq_true rfl)
  rw [lg_entry_eq]
  generalize (lg_sl [.ref (ξ.2.2.2.1 84), .int a1] ++ List.replicate (2 - (lg_sl [.ref (ξ.2.2.2.1 84), .int a1]).length) Slot.unset).toArray = ls at hl ⊢
  have hl : lv_has ls 2 [(0, .ref (ξ.2.2.2.1 84)), (1, .int a1)] := hl
  unfold fMo_count at hm
  refine lv_iload_n S.1 S.2.1 dMo_count_0 rfl (lv_at hl 1 rfl) ?_
  by_cases c0 : a1 = (0 : Int32)
  · have hm := sw_it c0 hm
    refine lv_tableIn (off := 83) (tgt := 84) S.1 S.2.1 dMo_count_1 (by rw [c0]; decide) (by rw [c0]; decide) (by rw [c0]; decide) (by decide) ?_
    refine lv_aload_n S.1 S.2.1 dMo_count_84 rfl (lv_at hl 0 rfl) ?_
    obtain ⟨⟨v3, μ2⟩, h1, hm⟩ := ob hm
    refine sw_Vi (q := 84) (rest := []) S hw (cMo_many l  hf  h1) kMo_many wm_Mo_119 (is_84 hf).1 (e_Mo (is_84 hf)) rfl rfl rfl rfl hl.1 (Nat.le_of_ble_eq_true rfl) ⟨rfl, rfl, Nat.le_of_ble_eq_true rfl, Nat.le_of_ble_eq_true rfl⟩ ⟨Nat.le_of_ble_eq_true rfl, Nat.le_of_ble_eq_true rfl⟩ dMo_count_85 (fun H locs hw _ => ?_)
    obtain rfl := Option.some.inj hm
    exact sw_iret S hr hlk hw trivial dMo_count_88
  · have hm := sw_if c0 hm
    by_cases c1 : a1 = (1 : Int32)
    · have hm := sw_it c1 hm
      refine lv_tableIn (off := 88) (tgt := 89) S.1 S.2.1 dMo_count_1 (by rw [c1]; decide) (by rw [c1]; decide) (by rw [c1]; decide) (by decide) ?_
      refine lv_aload_n S.1 S.2.1 dMo_count_89 rfl (lv_at hl 0 rfl) ?_
      obtain ⟨⟨v6, μ5⟩, h4, hm⟩ := ob hm
      refine sw_Vi (q := 84) (rest := []) S hw (cMo_onMany l N hf  h4) kMo_onMany wm_Mo_331 (is_84 hf).1 (e_Mo (is_84 hf)) rfl rfl rfl rfl hl.1 (Nat.le_of_ble_eq_true rfl) ⟨rfl, rfl, Nat.le_of_ble_eq_true rfl, Nat.le_of_ble_eq_true rfl⟩ ⟨Nat.le_of_ble_eq_true rfl, Nat.le_of_ble_eq_true rfl⟩ dMo_count_90 (fun H locs hw _ => ?_)
      obtain rfl := Option.some.inj hm
      exact sw_iret S hr hlk hw trivial dMo_count_93
    · have hm := sw_if c1 hm
      by_cases c2 : a1 = (2 : Int32)
      · have hm := sw_it c2 hm
        refine lv_tableIn (off := 93) (tgt := 94) S.1 S.2.1 dMo_count_1 (by rw [c2]; decide) (by rw [c2]; decide) (by rw [c2]; decide) (by decide) ?_
        refine lv_aload_n S.1 S.2.1 dMo_count_94 rfl (lv_at hl 0 rfl) ?_
        refine lv_aload_n S.1 S.2.1 dMo_count_95 rfl (lv_at hl 0 rfl) ?_
        obtain ⟨⟨v9, μ8⟩, h7, hm⟩ := ob hm
        refine sw_Vi (q := 84) (rest := [.ref (ξ.2.2.2.1 84)]) S hw (cMo_everything l  hf  h7) kMo_everything wm_Mo_426 (is_84 hf).1 (e_Mo (is_84 hf)) rfl rfl rfl rfl hl.1 (Nat.le_of_ble_eq_true rfl) ⟨rfl, rfl, Nat.le_of_ble_eq_true rfl, Nat.le_of_ble_eq_true rfl⟩ ⟨Nat.le_of_ble_eq_true rfl, Nat.le_of_ble_eq_true rfl⟩ dMo_count_96 (fun H locs hw _ => ?_)
        obtain ⟨⟨v12, μ11⟩, h10, hm⟩ := ob hm
        refine sw_Vi (q := 84) (rest := []) S hw (cMo_heavyOf l N hf v9 h10) kMo_heavyOf wm_Mo_429 (is_84 hf).1 (e_Mo (is_84 hf)) rfl rfl rfl rfl hl.1 (Nat.le_of_ble_eq_true rfl) ⟨rfl, rfl, Nat.le_of_ble_eq_true rfl, Nat.le_of_ble_eq_true rfl⟩ ⟨Nat.le_of_ble_eq_true rfl, Nat.le_of_ble_eq_true rfl⟩ dMo_count_99 (fun H locs hw _ => ?_)
        obtain rfl := Option.some.inj hm
        exact sw_iret S hr hlk hw trivial dMo_count_102
      · have hm := sw_if c2 hm
        by_cases c3 : a1 = (3 : Int32)
        · have hm := sw_it c3 hm
          refine lv_tableIn (off := 102) (tgt := 103) S.1 S.2.1 dMo_count_1 (by rw [c3]; decide) (by rw [c3]; decide) (by rw [c3]; decide) (by decide) ?_
          refine lv_aload_n S.1 S.2.1 dMo_count_103 rfl (lv_at hl 0 rfl) ?_
          refine get_Mo (v := .ref (ξ.2.2.2.1 86)) S hw (is_84 hf) 2 (by decide) rfl wf_Mo_28 dMo_count_104 ?_
          refine lv_bipush (v := (44 : Int32)) S.1 S.2.1 dMo_count_107 (by decide) ?_
          refine sm_iald S hw (is_86 hf) hm dMo_count_109 (fun v13 hm => ?_)
          obtain rfl := Option.some.inj hm
          exact sw_iret S hr hlk hw trivial dMo_count_110
        · have hm := sw_if c3 hm
          by_cases c4 : a1 = (4 : Int32)
          · have hm := sw_it c4 hm
            refine lv_tableIn (off := 110) (tgt := 111) S.1 S.2.1 dMo_count_1 (by rw [c4]; decide) (by rw [c4]; decide) (by rw [c4]; decide) (by decide) ?_
            refine lv_aload_n S.1 S.2.1 dMo_count_111 rfl (lv_at hl 0 rfl) ?_
            refine get_Mo (v := .ref (ξ.2.2.2.1 86)) S hw (is_84 hf) 2 (by decide) rfl wf_Mo_28 dMo_count_112 ?_
            refine lv_bipush (v := (45 : Int32)) S.1 S.2.1 dMo_count_115 (by decide) ?_
            refine sm_iald S hw (is_86 hf) hm dMo_count_117 (fun v14 hm => ?_)
            obtain rfl := Option.some.inj hm
            exact sw_iret S hr hlk hw trivial dMo_count_118
          · have hm := sw_if c4 hm
            by_cases c5 : a1 = (5 : Int32)
            · have hm := sw_it c5 hm
              refine lv_tableIn (off := 118) (tgt := 119) S.1 S.2.1 dMo_count_1 (by rw [c5]; decide) (by rw [c5]; decide) (by rw [c5]; decide) (by decide) ?_
              refine lv_aload_n S.1 S.2.1 dMo_count_119 rfl (lv_at hl 0 rfl) ?_
              refine get_Mo (v := .int (μ.1 84 33)) S hw (is_84 hf) 33 (by decide) rfl wf_Mo_11 dMo_count_120 ?_
              obtain rfl := Option.some.inj hm
              exact sw_iret S hr hlk hw trivial dMo_count_123
            · have hm := sw_if c5 hm
              by_cases c6 : a1 = (6 : Int32)
              · have hm := sw_it c6 hm
                refine lv_tableIn (off := 123) (tgt := 124) S.1 S.2.1 dMo_count_1 (by rw [c6]; decide) (by rw [c6]; decide) (by rw [c6]; decide) (by decide) ?_
                refine lv_aload_n S.1 S.2.1 dMo_count_124 rfl (lv_at hl 0 rfl) ?_
                refine get_Mo (v := .int (μ.1 84 13)) S hw (is_84 hf) 13 (by decide) rfl wf_Mo_175 dMo_count_125 ?_
                obtain rfl := Option.some.inj hm
                exact sw_iret S hr hlk hw trivial dMo_count_128
              · have hm := sw_if c6 hm
                by_cases c7 : a1 = (7 : Int32)
                · have hm := sw_it c7 hm
                  refine lv_tableIn (off := 128) (tgt := 129) S.1 S.2.1 dMo_count_1 (by rw [c7]; decide) (by rw [c7]; decide) (by rw [c7]; decide) (by decide) ?_
                  refine lv_aload_n S.1 S.2.1 dMo_count_129 rfl (lv_at hl 0 rfl) ?_
                  refine get_Mo (v := .ref (ξ.2.2.2.1 85)) S hw (is_84 hf) 1 (by decide) rfl wf_Mo_7 dMo_count_130 ?_
                  refine lv_iload_n S.1 S.2.1 dMo_count_133 rfl (lv_at hl 1 rfl) ?_
                  refine lv_bipush (v := (6 : Int32)) S.1 S.2.1 dMo_count_134 (by decide) ?_
                  refine lv_isub S.1 S.2.1 dMo_count_136 ?_
                  refine sm_iald S hw (is_85 hf) hm dMo_count_137 (fun v15 hm => ?_)
                  obtain rfl := Option.some.inj hm
                  exact sw_iret S hr hlk hw trivial dMo_count_138
                · have hm := sw_if c7 hm
                  by_cases c8 : a1 = (8 : Int32)
                  · have hm := sw_it c8 hm
                    refine lv_tableIn (off := 128) (tgt := 129) S.1 S.2.1 dMo_count_1 (by rw [c8]; decide) (by rw [c8]; decide) (by rw [c8]; decide) (by decide) ?_
                    refine lv_aload_n S.1 S.2.1 dMo_count_129 rfl (lv_at hl 0 rfl) ?_
                    refine get_Mo (v := .ref (ξ.2.2.2.1 85)) S hw (is_84 hf) 1 (by decide) rfl wf_Mo_7 dMo_count_130 ?_
                    refine lv_iload_n S.1 S.2.1 dMo_count_133 rfl (lv_at hl 1 rfl) ?_
                    refine lv_bipush (v := (6 : Int32)) S.1 S.2.1 dMo_count_134 (by decide) ?_
                    refine lv_isub S.1 S.2.1 dMo_count_136 ?_
                    refine sm_iald S hw (is_85 hf) hm dMo_count_137 (fun v16 hm => ?_)
                    obtain rfl := Option.some.inj hm
                    exact sw_iret S hr hlk hw trivial dMo_count_138
                  · have hm := sw_if c8 hm
                    by_cases c9 : a1 = (9 : Int32)
                    · have hm := sw_it c9 hm
                      refine lv_tableIn (off := 128) (tgt := 129) S.1 S.2.1 dMo_count_1 (by rw [c9]; decide) (by rw [c9]; decide) (by rw [c9]; decide) (by decide) ?_
                      refine lv_aload_n S.1 S.2.1 dMo_count_129 rfl (lv_at hl 0 rfl) ?_
                      refine get_Mo (v := .ref (ξ.2.2.2.1 85)) S hw (is_84 hf) 1 (by decide) rfl wf_Mo_7 dMo_count_130 ?_
                      refine lv_iload_n S.1 S.2.1 dMo_count_133 rfl (lv_at hl 1 rfl) ?_
                      refine lv_bipush (v := (6 : Int32)) S.1 S.2.1 dMo_count_134 (by decide) ?_
                      refine lv_isub S.1 S.2.1 dMo_count_136 ?_
                      refine sm_iald S hw (is_85 hf) hm dMo_count_137 (fun v17 hm => ?_)
                      obtain rfl := Option.some.inj hm
                      exact sw_iret S hr hlk hw trivial dMo_count_138
                    · have hm := sw_if c9 hm
                      by_cases c10 : a1 = (10 : Int32)
                      · have hm := sw_it c10 hm
                        refine lv_tableIn (off := 138) (tgt := 139) S.1 S.2.1 dMo_count_1 (by rw [c10]; decide) (by rw [c10]; decide) (by rw [c10]; decide) (by decide) ?_
                        refine lv_aload_n S.1 S.2.1 dMo_count_139 rfl (lv_at hl 0 rfl) ?_
                        refine get_Mo (v := .ref (ξ.2.2.2.1 85)) S hw (is_84 hf) 1 (by decide) rfl wf_Mo_7 dMo_count_140 ?_
                        refine lv_iconst (v := (5 : Int32)) S.1 S.2.1 dMo_count_143 (by decide) ?_
                        refine sm_iald S hw (is_85 hf) hm dMo_count_144 (fun v18 hm => ?_)
                        obtain rfl := Option.some.inj hm
                        exact sw_iret S hr hlk hw trivial dMo_count_145
                      · have hm := sw_if c10 hm
                        by_cases c11 : a1 = (11 : Int32)
                        · have hm := sw_it c11 hm
                          refine lv_tableIn (off := 145) (tgt := 146) S.1 S.2.1 dMo_count_1 (by rw [c11]; decide) (by rw [c11]; decide) (by rw [c11]; decide) (by decide) ?_
                          refine lv_aload_n S.1 S.2.1 dMo_count_146 rfl (lv_at hl 0 rfl) ?_
                          refine get_Mo (v := .ref (ξ.2.2.2.1 85)) S hw (is_84 hf) 1 (by decide) rfl wf_Mo_7 dMo_count_147 ?_
                          refine lv_bipush (v := (6 : Int32)) S.1 S.2.1 dMo_count_150 (by decide) ?_
                          refine sm_iald S hw (is_85 hf) hm dMo_count_152 (fun v19 hm => ?_)
                          obtain rfl := Option.some.inj hm
                          exact sw_iret S hr hlk hw trivial dMo_count_153
                        · have hm := sw_if c11 hm
                          by_cases c12 : a1 = (12 : Int32)
                          · have hm := sw_it c12 hm
                            refine lv_tableIn (off := 153) (tgt := 154) S.1 S.2.1 dMo_count_1 (by rw [c12]; decide) (by rw [c12]; decide) (by rw [c12]; decide) (by decide) ?_
                            refine lv_aload_n S.1 S.2.1 dMo_count_154 rfl (lv_at hl 0 rfl) ?_
                            refine get_Mo (v := .ref (ξ.2.2.2.1 86)) S hw (is_84 hf) 2 (by decide) rfl wf_Mo_28 dMo_count_155 ?_
                            refine lv_bipush (v := (46 : Int32)) S.1 S.2.1 dMo_count_158 (by decide) ?_
                            refine sm_iald S hw (is_86 hf) hm dMo_count_160 (fun v20 hm => ?_)
                            obtain rfl := Option.some.inj hm
                            exact sw_iret S hr hlk hw trivial dMo_count_161
                          · have hm := sw_if c12 hm
                            by_cases c13 : a1 = (13 : Int32)
                            · have hm := sw_it c13 hm
                              refine lv_tableIn (off := 161) (tgt := 162) S.1 S.2.1 dMo_count_1 (by rw [c13]; decide) (by rw [c13]; decide) (by rw [c13]; decide) (by decide) ?_
                              exact wMo_count_162 S hr hlk hf N  μ a1 _ _ _ hm hw (lv_sub hl [0, 1] rfl)
                            · have hm := sw_if c13 hm
                              by_cases c14 : a1 = (14 : Int32)
                              · have hm := sw_it c14 hm
                                refine lv_tableIn (off := 161) (tgt := 162) S.1 S.2.1 dMo_count_1 (by rw [c14]; decide) (by rw [c14]; decide) (by rw [c14]; decide) (by decide) ?_
                                exact wMo_count_162 S hr hlk hf N  μ a1 _ _ _ hm hw (lv_sub hl [0, 1] rfl)
                              · have hm := sw_if c14 hm
                                by_cases c15 : a1 = (15 : Int32)
                                · have hm := sw_it c15 hm
                                  refine lv_tableIn (off := 161) (tgt := 162) S.1 S.2.1 dMo_count_1 (by rw [c15]; decide) (by rw [c15]; decide) (by rw [c15]; decide) (by decide) ?_
                                  exact wMo_count_162 S hr hlk hf N  μ a1 _ _ _ hm hw (lv_sub hl [0, 1] rfl)
                                · have hm := sw_if c15 hm
                                  by_cases c16 : a1 = (16 : Int32)
                                  · have hm := sw_it c16 hm
                                    refine lv_tableIn (off := 161) (tgt := 162) S.1 S.2.1 dMo_count_1 (by rw [c16]; decide) (by rw [c16]; decide) (by rw [c16]; decide) (by decide) ?_
                                    exact wMo_count_162 S hr hlk hf N  μ a1 _ _ _ hm hw (lv_sub hl [0, 1] rfl)
                                  · have hm := sw_if c16 hm
                                    refine lv_tableOut (tgt := 175) S.1 S.2.1 dMo_count_1 (by have := lv_neT c0 (show ((0 : Int32)).toInt = 0 from rfl); have := lv_neT c1 (show ((1 : Int32)).toInt = 1 from rfl); have := lv_neT c2 (show ((2 : Int32)).toInt = 2 from rfl); have := lv_neT c3 (show ((3 : Int32)).toInt = 3 from rfl); have := lv_neT c4 (show ((4 : Int32)).toInt = 4 from rfl); have := lv_neT c5 (show ((5 : Int32)).toInt = 5 from rfl); have := lv_neT c6 (show ((6 : Int32)).toInt = 6 from rfl); have := lv_neT c7 (show ((7 : Int32)).toInt = 7 from rfl); have := lv_neT c8 (show ((8 : Int32)).toInt = 8 from rfl); have := lv_neT c9 (show ((9 : Int32)).toInt = 9 from rfl); have := lv_neT c10 (show ((10 : Int32)).toInt = 10 from rfl); have := lv_neT c11 (show ((11 : Int32)).toInt = 11 from rfl); have := lv_neT c12 (show ((12 : Int32)).toInt = 12 from rfl); have := lv_neT c13 (show ((13 : Int32)).toInt = 13 from rfl); have := lv_neT c14 (show ((14 : Int32)).toInt = 14 from rfl); have := lv_neT c15 (show ((15 : Int32)).toInt = 15 from rfl); have := lv_neT c16 (show ((16 : Int32)).toInt = 16 from rfl); omega) (by decide) ?_
                                    refine lv_iconst (v := (-1 : Int32)) S.1 S.2.1 dMo_count_175 (by decide) ?_
                                    obtain rfl := Option.some.inj hm
                                    exact sw_iret S hr hlk hw trivial dMo_count_176
set_option maxHeartbeats 4000000 in
set_option maxRecDepth 100000 in
theorem cMo_status (l : Launch) {Γ : sw_C} {A : Nat → Prop} {ξ : sw_x} {g : sw_g} {μ : sw_m} (hf : sw_wf ξ g.2.2) {res : Int32 × sw_m} (hm : fMo_status μ = some res) : Met l yMo_status (Cond.code yMo_status prog_10_method_141_code 1 (some .int) :: sw_tb) rmMo_status (va_Pc [.ref (ξ.2.2.2.1 84)] (sw_V Γ A ξ g μ)) (sw_Qi Γ A ξ g res.2 res.1 (True)) 0 0 A := by
  refine Met.ofW (cc := prog_10_method_141_code) (maxL := 1) (ret := some .int) (by decide) rfl ?_
  intro p e s m args below meth c s₁ B hml hv
  obtain ⟨rfl, hv⟩ := hv
  have S : CallFix p m c prog_10_method_141_code 1 s _ (Cond.code yMo_status prog_10_method_141_code 1 (some .int) :: sw_tb) R_Mo := ⟨B.exec, B.bytes, hml, findClass_of_methodNamed B.named, atoms_spec (ws := (Cond.code yMo_status prog_10_method_141_code 1 (some .int) :: sw_tb)) B.pre⟩
  have hr := B.returns
  have hlk := B.notSynchronized
  have hw := sw_begin hv
  have hl := lv_entry [.ref (ξ.2.2.2.1 84)] (n := 1) (Nat.le_of_ble_eq_true rfl)
  rw [lg_entry_eq]
  generalize (lg_sl [.ref (ξ.2.2.2.1 84)] ++ List.replicate (1 - (lg_sl [.ref (ξ.2.2.2.1 84)]).length) Slot.unset).toArray = ls at hl ⊢
  have hl : lv_has ls 1 [(0, .ref (ξ.2.2.2.1 84))] := hl
  unfold fMo_status at hm
  refine lv_aload_n S.1 S.2.1 dMo_status_0 rfl (lv_at hl 0 rfl) ?_
  refine get_Mo (v := .int (μ.1 84 0)) S hw (is_84 hf) 0 (by decide) rfl wf_Mo_3 dMo_status_1 ?_
  obtain rfl := Option.some.inj hm
  exact sw_iret S hr hlk hw trivial dMo_status_4
set_option maxHeartbeats 4000000 in
set_option maxRecDepth 100000 in
theorem wMo_readTerm_41 {l : Launch} {p : Program} {e : Env} {s : State} {m : MethodId} {args : Array Value} {below : List Frame} {meth : Method} {c : Code} {Γ : sw_C} {A : Nat → Prop} {ξ : sw_x} {g : sw_g} {res : sw_m} (S : CallFix p m c prog_10_method_53_code 2 s args (Cond.code yMo_readTerm prog_10_method_53_code 2 (none) :: sw_tb) R_Mo) (hr : meth.sig.returnType = none) (hlk : meth.locks = false) (hf : sw_wf ξ g.2.2) (rc : sw_m → Int32 → Option (sw_m)) (rr : Room) (hr0 : rr.cells = 0 ∧ rr.slots = 0) (hrc : ∀ {Γ : sw_C} {A : Nat → Prop} {ξ : sw_x} {g : sw_g} {μ : sw_m} (hf : sw_wf ξ g.2.2) (a1 : Int32) {res : sw_m}, rc μ a1 = some res → Met l yMo_readSum (Cond.code yMo_readSum prog_10_method_52_code 2 (none) :: sw_tb) rr (va_Pc [.ref (ξ.2.2.2.1 84), .int a1] (sw_V Γ A ξ g μ)) (sw_Qv Γ A ξ g res (True)) 0 0 A) (N : Nat) (k5 : sw_m → Int32 → Option (sw_m)) (hk5 : ∀ (μ : sw_m) (u1 : Int32) (H : Heap) (locs : List Loc) (ls : Array Slot), k5 μ u1 = some res → sw_S Γ A ξ g μ s H locs → lv_has ls 2 [(0, .ref (ξ.2.2.2.1 84)), (1, .int u1)] → W p l e (headSpec (Cond.code yMo_readTerm prog_10_method_53_code 2 (none) :: sw_tb) (rgMo_readTerm rr)).room s m args below meth c H locs 0 0 (MQ below (sw_Qv Γ A ξ g res (True)) args s 0 0 A) (F0 m 5 ls [])) : ∀ (μ : sw_m) (u1 : Int32) (H : Heap) (locs : List Loc) (ls : Array Slot), fMo_readTerm_41 N rc k5 μ u1 = some res → sw_S Γ A ξ g μ s H locs → lv_has ls 2 [(0, .ref (ξ.2.2.2.1 84)), (1, .int u1)] → W p l e (headSpec (Cond.code yMo_readTerm prog_10_method_53_code 2 (none) :: sw_tb) (rgMo_readTerm rr)).room s m args below meth c H locs 0 0 (MQ below (sw_Qv Γ A ξ g res (True)) args s 0 0 A) (F0 m 41 ls []) := by
  intro μ u1 H locs ls hm hw hl
  unfold fMo_readTerm_41 at hm
  refine lv_aload_n S.1 S.2.1 dMo_readTerm_41 rfl (lv_at hl 0 rfl) ?_
  refine lv_iload_n S.1 S.2.1 dMo_readTerm_42 rfl (lv_at hl 1 rfl) ?_
  obtain ⟨μ9, h8, hm⟩ := ob hm
  refine sw_Vv (q := 84) (rest := []) S hw (cMo_readPart l N rc rr hr0 hrc hf u1 h8) kMo_readPart wm_Mo_252 (is_84 hf).1 (e_Mo (is_84 hf)) rfl rfl rfl rfl hl.1 (Nat.le_of_ble_eq_true rfl) ⟨rfl, rfl, by show rr.frames + 3 + 1 ≤ rr.frames + _; omega, by show 8 + (3 + 11) + (rr.locals + 63) ≤ rr.locals + _; omega⟩ ⟨Nat.le_of_ble_eq_true rfl, Nat.le_of_ble_eq_true rfl⟩ dMo_readTerm_43 (fun H locs hw _ => ?_)
  refine lv_goto (tgt := 5) S.1 S.2.1 dMo_readTerm_46 (by decide) ?_
  exact hk5 μ9 u1 _ _ _ hm hw (lv_sub hl [0, 1] rfl)
set_option maxHeartbeats 4000000 in
set_option maxRecDepth 100000 in
theorem wMo_readTerm_5 {l : Launch} {p : Program} {e : Env} {s : State} {m : MethodId} {args : Array Value} {below : List Frame} {meth : Method} {c : Code} {Γ : sw_C} {A : Nat → Prop} {ξ : sw_x} {g : sw_g} {res : sw_m} (S : CallFix p m c prog_10_method_53_code 2 s args (Cond.code yMo_readTerm prog_10_method_53_code 2 (none) :: sw_tb) R_Mo) (hr : meth.sig.returnType = none) (hlk : meth.locks = false) (hf : sw_wf ξ g.2.2) (rc : sw_m → Int32 → Option (sw_m)) (rr : Room) (hr0 : rr.cells = 0 ∧ rr.slots = 0) (hrc : ∀ {Γ : sw_C} {A : Nat → Prop} {ξ : sw_x} {g : sw_g} {μ : sw_m} (hf : sw_wf ξ g.2.2) (a1 : Int32) {res : sw_m}, rc μ a1 = some res → Met l yMo_readSum (Cond.code yMo_readSum prog_10_method_52_code 2 (none) :: sw_tb) rr (va_Pc [.ref (ξ.2.2.2.1 84), .int a1] (sw_V Γ A ξ g μ)) (sw_Qv Γ A ξ g res (True)) 0 0 A) (N : Nat) : ∀ (fu : Nat) (μ : sw_m) (u1 : Int32) (H : Heap) (locs : List Loc) (ls : Array Slot), fMo_readTerm_5 N rc  fu μ u1 = some res → sw_S Γ A ξ g μ s H locs → lv_has ls 2 [(0, .ref (ξ.2.2.2.1 84)), (1, .int u1)] → W p l e (headSpec (Cond.code yMo_readTerm prog_10_method_53_code 2 (none) :: sw_tb) (rgMo_readTerm rr)).room s m args below meth c H locs 0 0 (MQ below (sw_Qv Γ A ξ g res (True)) args s 0 0 A) (F0 m 5 ls []) := by
  intro fu
  induction fu with
  | zero => intro μ u1 H locs ls hm; rw [fMo_readTerm_5.eq_1] at hm; cases hm
  | succ fu ih =>
    intro μ u1 H locs ls hm hw hl
    rw [fMo_readTerm_5.eq_2] at hm
    refine lv_aload_n S.1 S.2.1 dMo_readTerm_5 rfl (lv_at hl 0 rfl) ?_
    refine lv_bipush (v := (42 : Int32)) S.1 S.2.1 dMo_readTerm_6 (by decide) ?_
    obtain ⟨v4, h3, hm⟩ := ob hm
    refine sw_Si (rest := [.ref (ξ.2.2.2.1 84)]) S hw (cMo_sign l  hf (42 : Int32) h3) kMo_sign wm_Mo_245 rfl rfl hl.1 (Nat.le_of_ble_eq_true rfl) ⟨rfl, rfl, by show 0 + 1 ≤ rr.frames + _; omega, by show 8 + (1 + 11) + 0 ≤ rr.locals + _; omega⟩ ⟨Nat.le_of_ble_eq_true rfl, Nat.le_of_ble_eq_true rfl⟩ dMo_readTerm_8 (fun H locs hw _ => ?_)
    obtain ⟨⟨v7, μ6⟩, h5, hm⟩ := ob hm
    refine sw_Vi (q := 84) (rest := []) S hw (cMo_takes0 l N hf v4 h5) kMo_takes0 wm_Mo_204 (is_84 hf).1 (e_Mo (is_84 hf)) rfl rfl rfl rfl hl.1 (Nat.le_of_ble_eq_true rfl) ⟨rfl, rfl, by show 1 + 1 ≤ rr.frames + _; omega, by show 8 + (3 + 11) + 20 ≤ rr.locals + _; omega⟩ ⟨Nat.le_of_ble_eq_true rfl, Nat.le_of_ble_eq_true rfl⟩ dMo_readTerm_11 (fun H locs hw _ => ?_)
    refine bif_ne (tgt := 41) S.1 S.2.1 hm dMo_readTerm_14 (by decide) (fun hm => ?_) (fun hm => ?_)
    · exact wMo_readTerm_41 S hr hlk hf rc rr hr0 hrc N (fMo_readTerm_5 N rc  fu) ih μ6 u1 _ _ _ hm hw (lv_sub hl [0, 1] rfl)
    · refine lv_aload_n S.1 S.2.1 dMo_readTerm_17 rfl (lv_at hl 0 rfl) ?_
      refine lv_bipush (v := (47 : Int32)) S.1 S.2.1 dMo_readTerm_18 (by decide) ?_
      obtain ⟨v11, h10, hm⟩ := ob hm
      refine sw_Si (rest := [.ref (ξ.2.2.2.1 84)]) S hw (cMo_sign l  hf (47 : Int32) h10) kMo_sign wm_Mo_245 rfl rfl hl.1 (Nat.le_of_ble_eq_true rfl) ⟨rfl, rfl, by show 0 + 1 ≤ rr.frames + _; omega, by show 8 + (1 + 11) + 0 ≤ rr.locals + _; omega⟩ ⟨Nat.le_of_ble_eq_true rfl, Nat.le_of_ble_eq_true rfl⟩ dMo_readTerm_20 (fun H locs hw _ => ?_)
      obtain ⟨⟨v14, μ13⟩, h12, hm⟩ := ob hm
      refine sw_Vi (q := 84) (rest := []) S hw (cMo_takes0 l N hf v11 h12) kMo_takes0 wm_Mo_204 (is_84 hf).1 (e_Mo (is_84 hf)) rfl rfl rfl rfl hl.1 (Nat.le_of_ble_eq_true rfl) ⟨rfl, rfl, by show 1 + 1 ≤ rr.frames + _; omega, by show 8 + (3 + 11) + 20 ≤ rr.locals + _; omega⟩ ⟨Nat.le_of_ble_eq_true rfl, Nat.le_of_ble_eq_true rfl⟩ dMo_readTerm_23 (fun H locs hw _ => ?_)
      refine bif_ne (tgt := 41) S.1 S.2.1 hm dMo_readTerm_26 (by decide) (fun hm => ?_) (fun hm => ?_)
      · exact wMo_readTerm_41 S hr hlk hf rc rr hr0 hrc N (fMo_readTerm_5 N rc  fu) ih μ13 u1 _ _ _ hm hw (lv_sub hl [0, 1] rfl)
      · refine lv_aload_n S.1 S.2.1 dMo_readTerm_29 rfl (lv_at hl 0 rfl) ?_
        refine lv_bipush (v := (37 : Int32)) S.1 S.2.1 dMo_readTerm_30 (by decide) ?_
        obtain ⟨v16, h15, hm⟩ := ob hm
        refine sw_Si (rest := [.ref (ξ.2.2.2.1 84)]) S hw (cMo_sign l  hf (37 : Int32) h15) kMo_sign wm_Mo_245 rfl rfl hl.1 (Nat.le_of_ble_eq_true rfl) ⟨rfl, rfl, by show 0 + 1 ≤ rr.frames + _; omega, by show 8 + (1 + 11) + 0 ≤ rr.locals + _; omega⟩ ⟨Nat.le_of_ble_eq_true rfl, Nat.le_of_ble_eq_true rfl⟩ dMo_readTerm_32 (fun H locs hw _ => ?_)
        obtain ⟨⟨v19, μ18⟩, h17, hm⟩ := ob hm
        refine sw_Vi (q := 84) (rest := []) S hw (cMo_takes0 l N hf v16 h17) kMo_takes0 wm_Mo_204 (is_84 hf).1 (e_Mo (is_84 hf)) rfl rfl rfl rfl hl.1 (Nat.le_of_ble_eq_true rfl) ⟨rfl, rfl, by show 1 + 1 ≤ rr.frames + _; omega, by show 8 + (3 + 11) + 20 ≤ rr.locals + _; omega⟩ ⟨Nat.le_of_ble_eq_true rfl, Nat.le_of_ble_eq_true rfl⟩ dMo_readTerm_35 (fun H locs hw _ => ?_)
        refine bif_eq (tgt := 49) S.1 S.2.1 hm dMo_readTerm_38 (by decide) (fun hm => ?_) (fun hm => ?_)
        · obtain rfl := Option.some.inj hm
          exact sw_vret S hr hlk hw trivial dMo_readTerm_49
        · exact wMo_readTerm_41 S hr hlk hf rc rr hr0 hrc N (fMo_readTerm_5 N rc  fu) ih μ18 u1 _ _ _ hm hw (lv_sub hl [0, 1] rfl)
set_option maxHeartbeats 4000000 in
set_option maxRecDepth 100000 in
theorem cMo_readTerm (l : Launch) (N : Nat) (rc : sw_m → Int32 → Option (sw_m)) (rr : Room) (hr0 : rr.cells = 0 ∧ rr.slots = 0) (hrc : ∀ {Γ : sw_C} {A : Nat → Prop} {ξ : sw_x} {g : sw_g} {μ : sw_m} (hf : sw_wf ξ g.2.2) (a1 : Int32) {res : sw_m}, rc μ a1 = some res → Met l yMo_readSum (Cond.code yMo_readSum prog_10_method_52_code 2 (none) :: sw_tb) rr (va_Pc [.ref (ξ.2.2.2.1 84), .int a1] (sw_V Γ A ξ g μ)) (sw_Qv Γ A ξ g res (True)) 0 0 A) {Γ : sw_C} {A : Nat → Prop} {ξ : sw_x} {g : sw_g} {μ : sw_m} (hf : sw_wf ξ g.2.2) (a1 : Int32) {res : sw_m} (hm : fMo_readTerm N rc μ a1 = some res) : Met l yMo_readTerm (Cond.code yMo_readTerm prog_10_method_53_code 2 (none) :: sw_tb) (rgMo_readTerm rr) (va_Pc [.ref (ξ.2.2.2.1 84), .int a1] (sw_V Γ A ξ g μ)) (sw_Qv Γ A ξ g res (True)) 0 0 A := by
  refine Met.ofW (cc := prog_10_method_53_code) (maxL := 2) (ret := none) (by decide) rfl ?_
  intro p e s m args below meth c s₁ B hml hv
  obtain ⟨rfl, hv⟩ := hv
  have S : CallFix p m c prog_10_method_53_code 2 s _ (Cond.code yMo_readTerm prog_10_method_53_code 2 (none) :: sw_tb) R_Mo := ⟨B.exec, B.bytes, hml, findClass_of_methodNamed B.named, atoms_spec (ws := (Cond.code yMo_readTerm prog_10_method_53_code 2 (none) :: sw_tb)) B.pre⟩
  have hr := B.returns
  have hlk := B.notSynchronized
  have hw := sw_begin hv
  have hl := lv_entry [.ref (ξ.2.2.2.1 84), .int a1] (n := 2) (Nat.le_of_ble_eq_true rfl)
  rw [lg_entry_eq]
  generalize (lg_sl [.ref (ξ.2.2.2.1 84), .int a1] ++ List.replicate (2 - (lg_sl [.ref (ξ.2.2.2.1 84), .int a1]).length) Slot.unset).toArray = ls at hl ⊢
  have hl : lv_has ls 2 [(0, .ref (ξ.2.2.2.1 84)), (1, .int a1)] := hl
  unfold fMo_readTerm at hm
  refine lv_aload_n S.1 S.2.1 dMo_readTerm_0 rfl (lv_at hl 0 rfl) ?_
  refine lv_iload_n S.1 S.2.1 dMo_readTerm_1 rfl (lv_at hl 1 rfl) ?_
  obtain ⟨μ2, h1, hm⟩ := ob hm
  refine sw_Vv (q := 84) (rest := []) S hw (cMo_readPart l N rc rr hr0 hrc hf a1 h1) kMo_readPart wm_Mo_252 (is_84 hf).1 (e_Mo (is_84 hf)) rfl rfl rfl rfl hl.1 (Nat.le_of_ble_eq_true rfl) ⟨rfl, rfl, by show rr.frames + 3 + 1 ≤ rr.frames + _; omega, by show 8 + (3 + 11) + (rr.locals + 63) ≤ rr.locals + _; omega⟩ ⟨Nat.le_of_ble_eq_true rfl, Nat.le_of_ble_eq_true rfl⟩ dMo_readTerm_2 (fun H locs hw _ => ?_)
  exact wMo_readTerm_5 S hr hlk hf rc rr hr0 hrc N  N μ2 a1 _ _ _ hm hw (lv_sub hl [0, 1] rfl)
set_option maxHeartbeats 4000000 in
set_option maxRecDepth 100000 in
theorem wMo_partOf_94 {l : Launch} {p : Program} {e : Env} {s : State} {m : MethodId} {args : Array Value} {below : List Frame} {meth : Method} {c : Code} {Γ : sw_C} {A : Nat → Prop} {ξ : sw_x} {g : sw_g} {res : Int64 × sw_m} (S : CallFix p m c prog_10_method_67_code 4 s args (Cond.code yMo_partOf prog_10_method_67_code 4 (some .long) :: sw_tb) R_Mo) (hr : meth.sig.returnType = some .long) (hlk : meth.locks = false) (hf : sw_wf ξ g.2.2) (rc : sw_m → Int32 → Option (Int64 × sw_m)) (rr : Room) (hr0 : rr.cells = 0 ∧ rr.slots = 0) (hrc : ∀ {Γ : sw_C} {A : Nat → Prop} {ξ : sw_x} {g : sw_g} {μ : sw_m} (hf : sw_wf ξ g.2.2) (a1 : Int32) {res : Int64 × sw_m}, rc μ a1 = some res → Met l yMo_sumOf (Cond.code yMo_sumOf prog_10_method_65_code 7 (some .long) :: sw_tb) rr (va_Pc [.ref (ξ.2.2.2.1 84), .int a1] (sw_V Γ A ξ g μ)) (sw_Ql Γ A ξ g res.2 res.1 (True)) 0 0 A) (N : Nat) : ∀ (μ : sw_m) (u1 : Int32) (u2 : Int32) (u3 : Int32) (H : Heap) (locs : List Loc) (ls : Array Slot), fMo_partOf_94 N rc  μ u1 u2 u3 = some res → sw_S Γ A ξ g μ s H locs → lv_has ls 4 [(0, .ref (ξ.2.2.2.1 84)), (1, .int u1), (2, .int u2), (3, .int u3)] → W p l e (headSpec (Cond.code yMo_partOf prog_10_method_67_code 4 (some .long) :: sw_tb) (rgMo_partOf rr)).room s m args below meth c H locs 0 0 (MQ below (sw_Ql Γ A ξ g res.2 res.1 (True)) args s 0 0 A) (F0 m 94 ls []) := by
  intro μ u1 u2 u3 H locs ls hm hw hl
  unfold fMo_partOf_94 at hm
  refine lv_iload_n S.1 S.2.1 dMo_partOf_94 rfl (lv_at hl 1 rfl) ?_
  refine bif_eq (tgt := 105) S.1 S.2.1 hm dMo_partOf_95 (by decide) (fun hm => ?_) (fun hm => ?_)
  · refine lv_lconst (v := (0 : Int64)) S.1 S.2.1 dMo_partOf_105 (by decide) ?_
    obtain rfl := Option.some.inj hm
    exact sw_lret S hr hlk hw trivial dMo_partOf_106
  · refine lv_aload_n S.1 S.2.1 dMo_partOf_98 rfl (lv_at hl 0 rfl) ?_
    refine get_Mo (v := .int (μ.1 84 24)) S hw (is_84 hf) 24 (by decide) rfl wf_Mo_296 dMo_partOf_99 ?_
    refine bif_eq (tgt := 107) S.1 S.2.1 hm dMo_partOf_102 (by decide) (fun hm => ?_) (fun hm => ?_)
    · refine lv_iload_n S.1 S.2.1 dMo_partOf_107 rfl (lv_at hl 2 rfl) ?_
      refine lv_bipush (v := (50 : Int32)) S.1 S.2.1 dMo_partOf_108 (by decide) ?_
      refine bicmp_ne (tgt := 130) S.1 S.2.1 hm dMo_partOf_110 (by decide) (fun hm => ?_) (fun hm => ?_)
      · refine lv_aload_n S.1 S.2.1 dMo_partOf_130 rfl (lv_at hl 0 rfl) ?_
        refine get_Mo (v := .int (μ.1 84 25)) S hw (is_84 hf) 25 (by decide) rfl wf_Mo_316 dMo_partOf_131 ?_
        refine bif_eq (tgt := 147) S.1 S.2.1 hm dMo_partOf_134 (by decide) (fun hm => ?_) (fun hm => ?_)
        · refine lv_aload_n S.1 S.2.1 dMo_partOf_147 rfl (lv_at hl 0 rfl) ?_
          refine get_Mo (v := .ref (ξ.2.2.2.1 96)) S hw (is_84 hf) 26 (by decide) rfl wf_Mo_63 dMo_partOf_148 ?_
          refine lv_iload_n S.1 S.2.1 dMo_partOf_151 rfl (lv_at hl 2 rfl) ?_
          refine lv_bipush (v := (8 : Int32)) S.1 S.2.1 dMo_partOf_152 (by decide) ?_
          refine lv_isub S.1 S.2.1 dMo_partOf_154 ?_
          refine sm_iald S hw (is_96 hf) hm dMo_partOf_155 (fun v10 hm => ?_)
          refine lv_i2l (v := (v10).toInt64) S.1 S.2.1 dMo_partOf_156 rfl ?_
          obtain rfl := Option.some.inj hm
          exact sw_lret S hr hlk hw trivial dMo_partOf_157
        · refine lv_aload_n S.1 S.2.1 dMo_partOf_137 rfl (lv_at hl 0 rfl) ?_
          refine lv_iload_n S.1 S.2.1 dMo_partOf_138 rfl (lv_at hl 2 rfl) ?_
          refine lv_iload_n S.1 S.2.1 dMo_partOf_139 rfl (lv_at hl 3 rfl) ?_
          obtain ⟨⟨v13, μ12⟩, h11, hm⟩ := ob hm
          refine sw_Vi (q := 84) (rest := []) S hw (cMo_orderValue l N hf u2 u3 h11) kMo_orderValue wm_Mo_319 (is_84 hf).1 (e_Mo (is_84 hf)) rfl rfl rfl rfl hl.1 (Nat.le_of_ble_eq_true rfl) ⟨rfl, rfl, by show 2 + 1 ≤ rr.frames + _; omega, by show 8 + (3 + 11) + 43 ≤ rr.locals + _; omega⟩ ⟨Nat.le_of_ble_eq_true rfl, Nat.le_of_ble_eq_true rfl⟩ dMo_partOf_140 (fun H locs hw _ => ?_)
          refine lv_i2l (v := (v13).toInt64) S.1 S.2.1 dMo_partOf_143 rfl ?_
          refine lv_goto (tgt := 157) S.1 S.2.1 dMo_partOf_144 (by decide) ?_
          obtain rfl := Option.some.inj hm
          exact sw_lret S hr hlk hw trivial dMo_partOf_157
      · refine lv_aload_n S.1 S.2.1 dMo_partOf_113 rfl (lv_at hl 0 rfl) ?_
        refine get_Mo (v := .ref (ξ.2.2.2.1 86)) S hw (is_84 hf) 2 (by decide) rfl wf_Mo_28 dMo_partOf_114 ?_
        refine lv_sipush (v := (2854 : Int32)) S.1 S.2.1 dMo_partOf_117 (by decide) ?_
        refine lv_aload_n S.1 S.2.1 dMo_partOf_120 rfl (lv_at hl 0 rfl) ?_
        refine get_Mo (v := .int (μ.1 84 22)) S hw (is_84 hf) 22 (by decide) rfl wf_Mo_286 dMo_partOf_121 ?_
        refine lv_iadd S.1 S.2.1 dMo_partOf_124 ?_
        refine lv_iconst (v := (1 : Int32)) S.1 S.2.1 dMo_partOf_125 (by decide) ?_
        refine lv_isub S.1 S.2.1 dMo_partOf_126 ?_
        refine sm_iald S hw (is_86 hf) hm dMo_partOf_127 (fun v14 hm => ?_)
        refine lv_i2l (v := (v14).toInt64) S.1 S.2.1 dMo_partOf_128 rfl ?_
        obtain rfl := Option.some.inj hm
        exact sw_lret S hr hlk hw trivial dMo_partOf_129
    · refine lv_lconst (v := (0 : Int64)) S.1 S.2.1 dMo_partOf_105 (by decide) ?_
      obtain rfl := Option.some.inj hm
      exact sw_lret S hr hlk hw trivial dMo_partOf_106
set_option maxHeartbeats 4000000 in
set_option maxRecDepth 100000 in
theorem wMo_partOf_70 {l : Launch} {p : Program} {e : Env} {s : State} {m : MethodId} {args : Array Value} {below : List Frame} {meth : Method} {c : Code} {Γ : sw_C} {A : Nat → Prop} {ξ : sw_x} {g : sw_g} {res : Int64 × sw_m} (S : CallFix p m c prog_10_method_67_code 4 s args (Cond.code yMo_partOf prog_10_method_67_code 4 (some .long) :: sw_tb) R_Mo) (hr : meth.sig.returnType = some .long) (hlk : meth.locks = false) (hf : sw_wf ξ g.2.2) (rc : sw_m → Int32 → Option (Int64 × sw_m)) (rr : Room) (hr0 : rr.cells = 0 ∧ rr.slots = 0) (hrc : ∀ {Γ : sw_C} {A : Nat → Prop} {ξ : sw_x} {g : sw_g} {μ : sw_m} (hf : sw_wf ξ g.2.2) (a1 : Int32) {res : Int64 × sw_m}, rc μ a1 = some res → Met l yMo_sumOf (Cond.code yMo_sumOf prog_10_method_65_code 7 (some .long) :: sw_tb) rr (va_Pc [.ref (ξ.2.2.2.1 84), .int a1] (sw_V Γ A ξ g μ)) (sw_Ql Γ A ξ g res.2 res.1 (True)) 0 0 A) (N : Nat) : ∀ (μ : sw_m) (u1 : Int32) (u2 : Int32) (H : Heap) (locs : List Loc) (ls : Array Slot), fMo_partOf_70 N rc  μ u1 u2 = some res → sw_S Γ A ξ g μ s H locs → lv_has ls 4 [(0, .ref (ξ.2.2.2.1 84)), (1, .int u1), (2, .int u2)] → W p l e (headSpec (Cond.code yMo_partOf prog_10_method_67_code 4 (some .long) :: sw_tb) (rgMo_partOf rr)).room s m args below meth c H locs 0 0 (MQ below (sw_Ql Γ A ξ g res.2 res.1 (True)) args s 0 0 A) (F0 m 70 ls []) := by
  intro μ u1 u2 H locs ls hm hw hl
  unfold fMo_partOf_70 at hm
  refine lv_aload_n S.1 S.2.1 dMo_partOf_70 rfl (lv_at hl 0 rfl) ?_
  refine get_Mo (v := .ref (ξ.2.2.2.1 86)) S hw (is_84 hf) 2 (by decide) rfl wf_Mo_28 dMo_partOf_71 ?_
  refine lv_sipush (v := (2854 : Int32)) S.1 S.2.1 dMo_partOf_74 (by decide) ?_
  refine lv_aload_n S.1 S.2.1 dMo_partOf_77 rfl (lv_at hl 0 rfl) ?_
  refine get_Mo (v := .int (μ.1 84 22)) S hw (is_84 hf) 22 (by decide) rfl wf_Mo_286 dMo_partOf_78 ?_
  refine lv_iadd S.1 S.2.1 dMo_partOf_81 ?_
  refine sm_iald S hw (is_86 hf) hm dMo_partOf_82 (fun v15 hm => ?_)
  refine lv_istore_n (lv' := [(3, .int v15), (0, .ref (ξ.2.2.2.1 84)), (1, .int u1), (2, .int u2)]) S.1 S.2.1 dMo_partOf_83 rfl hl (by decide) rfl (fun ls hl => ?_)
  refine lv_aload_n S.1 S.2.1 dMo_partOf_84 rfl (lv_at hl 1 rfl) ?_
  refine lv_dup S.1 S.2.1 dMo_partOf_85 rfl ?_
  refine get_Mo (v := .int (μ.1 84 22)) S hw (is_84 hf) 22 (by decide) rfl wf_Mo_286 dMo_partOf_86 ?_
  refine lv_iconst (v := (1 : Int32)) S.1 S.2.1 dMo_partOf_89 (by decide) ?_
  refine lv_iadd S.1 S.2.1 dMo_partOf_90 ?_
  refine put_Mo S hw (is_84 hf) 22 (by decide) ps_Mo_22 rfl rfl rfl wf_Mo_286 hm dMo_partOf_91 (fun μ16 H locs hm hw => ?_)
  exact wMo_partOf_94 S hr hlk hf rc rr hr0 hrc N  μ16 u1 u2 v15 _ _ _ hm hw (lv_sub hl [1, 2, 3, 0] rfl)
set_option maxHeartbeats 4000000 in
set_option maxRecDepth 100000 in
theorem cMo_partOf (l : Launch) (N : Nat) (rc : sw_m → Int32 → Option (Int64 × sw_m)) (rr : Room) (hr0 : rr.cells = 0 ∧ rr.slots = 0) (hrc : ∀ {Γ : sw_C} {A : Nat → Prop} {ξ : sw_x} {g : sw_g} {μ : sw_m} (hf : sw_wf ξ g.2.2) (a1 : Int32) {res : Int64 × sw_m}, rc μ a1 = some res → Met l yMo_sumOf (Cond.code yMo_sumOf prog_10_method_65_code 7 (some .long) :: sw_tb) rr (va_Pc [.ref (ξ.2.2.2.1 84), .int a1] (sw_V Γ A ξ g μ)) (sw_Ql Γ A ξ g res.2 res.1 (True)) 0 0 A) {Γ : sw_C} {A : Nat → Prop} {ξ : sw_x} {g : sw_g} {μ : sw_m} (hf : sw_wf ξ g.2.2) (a1 : Int32) {res : Int64 × sw_m} (hm : fMo_partOf N rc μ a1 = some res) : Met l yMo_partOf (Cond.code yMo_partOf prog_10_method_67_code 4 (some .long) :: sw_tb) (rgMo_partOf rr) (va_Pc [.ref (ξ.2.2.2.1 84), .int a1] (sw_V Γ A ξ g μ)) (sw_Ql Γ A ξ g res.2 res.1 (True)) 0 0 A := by
  refine Met.ofW (cc := prog_10_method_67_code) (maxL := 4) (ret := some .long) (by decide) rfl ?_
  intro p e s m args below meth c s₁ B hml hv
  obtain ⟨rfl, hv⟩ := hv
  have S : CallFix p m c prog_10_method_67_code 4 s _ (Cond.code yMo_partOf prog_10_method_67_code 4 (some .long) :: sw_tb) R_Mo := ⟨B.exec, B.bytes, hml, findClass_of_methodNamed B.named, atoms_spec (ws := (Cond.code yMo_partOf prog_10_method_67_code 4 (some .long) :: sw_tb)) B.pre⟩
  have hr := B.returns
  have hlk := B.notSynchronized
  have hw := sw_begin hv
  have hl := lv_entry [.ref (ξ.2.2.2.1 84), .int a1] (n := 4) (Nat.le_of_ble_eq_true rfl)
  rw [lg_entry_eq]
  generalize (lg_sl [.ref (ξ.2.2.2.1 84), .int a1] ++ List.replicate (4 - (lg_sl [.ref (ξ.2.2.2.1 84), .int a1]).length) Slot.unset).toArray = ls at hl ⊢
  have hl : lv_has ls 4 [(0, .ref (ξ.2.2.2.1 84)), (1, .int a1)] := hl
  unfold fMo_partOf at hm
  refine lv_aload_n S.1 S.2.1 dMo_partOf_0 rfl (lv_at hl 0 rfl) ?_
  refine lv_bipush (v := (91 : Int32)) S.1 S.2.1 dMo_partOf_1 (by decide) ?_
  obtain ⟨v2, h1, hm⟩ := ob hm
  refine sw_Si (rest := [.ref (ξ.2.2.2.1 84)]) S hw (cMo_sign l  hf (91 : Int32) h1) kMo_sign wm_Mo_245 rfl rfl hl.1 (Nat.le_of_ble_eq_true rfl) ⟨rfl, rfl, by show 0 + 1 ≤ rr.frames + _; omega, by show 8 + (1 + 11) + 0 ≤ rr.locals + _; omega⟩ ⟨Nat.le_of_ble_eq_true rfl, Nat.le_of_ble_eq_true rfl⟩ dMo_partOf_3 (fun H locs hw _ => ?_)
  obtain ⟨⟨v5, μ4⟩, h3, hm⟩ := ob hm
  refine sw_Vi (q := 84) (rest := []) S hw (cMo_passes0 l N hf v2 h3) kMo_passes0 wm_Mo_310 (is_84 hf).1 (e_Mo (is_84 hf)) rfl rfl rfl rfl hl.1 (Nat.le_of_ble_eq_true rfl) ⟨rfl, rfl, by show 1 + 1 ≤ rr.frames + _; omega, by show 8 + (3 + 11) + 21 ≤ rr.locals + _; omega⟩ ⟨Nat.le_of_ble_eq_true rfl, Nat.le_of_ble_eq_true rfl⟩ dMo_partOf_6 (fun H locs hw _ => ?_)
  refine bif_eq (tgt := 30) S.1 S.2.1 hm dMo_partOf_9 (by decide) (fun hm => ?_) (fun hm => ?_)
  · refine lv_aload_n S.1 S.2.1 dMo_partOf_30 rfl (lv_at hl 0 rfl) ?_
    refine lv_aload_n S.1 S.2.1 dMo_partOf_31 rfl (lv_at hl 0 rfl) ?_
    refine get_Mo (v := .int (μ4.1 84 22)) S hw (is_84 hf) 22 (by decide) rfl wf_Mo_286 dMo_partOf_32 ?_
    obtain ⟨⟨v8, μ7⟩, h6, hm⟩ := ob hm
    refine sw_Vi (q := 84) (rest := []) S hw (cMo_codeAt l  hf (μ4.1 84 22) h6) kMo_codeAt wm_Mo_289 (is_84 hf).1 (e_Mo (is_84 hf)) rfl rfl rfl rfl hl.1 (Nat.le_of_ble_eq_true rfl) ⟨rfl, rfl, by show 0 + 1 ≤ rr.frames + _; omega, by show 8 + (2 + 11) + 0 ≤ rr.locals + _; omega⟩ ⟨Nat.le_of_ble_eq_true rfl, Nat.le_of_ble_eq_true rfl⟩ dMo_partOf_35 (fun H locs hw _ => ?_)
    refine lv_istore_n (lv' := [(2, .int v8), (0, .ref (ξ.2.2.2.1 84)), (1, .int a1)]) S.1 S.2.1 dMo_partOf_38 rfl hl (by decide) rfl (fun ls hl => ?_)
    refine lv_iconst (v := (0 : Int32)) S.1 S.2.1 dMo_partOf_39 (by decide) ?_
    refine lv_istore_n (lv' := [(3, .int (0 : Int32)), (2, .int v8), (0, .ref (ξ.2.2.2.1 84)), (1, .int a1)]) S.1 S.2.1 dMo_partOf_40 rfl hl (by decide) rfl (fun ls hl => ?_)
    refine lv_aload_n S.1 S.2.1 dMo_partOf_41 rfl (lv_at hl 2 rfl) ?_
    refine lv_dup S.1 S.2.1 dMo_partOf_42 rfl ?_
    refine get_Mo (v := .int (μ7.1 84 22)) S hw (is_84 hf) 22 (by decide) rfl wf_Mo_286 dMo_partOf_43 ?_
    refine lv_iconst (v := (1 : Int32)) S.1 S.2.1 dMo_partOf_46 (by decide) ?_
    refine lv_iadd S.1 S.2.1 dMo_partOf_47 ?_
    refine put_Mo S hw (is_84 hf) 22 (by decide) ps_Mo_22 rfl rfl rfl wf_Mo_286 hm dMo_partOf_48 (fun μ9 H locs hm hw => ?_)
    refine lv_aload_n S.1 S.2.1 dMo_partOf_51 rfl (lv_at hl 2 rfl) ?_
    refine get_Mo (v := .int (μ9.1 84 25)) S hw (is_84 hf) 25 (by decide) rfl wf_Mo_316 dMo_partOf_52 ?_
    refine bif_eq (tgt := 94) S.1 S.2.1 hm dMo_partOf_55 (by decide) (fun hm => ?_) (fun hm => ?_)
    · exact wMo_partOf_94 S hr hlk hf rc rr hr0 hrc N  μ9 a1 v8 (0 : Int32) _ _ _ hm hw (lv_sub hl [2, 3, 1, 0] rfl)
    · refine lv_iload_n S.1 S.2.1 dMo_partOf_58 rfl (lv_at hl 1 rfl) ?_
      refine lv_bipush (v := (14 : Int32)) S.1 S.2.1 dMo_partOf_59 (by decide) ?_
      refine bicmp_eq (tgt := 70) S.1 S.2.1 hm dMo_partOf_61 (by decide) (fun hm => ?_) (fun hm => ?_)
      · exact wMo_partOf_70 S hr hlk hf rc rr hr0 hrc N  μ9 a1 v8 _ _ _ hm hw (lv_sub hl [2, 3, 1] rfl)
      · refine lv_iload_n S.1 S.2.1 dMo_partOf_64 rfl (lv_at hl 1 rfl) ?_
        refine lv_bipush (v := (20 : Int32)) S.1 S.2.1 dMo_partOf_65 (by decide) ?_
        refine bicmp_ne (tgt := 94) S.1 S.2.1 hm dMo_partOf_67 (by decide) (fun hm => ?_) (fun hm => ?_)
        · exact wMo_partOf_94 S hr hlk hf rc rr hr0 hrc N  μ9 a1 v8 (0 : Int32) _ _ _ hm hw (lv_sub hl [2, 3, 1, 0] rfl)
        · exact wMo_partOf_70 S hr hlk hf rc rr hr0 hrc N  μ9 a1 v8 _ _ _ hm hw (lv_sub hl [2, 3, 1] rfl)
  · refine lv_aload_n S.1 S.2.1 dMo_partOf_12 rfl (lv_at hl 0 rfl) ?_
    refine lv_iload_n S.1 S.2.1 dMo_partOf_13 rfl (lv_at hl 1 rfl) ?_
    obtain ⟨⟨v19, μ18⟩, h17, hm⟩ := ob hm
    refine sw_Vl (q := 84) (rest := []) S hw (hrc hf a1 h17) kMo_sumOf wm_Mo_313 (is_84 hf).1 (e_Mo (is_84 hf)) rfl rfl rfl rfl hl.1 (Nat.le_of_ble_eq_true rfl) ⟨hr0.1, hr0.2, by show rr.frames + 1 ≤ rr.frames + _; omega, by show 8 + (7 + 11) + rr.locals ≤ rr.locals + _; omega⟩ ⟨Nat.le_of_ble_eq_true rfl, Nat.le_of_ble_eq_true rfl⟩ dMo_partOf_14 (fun H locs hw _ => ?_)
    refine lv_lstore_n (lv' := [(2, .long v19), (0, .ref (ξ.2.2.2.1 84)), (1, .int a1)]) S.1 S.2.1 dMo_partOf_17 rfl hl (by decide) rfl (fun ls hl => ?_)
    refine lv_aload_n S.1 S.2.1 dMo_partOf_18 rfl (lv_at hl 1 rfl) ?_
    refine lv_dup S.1 S.2.1 dMo_partOf_19 rfl ?_
    refine get_Mo (v := .int (μ18.1 84 22)) S hw (is_84 hf) 22 (by decide) rfl wf_Mo_286 dMo_partOf_20 ?_
    refine lv_iconst (v := (1 : Int32)) S.1 S.2.1 dMo_partOf_23 (by decide) ?_
    refine lv_iadd S.1 S.2.1 dMo_partOf_24 ?_
    refine put_Mo S hw (is_84 hf) 22 (by decide) ps_Mo_22 rfl rfl rfl wf_Mo_286 hm dMo_partOf_25 (fun μ20 H locs hm hw => ?_)
    refine lv_lload_n S.1 S.2.1 dMo_partOf_28 rfl (lv_at hl 0 rfl) ?_
    obtain rfl := Option.some.inj hm
    exact sw_lret S hr hlk hw trivial dMo_partOf_29
set_option maxHeartbeats 4000000 in
set_option maxRecDepth 100000 in
theorem wMo_readSum_29 {l : Launch} {p : Program} {e : Env} {s : State} {m : MethodId} {args : Array Value} {below : List Frame} {meth : Method} {c : Code} {Γ : sw_C} {A : Nat → Prop} {ξ : sw_x} {g : sw_g} {res : sw_m} (S : CallFix p m c prog_10_method_52_code 2 s args (Cond.code yMo_readSum prog_10_method_52_code 2 (none) :: sw_tb) R_Mo) (hr : meth.sig.returnType = none) (hlk : meth.locks = false) (hf : sw_wf ξ g.2.2) (rc : sw_m → Int32 → Option (sw_m)) (rr : Room) (hr0 : rr.cells = 0 ∧ rr.slots = 0) (hrc : ∀ {Γ : sw_C} {A : Nat → Prop} {ξ : sw_x} {g : sw_g} {μ : sw_m} (hf : sw_wf ξ g.2.2) (a1 : Int32) {res : sw_m}, rc μ a1 = some res → Met l yMo_readSum (Cond.code yMo_readSum prog_10_method_52_code 2 (none) :: sw_tb) rr (va_Pc [.ref (ξ.2.2.2.1 84), .int a1] (sw_V Γ A ξ g μ)) (sw_Qv Γ A ξ g res (True)) 0 0 A) (N : Nat) (k5 : sw_m → Int32 → Option (sw_m)) (hk5 : ∀ (μ : sw_m) (u1 : Int32) (H : Heap) (locs : List Loc) (ls : Array Slot), k5 μ u1 = some res → sw_S Γ A ξ g μ s H locs → lv_has ls 2 [(0, .ref (ξ.2.2.2.1 84)), (1, .int u1)] → W p l e (headSpec (Cond.code yMo_readSum prog_10_method_52_code 2 (none) :: sw_tb) (rgMo_readSum rr)).room s m args below meth c H locs 0 0 (MQ below (sw_Qv Γ A ξ g res (True)) args s 0 0 A) (F0 m 5 ls [])) : ∀ (μ : sw_m) (u1 : Int32) (H : Heap) (locs : List Loc) (ls : Array Slot), fMo_readSum_b_29 N rc k5 μ u1 = some res → sw_S Γ A ξ g μ s H locs → lv_has ls 2 [(0, .ref (ξ.2.2.2.1 84)), (1, .int u1)] → W p l e (headSpec (Cond.code yMo_readSum prog_10_method_52_code 2 (none) :: sw_tb) (rgMo_readSum rr)).room s m args below meth c H locs 0 0 (MQ below (sw_Qv Γ A ξ g res (True)) args s 0 0 A) (F0 m 29 ls []) := by
  intro μ u1 H locs ls hm hw hl
  unfold fMo_readSum_b_29 at hm
  refine lv_aload_n S.1 S.2.1 dMo_readSum_29 rfl (lv_at hl 0 rfl) ?_
  refine lv_iload_n S.1 S.2.1 dMo_readSum_30 rfl (lv_at hl 1 rfl) ?_
  obtain ⟨μ9, h8, hm⟩ := ob hm
  refine sw_Vv (q := 84) (rest := []) S hw (cMo_readTerm l N rc rr hr0 hrc hf u1 h8) kMo_readTerm wm_Mo_249 (is_84 hf).1 (e_Mo (is_84 hf)) rfl rfl rfl rfl hl.1 (Nat.le_of_ble_eq_true rfl) ⟨rfl, rfl, by show rr.frames + 4 + 1 ≤ rr.frames + _; omega, by show 8 + (2 + 11) + (rr.locals + 85) ≤ rr.locals + _; omega⟩ ⟨Nat.le_of_ble_eq_true rfl, Nat.le_of_ble_eq_true rfl⟩ dMo_readSum_31 (fun H locs hw _ => ?_)
  refine lv_goto (tgt := 5) S.1 S.2.1 dMo_readSum_34 (by decide) ?_
  exact hk5 μ9 u1 _ _ _ hm hw (lv_sub hl [0, 1] rfl)
set_option maxHeartbeats 4000000 in
set_option maxRecDepth 100000 in
theorem wMo_readSum_5 {l : Launch} {p : Program} {e : Env} {s : State} {m : MethodId} {args : Array Value} {below : List Frame} {meth : Method} {c : Code} {Γ : sw_C} {A : Nat → Prop} {ξ : sw_x} {g : sw_g} {res : sw_m} (S : CallFix p m c prog_10_method_52_code 2 s args (Cond.code yMo_readSum prog_10_method_52_code 2 (none) :: sw_tb) R_Mo) (hr : meth.sig.returnType = none) (hlk : meth.locks = false) (hf : sw_wf ξ g.2.2) (rc : sw_m → Int32 → Option (sw_m)) (rr : Room) (hr0 : rr.cells = 0 ∧ rr.slots = 0) (hrc : ∀ {Γ : sw_C} {A : Nat → Prop} {ξ : sw_x} {g : sw_g} {μ : sw_m} (hf : sw_wf ξ g.2.2) (a1 : Int32) {res : sw_m}, rc μ a1 = some res → Met l yMo_readSum (Cond.code yMo_readSum prog_10_method_52_code 2 (none) :: sw_tb) rr (va_Pc [.ref (ξ.2.2.2.1 84), .int a1] (sw_V Γ A ξ g μ)) (sw_Qv Γ A ξ g res (True)) 0 0 A) (N : Nat) : ∀ (fu : Nat) (μ : sw_m) (u1 : Int32) (H : Heap) (locs : List Loc) (ls : Array Slot), fMo_readSum_b_5 N rc  fu μ u1 = some res → sw_S Γ A ξ g μ s H locs → lv_has ls 2 [(0, .ref (ξ.2.2.2.1 84)), (1, .int u1)] → W p l e (headSpec (Cond.code yMo_readSum prog_10_method_52_code 2 (none) :: sw_tb) (rgMo_readSum rr)).room s m args below meth c H locs 0 0 (MQ below (sw_Qv Γ A ξ g res (True)) args s 0 0 A) (F0 m 5 ls []) := by
  intro fu
  induction fu with
  | zero => intro μ u1 H locs ls hm; rw [fMo_readSum_b_5.eq_1] at hm; cases hm
  | succ fu ih =>
    intro μ u1 H locs ls hm hw hl
    rw [fMo_readSum_b_5.eq_2] at hm
    refine lv_aload_n S.1 S.2.1 dMo_readSum_5 rfl (lv_at hl 0 rfl) ?_
    refine lv_bipush (v := (43 : Int32)) S.1 S.2.1 dMo_readSum_6 (by decide) ?_
    obtain ⟨v4, h3, hm⟩ := ob hm
    refine sw_Si (rest := [.ref (ξ.2.2.2.1 84)]) S hw (cMo_sign l  hf (43 : Int32) h3) kMo_sign wm_Mo_245 rfl rfl hl.1 (Nat.le_of_ble_eq_true rfl) ⟨rfl, rfl, by show 0 + 1 ≤ rr.frames + _; omega, by show 8 + (1 + 11) + 0 ≤ rr.locals + _; omega⟩ ⟨Nat.le_of_ble_eq_true rfl, Nat.le_of_ble_eq_true rfl⟩ dMo_readSum_8 (fun H locs hw _ => ?_)
    obtain ⟨⟨v7, μ6⟩, h5, hm⟩ := ob hm
    refine sw_Vi (q := 84) (rest := []) S hw (cMo_takes0 l N hf v4 h5) kMo_takes0 wm_Mo_204 (is_84 hf).1 (e_Mo (is_84 hf)) rfl rfl rfl rfl hl.1 (Nat.le_of_ble_eq_true rfl) ⟨rfl, rfl, by show 1 + 1 ≤ rr.frames + _; omega, by show 8 + (3 + 11) + 20 ≤ rr.locals + _; omega⟩ ⟨Nat.le_of_ble_eq_true rfl, Nat.le_of_ble_eq_true rfl⟩ dMo_readSum_11 (fun H locs hw _ => ?_)
    refine bif_ne (tgt := 29) S.1 S.2.1 hm dMo_readSum_14 (by decide) (fun hm => ?_) (fun hm => ?_)
    · exact wMo_readSum_29 S hr hlk hf rc rr hr0 hrc N (fMo_readSum_b_5 N rc  fu) ih μ6 u1 _ _ _ hm hw (lv_sub hl [0, 1] rfl)
    · refine lv_aload_n S.1 S.2.1 dMo_readSum_17 rfl (lv_at hl 0 rfl) ?_
      refine lv_bipush (v := (45 : Int32)) S.1 S.2.1 dMo_readSum_18 (by decide) ?_
      obtain ⟨v11, h10, hm⟩ := ob hm
      refine sw_Si (rest := [.ref (ξ.2.2.2.1 84)]) S hw (cMo_sign l  hf (45 : Int32) h10) kMo_sign wm_Mo_245 rfl rfl hl.1 (Nat.le_of_ble_eq_true rfl) ⟨rfl, rfl, by show 0 + 1 ≤ rr.frames + _; omega, by show 8 + (1 + 11) + 0 ≤ rr.locals + _; omega⟩ ⟨Nat.le_of_ble_eq_true rfl, Nat.le_of_ble_eq_true rfl⟩ dMo_readSum_20 (fun H locs hw _ => ?_)
      obtain ⟨⟨v14, μ13⟩, h12, hm⟩ := ob hm
      refine sw_Vi (q := 84) (rest := []) S hw (cMo_takes0 l N hf v11 h12) kMo_takes0 wm_Mo_204 (is_84 hf).1 (e_Mo (is_84 hf)) rfl rfl rfl rfl hl.1 (Nat.le_of_ble_eq_true rfl) ⟨rfl, rfl, by show 1 + 1 ≤ rr.frames + _; omega, by show 8 + (3 + 11) + 20 ≤ rr.locals + _; omega⟩ ⟨Nat.le_of_ble_eq_true rfl, Nat.le_of_ble_eq_true rfl⟩ dMo_readSum_23 (fun H locs hw _ => ?_)
      refine bif_eq (tgt := 37) S.1 S.2.1 hm dMo_readSum_26 (by decide) (fun hm => ?_) (fun hm => ?_)
      · obtain rfl := Option.some.inj hm
        exact sw_vret S hr hlk hw trivial dMo_readSum_37
      · exact wMo_readSum_29 S hr hlk hf rc rr hr0 hrc N (fMo_readSum_b_5 N rc  fu) ih μ13 u1 _ _ _ hm hw (lv_sub hl [0, 1] rfl)
set_option maxHeartbeats 4000000 in
set_option maxRecDepth 100000 in
theorem cMo_readSum_b (l : Launch) (N : Nat) (rc : sw_m → Int32 → Option (sw_m)) (rr : Room) (hr0 : rr.cells = 0 ∧ rr.slots = 0) (hrc : ∀ {Γ : sw_C} {A : Nat → Prop} {ξ : sw_x} {g : sw_g} {μ : sw_m} (hf : sw_wf ξ g.2.2) (a1 : Int32) {res : sw_m}, rc μ a1 = some res → Met l yMo_readSum (Cond.code yMo_readSum prog_10_method_52_code 2 (none) :: sw_tb) rr (va_Pc [.ref (ξ.2.2.2.1 84), .int a1] (sw_V Γ A ξ g μ)) (sw_Qv Γ A ξ g res (True)) 0 0 A) {Γ : sw_C} {A : Nat → Prop} {ξ : sw_x} {g : sw_g} {μ : sw_m} (hf : sw_wf ξ g.2.2) (a1 : Int32) {res : sw_m} (hm : fMo_readSum_b N rc μ a1 = some res) : Met l yMo_readSum (Cond.code yMo_readSum prog_10_method_52_code 2 (none) :: sw_tb) (rgMo_readSum rr) (va_Pc [.ref (ξ.2.2.2.1 84), .int a1] (sw_V Γ A ξ g μ)) (sw_Qv Γ A ξ g res (True)) 0 0 A := by
  refine Met.ofW (cc := prog_10_method_52_code) (maxL := 2) (ret := none) (by decide) rfl ?_
  intro p e s m args below meth c s₁ B hml hv
  obtain ⟨rfl, hv⟩ := hv
  have S : CallFix p m c prog_10_method_52_code 2 s _ (Cond.code yMo_readSum prog_10_method_52_code 2 (none) :: sw_tb) R_Mo := ⟨B.exec, B.bytes, hml, findClass_of_methodNamed B.named, atoms_spec (ws := (Cond.code yMo_readSum prog_10_method_52_code 2 (none) :: sw_tb)) B.pre⟩
  have hr := B.returns
  have hlk := B.notSynchronized
  have hw := sw_begin hv
  have hl := lv_entry [.ref (ξ.2.2.2.1 84), .int a1] (n := 2) (Nat.le_of_ble_eq_true rfl)
  rw [lg_entry_eq]
  generalize (lg_sl [.ref (ξ.2.2.2.1 84), .int a1] ++ List.replicate (2 - (lg_sl [.ref (ξ.2.2.2.1 84), .int a1]).length) Slot.unset).toArray = ls at hl ⊢
  have hl : lv_has ls 2 [(0, .ref (ξ.2.2.2.1 84)), (1, .int a1)] := hl
  unfold fMo_readSum_b at hm
  refine lv_aload_n S.1 S.2.1 dMo_readSum_0 rfl (lv_at hl 0 rfl) ?_
  refine lv_iload_n S.1 S.2.1 dMo_readSum_1 rfl (lv_at hl 1 rfl) ?_
  obtain ⟨μ2, h1, hm⟩ := ob hm
  refine sw_Vv (q := 84) (rest := []) S hw (cMo_readTerm l N rc rr hr0 hrc hf a1 h1) kMo_readTerm wm_Mo_249 (is_84 hf).1 (e_Mo (is_84 hf)) rfl rfl rfl rfl hl.1 (Nat.le_of_ble_eq_true rfl) ⟨rfl, rfl, by show rr.frames + 4 + 1 ≤ rr.frames + _; omega, by show 8 + (2 + 11) + (rr.locals + 85) ≤ rr.locals + _; omega⟩ ⟨Nat.le_of_ble_eq_true rfl, Nat.le_of_ble_eq_true rfl⟩ dMo_readSum_2 (fun H locs hw _ => ?_)
  exact wMo_readSum_5 S hr hlk hf rc rr hr0 hrc N  N μ2 a1 _ _ _ hm hw (lv_sub hl [0, 1] rfl)
def rmMo_readSum : Nat → Room
  | 0 => { frames := 0, cells := 0, slots := 0, locals := 0 }
  | d + 1 => rgMo_readSum (rmMo_readSum d)
theorem cMo_readSum (l : Launch) (N : Nat) : ∀ (d : Nat) {Γ : sw_C} {A : Nat → Prop} {ξ : sw_x} {g : sw_g} {μ : sw_m} (hf : sw_wf ξ g.2.2) (a1 : Int32) {res : sw_m} (hm : fMo_readSum N  d μ a1 = some res), Met l yMo_readSum (Cond.code yMo_readSum prog_10_method_52_code 2 (none) :: sw_tb) (rmMo_readSum d) (va_Pc [.ref (ξ.2.2.2.1 84), .int a1] (sw_V Γ A ξ g μ)) (sw_Qv Γ A ξ g res (True)) 0 0 A := by
  intro d
  induction d with
  | zero => intro Γ A ξ g μ hf a1 res hm; cases hm
  | succ d ih =>
    intro Γ A ξ g μ hf a1 res hm
    exact cMo_readSum_b l N (fMo_readSum N  d) (rmMo_readSum d) (by cases d <;> exact ⟨rfl, rfl⟩) (fun {Γ A ξ g μ} hf a1 {res} hm => ih hf a1 hm) hf a1 hm
set_option maxHeartbeats 4000000 in
set_option maxRecDepth 100000 in
theorem wMo_termOf_160 {l : Launch} {p : Program} {e : Env} {s : State} {m : MethodId} {args : Array Value} {below : List Frame} {meth : Method} {c : Code} {Γ : sw_C} {A : Nat → Prop} {ξ : sw_x} {g : sw_g} {res : Int64 × sw_m} (S : CallFix p m c prog_10_method_66_code 7 s args (Cond.code yMo_termOf prog_10_method_66_code 7 (some .long) :: sw_tb) R_Mo) (hr : meth.sig.returnType = some .long) (hlk : meth.locks = false) (hf : sw_wf ξ g.2.2) (rc : sw_m → Int32 → Option (Int64 × sw_m)) (rr : Room) (hr0 : rr.cells = 0 ∧ rr.slots = 0) (hrc : ∀ {Γ : sw_C} {A : Nat → Prop} {ξ : sw_x} {g : sw_g} {μ : sw_m} (hf : sw_wf ξ g.2.2) (a1 : Int32) {res : Int64 × sw_m}, rc μ a1 = some res → Met l yMo_sumOf (Cond.code yMo_sumOf prog_10_method_65_code 7 (some .long) :: sw_tb) rr (va_Pc [.ref (ξ.2.2.2.1 84), .int a1] (sw_V Γ A ξ g μ)) (sw_Ql Γ A ξ g res.2 res.1 (True)) 0 0 A) (N : Nat) (k6 : sw_m → Int32 → Int64 → Option (Int64 × sw_m)) (hk6 : ∀ (μ : sw_m) (u1 : Int32) (u2 : Int64) (H : Heap) (locs : List Loc) (ls : Array Slot), k6 μ u1 u2 = some res → sw_S Γ A ξ g μ s H locs → lv_has ls 7 [(0, .ref (ξ.2.2.2.1 84)), (1, .int u1), (2, .long u2)] → W p l e (headSpec (Cond.code yMo_termOf prog_10_method_66_code 7 (some .long) :: sw_tb) (rgMo_termOf rr)).room s m args below meth c H locs 0 0 (MQ below (sw_Ql Γ A ξ g res.2 res.1 (True)) args s 0 0 A) (F0 m 6 ls [])) : ∀ (μ : sw_m) (u1 : Int32) (s0 : Int64) (H : Heap) (locs : List Loc) (ls : Array Slot), fMo_termOf_160 N rc k6 μ u1 s0 = some res → sw_S Γ A ξ g μ s H locs → lv_has ls 7 [(0, .ref (ξ.2.2.2.1 84)), (1, .int u1)] → W p l e (headSpec (Cond.code yMo_termOf prog_10_method_66_code 7 (some .long) :: sw_tb) (rgMo_termOf rr)).room s m args below meth c H locs 0 0 (MQ below (sw_Ql Γ A ξ g res.2 res.1 (True)) args s 0 0 A) (F0 m 160 ls [.long s0, .ref (ξ.2.2.2.1 84)]) := by
  intro μ u1 s0 H locs ls hm hw hl
  unfold fMo_termOf_160 at hm
  refine lv_iload_n S.1 S.2.1 dMo_termOf_160 rfl (lv_at hl 1 rfl) ?_
  obtain ⟨⟨v24, μ23⟩, h22, hm⟩ := ob hm
  refine sw_Vl (q := 84) (rest := []) S hw (cMo_bounded l N hf s0 u1 h22) kMo_bounded wm_Mo_303 (is_84 hf).1 (e_Mo (is_84 hf)) rfl rfl rfl rfl hl.1 (Nat.le_of_ble_eq_true rfl) ⟨rfl, rfl, by show 0 + 1 ≤ rr.frames + _; omega, by show 8 + (4 + 11) + 0 ≤ rr.locals + _; omega⟩ ⟨Nat.le_of_ble_eq_true rfl, Nat.le_of_ble_eq_true rfl⟩ dMo_termOf_161 (fun H locs hw _ => ?_)
  refine lv_lstore_n (lv' := [(2, .long v24), (0, .ref (ξ.2.2.2.1 84)), (1, .int u1)]) S.1 S.2.1 dMo_termOf_164 rfl hl (by decide) rfl (fun ls hl => ?_)
  refine lv_goto (tgt := 6) S.1 S.2.1 dMo_termOf_165 (by decide) ?_
  exact hk6 μ23 u1 v24 _ _ _ hm hw (lv_sub hl [1, 2, 0] rfl)
set_option maxHeartbeats 4000000 in
set_option maxRecDepth 100000 in
theorem wMo_termOf_121 {l : Launch} {p : Program} {e : Env} {s : State} {m : MethodId} {args : Array Value} {below : List Frame} {meth : Method} {c : Code} {Γ : sw_C} {A : Nat → Prop} {ξ : sw_x} {g : sw_g} {res : Int64 × sw_m} (S : CallFix p m c prog_10_method_66_code 7 s args (Cond.code yMo_termOf prog_10_method_66_code 7 (some .long) :: sw_tb) R_Mo) (hr : meth.sig.returnType = some .long) (hlk : meth.locks = false) (hf : sw_wf ξ g.2.2) (rc : sw_m → Int32 → Option (Int64 × sw_m)) (rr : Room) (hr0 : rr.cells = 0 ∧ rr.slots = 0) (hrc : ∀ {Γ : sw_C} {A : Nat → Prop} {ξ : sw_x} {g : sw_g} {μ : sw_m} (hf : sw_wf ξ g.2.2) (a1 : Int32) {res : Int64 × sw_m}, rc μ a1 = some res → Met l yMo_sumOf (Cond.code yMo_sumOf prog_10_method_65_code 7 (some .long) :: sw_tb) rr (va_Pc [.ref (ξ.2.2.2.1 84), .int a1] (sw_V Γ A ξ g μ)) (sw_Ql Γ A ξ g res.2 res.1 (True)) 0 0 A) (N : Nat) (k6 : sw_m → Int32 → Int64 → Option (Int64 × sw_m)) (hk6 : ∀ (μ : sw_m) (u1 : Int32) (u2 : Int64) (H : Heap) (locs : List Loc) (ls : Array Slot), k6 μ u1 u2 = some res → sw_S Γ A ξ g μ s H locs → lv_has ls 7 [(0, .ref (ξ.2.2.2.1 84)), (1, .int u1), (2, .long u2)] → W p l e (headSpec (Cond.code yMo_termOf prog_10_method_66_code 7 (some .long) :: sw_tb) (rgMo_termOf rr)).room s m args below meth c H locs 0 0 (MQ below (sw_Ql Γ A ξ g res.2 res.1 (True)) args s 0 0 A) (F0 m 6 ls [])) : ∀ (μ : sw_m) (u1 : Int32) (u2 : Int64) (u4 : Int32) (u5 : Int64) (H : Heap) (locs : List Loc) (ls : Array Slot), fMo_termOf_121 N rc k6 μ u1 u2 u4 u5 = some res → sw_S Γ A ξ g μ s H locs → lv_has ls 7 [(0, .ref (ξ.2.2.2.1 84)), (1, .int u1), (2, .long u2), (4, .int u4), (5, .long u5)] → W p l e (headSpec (Cond.code yMo_termOf prog_10_method_66_code 7 (some .long) :: sw_tb) (rgMo_termOf rr)).room s m args below meth c H locs 0 0 (MQ below (sw_Ql Γ A ξ g res.2 res.1 (True)) args s 0 0 A) (F0 m 121 ls []) := by
  intro μ u1 u2 u4 u5 H locs ls hm hw hl
  unfold fMo_termOf_121 at hm
  refine lv_aload_n S.1 S.2.1 dMo_termOf_121 rfl (lv_at hl 0 rfl) ?_
  refine lv_iload S.1 S.2.1 dMo_termOf_122 (lv_at hl 3 rfl) ?_
  refine lv_bipush (v := (42 : Int32)) S.1 S.2.1 dMo_termOf_124 (by decide) ?_
  obtain ⟨v19, h18, hm⟩ := ob hm
  refine sw_Si (rest := [.int u4, .ref (ξ.2.2.2.1 84)]) S hw (cMo_sign l  hf (42 : Int32) h18) kMo_sign wm_Mo_245 rfl rfl hl.1 (Nat.le_of_ble_eq_true rfl) ⟨rfl, rfl, by show 0 + 1 ≤ rr.frames + _; omega, by show 8 + (1 + 11) + 0 ≤ rr.locals + _; omega⟩ ⟨Nat.le_of_ble_eq_true rfl, Nat.le_of_ble_eq_true rfl⟩ dMo_termOf_126 (fun H locs hw _ => ?_)
  refine bicmp_ne (tgt := 139) S.1 S.2.1 hm dMo_termOf_129 (by decide) (fun hm => ?_) (fun hm => ?_)
  · refine lv_iload S.1 S.2.1 dMo_termOf_139 (lv_at hl 3 rfl) ?_
    refine lv_bipush (v := (47 : Int32)) S.1 S.2.1 dMo_termOf_141 (by decide) ?_
    obtain ⟨v21, h20, hm⟩ := ob hm
    refine sw_Si (rest := [.int u4, .ref (ξ.2.2.2.1 84)]) S hw (cMo_sign l  hf (47 : Int32) h20) kMo_sign wm_Mo_245 rfl rfl hl.1 (Nat.le_of_ble_eq_true rfl) ⟨rfl, rfl, by show 0 + 1 ≤ rr.frames + _; omega, by show 8 + (1 + 11) + 0 ≤ rr.locals + _; omega⟩ ⟨Nat.le_of_ble_eq_true rfl, Nat.le_of_ble_eq_true rfl⟩ dMo_termOf_143 (fun H locs hw _ => ?_)
    refine bicmp_ne (tgt := 156) S.1 S.2.1 hm dMo_termOf_146 (by decide) (fun hm => ?_) (fun hm => ?_)
    · refine lv_lload_n S.1 S.2.1 dMo_termOf_156 rfl (lv_at hl 2 rfl) ?_
      refine lv_lload S.1 S.2.1 dMo_termOf_157 (lv_at hl 4 rfl) ?_
      obtain ⟨hz, hm⟩ := ob_nzl hm
      refine lv_lrem S.1 S.2.1 dMo_termOf_159 hz ?_
      exact wMo_termOf_160 S hr hlk hf rc rr hr0 hrc N k6 hk6 μ u1 (u2 - u2 / u5 * u5) _ _ _ hm hw (lv_sub hl [0, 1] rfl)
    · refine lv_lload_n S.1 S.2.1 dMo_termOf_149 rfl (lv_at hl 2 rfl) ?_
      refine lv_lload S.1 S.2.1 dMo_termOf_150 (lv_at hl 4 rfl) ?_
      obtain ⟨hz, hm⟩ := ob_nzl hm
      refine lv_ldiv S.1 S.2.1 dMo_termOf_152 hz ?_
      refine lv_goto (tgt := 160) S.1 S.2.1 dMo_termOf_153 (by decide) ?_
      exact wMo_termOf_160 S hr hlk hf rc rr hr0 hrc N k6 hk6 μ u1 (u2 / u5) _ _ _ hm hw (lv_sub hl [0, 1] rfl)
  · refine lv_lload_n S.1 S.2.1 dMo_termOf_132 rfl (lv_at hl 2 rfl) ?_
    refine lv_lload S.1 S.2.1 dMo_termOf_133 (lv_at hl 4 rfl) ?_
    refine lv_lmul S.1 S.2.1 dMo_termOf_135 ?_
    refine lv_goto (tgt := 160) S.1 S.2.1 dMo_termOf_136 (by decide) ?_
    exact wMo_termOf_160 S hr hlk hf rc rr hr0 hrc N k6 hk6 μ u1 (u2 * u5) _ _ _ hm hw (lv_sub hl [0, 1] rfl)
set_option maxHeartbeats 4000000 in
set_option maxRecDepth 100000 in
theorem wMo_termOf_54 {l : Launch} {p : Program} {e : Env} {s : State} {m : MethodId} {args : Array Value} {below : List Frame} {meth : Method} {c : Code} {Γ : sw_C} {A : Nat → Prop} {ξ : sw_x} {g : sw_g} {res : Int64 × sw_m} (S : CallFix p m c prog_10_method_66_code 7 s args (Cond.code yMo_termOf prog_10_method_66_code 7 (some .long) :: sw_tb) R_Mo) (hr : meth.sig.returnType = some .long) (hlk : meth.locks = false) (hf : sw_wf ξ g.2.2) (rc : sw_m → Int32 → Option (Int64 × sw_m)) (rr : Room) (hr0 : rr.cells = 0 ∧ rr.slots = 0) (hrc : ∀ {Γ : sw_C} {A : Nat → Prop} {ξ : sw_x} {g : sw_g} {μ : sw_m} (hf : sw_wf ξ g.2.2) (a1 : Int32) {res : Int64 × sw_m}, rc μ a1 = some res → Met l yMo_sumOf (Cond.code yMo_sumOf prog_10_method_65_code 7 (some .long) :: sw_tb) rr (va_Pc [.ref (ξ.2.2.2.1 84), .int a1] (sw_V Γ A ξ g μ)) (sw_Ql Γ A ξ g res.2 res.1 (True)) 0 0 A) (N : Nat) (k6 : sw_m → Int32 → Int64 → Option (Int64 × sw_m)) (hk6 : ∀ (μ : sw_m) (u1 : Int32) (u2 : Int64) (H : Heap) (locs : List Loc) (ls : Array Slot), k6 μ u1 u2 = some res → sw_S Γ A ξ g μ s H locs → lv_has ls 7 [(0, .ref (ξ.2.2.2.1 84)), (1, .int u1), (2, .long u2)] → W p l e (headSpec (Cond.code yMo_termOf prog_10_method_66_code 7 (some .long) :: sw_tb) (rgMo_termOf rr)).room s m args below meth c H locs 0 0 (MQ below (sw_Ql Γ A ξ g res.2 res.1 (True)) args s 0 0 A) (F0 m 6 ls [])) : ∀ (μ : sw_m) (u1 : Int32) (u2 : Int64) (H : Heap) (locs : List Loc) (ls : Array Slot), fMo_termOf_54 N rc k6 μ u1 u2 = some res → sw_S Γ A ξ g μ s H locs → lv_has ls 7 [(0, .ref (ξ.2.2.2.1 84)), (1, .int u1), (2, .long u2)] → W p l e (headSpec (Cond.code yMo_termOf prog_10_method_66_code 7 (some .long) :: sw_tb) (rgMo_termOf rr)).room s m args below meth c H locs 0 0 (MQ below (sw_Ql Γ A ξ g res.2 res.1 (True)) args s 0 0 A) (F0 m 54 ls []) := by
  intro μ u1 u2 H locs ls hm hw hl
  unfold fMo_termOf_54 at hm
  refine lv_aload_n S.1 S.2.1 dMo_termOf_54 rfl (lv_at hl 0 rfl) ?_
  refine lv_aload_n S.1 S.2.1 dMo_termOf_55 rfl (lv_at hl 0 rfl) ?_
  refine get_Mo (v := .int (μ.1 84 22)) S hw (is_84 hf) 22 (by decide) rfl wf_Mo_286 dMo_termOf_56 ?_
  obtain ⟨⟨v11, μ10⟩, h9, hm⟩ := ob hm
  refine sw_Vi (q := 84) (rest := []) S hw (cMo_codeAt l  hf (μ.1 84 22) h9) kMo_codeAt wm_Mo_289 (is_84 hf).1 (e_Mo (is_84 hf)) rfl rfl rfl rfl hl.1 (Nat.le_of_ble_eq_true rfl) ⟨rfl, rfl, by show 0 + 1 ≤ rr.frames + _; omega, by show 8 + (2 + 11) + 0 ≤ rr.locals + _; omega⟩ ⟨Nat.le_of_ble_eq_true rfl, Nat.le_of_ble_eq_true rfl⟩ dMo_termOf_59 (fun H locs hw _ => ?_)
  refine lv_istore (lv' := [(4, .int v11), (0, .ref (ξ.2.2.2.1 84)), (1, .int u1), (2, .long u2)]) S.1 S.2.1 dMo_termOf_62 hl (by decide) rfl (fun ls hl => ?_)
  refine lv_aload_n S.1 S.2.1 dMo_termOf_64 rfl (lv_at hl 1 rfl) ?_
  refine lv_dup S.1 S.2.1 dMo_termOf_65 rfl ?_
  refine get_Mo (v := .int (μ10.1 84 22)) S hw (is_84 hf) 22 (by decide) rfl wf_Mo_286 dMo_termOf_66 ?_
  refine lv_iconst (v := (1 : Int32)) S.1 S.2.1 dMo_termOf_69 (by decide) ?_
  refine lv_iadd S.1 S.2.1 dMo_termOf_70 ?_
  refine put_Mo S hw (is_84 hf) 22 (by decide) ps_Mo_22 rfl rfl rfl wf_Mo_286 hm dMo_termOf_71 (fun μ12 H locs hm hw => ?_)
  refine lv_aload_n S.1 S.2.1 dMo_termOf_74 rfl (lv_at hl 1 rfl) ?_
  refine lv_iload_n S.1 S.2.1 dMo_termOf_75 rfl (lv_at hl 2 rfl) ?_
  obtain ⟨⟨v15, μ14⟩, h13, hm⟩ := ob hm
  refine sw_Vl (q := 84) (rest := []) S hw (cMo_partOf l N rc rr hr0 hrc hf u1 h13) kMo_partOf wm_Mo_307 (is_84 hf).1 (e_Mo (is_84 hf)) rfl rfl rfl rfl hl.1 (Nat.le_of_ble_eq_true rfl) ⟨rfl, rfl, by show rr.frames + 3 + 1 ≤ rr.frames + _; omega, by show 8 + (4 + 11) + (rr.locals + 65) ≤ rr.locals + _; omega⟩ ⟨Nat.le_of_ble_eq_true rfl, Nat.le_of_ble_eq_true rfl⟩ dMo_termOf_76 (fun H locs hw _ => ?_)
  refine lv_lstore (lv' := [(5, .long v15), (4, .int v11), (0, .ref (ξ.2.2.2.1 84)), (1, .int u1), (2, .long u2)]) S.1 S.2.1 dMo_termOf_79 hl (by decide) rfl (fun ls hl => ?_)
  refine lv_iload S.1 S.2.1 dMo_termOf_81 (lv_at hl 1 rfl) ?_
  refine lv_bipush (v := (42 : Int32)) S.1 S.2.1 dMo_termOf_83 (by decide) ?_
  obtain ⟨v17, h16, hm⟩ := ob hm
  refine sw_Si (rest := [.int v11]) S hw (cMo_sign l  hf (42 : Int32) h16) kMo_sign wm_Mo_245 rfl rfl hl.1 (Nat.le_of_ble_eq_true rfl) ⟨rfl, rfl, by show 0 + 1 ≤ rr.frames + _; omega, by show 8 + (1 + 11) + 0 ≤ rr.locals + _; omega⟩ ⟨Nat.le_of_ble_eq_true rfl, Nat.le_of_ble_eq_true rfl⟩ dMo_termOf_85 (fun H locs hw _ => ?_)
  refine bicmp_eq (tgt := 121) S.1 S.2.1 hm dMo_termOf_88 (by decide) (fun hm => ?_) (fun hm => ?_)
  · exact wMo_termOf_121 S hr hlk hf rc rr hr0 hrc N k6 hk6 μ14 u1 u2 v11 v15 _ _ _ hm hw (lv_sub hl [2, 3, 4, 1, 0] rfl)
  · refine lv_lload S.1 S.2.1 dMo_termOf_91 (lv_at hl 0 rfl) ?_
    refine lv_lconst (v := (0 : Int64)) S.1 S.2.1 dMo_termOf_93 (by decide) ?_
    refine W.lcmp S.1 S.2.1 dMo_termOf_94 ?_
    refine bif_ne (tgt := 121) S.1 S.2.1 hm dMo_termOf_95 (by decide) (fun hm => ?_) (fun hm => ?_)
    · exact wMo_termOf_121 S hr hlk hf rc rr hr0 hrc N k6 hk6 μ14 u1 u2 v11 v15 _ _ _ hm hw (lv_sub hl [2, 3, 4, 1, 0] rfl)
    · refine lv_aload_n S.1 S.2.1 dMo_termOf_98 rfl (lv_at hl 2 rfl) ?_
      refine lv_aload_n S.1 S.2.1 dMo_termOf_99 rfl (lv_at hl 2 rfl) ?_
      refine get_Mo (v := .int (μ14.1 84 24)) S hw (is_84 hf) 24 (by decide) rfl wf_Mo_296 dMo_termOf_100 ?_
      refine bif_ne (tgt := 110) S.1 S.2.1 hm dMo_termOf_103 (by decide) (fun hm => ?_) (fun hm => ?_)
      · refine lv_iconst (v := (1 : Int32)) S.1 S.2.1 dMo_termOf_110 (by decide) ?_
        refine lv_goto (tgt := 115) S.1 S.2.1 dMo_termOf_111 (by decide) ?_
        refine put_Mo S hw (is_84 hf) 24 (by decide) ps_Mo_24 rfl rfl rfl wf_Mo_296 hm dMo_termOf_115 (fun μ25 H locs hm hw => ?_)
        refine lv_lconst (v := (1 : Int64)) S.1 S.2.1 dMo_termOf_118 (by decide) ?_
        refine lv_lstore (lv' := [(5, .long (1 : Int64)), (4, .int v11), (0, .ref (ξ.2.2.2.1 84)), (1, .int u1), (2, .long u2)]) S.1 S.2.1 dMo_termOf_119 hl (by decide) rfl (fun ls hl => ?_)
        exact wMo_termOf_121 S hr hlk hf rc rr hr0 hrc N k6 hk6 μ25 u1 u2 v11 (1 : Int64) _ _ _ hm hw (lv_sub hl [2, 3, 4, 1, 0] rfl)
      · refine lv_iload_n S.1 S.2.1 dMo_termOf_106 rfl (lv_at hl 3 rfl) ?_
        refine bif_eq (tgt := 114) S.1 S.2.1 hm dMo_termOf_107 (by decide) (fun hm => ?_) (fun hm => ?_)
        · refine lv_iconst (v := (0 : Int32)) S.1 S.2.1 dMo_termOf_114 (by decide) ?_
          refine put_Mo S hw (is_84 hf) 24 (by decide) ps_Mo_24 rfl rfl rfl wf_Mo_296 hm dMo_termOf_115 (fun μ26 H locs hm hw => ?_)
          refine lv_lconst (v := (1 : Int64)) S.1 S.2.1 dMo_termOf_118 (by decide) ?_
          refine lv_lstore (lv' := [(5, .long (1 : Int64)), (4, .int v11), (0, .ref (ξ.2.2.2.1 84)), (1, .int u1), (2, .long u2)]) S.1 S.2.1 dMo_termOf_119 hl (by decide) rfl (fun ls hl => ?_)
          exact wMo_termOf_121 S hr hlk hf rc rr hr0 hrc N k6 hk6 μ26 u1 u2 v11 (1 : Int64) _ _ _ hm hw (lv_sub hl [2, 3, 4, 1, 0] rfl)
        · refine lv_iconst (v := (1 : Int32)) S.1 S.2.1 dMo_termOf_110 (by decide) ?_
          refine lv_goto (tgt := 115) S.1 S.2.1 dMo_termOf_111 (by decide) ?_
          refine put_Mo S hw (is_84 hf) 24 (by decide) ps_Mo_24 rfl rfl rfl wf_Mo_296 hm dMo_termOf_115 (fun μ27 H locs hm hw => ?_)
          refine lv_lconst (v := (1 : Int64)) S.1 S.2.1 dMo_termOf_118 (by decide) ?_
          refine lv_lstore (lv' := [(5, .long (1 : Int64)), (4, .int v11), (0, .ref (ξ.2.2.2.1 84)), (1, .int u1), (2, .long u2)]) S.1 S.2.1 dMo_termOf_119 hl (by decide) rfl (fun ls hl => ?_)
          exact wMo_termOf_121 S hr hlk hf rc rr hr0 hrc N k6 hk6 μ27 u1 u2 v11 (1 : Int64) _ _ _ hm hw (lv_sub hl [2, 3, 4, 1, 0] rfl)
set_option maxHeartbeats 4000000 in
set_option maxRecDepth 100000 in
theorem wMo_termOf_6 {l : Launch} {p : Program} {e : Env} {s : State} {m : MethodId} {args : Array Value} {below : List Frame} {meth : Method} {c : Code} {Γ : sw_C} {A : Nat → Prop} {ξ : sw_x} {g : sw_g} {res : Int64 × sw_m} (S : CallFix p m c prog_10_method_66_code 7 s args (Cond.code yMo_termOf prog_10_method_66_code 7 (some .long) :: sw_tb) R_Mo) (hr : meth.sig.returnType = some .long) (hlk : meth.locks = false) (hf : sw_wf ξ g.2.2) (rc : sw_m → Int32 → Option (Int64 × sw_m)) (rr : Room) (hr0 : rr.cells = 0 ∧ rr.slots = 0) (hrc : ∀ {Γ : sw_C} {A : Nat → Prop} {ξ : sw_x} {g : sw_g} {μ : sw_m} (hf : sw_wf ξ g.2.2) (a1 : Int32) {res : Int64 × sw_m}, rc μ a1 = some res → Met l yMo_sumOf (Cond.code yMo_sumOf prog_10_method_65_code 7 (some .long) :: sw_tb) rr (va_Pc [.ref (ξ.2.2.2.1 84), .int a1] (sw_V Γ A ξ g μ)) (sw_Ql Γ A ξ g res.2 res.1 (True)) 0 0 A) (N : Nat) : ∀ (fu : Nat) (μ : sw_m) (u1 : Int32) (u2 : Int64) (H : Heap) (locs : List Loc) (ls : Array Slot), fMo_termOf_6 N rc  fu μ u1 u2 = some res → sw_S Γ A ξ g μ s H locs → lv_has ls 7 [(0, .ref (ξ.2.2.2.1 84)), (1, .int u1), (2, .long u2)] → W p l e (headSpec (Cond.code yMo_termOf prog_10_method_66_code 7 (some .long) :: sw_tb) (rgMo_termOf rr)).room s m args below meth c H locs 0 0 (MQ below (sw_Ql Γ A ξ g res.2 res.1 (True)) args s 0 0 A) (F0 m 6 ls []) := by
  intro fu
  induction fu with
  | zero => intro μ u1 u2 H locs ls hm; rw [fMo_termOf_6.eq_1] at hm; cases hm
  | succ fu ih =>
    intro μ u1 u2 H locs ls hm hw hl
    rw [fMo_termOf_6.eq_2] at hm
    refine lv_aload_n S.1 S.2.1 dMo_termOf_6 rfl (lv_at hl 0 rfl) ?_
    refine lv_aload_n S.1 S.2.1 dMo_termOf_7 rfl (lv_at hl 0 rfl) ?_
    refine get_Mo (v := .int (μ.1 84 22)) S hw (is_84 hf) 22 (by decide) rfl wf_Mo_286 dMo_termOf_8 ?_
    obtain ⟨⟨v6, μ5⟩, h4, hm⟩ := ob hm
    refine sw_Vi (q := 84) (rest := []) S hw (cMo_codeAt l  hf (μ.1 84 22) h4) kMo_codeAt wm_Mo_289 (is_84 hf).1 (e_Mo (is_84 hf)) rfl rfl rfl rfl hl.1 (Nat.le_of_ble_eq_true rfl) ⟨rfl, rfl, by show 0 + 1 ≤ rr.frames + _; omega, by show 8 + (2 + 11) + 0 ≤ rr.locals + _; omega⟩ ⟨Nat.le_of_ble_eq_true rfl, Nat.le_of_ble_eq_true rfl⟩ dMo_termOf_11 (fun H locs hw _ => ?_)
    refine lv_bipush (v := (42 : Int32)) S.1 S.2.1 dMo_termOf_14 (by decide) ?_
    obtain ⟨v8, h7, hm⟩ := ob hm
    refine sw_Si (rest := [.int v6]) S hw (cMo_sign l  hf (42 : Int32) h7) kMo_sign wm_Mo_245 rfl rfl hl.1 (Nat.le_of_ble_eq_true rfl) ⟨rfl, rfl, by show 0 + 1 ≤ rr.frames + _; omega, by show 8 + (1 + 11) + 0 ≤ rr.locals + _; omega⟩ ⟨Nat.le_of_ble_eq_true rfl, Nat.le_of_ble_eq_true rfl⟩ dMo_termOf_16 (fun H locs hw _ => ?_)
    refine bicmp_eq (tgt := 54) S.1 S.2.1 hm dMo_termOf_19 (by decide) (fun hm => ?_) (fun hm => ?_)
    · exact wMo_termOf_54 S hr hlk hf rc rr hr0 hrc N (fMo_termOf_6 N rc  fu) ih μ5 u1 u2 _ _ _ hm hw (lv_sub hl [0, 1, 2] rfl)
    · refine lv_aload_n S.1 S.2.1 dMo_termOf_22 rfl (lv_at hl 0 rfl) ?_
      refine lv_aload_n S.1 S.2.1 dMo_termOf_23 rfl (lv_at hl 0 rfl) ?_
      refine get_Mo (v := .int (μ5.1 84 22)) S hw (is_84 hf) 22 (by decide) rfl wf_Mo_286 dMo_termOf_24 ?_
      obtain ⟨⟨v30, μ29⟩, h28, hm⟩ := ob hm
      refine sw_Vi (q := 84) (rest := []) S hw (cMo_codeAt l  hf (μ5.1 84 22) h28) kMo_codeAt wm_Mo_289 (is_84 hf).1 (e_Mo (is_84 hf)) rfl rfl rfl rfl hl.1 (Nat.le_of_ble_eq_true rfl) ⟨rfl, rfl, by show 0 + 1 ≤ rr.frames + _; omega, by show 8 + (2 + 11) + 0 ≤ rr.locals + _; omega⟩ ⟨Nat.le_of_ble_eq_true rfl, Nat.le_of_ble_eq_true rfl⟩ dMo_termOf_27 (fun H locs hw _ => ?_)
      refine lv_bipush (v := (47 : Int32)) S.1 S.2.1 dMo_termOf_30 (by decide) ?_
      obtain ⟨v32, h31, hm⟩ := ob hm
      refine sw_Si (rest := [.int v30]) S hw (cMo_sign l  hf (47 : Int32) h31) kMo_sign wm_Mo_245 rfl rfl hl.1 (Nat.le_of_ble_eq_true rfl) ⟨rfl, rfl, by show 0 + 1 ≤ rr.frames + _; omega, by show 8 + (1 + 11) + 0 ≤ rr.locals + _; omega⟩ ⟨Nat.le_of_ble_eq_true rfl, Nat.le_of_ble_eq_true rfl⟩ dMo_termOf_32 (fun H locs hw _ => ?_)
      refine bicmp_eq (tgt := 54) S.1 S.2.1 hm dMo_termOf_35 (by decide) (fun hm => ?_) (fun hm => ?_)
      · exact wMo_termOf_54 S hr hlk hf rc rr hr0 hrc N (fMo_termOf_6 N rc  fu) ih μ29 u1 u2 _ _ _ hm hw (lv_sub hl [0, 1, 2] rfl)
      · refine lv_aload_n S.1 S.2.1 dMo_termOf_38 rfl (lv_at hl 0 rfl) ?_
        refine lv_aload_n S.1 S.2.1 dMo_termOf_39 rfl (lv_at hl 0 rfl) ?_
        refine get_Mo (v := .int (μ29.1 84 22)) S hw (is_84 hf) 22 (by decide) rfl wf_Mo_286 dMo_termOf_40 ?_
        obtain ⟨⟨v35, μ34⟩, h33, hm⟩ := ob hm
        refine sw_Vi (q := 84) (rest := []) S hw (cMo_codeAt l  hf (μ29.1 84 22) h33) kMo_codeAt wm_Mo_289 (is_84 hf).1 (e_Mo (is_84 hf)) rfl rfl rfl rfl hl.1 (Nat.le_of_ble_eq_true rfl) ⟨rfl, rfl, by show 0 + 1 ≤ rr.frames + _; omega, by show 8 + (2 + 11) + 0 ≤ rr.locals + _; omega⟩ ⟨Nat.le_of_ble_eq_true rfl, Nat.le_of_ble_eq_true rfl⟩ dMo_termOf_43 (fun H locs hw _ => ?_)
        refine lv_bipush (v := (37 : Int32)) S.1 S.2.1 dMo_termOf_46 (by decide) ?_
        obtain ⟨v37, h36, hm⟩ := ob hm
        refine sw_Si (rest := [.int v35]) S hw (cMo_sign l  hf (37 : Int32) h36) kMo_sign wm_Mo_245 rfl rfl hl.1 (Nat.le_of_ble_eq_true rfl) ⟨rfl, rfl, by show 0 + 1 ≤ rr.frames + _; omega, by show 8 + (1 + 11) + 0 ≤ rr.locals + _; omega⟩ ⟨Nat.le_of_ble_eq_true rfl, Nat.le_of_ble_eq_true rfl⟩ dMo_termOf_48 (fun H locs hw _ => ?_)
        refine bicmp_ne (tgt := 168) S.1 S.2.1 hm dMo_termOf_51 (by decide) (fun hm => ?_) (fun hm => ?_)
        · refine lv_lload_n S.1 S.2.1 dMo_termOf_168 rfl (lv_at hl 2 rfl) ?_
          obtain rfl := Option.some.inj hm
          exact sw_lret S hr hlk hw trivial dMo_termOf_169
        · exact wMo_termOf_54 S hr hlk hf rc rr hr0 hrc N (fMo_termOf_6 N rc  fu) ih μ34 u1 u2 _ _ _ hm hw (lv_sub hl [0, 1, 2] rfl)
set_option maxHeartbeats 4000000 in
set_option maxRecDepth 100000 in
theorem cMo_termOf (l : Launch) (N : Nat) (rc : sw_m → Int32 → Option (Int64 × sw_m)) (rr : Room) (hr0 : rr.cells = 0 ∧ rr.slots = 0) (hrc : ∀ {Γ : sw_C} {A : Nat → Prop} {ξ : sw_x} {g : sw_g} {μ : sw_m} (hf : sw_wf ξ g.2.2) (a1 : Int32) {res : Int64 × sw_m}, rc μ a1 = some res → Met l yMo_sumOf (Cond.code yMo_sumOf prog_10_method_65_code 7 (some .long) :: sw_tb) rr (va_Pc [.ref (ξ.2.2.2.1 84), .int a1] (sw_V Γ A ξ g μ)) (sw_Ql Γ A ξ g res.2 res.1 (True)) 0 0 A) {Γ : sw_C} {A : Nat → Prop} {ξ : sw_x} {g : sw_g} {μ : sw_m} (hf : sw_wf ξ g.2.2) (a1 : Int32) {res : Int64 × sw_m} (hm : fMo_termOf N rc μ a1 = some res) : Met l yMo_termOf (Cond.code yMo_termOf prog_10_method_66_code 7 (some .long) :: sw_tb) (rgMo_termOf rr) (va_Pc [.ref (ξ.2.2.2.1 84), .int a1] (sw_V Γ A ξ g μ)) (sw_Ql Γ A ξ g res.2 res.1 (True)) 0 0 A := by
  refine Met.ofW (cc := prog_10_method_66_code) (maxL := 7) (ret := some .long) (by decide) rfl ?_
  intro p e s m args below meth c s₁ B hml hv
  obtain ⟨rfl, hv⟩ := hv
  have S : CallFix p m c prog_10_method_66_code 7 s _ (Cond.code yMo_termOf prog_10_method_66_code 7 (some .long) :: sw_tb) R_Mo := ⟨B.exec, B.bytes, hml, findClass_of_methodNamed B.named, atoms_spec (ws := (Cond.code yMo_termOf prog_10_method_66_code 7 (some .long) :: sw_tb)) B.pre⟩
  have hr := B.returns
  have hlk := B.notSynchronized
  have hw := sw_begin hv
  have hl := lv_entry [.ref (ξ.2.2.2.1 84), .int a1] (n := 7) (Nat.le_of_ble_eq_true rfl)
  rw [lg_entry_eq]
  generalize (lg_sl [.ref (ξ.2.2.2.1 84), .int a1] ++ List.replicate (7 - (lg_sl [.ref (ξ.2.2.2.1 84), .int a1]).length) Slot.unset).toArray = ls at hl ⊢
  have hl : lv_has ls 7 [(0, .ref (ξ.2.2.2.1 84)), (1, .int a1)] := hl
  unfold fMo_termOf at hm
  refine lv_aload_n S.1 S.2.1 dMo_termOf_0 rfl (lv_at hl 0 rfl) ?_
  refine lv_iload_n S.1 S.2.1 dMo_termOf_1 rfl (lv_at hl 1 rfl) ?_
  obtain ⟨⟨v3, μ2⟩, h1, hm⟩ := ob hm
  refine sw_Vl (q := 84) (rest := []) S hw (cMo_partOf l N rc rr hr0 hrc hf a1 h1) kMo_partOf wm_Mo_307 (is_84 hf).1 (e_Mo (is_84 hf)) rfl rfl rfl rfl hl.1 (Nat.le_of_ble_eq_true rfl) ⟨rfl, rfl, by show rr.frames + 3 + 1 ≤ rr.frames + _; omega, by show 8 + (4 + 11) + (rr.locals + 65) ≤ rr.locals + _; omega⟩ ⟨Nat.le_of_ble_eq_true rfl, Nat.le_of_ble_eq_true rfl⟩ dMo_termOf_2 (fun H locs hw _ => ?_)
  refine lv_lstore_n (lv' := [(2, .long v3), (0, .ref (ξ.2.2.2.1 84)), (1, .int a1)]) S.1 S.2.1 dMo_termOf_5 rfl hl (by decide) rfl (fun ls hl => ?_)
  exact wMo_termOf_6 S hr hlk hf rc rr hr0 hrc N  N μ2 a1 v3 _ _ _ hm hw (lv_sub hl [1, 2, 0] rfl)
set_option maxHeartbeats 4000000 in
set_option maxRecDepth 100000 in
theorem cMo_readTwo (l : Launch) (N : Nat) {Γ : sw_C} {A : Nat → Prop} {ξ : sw_x} {g : sw_g} {μ : sw_m} (hf : sw_wf ξ g.2.2) (a1 : Int32) {res : sw_m} (hm : fMo_readTwo N μ a1 = some res) : Met l yMo_readTwo (Cond.code yMo_readTwo prog_10_method_46_code 2 (none) :: sw_tb) rmMo_readTwo (va_Pc [.ref (ξ.2.2.2.1 84), .int a1] (sw_V Γ A ξ g μ)) (sw_Qv Γ A ξ g res (True)) 0 0 A := by
  refine Met.ofW (cc := prog_10_method_46_code) (maxL := 2) (ret := none) (by decide) rfl ?_
  intro p e s m args below meth c s₁ B hml hv
  obtain ⟨rfl, hv⟩ := hv
  have S : CallFix p m c prog_10_method_46_code 2 s _ (Cond.code yMo_readTwo prog_10_method_46_code 2 (none) :: sw_tb) R_Mo := ⟨B.exec, B.bytes, hml, findClass_of_methodNamed B.named, atoms_spec (ws := (Cond.code yMo_readTwo prog_10_method_46_code 2 (none) :: sw_tb)) B.pre⟩
  have hr := B.returns
  have hlk := B.notSynchronized
  have hw := sw_begin hv
  have hl := lv_entry [.ref (ξ.2.2.2.1 84), .int a1] (n := 2) (Nat.le_of_ble_eq_true rfl)
  rw [lg_entry_eq]
  generalize (lg_sl [.ref (ξ.2.2.2.1 84), .int a1] ++ List.replicate (2 - (lg_sl [.ref (ξ.2.2.2.1 84), .int a1]).length) Slot.unset).toArray = ls at hl ⊢
  have hl : lv_has ls 2 [(0, .ref (ξ.2.2.2.1 84)), (1, .int a1)] := hl
  unfold fMo_readTwo at hm
  refine lv_aload_n S.1 S.2.1 dMo_readTwo_0 rfl (lv_at hl 0 rfl) ?_
  refine lv_iconst (v := (0 : Int32)) S.1 S.2.1 dMo_readTwo_1 (by decide) ?_
  obtain ⟨μ2, h1, hm⟩ := ob hm
  refine sw_Vv (q := 84) (rest := []) S hw (cMo_readSum l N 10 hf (0 : Int32) h1) kMo_readSum wm_Mo_213 (is_84 hf).1 (e_Mo (is_84 hf)) rfl rfl rfl rfl hl.1 (Nat.le_of_ble_eq_true rfl) ⟨rfl, rfl, Nat.le_of_ble_eq_true rfl, Nat.le_of_ble_eq_true rfl⟩ ⟨Nat.le_of_ble_eq_true rfl, Nat.le_of_ble_eq_true rfl⟩ dMo_readTwo_2 (fun H locs hw _ => ?_)
  refine lv_aload_n S.1 S.2.1 dMo_readTwo_5 rfl (lv_at hl 0 rfl) ?_
  refine lv_iload_n S.1 S.2.1 dMo_readTwo_6 rfl (lv_at hl 1 rfl) ?_
  obtain ⟨μ4, h3, hm⟩ := ob hm
  refine sw_Vv (q := 84) (rest := []) S hw (cMo_must l N hf a1 h3) kMo_must wm_Mo_217 (is_84 hf).1 (e_Mo (is_84 hf)) rfl rfl rfl rfl hl.1 (Nat.le_of_ble_eq_true rfl) ⟨rfl, rfl, Nat.le_of_ble_eq_true rfl, Nat.le_of_ble_eq_true rfl⟩ ⟨Nat.le_of_ble_eq_true rfl, Nat.le_of_ble_eq_true rfl⟩ dMo_readTwo_7 (fun H locs hw _ => ?_)
  refine lv_aload_n S.1 S.2.1 dMo_readTwo_10 rfl (lv_at hl 0 rfl) ?_
  refine lv_iconst (v := (0 : Int32)) S.1 S.2.1 dMo_readTwo_11 (by decide) ?_
  obtain ⟨μ6, h5, hm⟩ := ob hm
  refine sw_Vv (q := 84) (rest := []) S hw (cMo_readSum l N 10 hf (0 : Int32) h5) kMo_readSum wm_Mo_213 (is_84 hf).1 (e_Mo (is_84 hf)) rfl rfl rfl rfl hl.1 (Nat.le_of_ble_eq_true rfl) ⟨rfl, rfl, Nat.le_of_ble_eq_true rfl, Nat.le_of_ble_eq_true rfl⟩ ⟨Nat.le_of_ble_eq_true rfl, Nat.le_of_ble_eq_true rfl⟩ dMo_readTwo_12 (fun H locs hw _ => ?_)
  obtain rfl := Option.some.inj hm
  exact sw_vret S hr hlk hw trivial dMo_readTwo_15
set_option maxHeartbeats 4000000 in
set_option maxRecDepth 100000 in
theorem wMo_readPlain_53 {l : Launch} {p : Program} {e : Env} {s : State} {m : MethodId} {args : Array Value} {below : List Frame} {meth : Method} {c : Code} {Γ : sw_C} {A : Nat → Prop} {ξ : sw_x} {g : sw_g} {res : sw_m} (S : CallFix p m c prog_10_method_51_code 4 s args (Cond.code yMo_readPlain prog_10_method_51_code 4 (none) :: sw_tb) R_Mo) (hr : meth.sig.returnType = none) (hlk : meth.locks = false) (hf : sw_wf ξ g.2.2) (rc : sw_m → Int32 → Option (sw_m)) (rr : Room) (hr0 : rr.cells = 0 ∧ rr.slots = 0) (hrc : ∀ {Γ : sw_C} {A : Nat → Prop} {ξ : sw_x} {g : sw_g} {μ : sw_m} (hf : sw_wf ξ g.2.2) (a1 : Int32) {res : sw_m}, rc μ a1 = some res → Met l yMo_readTest (Cond.code yMo_readTest prog_10_method_49_code 2 (none) :: sw_tb) rr (va_Pc [.ref (ξ.2.2.2.1 84), .int a1] (sw_V Γ A ξ g μ)) (sw_Qv Γ A ξ g res (True)) 0 0 A) (N : Nat) : ∀ (μ : sw_m) (u1 : Int32) (H : Heap) (locs : List Loc) (ls : Array Slot), fMo_readPlain_53 N rc  μ u1 = some res → sw_S Γ A ξ g μ s H locs → lv_has ls 4 [(0, .ref (ξ.2.2.2.1 84)), (1, .int u1)] → W p l e (headSpec (Cond.code yMo_readPlain prog_10_method_51_code 4 (none) :: sw_tb) (rgMo_readPlain rr)).room s m args below meth c H locs 0 0 (MQ below (sw_Qv Γ A ξ g res (True)) args s 0 0 A) (F0 m 53 ls []) := by
  intro μ u1 H locs ls hm hw hl
  unfold fMo_readPlain_53 at hm
  refine lv_aload_n S.1 S.2.1 dMo_readPlain_53 rfl (lv_at hl 0 rfl) ?_
  obtain ⟨⟨v27, μ26⟩, h25, hm⟩ := ob hm
  refine sw_Vi (q := 84) (rest := []) S hw (cMo_fine l  hf  h25) kMo_fine wm_Mo_197 (is_84 hf).1 (e_Mo (is_84 hf)) rfl rfl rfl rfl hl.1 (Nat.le_of_ble_eq_true rfl) ⟨rfl, rfl, by show 0 + 1 ≤ rr.frames + _; omega, by show 8 + (1 + 11) + 0 ≤ rr.locals + _; omega⟩ ⟨Nat.le_of_ble_eq_true rfl, Nat.le_of_ble_eq_true rfl⟩ dMo_readPlain_54 (fun H locs hw _ => ?_)
  refine bif_ne (tgt := 61) S.1 S.2.1 hm dMo_readPlain_57 (by decide) (fun hm => ?_) (fun hm => ?_)
  · refine lv_aload_n S.1 S.2.1 dMo_readPlain_61 rfl (lv_at hl 0 rfl) ?_
    refine lv_dup S.1 S.2.1 dMo_readPlain_62 rfl ?_
    refine get_Mo (v := .int (μ26.1 84 19)) S hw (is_84 hf) 19 (by decide) rfl wf_Mo_201 dMo_readPlain_63 ?_
    refine lv_iconst (v := (1 : Int32)) S.1 S.2.1 dMo_readPlain_66 (by decide) ?_
    refine lv_iadd S.1 S.2.1 dMo_readPlain_67 ?_
    refine put_Mo S hw (is_84 hf) 19 (by decide) ps_Mo_19 rfl rfl rfl wf_Mo_201 hm dMo_readPlain_68 (fun μ28 H locs hm hw => ?_)
    refine lv_aload_n S.1 S.2.1 dMo_readPlain_71 rfl (lv_at hl 0 rfl) ?_
    refine lv_iload_n S.1 S.2.1 dMo_readPlain_72 rfl (lv_at hl 1 rfl) ?_
    refine lv_iconst (v := (1 : Int32)) S.1 S.2.1 dMo_readPlain_73 (by decide) ?_
    refine lv_iadd S.1 S.2.1 dMo_readPlain_74 ?_
    obtain ⟨μ30, h29, hm⟩ := ob hm
    refine sw_Vv (q := 84) (rest := []) S hw (hrc hf (u1 + (1 : Int32)) h29) kMo_readTest wm_Mo_220 (is_84 hf).1 (e_Mo (is_84 hf)) rfl rfl rfl rfl hl.1 (Nat.le_of_ble_eq_true rfl) ⟨hr0.1, hr0.2, by show rr.frames + 1 ≤ rr.frames + _; omega, by show 8 + (2 + 11) + rr.locals ≤ rr.locals + _; omega⟩ ⟨Nat.le_of_ble_eq_true rfl, Nat.le_of_ble_eq_true rfl⟩ dMo_readPlain_75 (fun H locs hw _ => ?_)
    refine lv_aload_n S.1 S.2.1 dMo_readPlain_78 rfl (lv_at hl 0 rfl) ?_
    refine lv_bipush (v := (41 : Int32)) S.1 S.2.1 dMo_readPlain_79 (by decide) ?_
    obtain ⟨v32, h31, hm⟩ := ob hm
    refine sw_Si (rest := [.ref (ξ.2.2.2.1 84)]) S hw (cMo_sign l  hf (41 : Int32) h31) kMo_sign wm_Mo_245 rfl rfl hl.1 (Nat.le_of_ble_eq_true rfl) ⟨rfl, rfl, by show 0 + 1 ≤ rr.frames + _; omega, by show 8 + (1 + 11) + 0 ≤ rr.locals + _; omega⟩ ⟨Nat.le_of_ble_eq_true rfl, Nat.le_of_ble_eq_true rfl⟩ dMo_readPlain_81 (fun H locs hw _ => ?_)
    obtain ⟨μ34, h33, hm⟩ := ob hm
    refine sw_Vv (q := 84) (rest := []) S hw (cMo_must l N hf v32 h33) kMo_must wm_Mo_217 (is_84 hf).1 (e_Mo (is_84 hf)) rfl rfl rfl rfl hl.1 (Nat.le_of_ble_eq_true rfl) ⟨rfl, rfl, by show 2 + 1 ≤ rr.frames + _; omega, by show 8 + (2 + 11) + 42 ≤ rr.locals + _; omega⟩ ⟨Nat.le_of_ble_eq_true rfl, Nat.le_of_ble_eq_true rfl⟩ dMo_readPlain_84 (fun H locs hw _ => ?_)
    refine lv_goto (tgt := 133) S.1 S.2.1 dMo_readPlain_87 (by decide) ?_
    obtain rfl := Option.some.inj hm
    exact sw_vret S hr hlk hw trivial dMo_readPlain_133
  · obtain rfl := Option.some.inj hm
    exact sw_vret S hr hlk hw trivial dMo_readPlain_60
set_option maxHeartbeats 4000000 in
set_option maxRecDepth 100000 in
theorem wMo_readPlain_128 {l : Launch} {p : Program} {e : Env} {s : State} {m : MethodId} {args : Array Value} {below : List Frame} {meth : Method} {c : Code} {Γ : sw_C} {A : Nat → Prop} {ξ : sw_x} {g : sw_g} {res : sw_m} (S : CallFix p m c prog_10_method_51_code 4 s args (Cond.code yMo_readPlain prog_10_method_51_code 4 (none) :: sw_tb) R_Mo) (hr : meth.sig.returnType = none) (hlk : meth.locks = false) (hf : sw_wf ξ g.2.2) (rc : sw_m → Int32 → Option (sw_m)) (rr : Room) (hr0 : rr.cells = 0 ∧ rr.slots = 0) (hrc : ∀ {Γ : sw_C} {A : Nat → Prop} {ξ : sw_x} {g : sw_g} {μ : sw_m} (hf : sw_wf ξ g.2.2) (a1 : Int32) {res : sw_m}, rc μ a1 = some res → Met l yMo_readTest (Cond.code yMo_readTest prog_10_method_49_code 2 (none) :: sw_tb) rr (va_Pc [.ref (ξ.2.2.2.1 84), .int a1] (sw_V Γ A ξ g μ)) (sw_Qv Γ A ξ g res (True)) 0 0 A) (N : Nat) : ∀ (μ : sw_m) (u1 : Int32) (H : Heap) (locs : List Loc) (ls : Array Slot), fMo_readPlain_128 N rc  μ u1 = some res → sw_S Γ A ξ g μ s H locs → lv_has ls 4 [(0, .ref (ξ.2.2.2.1 84)), (1, .int u1)] → W p l e (headSpec (Cond.code yMo_readPlain prog_10_method_51_code 4 (none) :: sw_tb) (rgMo_readPlain rr)).room s m args below meth c H locs 0 0 (MQ below (sw_Qv Γ A ξ g res (True)) args s 0 0 A) (F0 m 128 ls []) := by
  intro μ u1 H locs ls hm hw hl
  unfold fMo_readPlain_128 at hm
  refine lv_aload_n S.1 S.2.1 dMo_readPlain_128 rfl (lv_at hl 0 rfl) ?_
  refine lv_iload_n S.1 S.2.1 dMo_readPlain_129 rfl (lv_at hl 1 rfl) ?_
  obtain ⟨μ15, h14, hm⟩ := ob hm
  refine sw_Vv (q := 84) (rest := []) S hw (cMo_readSum l N 10 hf u1 h14) kMo_readSum wm_Mo_213 (is_84 hf).1 (e_Mo (is_84 hf)) rfl rfl rfl rfl hl.1 (Nat.le_of_ble_eq_true rfl) ⟨rfl, rfl, by show 50 + 1 ≤ rr.frames + _; omega, by show 8 + (2 + 11) + 1060 ≤ rr.locals + _; omega⟩ ⟨Nat.le_of_ble_eq_true rfl, Nat.le_of_ble_eq_true rfl⟩ dMo_readPlain_130 (fun H locs hw _ => ?_)
  obtain rfl := Option.some.inj hm
  exact sw_vret S hr hlk hw trivial dMo_readPlain_133
set_option maxHeartbeats 4000000 in
set_option maxRecDepth 100000 in
theorem wMo_readPlain_2 {l : Launch} {p : Program} {e : Env} {s : State} {m : MethodId} {args : Array Value} {below : List Frame} {meth : Method} {c : Code} {Γ : sw_C} {A : Nat → Prop} {ξ : sw_x} {g : sw_g} {res : sw_m} (S : CallFix p m c prog_10_method_51_code 4 s args (Cond.code yMo_readPlain prog_10_method_51_code 4 (none) :: sw_tb) R_Mo) (hr : meth.sig.returnType = none) (hlk : meth.locks = false) (hf : sw_wf ξ g.2.2) (rc : sw_m → Int32 → Option (sw_m)) (rr : Room) (hr0 : rr.cells = 0 ∧ rr.slots = 0) (hrc : ∀ {Γ : sw_C} {A : Nat → Prop} {ξ : sw_x} {g : sw_g} {μ : sw_m} (hf : sw_wf ξ g.2.2) (a1 : Int32) {res : sw_m}, rc μ a1 = some res → Met l yMo_readTest (Cond.code yMo_readTest prog_10_method_49_code 2 (none) :: sw_tb) rr (va_Pc [.ref (ξ.2.2.2.1 84), .int a1] (sw_V Γ A ξ g μ)) (sw_Qv Γ A ξ g res (True)) 0 0 A) (N : Nat) : ∀ (fu : Nat) (μ : sw_m) (u1 : Int32) (u2 : Int32) (H : Heap) (locs : List Loc) (ls : Array Slot), fMo_readPlain_2 N rc  fu μ u1 u2 = some res → sw_S Γ A ξ g μ s H locs → lv_has ls 4 [(0, .ref (ξ.2.2.2.1 84)), (1, .int u1), (2, .int u2)] → W p l e (headSpec (Cond.code yMo_readPlain prog_10_method_51_code 4 (none) :: sw_tb) (rgMo_readPlain rr)).room s m args below meth c H locs 0 0 (MQ below (sw_Qv Γ A ξ g res (True)) args s 0 0 A) (F0 m 2 ls []) := by
  intro fu
  induction fu with
  | zero => intro μ u1 u2 H locs ls hm; rw [fMo_readPlain_2.eq_1] at hm; cases hm
  | succ fu ih =>
    intro μ u1 u2 H locs ls hm hw hl
    rw [fMo_readPlain_2.eq_2] at hm
    refine lv_iload_n S.1 S.2.1 dMo_readPlain_2 rfl (lv_at hl 2 rfl) ?_
    refine bif_eq (tgt := 16) S.1 S.2.1 hm dMo_readPlain_3 (by decide) (fun hm => ?_) (fun hm => ?_)
    · refine lv_aload_n S.1 S.2.1 dMo_readPlain_16 rfl (lv_at hl 0 rfl) ?_
      obtain ⟨⟨v3, μ2⟩, h1, hm⟩ := ob hm
      refine sw_Vi (q := 84) (rest := []) S hw (cMo_fine l  hf  h1) kMo_fine wm_Mo_197 (is_84 hf).1 (e_Mo (is_84 hf)) rfl rfl rfl rfl hl.1 (Nat.le_of_ble_eq_true rfl) ⟨rfl, rfl, by show 0 + 1 ≤ rr.frames + _; omega, by show 8 + (1 + 11) + 0 ≤ rr.locals + _; omega⟩ ⟨Nat.le_of_ble_eq_true rfl, Nat.le_of_ble_eq_true rfl⟩ dMo_readPlain_17 (fun H locs hw _ => ?_)
      refine bif_ne (tgt := 24) S.1 S.2.1 hm dMo_readPlain_20 (by decide) (fun hm => ?_) (fun hm => ?_)
      · refine lv_aload_n S.1 S.2.1 dMo_readPlain_24 rfl (lv_at hl 0 rfl) ?_
        refine get_Mo (v := .ref (ξ.2.2.2.1 93)) S hw (is_84 hf) 15 (by decide) rfl wf_Mo_54 dMo_readPlain_25 ?_
        refine lv_aload_n S.1 S.2.1 dMo_readPlain_28 rfl (lv_at hl 0 rfl) ?_
        refine get_Mo (v := .int (μ2.1 84 19)) S hw (is_84 hf) 19 (by decide) rfl wf_Mo_201 dMo_readPlain_29 ?_
        refine sm_iald S hw (is_93 hf) hm dMo_readPlain_32 (fun v4 hm => ?_)
        refine lv_istore_n (lv' := [(3, .int v4), (0, .ref (ξ.2.2.2.1 84)), (1, .int u1), (2, .int u2)]) S.1 S.2.1 dMo_readPlain_33 rfl hl (by decide) rfl (fun ls hl => ?_)
        refine lv_iload_n S.1 S.2.1 dMo_readPlain_34 rfl (lv_at hl 0 rfl) ?_
        refine lv_bipush (v := (40 : Int32)) S.1 S.2.1 dMo_readPlain_35 (by decide) ?_
        obtain ⟨v6, h5, hm⟩ := ob hm
        refine sw_Si (rest := [.int v4]) S hw (cMo_sign l  hf (40 : Int32) h5) kMo_sign wm_Mo_245 rfl rfl hl.1 (Nat.le_of_ble_eq_true rfl) ⟨rfl, rfl, by show 0 + 1 ≤ rr.frames + _; omega, by show 8 + (1 + 11) + 0 ≤ rr.locals + _; omega⟩ ⟨Nat.le_of_ble_eq_true rfl, Nat.le_of_ble_eq_true rfl⟩ dMo_readPlain_37 (fun H locs hw _ => ?_)
        refine bicmp_ne (tgt := 90) S.1 S.2.1 hm dMo_readPlain_40 (by decide) (fun hm => ?_) (fun hm => ?_)
        · refine lv_aload_n S.1 S.2.1 dMo_readPlain_90 rfl (lv_at hl 1 rfl) ?_
          refine lv_iload_n S.1 S.2.1 dMo_readPlain_91 rfl (lv_at hl 2 rfl) ?_
          obtain ⟨μ8, h7, hm⟩ := ob hm
          refine sw_Vv (q := 84) (rest := []) S hw (cMo_readSum l N 10 hf u1 h7) kMo_readSum wm_Mo_213 (is_84 hf).1 (e_Mo (is_84 hf)) rfl rfl rfl rfl hl.1 (Nat.le_of_ble_eq_true rfl) ⟨rfl, rfl, by show 50 + 1 ≤ rr.frames + _; omega, by show 8 + (2 + 11) + 1060 ≤ rr.locals + _; omega⟩ ⟨Nat.le_of_ble_eq_true rfl, Nat.le_of_ble_eq_true rfl⟩ dMo_readPlain_92 (fun H locs hw _ => ?_)
          refine lv_aload_n S.1 S.2.1 dMo_readPlain_95 rfl (lv_at hl 1 rfl) ?_
          refine lv_bipush (v := (60 : Int32)) S.1 S.2.1 dMo_readPlain_96 (by decide) ?_
          obtain ⟨v10, h9, hm⟩ := ob hm
          refine sw_Si (rest := [.ref (ξ.2.2.2.1 84)]) S hw (cMo_sign l  hf (60 : Int32) h9) kMo_sign wm_Mo_245 rfl rfl hl.1 (Nat.le_of_ble_eq_true rfl) ⟨rfl, rfl, by show 0 + 1 ≤ rr.frames + _; omega, by show 8 + (1 + 11) + 0 ≤ rr.locals + _; omega⟩ ⟨Nat.le_of_ble_eq_true rfl, Nat.le_of_ble_eq_true rfl⟩ dMo_readPlain_98 (fun H locs hw _ => ?_)
          obtain ⟨⟨v13, μ12⟩, h11, hm⟩ := ob hm
          refine sw_Vi (q := 84) (rest := []) S hw (cMo_takes0 l N hf v10 h11) kMo_takes0 wm_Mo_204 (is_84 hf).1 (e_Mo (is_84 hf)) rfl rfl rfl rfl hl.1 (Nat.le_of_ble_eq_true rfl) ⟨rfl, rfl, by show 1 + 1 ≤ rr.frames + _; omega, by show 8 + (3 + 11) + 20 ≤ rr.locals + _; omega⟩ ⟨Nat.le_of_ble_eq_true rfl, Nat.le_of_ble_eq_true rfl⟩ dMo_readPlain_101 (fun H locs hw _ => ?_)
          refine bif_ne (tgt := 128) S.1 S.2.1 hm dMo_readPlain_104 (by decide) (fun hm => ?_) (fun hm => ?_)
          · exact wMo_readPlain_128 S hr hlk hf rc rr hr0 hrc N  μ12 u1 _ _ _ hm hw (lv_sub hl [1, 2] rfl)
          · refine lv_aload_n S.1 S.2.1 dMo_readPlain_107 rfl (lv_at hl 1 rfl) ?_
            refine lv_bipush (v := (62 : Int32)) S.1 S.2.1 dMo_readPlain_108 (by decide) ?_
            obtain ⟨v17, h16, hm⟩ := ob hm
            refine sw_Si (rest := [.ref (ξ.2.2.2.1 84)]) S hw (cMo_sign l  hf (62 : Int32) h16) kMo_sign wm_Mo_245 rfl rfl hl.1 (Nat.le_of_ble_eq_true rfl) ⟨rfl, rfl, by show 0 + 1 ≤ rr.frames + _; omega, by show 8 + (1 + 11) + 0 ≤ rr.locals + _; omega⟩ ⟨Nat.le_of_ble_eq_true rfl, Nat.le_of_ble_eq_true rfl⟩ dMo_readPlain_110 (fun H locs hw _ => ?_)
            obtain ⟨⟨v20, μ19⟩, h18, hm⟩ := ob hm
            refine sw_Vi (q := 84) (rest := []) S hw (cMo_takes0 l N hf v17 h18) kMo_takes0 wm_Mo_204 (is_84 hf).1 (e_Mo (is_84 hf)) rfl rfl rfl rfl hl.1 (Nat.le_of_ble_eq_true rfl) ⟨rfl, rfl, by show 1 + 1 ≤ rr.frames + _; omega, by show 8 + (3 + 11) + 20 ≤ rr.locals + _; omega⟩ ⟨Nat.le_of_ble_eq_true rfl, Nat.le_of_ble_eq_true rfl⟩ dMo_readPlain_113 (fun H locs hw _ => ?_)
            refine bif_ne (tgt := 128) S.1 S.2.1 hm dMo_readPlain_116 (by decide) (fun hm => ?_) (fun hm => ?_)
            · exact wMo_readPlain_128 S hr hlk hf rc rr hr0 hrc N  μ19 u1 _ _ _ hm hw (lv_sub hl [1, 2] rfl)
            · refine lv_aload_n S.1 S.2.1 dMo_readPlain_119 rfl (lv_at hl 1 rfl) ?_
              refine lv_bipush (v := (61 : Int32)) S.1 S.2.1 dMo_readPlain_120 (by decide) ?_
              obtain ⟨v22, h21, hm⟩ := ob hm
              refine sw_Si (rest := [.ref (ξ.2.2.2.1 84)]) S hw (cMo_sign l  hf (61 : Int32) h21) kMo_sign wm_Mo_245 rfl rfl hl.1 (Nat.le_of_ble_eq_true rfl) ⟨rfl, rfl, by show 0 + 1 ≤ rr.frames + _; omega, by show 8 + (1 + 11) + 0 ≤ rr.locals + _; omega⟩ ⟨Nat.le_of_ble_eq_true rfl, Nat.le_of_ble_eq_true rfl⟩ dMo_readPlain_122 (fun H locs hw _ => ?_)
              obtain ⟨μ24, h23, hm⟩ := ob hm
              refine sw_Vv (q := 84) (rest := []) S hw (cMo_must l N hf v22 h23) kMo_must wm_Mo_217 (is_84 hf).1 (e_Mo (is_84 hf)) rfl rfl rfl rfl hl.1 (Nat.le_of_ble_eq_true rfl) ⟨rfl, rfl, by show 2 + 1 ≤ rr.frames + _; omega, by show 8 + (2 + 11) + 42 ≤ rr.locals + _; omega⟩ ⟨Nat.le_of_ble_eq_true rfl, Nat.le_of_ble_eq_true rfl⟩ dMo_readPlain_125 (fun H locs hw _ => ?_)
              exact wMo_readPlain_128 S hr hlk hf rc rr hr0 hrc N  μ24 u1 _ _ _ hm hw (lv_sub hl [1, 2] rfl)
        · refine lv_iload_n S.1 S.2.1 dMo_readPlain_43 rfl (lv_at hl 2 rfl) ?_
          refine lv_bipush (v := (8 : Int32)) S.1 S.2.1 dMo_readPlain_44 (by decide) ?_
          refine bicmp_ne (tgt := 53) S.1 S.2.1 hm dMo_readPlain_46 (by decide) (fun hm => ?_) (fun hm => ?_)
          · exact wMo_readPlain_53 S hr hlk hf rc rr hr0 hrc N  μ2 u1 _ _ _ hm hw (lv_sub hl [1, 2] rfl)
          · refine lv_aload_n S.1 S.2.1 dMo_readPlain_49 rfl (lv_at hl 1 rfl) ?_
            obtain ⟨μ36, h35, hm⟩ := ob hm
            refine sw_Vv (q := 84) (rest := []) S hw (cMo_faults l  hf  h35) kMo_faults wm_Mo_207 (is_84 hf).1 (e_Mo (is_84 hf)) rfl rfl rfl rfl hl.1 (Nat.le_of_ble_eq_true rfl) ⟨rfl, rfl, by show 1 + 1 ≤ rr.frames + _; omega, by show 8 + (1 + 11) + 20 ≤ rr.locals + _; omega⟩ ⟨Nat.le_of_ble_eq_true rfl, Nat.le_of_ble_eq_true rfl⟩ dMo_readPlain_50 (fun H locs hw _ => ?_)
            exact wMo_readPlain_53 S hr hlk hf rc rr hr0 hrc N  μ36 u1 _ _ _ hm hw (lv_sub hl [1, 2] rfl)
      · obtain rfl := Option.some.inj hm
        exact sw_vret S hr hlk hw trivial dMo_readPlain_23
    · refine lv_aload_n S.1 S.2.1 dMo_readPlain_6 rfl (lv_at hl 0 rfl) ?_
      refine lv_bipush (v := (7 : Int32)) S.1 S.2.1 dMo_readPlain_7 (by decide) ?_
      obtain ⟨⟨v39, μ38⟩, h37, hm⟩ := ob hm
      refine sw_Vi (q := 84) (rest := []) S hw (cMo_takes0 l N hf (7 : Int32) h37) kMo_takes0 wm_Mo_204 (is_84 hf).1 (e_Mo (is_84 hf)) rfl rfl rfl rfl hl.1 (Nat.le_of_ble_eq_true rfl) ⟨rfl, rfl, by show 1 + 1 ≤ rr.frames + _; omega, by show 8 + (3 + 11) + 20 ≤ rr.locals + _; omega⟩ ⟨Nat.le_of_ble_eq_true rfl, Nat.le_of_ble_eq_true rfl⟩ dMo_readPlain_9 (fun H locs hw _ => ?_)
      refine lv_istore_n (lv' := [(2, .int v39), (0, .ref (ξ.2.2.2.1 84)), (1, .int u1)]) S.1 S.2.1 dMo_readPlain_12 rfl hl (by decide) rfl (fun ls hl => ?_)
      refine lv_goto (tgt := 2) S.1 S.2.1 dMo_readPlain_13 (by decide) ?_
      exact ih μ38 u1 v39 _ _ _ hm hw (lv_sub hl [1, 2, 0] rfl)
set_option maxHeartbeats 4000000 in
set_option maxRecDepth 100000 in
theorem cMo_readPlain (l : Launch) (N : Nat) (rc : sw_m → Int32 → Option (sw_m)) (rr : Room) (hr0 : rr.cells = 0 ∧ rr.slots = 0) (hrc : ∀ {Γ : sw_C} {A : Nat → Prop} {ξ : sw_x} {g : sw_g} {μ : sw_m} (hf : sw_wf ξ g.2.2) (a1 : Int32) {res : sw_m}, rc μ a1 = some res → Met l yMo_readTest (Cond.code yMo_readTest prog_10_method_49_code 2 (none) :: sw_tb) rr (va_Pc [.ref (ξ.2.2.2.1 84), .int a1] (sw_V Γ A ξ g μ)) (sw_Qv Γ A ξ g res (True)) 0 0 A) {Γ : sw_C} {A : Nat → Prop} {ξ : sw_x} {g : sw_g} {μ : sw_m} (hf : sw_wf ξ g.2.2) (a1 : Int32) {res : sw_m} (hm : fMo_readPlain N rc μ a1 = some res) : Met l yMo_readPlain (Cond.code yMo_readPlain prog_10_method_51_code 4 (none) :: sw_tb) (rgMo_readPlain rr) (va_Pc [.ref (ξ.2.2.2.1 84), .int a1] (sw_V Γ A ξ g μ)) (sw_Qv Γ A ξ g res (True)) 0 0 A := by
  refine Met.ofW (cc := prog_10_method_51_code) (maxL := 4) (ret := none) (by decide) rfl ?_
  intro p e s m args below meth c s₁ B hml hv
  obtain ⟨rfl, hv⟩ := hv
  have S : CallFix p m c prog_10_method_51_code 4 s _ (Cond.code yMo_readPlain prog_10_method_51_code 4 (none) :: sw_tb) R_Mo := ⟨B.exec, B.bytes, hml, findClass_of_methodNamed B.named, atoms_spec (ws := (Cond.code yMo_readPlain prog_10_method_51_code 4 (none) :: sw_tb)) B.pre⟩
  have hr := B.returns
  have hlk := B.notSynchronized
  have hw := sw_begin hv
  have hl := lv_entry [.ref (ξ.2.2.2.1 84), .int a1] (n := 4) (Nat.le_of_ble_eq_true rfl)
  rw [lg_entry_eq]
  generalize (lg_sl [.ref (ξ.2.2.2.1 84), .int a1] ++ List.replicate (4 - (lg_sl [.ref (ξ.2.2.2.1 84), .int a1]).length) Slot.unset).toArray = ls at hl ⊢
  have hl : lv_has ls 4 [(0, .ref (ξ.2.2.2.1 84)), (1, .int a1)] := hl
  unfold fMo_readPlain at hm
  refine lv_iconst (v := (1 : Int32)) S.1 S.2.1 dMo_readPlain_0 (by decide) ?_
  refine lv_istore_n (lv' := [(2, .int (1 : Int32)), (0, .ref (ξ.2.2.2.1 84)), (1, .int a1)]) S.1 S.2.1 dMo_readPlain_1 rfl hl (by decide) rfl (fun ls hl => ?_)
  exact wMo_readPlain_2 S hr hlk hf rc rr hr0 hrc N  N μ a1 (1 : Int32) _ _ _ hm hw (lv_sub hl [1, 2, 0] rfl)
set_option maxHeartbeats 4000000 in
set_option maxRecDepth 100000 in
theorem wMo_sumOf_95 {l : Launch} {p : Program} {e : Env} {s : State} {m : MethodId} {args : Array Value} {below : List Frame} {meth : Method} {c : Code} {Γ : sw_C} {A : Nat → Prop} {ξ : sw_x} {g : sw_g} {res : Int64 × sw_m} (S : CallFix p m c prog_10_method_65_code 7 s args (Cond.code yMo_sumOf prog_10_method_65_code 7 (some .long) :: sw_tb) R_Mo) (hr : meth.sig.returnType = some .long) (hlk : meth.locks = false) (hf : sw_wf ξ g.2.2) (rc : sw_m → Int32 → Option (Int64 × sw_m)) (rr : Room) (hr0 : rr.cells = 0 ∧ rr.slots = 0) (hrc : ∀ {Γ : sw_C} {A : Nat → Prop} {ξ : sw_x} {g : sw_g} {μ : sw_m} (hf : sw_wf ξ g.2.2) (a1 : Int32) {res : Int64 × sw_m}, rc μ a1 = some res → Met l yMo_sumOf (Cond.code yMo_sumOf prog_10_method_65_code 7 (some .long) :: sw_tb) rr (va_Pc [.ref (ξ.2.2.2.1 84), .int a1] (sw_V Γ A ξ g μ)) (sw_Ql Γ A ξ g res.2 res.1 (True)) 0 0 A) (N : Nat) (k6 : sw_m → Int32 → Int64 → Option (Int64 × sw_m)) (hk6 : ∀ (μ : sw_m) (u1 : Int32) (u2 : Int64) (H : Heap) (locs : List Loc) (ls : Array Slot), k6 μ u1 u2 = some res → sw_S Γ A ξ g μ s H locs → lv_has ls 7 [(0, .ref (ξ.2.2.2.1 84)), (1, .int u1), (2, .long u2)] → W p l e (headSpec (Cond.code yMo_sumOf prog_10_method_65_code 7 (some .long) :: sw_tb) (rgMo_sumOf rr)).room s m args below meth c H locs 0 0 (MQ below (sw_Ql Γ A ξ g res.2 res.1 (True)) args s 0 0 A) (F0 m 6 ls [])) : ∀ (μ : sw_m) (u1 : Int32) (s0 : Int64) (H : Heap) (locs : List Loc) (ls : Array Slot), fMo_sumOf_b_95 N rc k6 μ u1 s0 = some res → sw_S Γ A ξ g μ s H locs → lv_has ls 7 [(0, .ref (ξ.2.2.2.1 84)), (1, .int u1)] → W p l e (headSpec (Cond.code yMo_sumOf prog_10_method_65_code 7 (some .long) :: sw_tb) (rgMo_sumOf rr)).room s m args below meth c H locs 0 0 (MQ below (sw_Ql Γ A ξ g res.2 res.1 (True)) args s 0 0 A) (F0 m 95 ls [.long s0, .ref (ξ.2.2.2.1 84)]) := by
  intro μ u1 s0 H locs ls hm hw hl
  unfold fMo_sumOf_b_95 at hm
  refine lv_iload_n S.1 S.2.1 dMo_sumOf_95 rfl (lv_at hl 1 rfl) ?_
  obtain ⟨⟨v20, μ19⟩, h18, hm⟩ := ob hm
  refine sw_Vl (q := 84) (rest := []) S hw (cMo_bounded l N hf s0 u1 h18) kMo_bounded wm_Mo_303 (is_84 hf).1 (e_Mo (is_84 hf)) rfl rfl rfl rfl hl.1 (Nat.le_of_ble_eq_true rfl) ⟨rfl, rfl, by show 0 + 1 ≤ rr.frames + _; omega, by show 8 + (4 + 11) + 0 ≤ rr.locals + _; omega⟩ ⟨Nat.le_of_ble_eq_true rfl, Nat.le_of_ble_eq_true rfl⟩ dMo_sumOf_96 (fun H locs hw _ => ?_)
  refine lv_lstore_n (lv' := [(2, .long v20), (0, .ref (ξ.2.2.2.1 84)), (1, .int u1)]) S.1 S.2.1 dMo_sumOf_99 rfl hl (by decide) rfl (fun ls hl => ?_)
  refine lv_goto (tgt := 6) S.1 S.2.1 dMo_sumOf_100 (by decide) ?_
  exact hk6 μ19 u1 v20 _ _ _ hm hw (lv_sub hl [1, 2, 0] rfl)
set_option maxHeartbeats 4000000 in
set_option maxRecDepth 100000 in
theorem wMo_sumOf_59 {l : Launch} {p : Program} {e : Env} {s : State} {m : MethodId} {args : Array Value} {below : List Frame} {meth : Method} {c : Code} {Γ : sw_C} {A : Nat → Prop} {ξ : sw_x} {g : sw_g} {res : Int64 × sw_m} (S : CallFix p m c prog_10_method_65_code 7 s args (Cond.code yMo_sumOf prog_10_method_65_code 7 (some .long) :: sw_tb) R_Mo) (hr : meth.sig.returnType = some .long) (hlk : meth.locks = false) (hf : sw_wf ξ g.2.2) (rc : sw_m → Int32 → Option (Int64 × sw_m)) (rr : Room) (hr0 : rr.cells = 0 ∧ rr.slots = 0) (hrc : ∀ {Γ : sw_C} {A : Nat → Prop} {ξ : sw_x} {g : sw_g} {μ : sw_m} (hf : sw_wf ξ g.2.2) (a1 : Int32) {res : Int64 × sw_m}, rc μ a1 = some res → Met l yMo_sumOf (Cond.code yMo_sumOf prog_10_method_65_code 7 (some .long) :: sw_tb) rr (va_Pc [.ref (ξ.2.2.2.1 84), .int a1] (sw_V Γ A ξ g μ)) (sw_Ql Γ A ξ g res.2 res.1 (True)) 0 0 A) (N : Nat) (k6 : sw_m → Int32 → Int64 → Option (Int64 × sw_m)) (hk6 : ∀ (μ : sw_m) (u1 : Int32) (u2 : Int64) (H : Heap) (locs : List Loc) (ls : Array Slot), k6 μ u1 u2 = some res → sw_S Γ A ξ g μ s H locs → lv_has ls 7 [(0, .ref (ξ.2.2.2.1 84)), (1, .int u1), (2, .long u2)] → W p l e (headSpec (Cond.code yMo_sumOf prog_10_method_65_code 7 (some .long) :: sw_tb) (rgMo_sumOf rr)).room s m args below meth c H locs 0 0 (MQ below (sw_Ql Γ A ξ g res.2 res.1 (True)) args s 0 0 A) (F0 m 6 ls [])) : ∀ (μ : sw_m) (u1 : Int32) (u2 : Int64) (s0 : Int32) (H : Heap) (locs : List Loc) (ls : Array Slot), fMo_sumOf_b_59 N rc k6 μ u1 u2 s0 = some res → sw_S Γ A ξ g μ s H locs → lv_has ls 7 [(0, .ref (ξ.2.2.2.1 84)), (1, .int u1), (2, .long u2)] → W p l e (headSpec (Cond.code yMo_sumOf prog_10_method_65_code 7 (some .long) :: sw_tb) (rgMo_sumOf rr)).room s m args below meth c H locs 0 0 (MQ below (sw_Ql Γ A ξ g res.2 res.1 (True)) args s 0 0 A) (F0 m 59 ls [.int s0]) := by
  intro μ u1 u2 s0 H locs ls hm hw hl
  unfold fMo_sumOf_b_59 at hm
  refine lv_istore (lv' := [(4, .int s0), (0, .ref (ξ.2.2.2.1 84)), (1, .int u1), (2, .long u2)]) S.1 S.2.1 dMo_sumOf_59 hl (by decide) rfl (fun ls hl => ?_)
  refine lv_aload_n S.1 S.2.1 dMo_sumOf_61 rfl (lv_at hl 1 rfl) ?_
  refine lv_dup S.1 S.2.1 dMo_sumOf_62 rfl ?_
  refine get_Mo (v := .int (μ.1 84 22)) S hw (is_84 hf) 22 (by decide) rfl wf_Mo_286 dMo_sumOf_63 ?_
  refine lv_iconst (v := (1 : Int32)) S.1 S.2.1 dMo_sumOf_66 (by decide) ?_
  refine lv_iadd S.1 S.2.1 dMo_sumOf_67 ?_
  refine put_Mo S hw (is_84 hf) 22 (by decide) ps_Mo_22 rfl rfl rfl wf_Mo_286 hm dMo_sumOf_68 (fun μ14 H locs hm hw => ?_)
  refine lv_aload_n S.1 S.2.1 dMo_sumOf_71 rfl (lv_at hl 1 rfl) ?_
  refine lv_iload_n S.1 S.2.1 dMo_sumOf_72 rfl (lv_at hl 2 rfl) ?_
  obtain ⟨⟨v17, μ16⟩, h15, hm⟩ := ob hm
  refine sw_Vl (q := 84) (rest := []) S hw (cMo_termOf l N rc rr hr0 hrc hf u1 h15) kMo_termOf wm_Mo_299 (is_84 hf).1 (e_Mo (is_84 hf)) rfl rfl rfl rfl hl.1 (Nat.le_of_ble_eq_true rfl) ⟨rfl, rfl, by show rr.frames + 4 + 1 ≤ rr.frames + _; omega, by show 8 + (7 + 11) + (rr.locals + 88) ≤ rr.locals + _; omega⟩ ⟨Nat.le_of_ble_eq_true rfl, Nat.le_of_ble_eq_true rfl⟩ dMo_sumOf_73 (fun H locs hw _ => ?_)
  refine lv_lstore (lv' := [(5, .long v17), (4, .int s0), (0, .ref (ξ.2.2.2.1 84)), (1, .int u1), (2, .long u2)]) S.1 S.2.1 dMo_sumOf_76 hl (by decide) rfl (fun ls hl => ?_)
  refine lv_aload_n S.1 S.2.1 dMo_sumOf_78 rfl (lv_at hl 2 rfl) ?_
  refine lv_iload S.1 S.2.1 dMo_sumOf_79 (lv_at hl 1 rfl) ?_
  refine bif_eq (tgt := 91) S.1 S.2.1 hm dMo_sumOf_81 (by decide) (fun hm => ?_) (fun hm => ?_)
  · refine lv_lload_n S.1 S.2.1 dMo_sumOf_91 rfl (lv_at hl 4 rfl) ?_
    refine lv_lload S.1 S.2.1 dMo_sumOf_92 (lv_at hl 0 rfl) ?_
    refine lv_lsub S.1 S.2.1 dMo_sumOf_94 ?_
    exact wMo_sumOf_95 S hr hlk hf rc rr hr0 hrc N k6 hk6 μ16 u1 (u2 - v17) _ _ _ hm hw (lv_sub hl [2, 3] rfl)
  · refine lv_lload_n S.1 S.2.1 dMo_sumOf_84 rfl (lv_at hl 4 rfl) ?_
    refine lv_lload S.1 S.2.1 dMo_sumOf_85 (lv_at hl 0 rfl) ?_
    refine lv_ladd S.1 S.2.1 dMo_sumOf_87 ?_
    refine lv_goto (tgt := 95) S.1 S.2.1 dMo_sumOf_88 (by decide) ?_
    exact wMo_sumOf_95 S hr hlk hf rc rr hr0 hrc N k6 hk6 μ16 u1 (u2 + v17) _ _ _ hm hw (lv_sub hl [2, 3] rfl)
set_option maxHeartbeats 4000000 in
set_option maxRecDepth 100000 in
theorem wMo_sumOf_38 {l : Launch} {p : Program} {e : Env} {s : State} {m : MethodId} {args : Array Value} {below : List Frame} {meth : Method} {c : Code} {Γ : sw_C} {A : Nat → Prop} {ξ : sw_x} {g : sw_g} {res : Int64 × sw_m} (S : CallFix p m c prog_10_method_65_code 7 s args (Cond.code yMo_sumOf prog_10_method_65_code 7 (some .long) :: sw_tb) R_Mo) (hr : meth.sig.returnType = some .long) (hlk : meth.locks = false) (hf : sw_wf ξ g.2.2) (rc : sw_m → Int32 → Option (Int64 × sw_m)) (rr : Room) (hr0 : rr.cells = 0 ∧ rr.slots = 0) (hrc : ∀ {Γ : sw_C} {A : Nat → Prop} {ξ : sw_x} {g : sw_g} {μ : sw_m} (hf : sw_wf ξ g.2.2) (a1 : Int32) {res : Int64 × sw_m}, rc μ a1 = some res → Met l yMo_sumOf (Cond.code yMo_sumOf prog_10_method_65_code 7 (some .long) :: sw_tb) rr (va_Pc [.ref (ξ.2.2.2.1 84), .int a1] (sw_V Γ A ξ g μ)) (sw_Ql Γ A ξ g res.2 res.1 (True)) 0 0 A) (N : Nat) (k6 : sw_m → Int32 → Int64 → Option (Int64 × sw_m)) (hk6 : ∀ (μ : sw_m) (u1 : Int32) (u2 : Int64) (H : Heap) (locs : List Loc) (ls : Array Slot), k6 μ u1 u2 = some res → sw_S Γ A ξ g μ s H locs → lv_has ls 7 [(0, .ref (ξ.2.2.2.1 84)), (1, .int u1), (2, .long u2)] → W p l e (headSpec (Cond.code yMo_sumOf prog_10_method_65_code 7 (some .long) :: sw_tb) (rgMo_sumOf rr)).room s m args below meth c H locs 0 0 (MQ below (sw_Ql Γ A ξ g res.2 res.1 (True)) args s 0 0 A) (F0 m 6 ls [])) : ∀ (μ : sw_m) (u1 : Int32) (u2 : Int64) (H : Heap) (locs : List Loc) (ls : Array Slot), fMo_sumOf_b_38 N rc k6 μ u1 u2 = some res → sw_S Γ A ξ g μ s H locs → lv_has ls 7 [(0, .ref (ξ.2.2.2.1 84)), (1, .int u1), (2, .long u2)] → W p l e (headSpec (Cond.code yMo_sumOf prog_10_method_65_code 7 (some .long) :: sw_tb) (rgMo_sumOf rr)).room s m args below meth c H locs 0 0 (MQ below (sw_Ql Γ A ξ g res.2 res.1 (True)) args s 0 0 A) (F0 m 38 ls []) := by
  intro μ u1 u2 H locs ls hm hw hl
  unfold fMo_sumOf_b_38 at hm
  refine lv_aload_n S.1 S.2.1 dMo_sumOf_38 rfl (lv_at hl 0 rfl) ?_
  refine lv_aload_n S.1 S.2.1 dMo_sumOf_39 rfl (lv_at hl 0 rfl) ?_
  refine get_Mo (v := .int (μ.1 84 22)) S hw (is_84 hf) 22 (by decide) rfl wf_Mo_286 dMo_sumOf_40 ?_
  obtain ⟨⟨v11, μ10⟩, h9, hm⟩ := ob hm
  refine sw_Vi (q := 84) (rest := []) S hw (cMo_codeAt l  hf (μ.1 84 22) h9) kMo_codeAt wm_Mo_289 (is_84 hf).1 (e_Mo (is_84 hf)) rfl rfl rfl rfl hl.1 (Nat.le_of_ble_eq_true rfl) ⟨rfl, rfl, by show 0 + 1 ≤ rr.frames + _; omega, by show 8 + (2 + 11) + 0 ≤ rr.locals + _; omega⟩ ⟨Nat.le_of_ble_eq_true rfl, Nat.le_of_ble_eq_true rfl⟩ dMo_sumOf_43 (fun H locs hw _ => ?_)
  refine lv_bipush (v := (43 : Int32)) S.1 S.2.1 dMo_sumOf_46 (by decide) ?_
  obtain ⟨v13, h12, hm⟩ := ob hm
  refine sw_Si (rest := [.int v11]) S hw (cMo_sign l  hf (43 : Int32) h12) kMo_sign wm_Mo_245 rfl rfl hl.1 (Nat.le_of_ble_eq_true rfl) ⟨rfl, rfl, by show 0 + 1 ≤ rr.frames + _; omega, by show 8 + (1 + 11) + 0 ≤ rr.locals + _; omega⟩ ⟨Nat.le_of_ble_eq_true rfl, Nat.le_of_ble_eq_true rfl⟩ dMo_sumOf_48 (fun H locs hw _ => ?_)
  refine bicmp_ne (tgt := 58) S.1 S.2.1 hm dMo_sumOf_51 (by decide) (fun hm => ?_) (fun hm => ?_)
  · refine lv_iconst (v := (0 : Int32)) S.1 S.2.1 dMo_sumOf_58 (by decide) ?_
    exact wMo_sumOf_59 S hr hlk hf rc rr hr0 hrc N k6 hk6 μ10 u1 u2 (0 : Int32) _ _ _ hm hw (lv_sub hl [0, 1, 2] rfl)
  · refine lv_iconst (v := (1 : Int32)) S.1 S.2.1 dMo_sumOf_54 (by decide) ?_
    refine lv_goto (tgt := 59) S.1 S.2.1 dMo_sumOf_55 (by decide) ?_
    exact wMo_sumOf_59 S hr hlk hf rc rr hr0 hrc N k6 hk6 μ10 u1 u2 (1 : Int32) _ _ _ hm hw (lv_sub hl [0, 1, 2] rfl)
set_option maxHeartbeats 4000000 in
set_option maxRecDepth 100000 in
theorem wMo_sumOf_6 {l : Launch} {p : Program} {e : Env} {s : State} {m : MethodId} {args : Array Value} {below : List Frame} {meth : Method} {c : Code} {Γ : sw_C} {A : Nat → Prop} {ξ : sw_x} {g : sw_g} {res : Int64 × sw_m} (S : CallFix p m c prog_10_method_65_code 7 s args (Cond.code yMo_sumOf prog_10_method_65_code 7 (some .long) :: sw_tb) R_Mo) (hr : meth.sig.returnType = some .long) (hlk : meth.locks = false) (hf : sw_wf ξ g.2.2) (rc : sw_m → Int32 → Option (Int64 × sw_m)) (rr : Room) (hr0 : rr.cells = 0 ∧ rr.slots = 0) (hrc : ∀ {Γ : sw_C} {A : Nat → Prop} {ξ : sw_x} {g : sw_g} {μ : sw_m} (hf : sw_wf ξ g.2.2) (a1 : Int32) {res : Int64 × sw_m}, rc μ a1 = some res → Met l yMo_sumOf (Cond.code yMo_sumOf prog_10_method_65_code 7 (some .long) :: sw_tb) rr (va_Pc [.ref (ξ.2.2.2.1 84), .int a1] (sw_V Γ A ξ g μ)) (sw_Ql Γ A ξ g res.2 res.1 (True)) 0 0 A) (N : Nat) : ∀ (fu : Nat) (μ : sw_m) (u1 : Int32) (u2 : Int64) (H : Heap) (locs : List Loc) (ls : Array Slot), fMo_sumOf_b_6 N rc  fu μ u1 u2 = some res → sw_S Γ A ξ g μ s H locs → lv_has ls 7 [(0, .ref (ξ.2.2.2.1 84)), (1, .int u1), (2, .long u2)] → W p l e (headSpec (Cond.code yMo_sumOf prog_10_method_65_code 7 (some .long) :: sw_tb) (rgMo_sumOf rr)).room s m args below meth c H locs 0 0 (MQ below (sw_Ql Γ A ξ g res.2 res.1 (True)) args s 0 0 A) (F0 m 6 ls []) := by
  intro fu
  induction fu with
  | zero => intro μ u1 u2 H locs ls hm; rw [fMo_sumOf_b_6.eq_1] at hm; cases hm
  | succ fu ih =>
    intro μ u1 u2 H locs ls hm hw hl
    rw [fMo_sumOf_b_6.eq_2] at hm
    refine lv_aload_n S.1 S.2.1 dMo_sumOf_6 rfl (lv_at hl 0 rfl) ?_
    refine lv_aload_n S.1 S.2.1 dMo_sumOf_7 rfl (lv_at hl 0 rfl) ?_
    refine get_Mo (v := .int (μ.1 84 22)) S hw (is_84 hf) 22 (by decide) rfl wf_Mo_286 dMo_sumOf_8 ?_
    obtain ⟨⟨v6, μ5⟩, h4, hm⟩ := ob hm
    refine sw_Vi (q := 84) (rest := []) S hw (cMo_codeAt l  hf (μ.1 84 22) h4) kMo_codeAt wm_Mo_289 (is_84 hf).1 (e_Mo (is_84 hf)) rfl rfl rfl rfl hl.1 (Nat.le_of_ble_eq_true rfl) ⟨rfl, rfl, by show 0 + 1 ≤ rr.frames + _; omega, by show 8 + (2 + 11) + 0 ≤ rr.locals + _; omega⟩ ⟨Nat.le_of_ble_eq_true rfl, Nat.le_of_ble_eq_true rfl⟩ dMo_sumOf_11 (fun H locs hw _ => ?_)
    refine lv_bipush (v := (43 : Int32)) S.1 S.2.1 dMo_sumOf_14 (by decide) ?_
    obtain ⟨v8, h7, hm⟩ := ob hm
    refine sw_Si (rest := [.int v6]) S hw (cMo_sign l  hf (43 : Int32) h7) kMo_sign wm_Mo_245 rfl rfl hl.1 (Nat.le_of_ble_eq_true rfl) ⟨rfl, rfl, by show 0 + 1 ≤ rr.frames + _; omega, by show 8 + (1 + 11) + 0 ≤ rr.locals + _; omega⟩ ⟨Nat.le_of_ble_eq_true rfl, Nat.le_of_ble_eq_true rfl⟩ dMo_sumOf_16 (fun H locs hw _ => ?_)
    refine bicmp_eq (tgt := 38) S.1 S.2.1 hm dMo_sumOf_19 (by decide) (fun hm => ?_) (fun hm => ?_)
    · exact wMo_sumOf_38 S hr hlk hf rc rr hr0 hrc N (fMo_sumOf_b_6 N rc  fu) ih μ5 u1 u2 _ _ _ hm hw (lv_sub hl [0, 1, 2] rfl)
    · refine lv_aload_n S.1 S.2.1 dMo_sumOf_22 rfl (lv_at hl 0 rfl) ?_
      refine lv_aload_n S.1 S.2.1 dMo_sumOf_23 rfl (lv_at hl 0 rfl) ?_
      refine get_Mo (v := .int (μ5.1 84 22)) S hw (is_84 hf) 22 (by decide) rfl wf_Mo_286 dMo_sumOf_24 ?_
      obtain ⟨⟨v23, μ22⟩, h21, hm⟩ := ob hm
      refine sw_Vi (q := 84) (rest := []) S hw (cMo_codeAt l  hf (μ5.1 84 22) h21) kMo_codeAt wm_Mo_289 (is_84 hf).1 (e_Mo (is_84 hf)) rfl rfl rfl rfl hl.1 (Nat.le_of_ble_eq_true rfl) ⟨rfl, rfl, by show 0 + 1 ≤ rr.frames + _; omega, by show 8 + (2 + 11) + 0 ≤ rr.locals + _; omega⟩ ⟨Nat.le_of_ble_eq_true rfl, Nat.le_of_ble_eq_true rfl⟩ dMo_sumOf_27 (fun H locs hw _ => ?_)
      refine lv_bipush (v := (45 : Int32)) S.1 S.2.1 dMo_sumOf_30 (by decide) ?_
      obtain ⟨v25, h24, hm⟩ := ob hm
      refine sw_Si (rest := [.int v23]) S hw (cMo_sign l  hf (45 : Int32) h24) kMo_sign wm_Mo_245 rfl rfl hl.1 (Nat.le_of_ble_eq_true rfl) ⟨rfl, rfl, by show 0 + 1 ≤ rr.frames + _; omega, by show 8 + (1 + 11) + 0 ≤ rr.locals + _; omega⟩ ⟨Nat.le_of_ble_eq_true rfl, Nat.le_of_ble_eq_true rfl⟩ dMo_sumOf_32 (fun H locs hw _ => ?_)
      refine bicmp_ne (tgt := 103) S.1 S.2.1 hm dMo_sumOf_35 (by decide) (fun hm => ?_) (fun hm => ?_)
      · refine lv_lload_n S.1 S.2.1 dMo_sumOf_103 rfl (lv_at hl 2 rfl) ?_
        obtain rfl := Option.some.inj hm
        exact sw_lret S hr hlk hw trivial dMo_sumOf_104
      · exact wMo_sumOf_38 S hr hlk hf rc rr hr0 hrc N (fMo_sumOf_b_6 N rc  fu) ih μ22 u1 u2 _ _ _ hm hw (lv_sub hl [0, 1, 2] rfl)
set_option maxHeartbeats 4000000 in
set_option maxRecDepth 100000 in
theorem cMo_sumOf_b (l : Launch) (N : Nat) (rc : sw_m → Int32 → Option (Int64 × sw_m)) (rr : Room) (hr0 : rr.cells = 0 ∧ rr.slots = 0) (hrc : ∀ {Γ : sw_C} {A : Nat → Prop} {ξ : sw_x} {g : sw_g} {μ : sw_m} (hf : sw_wf ξ g.2.2) (a1 : Int32) {res : Int64 × sw_m}, rc μ a1 = some res → Met l yMo_sumOf (Cond.code yMo_sumOf prog_10_method_65_code 7 (some .long) :: sw_tb) rr (va_Pc [.ref (ξ.2.2.2.1 84), .int a1] (sw_V Γ A ξ g μ)) (sw_Ql Γ A ξ g res.2 res.1 (True)) 0 0 A) {Γ : sw_C} {A : Nat → Prop} {ξ : sw_x} {g : sw_g} {μ : sw_m} (hf : sw_wf ξ g.2.2) (a1 : Int32) {res : Int64 × sw_m} (hm : fMo_sumOf_b N rc μ a1 = some res) : Met l yMo_sumOf (Cond.code yMo_sumOf prog_10_method_65_code 7 (some .long) :: sw_tb) (rgMo_sumOf rr) (va_Pc [.ref (ξ.2.2.2.1 84), .int a1] (sw_V Γ A ξ g μ)) (sw_Ql Γ A ξ g res.2 res.1 (True)) 0 0 A := by
  refine Met.ofW (cc := prog_10_method_65_code) (maxL := 7) (ret := some .long) (by decide) rfl ?_
  intro p e s m args below meth c s₁ B hml hv
  obtain ⟨rfl, hv⟩ := hv
  have S : CallFix p m c prog_10_method_65_code 7 s _ (Cond.code yMo_sumOf prog_10_method_65_code 7 (some .long) :: sw_tb) R_Mo := ⟨B.exec, B.bytes, hml, findClass_of_methodNamed B.named, atoms_spec (ws := (Cond.code yMo_sumOf prog_10_method_65_code 7 (some .long) :: sw_tb)) B.pre⟩
  have hr := B.returns
  have hlk := B.notSynchronized
  have hw := sw_begin hv
  have hl := lv_entry [.ref (ξ.2.2.2.1 84), .int a1] (n := 7) (Nat.le_of_ble_eq_true rfl)
  rw [lg_entry_eq]
  generalize (lg_sl [.ref (ξ.2.2.2.1 84), .int a1] ++ List.replicate (7 - (lg_sl [.ref (ξ.2.2.2.1 84), .int a1]).length) Slot.unset).toArray = ls at hl ⊢
  have hl : lv_has ls 7 [(0, .ref (ξ.2.2.2.1 84)), (1, .int a1)] := hl
  unfold fMo_sumOf_b at hm
  refine lv_aload_n S.1 S.2.1 dMo_sumOf_0 rfl (lv_at hl 0 rfl) ?_
  refine lv_iload_n S.1 S.2.1 dMo_sumOf_1 rfl (lv_at hl 1 rfl) ?_
  obtain ⟨⟨v3, μ2⟩, h1, hm⟩ := ob hm
  refine sw_Vl (q := 84) (rest := []) S hw (cMo_termOf l N rc rr hr0 hrc hf a1 h1) kMo_termOf wm_Mo_299 (is_84 hf).1 (e_Mo (is_84 hf)) rfl rfl rfl rfl hl.1 (Nat.le_of_ble_eq_true rfl) ⟨rfl, rfl, by show rr.frames + 4 + 1 ≤ rr.frames + _; omega, by show 8 + (7 + 11) + (rr.locals + 88) ≤ rr.locals + _; omega⟩ ⟨Nat.le_of_ble_eq_true rfl, Nat.le_of_ble_eq_true rfl⟩ dMo_sumOf_2 (fun H locs hw _ => ?_)
  refine lv_lstore_n (lv' := [(2, .long v3), (0, .ref (ξ.2.2.2.1 84)), (1, .int a1)]) S.1 S.2.1 dMo_sumOf_5 rfl hl (by decide) rfl (fun ls hl => ?_)
  exact wMo_sumOf_6 S hr hlk hf rc rr hr0 hrc N  N μ2 a1 v3 _ _ _ hm hw (lv_sub hl [1, 2, 0] rfl)
def rmMo_sumOf : Nat → Room
  | 0 => { frames := 0, cells := 0, slots := 0, locals := 0 }
  | d + 1 => rgMo_sumOf (rmMo_sumOf d)
theorem cMo_sumOf (l : Launch) (N : Nat) : ∀ (d : Nat) {Γ : sw_C} {A : Nat → Prop} {ξ : sw_x} {g : sw_g} {μ : sw_m} (hf : sw_wf ξ g.2.2) (a1 : Int32) {res : Int64 × sw_m} (hm : fMo_sumOf N  d μ a1 = some res), Met l yMo_sumOf (Cond.code yMo_sumOf prog_10_method_65_code 7 (some .long) :: sw_tb) (rmMo_sumOf d) (va_Pc [.ref (ξ.2.2.2.1 84), .int a1] (sw_V Γ A ξ g μ)) (sw_Ql Γ A ξ g res.2 res.1 (True)) 0 0 A := by
  intro d
  induction d with
  | zero => intro Γ A ξ g μ hf a1 res hm; cases hm
  | succ d ih =>
    intro Γ A ξ g μ hf a1 res hm
    exact cMo_sumOf_b l N (fMo_sumOf N  d) (rmMo_sumOf d) (by cases d <;> exact ⟨rfl, rfl⟩) (fun {Γ A ξ g μ} hf a1 {res} hm => ih hf a1 hm) hf a1 hm
set_option maxHeartbeats 4000000 in
set_option maxRecDepth 100000 in
theorem cMo_positiveOf (l : Launch) (N : Nat) (rc : sw_m → Int32 → Option (Int32 × sw_m)) (rr : Room) (hr0 : rr.cells = 0 ∧ rr.slots = 0) (hrc : ∀ {Γ : sw_C} {A : Nat → Prop} {ξ : sw_x} {g : sw_g} {μ : sw_m} (hf : sw_wf ξ g.2.2) (a1 : Int32) {res : Int32 × sw_m}, rc μ a1 = some res → Met l yMo_testOf (Cond.code yMo_testOf prog_10_method_70_code 4 (some .boolean) :: sw_tb) rr (va_Pc [.ref (ξ.2.2.2.1 84), .int a1] (sw_V Γ A ξ g μ)) (sw_Qi Γ A ξ g res.2 res.1 (True)) 0 0 A) {Γ : sw_C} {A : Nat → Prop} {ξ : sw_x} {g : sw_g} {μ : sw_m} (hf : sw_wf ξ g.2.2) (a1 : Int32) {res : Int32 × sw_m} (hm : fMo_positiveOf N rc μ a1 = some res) : Met l yMo_positiveOf (Cond.code yMo_positiveOf prog_10_method_73_code 7 (some .boolean) :: sw_tb) (rgMo_positiveOf rr) (va_Pc [.ref (ξ.2.2.2.1 84), .int a1] (sw_V Γ A ξ g μ)) (sw_Qi Γ A ξ g res.2 res.1 (True)) 0 0 A := by
  refine Met.ofW (cc := prog_10_method_73_code) (maxL := 7) (ret := some .boolean) (by decide) rfl ?_
  intro p e s m args below meth c s₁ B hml hv
  obtain ⟨rfl, hv⟩ := hv
  have S : CallFix p m c prog_10_method_73_code 7 s _ (Cond.code yMo_positiveOf prog_10_method_73_code 7 (some .boolean) :: sw_tb) R_Mo := ⟨B.exec, B.bytes, hml, findClass_of_methodNamed B.named, atoms_spec (ws := (Cond.code yMo_positiveOf prog_10_method_73_code 7 (some .boolean) :: sw_tb)) B.pre⟩
  have hr := B.returns
  have hlk := B.notSynchronized
  have hw := sw_begin hv
  have hl := lv_entry [.ref (ξ.2.2.2.1 84), .int a1] (n := 7) (Nat.le_of_ble_eq_true rfl)
  rw [lg_entry_eq]
  generalize (lg_sl [.ref (ξ.2.2.2.1 84), .int a1] ++ List.replicate (7 - (lg_sl [.ref (ξ.2.2.2.1 84), .int a1]).length) Slot.unset).toArray = ls at hl ⊢
  have hl : lv_has ls 7 [(0, .ref (ξ.2.2.2.1 84)), (1, .int a1)] := hl
  unfold fMo_positiveOf at hm
  refine lv_aload_n S.1 S.2.1 dMo_positiveOf_0 rfl (lv_at hl 0 rfl) ?_
  refine lv_bipush (v := (40 : Int32)) S.1 S.2.1 dMo_positiveOf_1 (by decide) ?_
  obtain ⟨v2, h1, hm⟩ := ob hm
  refine sw_Si (rest := [.ref (ξ.2.2.2.1 84)]) S hw (cMo_sign l  hf (40 : Int32) h1) kMo_sign wm_Mo_245 rfl rfl hl.1 (Nat.le_of_ble_eq_true rfl) ⟨rfl, rfl, by show 0 + 1 ≤ rr.frames + _; omega, by show 8 + (1 + 11) + 0 ≤ rr.locals + _; omega⟩ ⟨Nat.le_of_ble_eq_true rfl, Nat.le_of_ble_eq_true rfl⟩ dMo_positiveOf_3 (fun H locs hw _ => ?_)
  obtain ⟨⟨v5, μ4⟩, h3, hm⟩ := ob hm
  refine sw_Vi (q := 84) (rest := []) S hw (cMo_passes0 l N hf v2 h3) kMo_passes0 wm_Mo_310 (is_84 hf).1 (e_Mo (is_84 hf)) rfl rfl rfl rfl hl.1 (Nat.le_of_ble_eq_true rfl) ⟨rfl, rfl, by show 1 + 1 ≤ rr.frames + _; omega, by show 8 + (3 + 11) + 21 ≤ rr.locals + _; omega⟩ ⟨Nat.le_of_ble_eq_true rfl, Nat.le_of_ble_eq_true rfl⟩ dMo_positiveOf_6 (fun H locs hw _ => ?_)
  refine bif_eq (tgt := 30) S.1 S.2.1 hm dMo_positiveOf_9 (by decide) (fun hm => ?_) (fun hm => ?_)
  · refine lv_aload_n S.1 S.2.1 dMo_positiveOf_30 rfl (lv_at hl 0 rfl) ?_
    refine lv_iload_n S.1 S.2.1 dMo_positiveOf_31 rfl (lv_at hl 1 rfl) ?_
    obtain ⟨⟨v8, μ7⟩, h6, hm⟩ := ob hm
    refine sw_Vl (q := 84) (rest := []) S hw (cMo_sumOf l N 10 hf a1 h6) kMo_sumOf wm_Mo_313 (is_84 hf).1 (e_Mo (is_84 hf)) rfl rfl rfl rfl hl.1 (Nat.le_of_ble_eq_true rfl) ⟨rfl, rfl, by show 50 + 1 ≤ rr.frames + _; omega, by show 8 + (7 + 11) + 1140 ≤ rr.locals + _; omega⟩ ⟨Nat.le_of_ble_eq_true rfl, Nat.le_of_ble_eq_true rfl⟩ dMo_positiveOf_32 (fun H locs hw _ => ?_)
    refine lv_lstore_n (lv' := [(2, .long v8), (0, .ref (ξ.2.2.2.1 84)), (1, .int a1)]) S.1 S.2.1 dMo_positiveOf_35 rfl hl (by decide) rfl (fun ls hl => ?_)
    refine lv_aload_n S.1 S.2.1 dMo_positiveOf_36 rfl (lv_at hl 1 rfl) ?_
    refine lv_aload_n S.1 S.2.1 dMo_positiveOf_37 rfl (lv_at hl 1 rfl) ?_
    refine get_Mo (v := .int (μ7.1 84 22)) S hw (is_84 hf) 22 (by decide) rfl wf_Mo_286 dMo_positiveOf_38 ?_
    obtain ⟨⟨v11, μ10⟩, h9, hm⟩ := ob hm
    refine sw_Vi (q := 84) (rest := []) S hw (cMo_codeAt l  hf (μ7.1 84 22) h9) kMo_codeAt wm_Mo_289 (is_84 hf).1 (e_Mo (is_84 hf)) rfl rfl rfl rfl hl.1 (Nat.le_of_ble_eq_true rfl) ⟨rfl, rfl, by show 0 + 1 ≤ rr.frames + _; omega, by show 8 + (2 + 11) + 0 ≤ rr.locals + _; omega⟩ ⟨Nat.le_of_ble_eq_true rfl, Nat.le_of_ble_eq_true rfl⟩ dMo_positiveOf_41 (fun H locs hw _ => ?_)
    refine lv_istore (lv' := [(4, .int v11), (2, .long v8), (0, .ref (ξ.2.2.2.1 84)), (1, .int a1)]) S.1 S.2.1 dMo_positiveOf_44 hl (by decide) rfl (fun ls hl => ?_)
    refine lv_aload_n S.1 S.2.1 dMo_positiveOf_46 rfl (lv_at hl 2 rfl) ?_
    refine lv_dup S.1 S.2.1 dMo_positiveOf_47 rfl ?_
    refine get_Mo (v := .int (μ10.1 84 22)) S hw (is_84 hf) 22 (by decide) rfl wf_Mo_286 dMo_positiveOf_48 ?_
    refine lv_iconst (v := (1 : Int32)) S.1 S.2.1 dMo_positiveOf_51 (by decide) ?_
    refine lv_iadd S.1 S.2.1 dMo_positiveOf_52 ?_
    refine put_Mo S hw (is_84 hf) 22 (by decide) ps_Mo_22 rfl rfl rfl wf_Mo_286 hm dMo_positiveOf_53 (fun μ12 H locs hm hw => ?_)
    refine lv_aload_n S.1 S.2.1 dMo_positiveOf_56 rfl (lv_at hl 2 rfl) ?_
    refine lv_iload_n S.1 S.2.1 dMo_positiveOf_57 rfl (lv_at hl 3 rfl) ?_
    obtain ⟨⟨v15, μ14⟩, h13, hm⟩ := ob hm
    refine sw_Vl (q := 84) (rest := []) S hw (cMo_sumOf l N 10 hf a1 h13) kMo_sumOf wm_Mo_313 (is_84 hf).1 (e_Mo (is_84 hf)) rfl rfl rfl rfl hl.1 (Nat.le_of_ble_eq_true rfl) ⟨rfl, rfl, by show 50 + 1 ≤ rr.frames + _; omega, by show 8 + (7 + 11) + 1140 ≤ rr.locals + _; omega⟩ ⟨Nat.le_of_ble_eq_true rfl, Nat.le_of_ble_eq_true rfl⟩ dMo_positiveOf_58 (fun H locs hw _ => ?_)
    refine lv_lstore (lv' := [(5, .long v15), (4, .int v11), (2, .long v8), (0, .ref (ξ.2.2.2.1 84)), (1, .int a1)]) S.1 S.2.1 dMo_positiveOf_61 hl (by decide) rfl (fun ls hl => ?_)
    refine lv_iload_n S.1 S.2.1 dMo_positiveOf_63 rfl (lv_at hl 4 rfl) ?_
    refine bif_eq (tgt := 125) S.1 S.2.1 hm dMo_positiveOf_64 (by decide) (fun hm => ?_) (fun hm => ?_)
    · refine lv_iconst (v := (0 : Int32)) S.1 S.2.1 dMo_positiveOf_125 (by decide) ?_
      obtain rfl := Option.some.inj hm
      exact sw_zret S hr hlk (Or.inl rfl) hw trivial dMo_positiveOf_126
    · refine lv_aload_n S.1 S.2.1 dMo_positiveOf_67 rfl (lv_at hl 3 rfl) ?_
      refine get_Mo (v := .int (μ14.1 84 24)) S hw (is_84 hf) 24 (by decide) rfl wf_Mo_296 dMo_positiveOf_68 ?_
      refine bif_ne (tgt := 125) S.1 S.2.1 hm dMo_positiveOf_71 (by decide) (fun hm => ?_) (fun hm => ?_)
      · refine lv_iconst (v := (0 : Int32)) S.1 S.2.1 dMo_positiveOf_125 (by decide) ?_
        obtain rfl := Option.some.inj hm
        exact sw_zret S hr hlk (Or.inl rfl) hw trivial dMo_positiveOf_126
      · refine lv_iload S.1 S.2.1 dMo_positiveOf_74 (lv_at hl 1 rfl) ?_
        refine lv_bipush (v := (60 : Int32)) S.1 S.2.1 dMo_positiveOf_76 (by decide) ?_
        obtain ⟨v17, h16, hm⟩ := ob hm
        refine sw_Si (rest := [.int v11]) S hw (cMo_sign l  hf (60 : Int32) h16) kMo_sign wm_Mo_245 rfl rfl hl.1 (Nat.le_of_ble_eq_true rfl) ⟨rfl, rfl, by show 0 + 1 ≤ rr.frames + _; omega, by show 8 + (1 + 11) + 0 ≤ rr.locals + _; omega⟩ ⟨Nat.le_of_ble_eq_true rfl, Nat.le_of_ble_eq_true rfl⟩ dMo_positiveOf_78 (fun H locs hw _ => ?_)
        refine bicmp_ne (tgt := 94) S.1 S.2.1 hm dMo_positiveOf_81 (by decide) (fun hm => ?_) (fun hm => ?_)
        · refine lv_iload S.1 S.2.1 dMo_positiveOf_94 (lv_at hl 1 rfl) ?_
          refine lv_bipush (v := (62 : Int32)) S.1 S.2.1 dMo_positiveOf_96 (by decide) ?_
          obtain ⟨v19, h18, hm⟩ := ob hm
          refine sw_Si (rest := [.int v11]) S hw (cMo_sign l  hf (62 : Int32) h18) kMo_sign wm_Mo_245 rfl rfl hl.1 (Nat.le_of_ble_eq_true rfl) ⟨rfl, rfl, by show 0 + 1 ≤ rr.frames + _; omega, by show 8 + (1 + 11) + 0 ≤ rr.locals + _; omega⟩ ⟨Nat.le_of_ble_eq_true rfl, Nat.le_of_ble_eq_true rfl⟩ dMo_positiveOf_98 (fun H locs hw _ => ?_)
          refine bicmp_ne (tgt := 114) S.1 S.2.1 hm dMo_positiveOf_101 (by decide) (fun hm => ?_) (fun hm => ?_)
          · refine lv_lload_n S.1 S.2.1 dMo_positiveOf_114 rfl (lv_at hl 2 rfl) ?_
            refine lv_lload S.1 S.2.1 dMo_positiveOf_115 (lv_at hl 0 rfl) ?_
            refine W.lcmp S.1 S.2.1 dMo_positiveOf_117 ?_
            refine bif_ne (tgt := 125) S.1 S.2.1 hm dMo_positiveOf_118 (by decide) (fun hm => ?_) (fun hm => ?_)
            · refine lv_iconst (v := (0 : Int32)) S.1 S.2.1 dMo_positiveOf_125 (by decide) ?_
              obtain rfl := Option.some.inj hm
              exact sw_zret S hr hlk (Or.inl rfl) hw trivial dMo_positiveOf_126
            · refine lv_iconst (v := (1 : Int32)) S.1 S.2.1 dMo_positiveOf_121 (by decide) ?_
              refine lv_goto (tgt := 126) S.1 S.2.1 dMo_positiveOf_122 (by decide) ?_
              obtain rfl := Option.some.inj hm
              exact sw_zret S hr hlk (Or.inr rfl) hw trivial dMo_positiveOf_126
          · refine lv_lload_n S.1 S.2.1 dMo_positiveOf_104 rfl (lv_at hl 2 rfl) ?_
            refine lv_lload S.1 S.2.1 dMo_positiveOf_105 (lv_at hl 0 rfl) ?_
            refine W.lcmp S.1 S.2.1 dMo_positiveOf_107 ?_
            refine bif_le (tgt := 125) S.1 S.2.1 hm dMo_positiveOf_108 (by decide) (fun hm => ?_) (fun hm => ?_)
            · refine lv_iconst (v := (0 : Int32)) S.1 S.2.1 dMo_positiveOf_125 (by decide) ?_
              obtain rfl := Option.some.inj hm
              exact sw_zret S hr hlk (Or.inl rfl) hw trivial dMo_positiveOf_126
            · refine lv_goto (tgt := 121) S.1 S.2.1 dMo_positiveOf_111 (by decide) ?_
              refine lv_iconst (v := (1 : Int32)) S.1 S.2.1 dMo_positiveOf_121 (by decide) ?_
              refine lv_goto (tgt := 126) S.1 S.2.1 dMo_positiveOf_122 (by decide) ?_
              obtain rfl := Option.some.inj hm
              exact sw_zret S hr hlk (Or.inr rfl) hw trivial dMo_positiveOf_126
        · refine lv_lload_n S.1 S.2.1 dMo_positiveOf_84 rfl (lv_at hl 2 rfl) ?_
          refine lv_lload S.1 S.2.1 dMo_positiveOf_85 (lv_at hl 0 rfl) ?_
          refine W.lcmp S.1 S.2.1 dMo_positiveOf_87 ?_
          refine bif_ge (tgt := 125) S.1 S.2.1 hm dMo_positiveOf_88 (by decide) (fun hm => ?_) (fun hm => ?_)
          · refine lv_iconst (v := (0 : Int32)) S.1 S.2.1 dMo_positiveOf_125 (by decide) ?_
            obtain rfl := Option.some.inj hm
            exact sw_zret S hr hlk (Or.inl rfl) hw trivial dMo_positiveOf_126
          · refine lv_goto (tgt := 121) S.1 S.2.1 dMo_positiveOf_91 (by decide) ?_
            refine lv_iconst (v := (1 : Int32)) S.1 S.2.1 dMo_positiveOf_121 (by decide) ?_
            refine lv_goto (tgt := 126) S.1 S.2.1 dMo_positiveOf_122 (by decide) ?_
            obtain rfl := Option.some.inj hm
            exact sw_zret S hr hlk (Or.inr rfl) hw trivial dMo_positiveOf_126
  · refine lv_aload_n S.1 S.2.1 dMo_positiveOf_12 rfl (lv_at hl 0 rfl) ?_
    refine lv_iload_n S.1 S.2.1 dMo_positiveOf_13 rfl (lv_at hl 1 rfl) ?_
    obtain ⟨⟨v22, μ21⟩, h20, hm⟩ := ob hm
    refine sw_Vi (q := 84) (rest := []) S hw (hrc hf a1 h20) kMo_testOf wm_Mo_343 (is_84 hf).1 (e_Mo (is_84 hf)) rfl rfl rfl rfl hl.1 (Nat.le_of_ble_eq_true rfl) ⟨hr0.1, hr0.2, by show rr.frames + 1 ≤ rr.frames + _; omega, by show 8 + (4 + 11) + rr.locals ≤ rr.locals + _; omega⟩ ⟨Nat.le_of_ble_eq_true rfl, Nat.le_of_ble_eq_true rfl⟩ dMo_positiveOf_14 (fun H locs hw _ => ?_)
    refine lv_istore_n (lv' := [(2, .int v22), (0, .ref (ξ.2.2.2.1 84)), (1, .int a1)]) S.1 S.2.1 dMo_positiveOf_17 rfl hl (by decide) rfl (fun ls hl => ?_)
    refine lv_aload_n S.1 S.2.1 dMo_positiveOf_18 rfl (lv_at hl 1 rfl) ?_
    refine lv_dup S.1 S.2.1 dMo_positiveOf_19 rfl ?_
    refine get_Mo (v := .int (μ21.1 84 22)) S hw (is_84 hf) 22 (by decide) rfl wf_Mo_286 dMo_positiveOf_20 ?_
    refine lv_iconst (v := (1 : Int32)) S.1 S.2.1 dMo_positiveOf_23 (by decide) ?_
    refine lv_iadd S.1 S.2.1 dMo_positiveOf_24 ?_
    refine put_Mo S hw (is_84 hf) 22 (by decide) ps_Mo_22 rfl rfl rfl wf_Mo_286 hm dMo_positiveOf_25 (fun μ23 H locs hm hw => ?_)
    refine lv_iload_n S.1 S.2.1 dMo_positiveOf_28 rfl (lv_at hl 0 rfl) ?_
    obtain ⟨hz, hm⟩ := ob_tz hm
    obtain rfl := Option.some.inj hm
    exact sw_zret S hr hlk hz hw trivial dMo_positiveOf_29
set_option maxHeartbeats 4000000 in
set_option maxRecDepth 100000 in
theorem wMo_readBoth_5 {l : Launch} {p : Program} {e : Env} {s : State} {m : MethodId} {args : Array Value} {below : List Frame} {meth : Method} {c : Code} {Γ : sw_C} {A : Nat → Prop} {ξ : sw_x} {g : sw_g} {res : sw_m} (S : CallFix p m c prog_10_method_50_code 2 s args (Cond.code yMo_readBoth prog_10_method_50_code 2 (none) :: sw_tb) R_Mo) (hr : meth.sig.returnType = none) (hlk : meth.locks = false) (hf : sw_wf ξ g.2.2) (rc : sw_m → Int32 → Option (sw_m)) (rr : Room) (hr0 : rr.cells = 0 ∧ rr.slots = 0) (hrc : ∀ {Γ : sw_C} {A : Nat → Prop} {ξ : sw_x} {g : sw_g} {μ : sw_m} (hf : sw_wf ξ g.2.2) (a1 : Int32) {res : sw_m}, rc μ a1 = some res → Met l yMo_readTest (Cond.code yMo_readTest prog_10_method_49_code 2 (none) :: sw_tb) rr (va_Pc [.ref (ξ.2.2.2.1 84), .int a1] (sw_V Γ A ξ g μ)) (sw_Qv Γ A ξ g res (True)) 0 0 A) (N : Nat) : ∀ (fu : Nat) (μ : sw_m) (u1 : Int32) (H : Heap) (locs : List Loc) (ls : Array Slot), fMo_readBoth_5 N rc  fu μ u1 = some res → sw_S Γ A ξ g μ s H locs → lv_has ls 2 [(0, .ref (ξ.2.2.2.1 84)), (1, .int u1)] → W p l e (headSpec (Cond.code yMo_readBoth prog_10_method_50_code 2 (none) :: sw_tb) (rgMo_readBoth rr)).room s m args below meth c H locs 0 0 (MQ below (sw_Qv Γ A ξ g res (True)) args s 0 0 A) (F0 m 5 ls []) := by
  intro fu
  induction fu with
  | zero => intro μ u1 H locs ls hm; rw [fMo_readBoth_5.eq_1] at hm; cases hm
  | succ fu ih =>
    intro μ u1 H locs ls hm hw hl
    rw [fMo_readBoth_5.eq_2] at hm
    refine lv_aload_n S.1 S.2.1 dMo_readBoth_5 rfl (lv_at hl 0 rfl) ?_
    refine lv_bipush (v := (6 : Int32)) S.1 S.2.1 dMo_readBoth_6 (by decide) ?_
    obtain ⟨⟨v5, μ4⟩, h3, hm⟩ := ob hm
    refine sw_Vi (q := 84) (rest := []) S hw (cMo_takes0 l N hf (6 : Int32) h3) kMo_takes0 wm_Mo_204 (is_84 hf).1 (e_Mo (is_84 hf)) rfl rfl rfl rfl hl.1 (Nat.le_of_ble_eq_true rfl) ⟨rfl, rfl, by show 1 + 1 ≤ rr.frames + _; omega, by show 8 + (3 + 11) + 20 ≤ rr.locals + _; omega⟩ ⟨Nat.le_of_ble_eq_true rfl, Nat.le_of_ble_eq_true rfl⟩ dMo_readBoth_8 (fun H locs hw _ => ?_)
    refine bif_eq (tgt := 22) S.1 S.2.1 hm dMo_readBoth_11 (by decide) (fun hm => ?_) (fun hm => ?_)
    · obtain rfl := Option.some.inj hm
      exact sw_vret S hr hlk hw trivial dMo_readBoth_22
    · refine lv_aload_n S.1 S.2.1 dMo_readBoth_14 rfl (lv_at hl 0 rfl) ?_
      refine lv_iload_n S.1 S.2.1 dMo_readBoth_15 rfl (lv_at hl 1 rfl) ?_
      obtain ⟨μ7, h6, hm⟩ := ob hm
      refine sw_Vv (q := 84) (rest := []) S hw (cMo_readPlain l N rc rr hr0 hrc hf u1 h6) kMo_readPlain wm_Mo_242 (is_84 hf).1 (e_Mo (is_84 hf)) rfl rfl rfl rfl hl.1 (Nat.le_of_ble_eq_true rfl) ⟨rfl, rfl, by show rr.frames + 51 + 1 ≤ rr.frames + _; omega, by show 8 + (4 + 11) + (rr.locals + 1081) ≤ rr.locals + _; omega⟩ ⟨Nat.le_of_ble_eq_true rfl, Nat.le_of_ble_eq_true rfl⟩ dMo_readBoth_16 (fun H locs hw _ => ?_)
      refine lv_goto (tgt := 5) S.1 S.2.1 dMo_readBoth_19 (by decide) ?_
      exact ih μ7 u1 _ _ _ hm hw (lv_sub hl [0, 1] rfl)
set_option maxHeartbeats 4000000 in
set_option maxRecDepth 100000 in
theorem cMo_readBoth (l : Launch) (N : Nat) (rc : sw_m → Int32 → Option (sw_m)) (rr : Room) (hr0 : rr.cells = 0 ∧ rr.slots = 0) (hrc : ∀ {Γ : sw_C} {A : Nat → Prop} {ξ : sw_x} {g : sw_g} {μ : sw_m} (hf : sw_wf ξ g.2.2) (a1 : Int32) {res : sw_m}, rc μ a1 = some res → Met l yMo_readTest (Cond.code yMo_readTest prog_10_method_49_code 2 (none) :: sw_tb) rr (va_Pc [.ref (ξ.2.2.2.1 84), .int a1] (sw_V Γ A ξ g μ)) (sw_Qv Γ A ξ g res (True)) 0 0 A) {Γ : sw_C} {A : Nat → Prop} {ξ : sw_x} {g : sw_g} {μ : sw_m} (hf : sw_wf ξ g.2.2) (a1 : Int32) {res : sw_m} (hm : fMo_readBoth N rc μ a1 = some res) : Met l yMo_readBoth (Cond.code yMo_readBoth prog_10_method_50_code 2 (none) :: sw_tb) (rgMo_readBoth rr) (va_Pc [.ref (ξ.2.2.2.1 84), .int a1] (sw_V Γ A ξ g μ)) (sw_Qv Γ A ξ g res (True)) 0 0 A := by
  refine Met.ofW (cc := prog_10_method_50_code) (maxL := 2) (ret := none) (by decide) rfl ?_
  intro p e s m args below meth c s₁ B hml hv
  obtain ⟨rfl, hv⟩ := hv
  have S : CallFix p m c prog_10_method_50_code 2 s _ (Cond.code yMo_readBoth prog_10_method_50_code 2 (none) :: sw_tb) R_Mo := ⟨B.exec, B.bytes, hml, findClass_of_methodNamed B.named, atoms_spec (ws := (Cond.code yMo_readBoth prog_10_method_50_code 2 (none) :: sw_tb)) B.pre⟩
  have hr := B.returns
  have hlk := B.notSynchronized
  have hw := sw_begin hv
  have hl := lv_entry [.ref (ξ.2.2.2.1 84), .int a1] (n := 2) (Nat.le_of_ble_eq_true rfl)
  rw [lg_entry_eq]
  generalize (lg_sl [.ref (ξ.2.2.2.1 84), .int a1] ++ List.replicate (2 - (lg_sl [.ref (ξ.2.2.2.1 84), .int a1]).length) Slot.unset).toArray = ls at hl ⊢
  have hl : lv_has ls 2 [(0, .ref (ξ.2.2.2.1 84)), (1, .int a1)] := hl
  unfold fMo_readBoth at hm
  refine lv_aload_n S.1 S.2.1 dMo_readBoth_0 rfl (lv_at hl 0 rfl) ?_
  refine lv_iload_n S.1 S.2.1 dMo_readBoth_1 rfl (lv_at hl 1 rfl) ?_
  obtain ⟨μ2, h1, hm⟩ := ob hm
  refine sw_Vv (q := 84) (rest := []) S hw (cMo_readPlain l N rc rr hr0 hrc hf a1 h1) kMo_readPlain wm_Mo_242 (is_84 hf).1 (e_Mo (is_84 hf)) rfl rfl rfl rfl hl.1 (Nat.le_of_ble_eq_true rfl) ⟨rfl, rfl, by show rr.frames + 51 + 1 ≤ rr.frames + _; omega, by show 8 + (4 + 11) + (rr.locals + 1081) ≤ rr.locals + _; omega⟩ ⟨Nat.le_of_ble_eq_true rfl, Nat.le_of_ble_eq_true rfl⟩ dMo_readBoth_2 (fun H locs hw _ => ?_)
  exact wMo_readBoth_5 S hr hlk hf rc rr hr0 hrc N  N μ2 a1 _ _ _ hm hw (lv_sub hl [0, 1] rfl)
set_option maxHeartbeats 4000000 in
set_option maxRecDepth 100000 in
theorem wMo_plainOf_2 {l : Launch} {p : Program} {e : Env} {s : State} {m : MethodId} {args : Array Value} {below : List Frame} {meth : Method} {c : Code} {Γ : sw_C} {A : Nat → Prop} {ξ : sw_x} {g : sw_g} {res : Int32 × sw_m} (S : CallFix p m c prog_10_method_72_code 3 s args (Cond.code yMo_plainOf prog_10_method_72_code 3 (some .boolean) :: sw_tb) R_Mo) (hr : meth.sig.returnType = some .boolean) (hlk : meth.locks = false) (hf : sw_wf ξ g.2.2) (rc : sw_m → Int32 → Option (Int32 × sw_m)) (rr : Room) (hr0 : rr.cells = 0 ∧ rr.slots = 0) (hrc : ∀ {Γ : sw_C} {A : Nat → Prop} {ξ : sw_x} {g : sw_g} {μ : sw_m} (hf : sw_wf ξ g.2.2) (a1 : Int32) {res : Int32 × sw_m}, rc μ a1 = some res → Met l yMo_testOf (Cond.code yMo_testOf prog_10_method_70_code 4 (some .boolean) :: sw_tb) rr (va_Pc [.ref (ξ.2.2.2.1 84), .int a1] (sw_V Γ A ξ g μ)) (sw_Qi Γ A ξ g res.2 res.1 (True)) 0 0 A) (N : Nat) : ∀ (fu : Nat) (μ : sw_m) (u1 : Int32) (u2 : Int32) (H : Heap) (locs : List Loc) (ls : Array Slot), fMo_plainOf_2 N rc  fu μ u1 u2 = some res → sw_S Γ A ξ g μ s H locs → lv_has ls 3 [(0, .ref (ξ.2.2.2.1 84)), (1, .int u1), (2, .int u2)] → W p l e (headSpec (Cond.code yMo_plainOf prog_10_method_72_code 3 (some .boolean) :: sw_tb) (rgMo_plainOf rr)).room s m args below meth c H locs 0 0 (MQ below (sw_Qi Γ A ξ g res.2 res.1 (True)) args s 0 0 A) (F0 m 2 ls []) := by
  intro fu
  induction fu with
  | zero => intro μ u1 u2 H locs ls hm; rw [fMo_plainOf_2.eq_1] at hm; cases hm
  | succ fu ih =>
    intro μ u1 u2 H locs ls hm hw hl
    rw [fMo_plainOf_2.eq_2] at hm
    refine lv_aload_n S.1 S.2.1 dMo_plainOf_2 rfl (lv_at hl 0 rfl) ?_
    refine lv_bipush (v := (7 : Int32)) S.1 S.2.1 dMo_plainOf_3 (by decide) ?_
    obtain ⟨⟨v3, μ2⟩, h1, hm⟩ := ob hm
    refine sw_Vi (q := 84) (rest := []) S hw (cMo_passes0 l N hf (7 : Int32) h1) kMo_passes0 wm_Mo_310 (is_84 hf).1 (e_Mo (is_84 hf)) rfl rfl rfl rfl hl.1 (Nat.le_of_ble_eq_true rfl) ⟨rfl, rfl, by show 1 + 1 ≤ rr.frames + _; omega, by show 8 + (3 + 11) + 21 ≤ rr.locals + _; omega⟩ ⟨Nat.le_of_ble_eq_true rfl, Nat.le_of_ble_eq_true rfl⟩ dMo_plainOf_5 (fun H locs hw _ => ?_)
    refine bif_eq (tgt := 24) S.1 S.2.1 hm dMo_plainOf_8 (by decide) (fun hm => ?_) (fun hm => ?_)
    · refine lv_aload_n S.1 S.2.1 dMo_plainOf_24 rfl (lv_at hl 0 rfl) ?_
      refine lv_iload_n S.1 S.2.1 dMo_plainOf_25 rfl (lv_at hl 1 rfl) ?_
      obtain ⟨⟨v6, μ5⟩, h4, hm⟩ := ob hm
      refine sw_Vi (q := 84) (rest := []) S hw (cMo_positiveOf l N rc rr hr0 hrc hf u1 h4) kMo_positiveOf wm_Mo_340 (is_84 hf).1 (e_Mo (is_84 hf)) rfl rfl rfl rfl hl.1 (Nat.le_of_ble_eq_true rfl) ⟨rfl, rfl, by show rr.frames + 51 + 1 ≤ rr.frames + _; omega, by show 8 + (7 + 11) + (rr.locals + 1166) ≤ rr.locals + _; omega⟩ ⟨Nat.le_of_ble_eq_true rfl, Nat.le_of_ble_eq_true rfl⟩ dMo_plainOf_26 (fun H locs hw _ => ?_)
      refine lv_iload_n S.1 S.2.1 dMo_plainOf_29 rfl (lv_at hl 2 rfl) ?_
      refine bicmp_eq (tgt := 37) S.1 S.2.1 hm dMo_plainOf_30 (by decide) (fun hm => ?_) (fun hm => ?_)
      · refine lv_iconst (v := (0 : Int32)) S.1 S.2.1 dMo_plainOf_37 (by decide) ?_
        obtain rfl := Option.some.inj hm
        exact sw_zret S hr hlk (Or.inl rfl) hw trivial dMo_plainOf_38
      · refine lv_iconst (v := (1 : Int32)) S.1 S.2.1 dMo_plainOf_33 (by decide) ?_
        refine lv_goto (tgt := 38) S.1 S.2.1 dMo_plainOf_34 (by decide) ?_
        obtain rfl := Option.some.inj hm
        exact sw_zret S hr hlk (Or.inr rfl) hw trivial dMo_plainOf_38
    · refine lv_iload_n S.1 S.2.1 dMo_plainOf_11 rfl (lv_at hl 2 rfl) ?_
      refine bif_ne (tgt := 19) S.1 S.2.1 hm dMo_plainOf_12 (by decide) (fun hm => ?_) (fun hm => ?_)
      · refine lv_iconst (v := (0 : Int32)) S.1 S.2.1 dMo_plainOf_19 (by decide) ?_
        refine lv_istore_n (lv' := [(2, .int (0 : Int32)), (0, .ref (ξ.2.2.2.1 84)), (1, .int u1)]) S.1 S.2.1 dMo_plainOf_20 rfl hl (by decide) rfl (fun ls hl => ?_)
        refine lv_goto (tgt := 2) S.1 S.2.1 dMo_plainOf_21 (by decide) ?_
        exact ih μ2 u1 (0 : Int32) _ _ _ hm hw (lv_sub hl [1, 2, 0] rfl)
      · refine lv_iconst (v := (1 : Int32)) S.1 S.2.1 dMo_plainOf_15 (by decide) ?_
        refine lv_goto (tgt := 20) S.1 S.2.1 dMo_plainOf_16 (by decide) ?_
        refine lv_istore_n (lv' := [(2, .int (1 : Int32)), (0, .ref (ξ.2.2.2.1 84)), (1, .int u1)]) S.1 S.2.1 dMo_plainOf_20 rfl hl (by decide) rfl (fun ls hl => ?_)
        refine lv_goto (tgt := 2) S.1 S.2.1 dMo_plainOf_21 (by decide) ?_
        exact ih μ2 u1 (1 : Int32) _ _ _ hm hw (lv_sub hl [1, 2, 0] rfl)
set_option maxHeartbeats 4000000 in
set_option maxRecDepth 100000 in
theorem cMo_plainOf (l : Launch) (N : Nat) (rc : sw_m → Int32 → Option (Int32 × sw_m)) (rr : Room) (hr0 : rr.cells = 0 ∧ rr.slots = 0) (hrc : ∀ {Γ : sw_C} {A : Nat → Prop} {ξ : sw_x} {g : sw_g} {μ : sw_m} (hf : sw_wf ξ g.2.2) (a1 : Int32) {res : Int32 × sw_m}, rc μ a1 = some res → Met l yMo_testOf (Cond.code yMo_testOf prog_10_method_70_code 4 (some .boolean) :: sw_tb) rr (va_Pc [.ref (ξ.2.2.2.1 84), .int a1] (sw_V Γ A ξ g μ)) (sw_Qi Γ A ξ g res.2 res.1 (True)) 0 0 A) {Γ : sw_C} {A : Nat → Prop} {ξ : sw_x} {g : sw_g} {μ : sw_m} (hf : sw_wf ξ g.2.2) (a1 : Int32) {res : Int32 × sw_m} (hm : fMo_plainOf N rc μ a1 = some res) : Met l yMo_plainOf (Cond.code yMo_plainOf prog_10_method_72_code 3 (some .boolean) :: sw_tb) (rgMo_plainOf rr) (va_Pc [.ref (ξ.2.2.2.1 84), .int a1] (sw_V Γ A ξ g μ)) (sw_Qi Γ A ξ g res.2 res.1 (True)) 0 0 A := by
  refine Met.ofW (cc := prog_10_method_72_code) (maxL := 3) (ret := some .boolean) (by decide) rfl ?_
  intro p e s m args below meth c s₁ B hml hv
  obtain ⟨rfl, hv⟩ := hv
  have S : CallFix p m c prog_10_method_72_code 3 s _ (Cond.code yMo_plainOf prog_10_method_72_code 3 (some .boolean) :: sw_tb) R_Mo := ⟨B.exec, B.bytes, hml, findClass_of_methodNamed B.named, atoms_spec (ws := (Cond.code yMo_plainOf prog_10_method_72_code 3 (some .boolean) :: sw_tb)) B.pre⟩
  have hr := B.returns
  have hlk := B.notSynchronized
  have hw := sw_begin hv
  have hl := lv_entry [.ref (ξ.2.2.2.1 84), .int a1] (n := 3) (Nat.le_of_ble_eq_true rfl)
  rw [lg_entry_eq]
  generalize (lg_sl [.ref (ξ.2.2.2.1 84), .int a1] ++ List.replicate (3 - (lg_sl [.ref (ξ.2.2.2.1 84), .int a1]).length) Slot.unset).toArray = ls at hl ⊢
  have hl : lv_has ls 3 [(0, .ref (ξ.2.2.2.1 84)), (1, .int a1)] := hl
  unfold fMo_plainOf at hm
  refine lv_iconst (v := (0 : Int32)) S.1 S.2.1 dMo_plainOf_0 (by decide) ?_
  refine lv_istore_n (lv' := [(2, .int (0 : Int32)), (0, .ref (ξ.2.2.2.1 84)), (1, .int a1)]) S.1 S.2.1 dMo_plainOf_1 rfl hl (by decide) rfl (fun ls hl => ?_)
  exact wMo_plainOf_2 S hr hlk hf rc rr hr0 hrc N  N μ a1 (0 : Int32) _ _ _ hm hw (lv_sub hl [1, 2, 0] rfl)
set_option maxHeartbeats 4000000 in
set_option maxRecDepth 100000 in
theorem wMo_readTest_5 {l : Launch} {p : Program} {e : Env} {s : State} {m : MethodId} {args : Array Value} {below : List Frame} {meth : Method} {c : Code} {Γ : sw_C} {A : Nat → Prop} {ξ : sw_x} {g : sw_g} {res : sw_m} (S : CallFix p m c prog_10_method_49_code 2 s args (Cond.code yMo_readTest prog_10_method_49_code 2 (none) :: sw_tb) R_Mo) (hr : meth.sig.returnType = none) (hlk : meth.locks = false) (hf : sw_wf ξ g.2.2) (rc : sw_m → Int32 → Option (sw_m)) (rr : Room) (hr0 : rr.cells = 0 ∧ rr.slots = 0) (hrc : ∀ {Γ : sw_C} {A : Nat → Prop} {ξ : sw_x} {g : sw_g} {μ : sw_m} (hf : sw_wf ξ g.2.2) (a1 : Int32) {res : sw_m}, rc μ a1 = some res → Met l yMo_readTest (Cond.code yMo_readTest prog_10_method_49_code 2 (none) :: sw_tb) rr (va_Pc [.ref (ξ.2.2.2.1 84), .int a1] (sw_V Γ A ξ g μ)) (sw_Qv Γ A ξ g res (True)) 0 0 A) (N : Nat) : ∀ (fu : Nat) (μ : sw_m) (u1 : Int32) (H : Heap) (locs : List Loc) (ls : Array Slot), fMo_readTest_b_5 N rc  fu μ u1 = some res → sw_S Γ A ξ g μ s H locs → lv_has ls 2 [(0, .ref (ξ.2.2.2.1 84)), (1, .int u1)] → W p l e (headSpec (Cond.code yMo_readTest prog_10_method_49_code 2 (none) :: sw_tb) (rgMo_readTest rr)).room s m args below meth c H locs 0 0 (MQ below (sw_Qv Γ A ξ g res (True)) args s 0 0 A) (F0 m 5 ls []) := by
  intro fu
  induction fu with
  | zero => intro μ u1 H locs ls hm; rw [fMo_readTest_b_5.eq_1] at hm; cases hm
  | succ fu ih =>
    intro μ u1 H locs ls hm hw hl
    rw [fMo_readTest_b_5.eq_2] at hm
    refine lv_aload_n S.1 S.2.1 dMo_readTest_5 rfl (lv_at hl 0 rfl) ?_
    refine lv_iconst (v := (5 : Int32)) S.1 S.2.1 dMo_readTest_6 (by decide) ?_
    obtain ⟨⟨v5, μ4⟩, h3, hm⟩ := ob hm
    refine sw_Vi (q := 84) (rest := []) S hw (cMo_takes0 l N hf (5 : Int32) h3) kMo_takes0 wm_Mo_204 (is_84 hf).1 (e_Mo (is_84 hf)) rfl rfl rfl rfl hl.1 (Nat.le_of_ble_eq_true rfl) ⟨rfl, rfl, by show 1 + 1 ≤ rr.frames + _; omega, by show 8 + (3 + 11) + 20 ≤ rr.locals + _; omega⟩ ⟨Nat.le_of_ble_eq_true rfl, Nat.le_of_ble_eq_true rfl⟩ dMo_readTest_7 (fun H locs hw _ => ?_)
    refine bif_eq (tgt := 21) S.1 S.2.1 hm dMo_readTest_10 (by decide) (fun hm => ?_) (fun hm => ?_)
    · obtain rfl := Option.some.inj hm
      exact sw_vret S hr hlk hw trivial dMo_readTest_21
    · refine lv_aload_n S.1 S.2.1 dMo_readTest_13 rfl (lv_at hl 0 rfl) ?_
      refine lv_iload_n S.1 S.2.1 dMo_readTest_14 rfl (lv_at hl 1 rfl) ?_
      obtain ⟨μ7, h6, hm⟩ := ob hm
      refine sw_Vv (q := 84) (rest := []) S hw (cMo_readBoth l N rc rr hr0 hrc hf u1 h6) kMo_readBoth wm_Mo_239 (is_84 hf).1 (e_Mo (is_84 hf)) rfl rfl rfl rfl hl.1 (Nat.le_of_ble_eq_true rfl) ⟨rfl, rfl, by show rr.frames + 52 + 1 ≤ rr.frames + _; omega, by show 8 + (2 + 11) + (rr.locals + 1104) ≤ rr.locals + _; omega⟩ ⟨Nat.le_of_ble_eq_true rfl, Nat.le_of_ble_eq_true rfl⟩ dMo_readTest_15 (fun H locs hw _ => ?_)
      refine lv_goto (tgt := 5) S.1 S.2.1 dMo_readTest_18 (by decide) ?_
      exact ih μ7 u1 _ _ _ hm hw (lv_sub hl [0, 1] rfl)
set_option maxHeartbeats 4000000 in
set_option maxRecDepth 100000 in
theorem cMo_readTest_b (l : Launch) (N : Nat) (rc : sw_m → Int32 → Option (sw_m)) (rr : Room) (hr0 : rr.cells = 0 ∧ rr.slots = 0) (hrc : ∀ {Γ : sw_C} {A : Nat → Prop} {ξ : sw_x} {g : sw_g} {μ : sw_m} (hf : sw_wf ξ g.2.2) (a1 : Int32) {res : sw_m}, rc μ a1 = some res → Met l yMo_readTest (Cond.code yMo_readTest prog_10_method_49_code 2 (none) :: sw_tb) rr (va_Pc [.ref (ξ.2.2.2.1 84), .int a1] (sw_V Γ A ξ g μ)) (sw_Qv Γ A ξ g res (True)) 0 0 A) {Γ : sw_C} {A : Nat → Prop} {ξ : sw_x} {g : sw_g} {μ : sw_m} (hf : sw_wf ξ g.2.2) (a1 : Int32) {res : sw_m} (hm : fMo_readTest_b N rc μ a1 = some res) : Met l yMo_readTest (Cond.code yMo_readTest prog_10_method_49_code 2 (none) :: sw_tb) (rgMo_readTest rr) (va_Pc [.ref (ξ.2.2.2.1 84), .int a1] (sw_V Γ A ξ g μ)) (sw_Qv Γ A ξ g res (True)) 0 0 A := by
  refine Met.ofW (cc := prog_10_method_49_code) (maxL := 2) (ret := none) (by decide) rfl ?_
  intro p e s m args below meth c s₁ B hml hv
  obtain ⟨rfl, hv⟩ := hv
  have S : CallFix p m c prog_10_method_49_code 2 s _ (Cond.code yMo_readTest prog_10_method_49_code 2 (none) :: sw_tb) R_Mo := ⟨B.exec, B.bytes, hml, findClass_of_methodNamed B.named, atoms_spec (ws := (Cond.code yMo_readTest prog_10_method_49_code 2 (none) :: sw_tb)) B.pre⟩
  have hr := B.returns
  have hlk := B.notSynchronized
  have hw := sw_begin hv
  have hl := lv_entry [.ref (ξ.2.2.2.1 84), .int a1] (n := 2) (Nat.le_of_ble_eq_true rfl)
  rw [lg_entry_eq]
  generalize (lg_sl [.ref (ξ.2.2.2.1 84), .int a1] ++ List.replicate (2 - (lg_sl [.ref (ξ.2.2.2.1 84), .int a1]).length) Slot.unset).toArray = ls at hl ⊢
  have hl : lv_has ls 2 [(0, .ref (ξ.2.2.2.1 84)), (1, .int a1)] := hl
  unfold fMo_readTest_b at hm
  refine lv_aload_n S.1 S.2.1 dMo_readTest_0 rfl (lv_at hl 0 rfl) ?_
  refine lv_iload_n S.1 S.2.1 dMo_readTest_1 rfl (lv_at hl 1 rfl) ?_
  obtain ⟨μ2, h1, hm⟩ := ob hm
  refine sw_Vv (q := 84) (rest := []) S hw (cMo_readBoth l N rc rr hr0 hrc hf a1 h1) kMo_readBoth wm_Mo_239 (is_84 hf).1 (e_Mo (is_84 hf)) rfl rfl rfl rfl hl.1 (Nat.le_of_ble_eq_true rfl) ⟨rfl, rfl, by show rr.frames + 52 + 1 ≤ rr.frames + _; omega, by show 8 + (2 + 11) + (rr.locals + 1104) ≤ rr.locals + _; omega⟩ ⟨Nat.le_of_ble_eq_true rfl, Nat.le_of_ble_eq_true rfl⟩ dMo_readTest_2 (fun H locs hw _ => ?_)
  exact wMo_readTest_5 S hr hlk hf rc rr hr0 hrc N  N μ2 a1 _ _ _ hm hw (lv_sub hl [0, 1] rfl)
def rmMo_readTest : Nat → Room
  | 0 => { frames := 0, cells := 0, slots := 0, locals := 0 }
  | d + 1 => rgMo_readTest (rmMo_readTest d)
theorem cMo_readTest (l : Launch) (N : Nat) : ∀ (d : Nat) {Γ : sw_C} {A : Nat → Prop} {ξ : sw_x} {g : sw_g} {μ : sw_m} (hf : sw_wf ξ g.2.2) (a1 : Int32) {res : sw_m} (hm : fMo_readTest N  d μ a1 = some res), Met l yMo_readTest (Cond.code yMo_readTest prog_10_method_49_code 2 (none) :: sw_tb) (rmMo_readTest d) (va_Pc [.ref (ξ.2.2.2.1 84), .int a1] (sw_V Γ A ξ g μ)) (sw_Qv Γ A ξ g res (True)) 0 0 A := by
  intro d
  induction d with
  | zero => intro Γ A ξ g μ hf a1 res hm; cases hm
  | succ d ih =>
    intro Γ A ξ g μ hf a1 res hm
    exact cMo_readTest_b l N (fMo_readTest N  d) (rmMo_readTest d) (by cases d <;> exact ⟨rfl, rfl⟩) (fun {Γ A ξ g μ} hf a1 {res} hm => ih hf a1 hm) hf a1 hm
set_option maxHeartbeats 4000000 in
set_option maxRecDepth 100000 in
theorem wMo_bothOf_29 {l : Launch} {p : Program} {e : Env} {s : State} {m : MethodId} {args : Array Value} {below : List Frame} {meth : Method} {c : Code} {Γ : sw_C} {A : Nat → Prop} {ξ : sw_x} {g : sw_g} {res : Int32 × sw_m} (S : CallFix p m c prog_10_method_71_code 4 s args (Cond.code yMo_bothOf prog_10_method_71_code 4 (some .boolean) :: sw_tb) R_Mo) (hr : meth.sig.returnType = some .boolean) (hlk : meth.locks = false) (hf : sw_wf ξ g.2.2) (rc : sw_m → Int32 → Option (Int32 × sw_m)) (rr : Room) (hr0 : rr.cells = 0 ∧ rr.slots = 0) (hrc : ∀ {Γ : sw_C} {A : Nat → Prop} {ξ : sw_x} {g : sw_g} {μ : sw_m} (hf : sw_wf ξ g.2.2) (a1 : Int32) {res : Int32 × sw_m}, rc μ a1 = some res → Met l yMo_testOf (Cond.code yMo_testOf prog_10_method_70_code 4 (some .boolean) :: sw_tb) rr (va_Pc [.ref (ξ.2.2.2.1 84), .int a1] (sw_V Γ A ξ g μ)) (sw_Qi Γ A ξ g res.2 res.1 (True)) 0 0 A) (N : Nat) (k6 : sw_m → Int32 → Int32 → Option (Int32 × sw_m)) (hk6 : ∀ (μ : sw_m) (u1 : Int32) (u2 : Int32) (H : Heap) (locs : List Loc) (ls : Array Slot), k6 μ u1 u2 = some res → sw_S Γ A ξ g μ s H locs → lv_has ls 4 [(0, .ref (ξ.2.2.2.1 84)), (1, .int u1), (2, .int u2)] → W p l e (headSpec (Cond.code yMo_bothOf prog_10_method_71_code 4 (some .boolean) :: sw_tb) (rgMo_bothOf rr)).room s m args below meth c H locs 0 0 (MQ below (sw_Qi Γ A ξ g res.2 res.1 (True)) args s 0 0 A) (F0 m 6 ls [])) : ∀ (μ : sw_m) (u1 : Int32) (u2 : Int32) (s0 : Int32) (H : Heap) (locs : List Loc) (ls : Array Slot), fMo_bothOf_29 N rc k6 μ u1 u2 s0 = some res → sw_S Γ A ξ g μ s H locs → lv_has ls 4 [(0, .ref (ξ.2.2.2.1 84)), (1, .int u1), (2, .int u2)] → W p l e (headSpec (Cond.code yMo_bothOf prog_10_method_71_code 4 (some .boolean) :: sw_tb) (rgMo_bothOf rr)).room s m args below meth c H locs 0 0 (MQ below (sw_Qi Γ A ξ g res.2 res.1 (True)) args s 0 0 A) (F0 m 29 ls [.int s0, .ref (ξ.2.2.2.1 84)]) := by
  intro μ u1 u2 s0 H locs ls hm hw hl
  unfold fMo_bothOf_29 at hm
  obtain ⟨⟨v9, μ8⟩, h7, hm⟩ := ob hm
  refine sw_Vi (q := 84) (rest := []) S hw (cMo_plainOf l N rc rr hr0 hrc hf s0 h7) kMo_plainOf wm_Mo_337 (is_84 hf).1 (e_Mo (is_84 hf)) rfl rfl rfl rfl hl.1 (Nat.le_of_ble_eq_true rfl) ⟨rfl, rfl, by show rr.frames + 52 + 1 ≤ rr.frames + _; omega, by show 8 + (3 + 11) + (rr.locals + 1192) ≤ rr.locals + _; omega⟩ ⟨Nat.le_of_ble_eq_true rfl, Nat.le_of_ble_eq_true rfl⟩ dMo_bothOf_29 (fun H locs hw _ => ?_)
  refine lv_istore_n (lv' := [(3, .int v9), (0, .ref (ξ.2.2.2.1 84)), (1, .int u1), (2, .int u2)]) S.1 S.2.1 dMo_bothOf_32 rfl hl (by decide) rfl (fun ls hl => ?_)
  refine lv_iload_n S.1 S.2.1 dMo_bothOf_33 rfl (lv_at hl 3 rfl) ?_
  refine bif_eq (tgt := 45) S.1 S.2.1 hm dMo_bothOf_34 (by decide) (fun hm => ?_) (fun hm => ?_)
  · refine lv_iconst (v := (0 : Int32)) S.1 S.2.1 dMo_bothOf_45 (by decide) ?_
    refine lv_istore_n (lv' := [(2, .int (0 : Int32)), (3, .int v9), (0, .ref (ξ.2.2.2.1 84)), (1, .int u1)]) S.1 S.2.1 dMo_bothOf_46 rfl hl (by decide) rfl (fun ls hl => ?_)
    refine lv_goto (tgt := 6) S.1 S.2.1 dMo_bothOf_47 (by decide) ?_
    exact hk6 μ8 u1 (0 : Int32) _ _ _ hm hw (lv_sub hl [2, 3, 0] rfl)
  · refine lv_iload_n S.1 S.2.1 dMo_bothOf_37 rfl (lv_at hl 0 rfl) ?_
    refine bif_eq (tgt := 45) S.1 S.2.1 hm dMo_bothOf_38 (by decide) (fun hm => ?_) (fun hm => ?_)
    · refine lv_iconst (v := (0 : Int32)) S.1 S.2.1 dMo_bothOf_45 (by decide) ?_
      refine lv_istore_n (lv' := [(2, .int (0 : Int32)), (3, .int v9), (0, .ref (ξ.2.2.2.1 84)), (1, .int u1)]) S.1 S.2.1 dMo_bothOf_46 rfl hl (by decide) rfl (fun ls hl => ?_)
      refine lv_goto (tgt := 6) S.1 S.2.1 dMo_bothOf_47 (by decide) ?_
      exact hk6 μ8 u1 (0 : Int32) _ _ _ hm hw (lv_sub hl [2, 3, 0] rfl)
    · refine lv_iconst (v := (1 : Int32)) S.1 S.2.1 dMo_bothOf_41 (by decide) ?_
      refine lv_goto (tgt := 46) S.1 S.2.1 dMo_bothOf_42 (by decide) ?_
      refine lv_istore_n (lv' := [(2, .int (1 : Int32)), (3, .int v9), (0, .ref (ξ.2.2.2.1 84)), (1, .int u1)]) S.1 S.2.1 dMo_bothOf_46 rfl hl (by decide) rfl (fun ls hl => ?_)
      refine lv_goto (tgt := 6) S.1 S.2.1 dMo_bothOf_47 (by decide) ?_
      exact hk6 μ8 u1 (1 : Int32) _ _ _ hm hw (lv_sub hl [2, 3, 0] rfl)
set_option maxHeartbeats 4000000 in
set_option maxRecDepth 100000 in
theorem wMo_bothOf_6 {l : Launch} {p : Program} {e : Env} {s : State} {m : MethodId} {args : Array Value} {below : List Frame} {meth : Method} {c : Code} {Γ : sw_C} {A : Nat → Prop} {ξ : sw_x} {g : sw_g} {res : Int32 × sw_m} (S : CallFix p m c prog_10_method_71_code 4 s args (Cond.code yMo_bothOf prog_10_method_71_code 4 (some .boolean) :: sw_tb) R_Mo) (hr : meth.sig.returnType = some .boolean) (hlk : meth.locks = false) (hf : sw_wf ξ g.2.2) (rc : sw_m → Int32 → Option (Int32 × sw_m)) (rr : Room) (hr0 : rr.cells = 0 ∧ rr.slots = 0) (hrc : ∀ {Γ : sw_C} {A : Nat → Prop} {ξ : sw_x} {g : sw_g} {μ : sw_m} (hf : sw_wf ξ g.2.2) (a1 : Int32) {res : Int32 × sw_m}, rc μ a1 = some res → Met l yMo_testOf (Cond.code yMo_testOf prog_10_method_70_code 4 (some .boolean) :: sw_tb) rr (va_Pc [.ref (ξ.2.2.2.1 84), .int a1] (sw_V Γ A ξ g μ)) (sw_Qi Γ A ξ g res.2 res.1 (True)) 0 0 A) (N : Nat) : ∀ (fu : Nat) (μ : sw_m) (u1 : Int32) (u2 : Int32) (H : Heap) (locs : List Loc) (ls : Array Slot), fMo_bothOf_6 N rc  fu μ u1 u2 = some res → sw_S Γ A ξ g μ s H locs → lv_has ls 4 [(0, .ref (ξ.2.2.2.1 84)), (1, .int u1), (2, .int u2)] → W p l e (headSpec (Cond.code yMo_bothOf prog_10_method_71_code 4 (some .boolean) :: sw_tb) (rgMo_bothOf rr)).room s m args below meth c H locs 0 0 (MQ below (sw_Qi Γ A ξ g res.2 res.1 (True)) args s 0 0 A) (F0 m 6 ls []) := by
  intro fu
  induction fu with
  | zero => intro μ u1 u2 H locs ls hm; rw [fMo_bothOf_6.eq_1] at hm; cases hm
  | succ fu ih =>
    intro μ u1 u2 H locs ls hm hw hl
    rw [fMo_bothOf_6.eq_2] at hm
    refine lv_aload_n S.1 S.2.1 dMo_bothOf_6 rfl (lv_at hl 0 rfl) ?_
    refine lv_bipush (v := (6 : Int32)) S.1 S.2.1 dMo_bothOf_7 (by decide) ?_
    obtain ⟨⟨v6, μ5⟩, h4, hm⟩ := ob hm
    refine sw_Vi (q := 84) (rest := []) S hw (cMo_passes0 l N hf (6 : Int32) h4) kMo_passes0 wm_Mo_310 (is_84 hf).1 (e_Mo (is_84 hf)) rfl rfl rfl rfl hl.1 (Nat.le_of_ble_eq_true rfl) ⟨rfl, rfl, by show 1 + 1 ≤ rr.frames + _; omega, by show 8 + (3 + 11) + 21 ≤ rr.locals + _; omega⟩ ⟨Nat.le_of_ble_eq_true rfl, Nat.le_of_ble_eq_true rfl⟩ dMo_bothOf_9 (fun H locs hw _ => ?_)
    refine bif_eq (tgt := 50) S.1 S.2.1 hm dMo_bothOf_12 (by decide) (fun hm => ?_) (fun hm => ?_)
    · refine lv_iload_n S.1 S.2.1 dMo_bothOf_50 rfl (lv_at hl 2 rfl) ?_
      obtain ⟨hz, hm⟩ := ob_tz hm
      obtain rfl := Option.some.inj hm
      exact sw_zret S hr hlk hz hw trivial dMo_bothOf_51
    · refine lv_aload_n S.1 S.2.1 dMo_bothOf_15 rfl (lv_at hl 0 rfl) ?_
      refine lv_iload_n S.1 S.2.1 dMo_bothOf_16 rfl (lv_at hl 1 rfl) ?_
      refine bif_eq (tgt := 28) S.1 S.2.1 hm dMo_bothOf_17 (by decide) (fun hm => ?_) (fun hm => ?_)
      · refine lv_iconst (v := (0 : Int32)) S.1 S.2.1 dMo_bothOf_28 (by decide) ?_
        exact wMo_bothOf_29 S hr hlk hf rc rr hr0 hrc N (fMo_bothOf_6 N rc  fu) ih μ5 u1 u2 (0 : Int32) _ _ _ hm hw (lv_sub hl [0, 1, 2] rfl)
      · refine lv_iload_n S.1 S.2.1 dMo_bothOf_20 rfl (lv_at hl 2 rfl) ?_
        refine bif_eq (tgt := 28) S.1 S.2.1 hm dMo_bothOf_21 (by decide) (fun hm => ?_) (fun hm => ?_)
        · refine lv_iconst (v := (0 : Int32)) S.1 S.2.1 dMo_bothOf_28 (by decide) ?_
          exact wMo_bothOf_29 S hr hlk hf rc rr hr0 hrc N (fMo_bothOf_6 N rc  fu) ih μ5 u1 u2 (0 : Int32) _ _ _ hm hw (lv_sub hl [0, 1, 2] rfl)
        · refine lv_iconst (v := (1 : Int32)) S.1 S.2.1 dMo_bothOf_24 (by decide) ?_
          refine lv_goto (tgt := 29) S.1 S.2.1 dMo_bothOf_25 (by decide) ?_
          exact wMo_bothOf_29 S hr hlk hf rc rr hr0 hrc N (fMo_bothOf_6 N rc  fu) ih μ5 u1 u2 (1 : Int32) _ _ _ hm hw (lv_sub hl [0, 1, 2] rfl)
set_option maxHeartbeats 4000000 in
set_option maxRecDepth 100000 in
theorem cMo_bothOf (l : Launch) (N : Nat) (rc : sw_m → Int32 → Option (Int32 × sw_m)) (rr : Room) (hr0 : rr.cells = 0 ∧ rr.slots = 0) (hrc : ∀ {Γ : sw_C} {A : Nat → Prop} {ξ : sw_x} {g : sw_g} {μ : sw_m} (hf : sw_wf ξ g.2.2) (a1 : Int32) {res : Int32 × sw_m}, rc μ a1 = some res → Met l yMo_testOf (Cond.code yMo_testOf prog_10_method_70_code 4 (some .boolean) :: sw_tb) rr (va_Pc [.ref (ξ.2.2.2.1 84), .int a1] (sw_V Γ A ξ g μ)) (sw_Qi Γ A ξ g res.2 res.1 (True)) 0 0 A) {Γ : sw_C} {A : Nat → Prop} {ξ : sw_x} {g : sw_g} {μ : sw_m} (hf : sw_wf ξ g.2.2) (a1 : Int32) {res : Int32 × sw_m} (hm : fMo_bothOf N rc μ a1 = some res) : Met l yMo_bothOf (Cond.code yMo_bothOf prog_10_method_71_code 4 (some .boolean) :: sw_tb) (rgMo_bothOf rr) (va_Pc [.ref (ξ.2.2.2.1 84), .int a1] (sw_V Γ A ξ g μ)) (sw_Qi Γ A ξ g res.2 res.1 (True)) 0 0 A := by
  refine Met.ofW (cc := prog_10_method_71_code) (maxL := 4) (ret := some .boolean) (by decide) rfl ?_
  intro p e s m args below meth c s₁ B hml hv
  obtain ⟨rfl, hv⟩ := hv
  have S : CallFix p m c prog_10_method_71_code 4 s _ (Cond.code yMo_bothOf prog_10_method_71_code 4 (some .boolean) :: sw_tb) R_Mo := ⟨B.exec, B.bytes, hml, findClass_of_methodNamed B.named, atoms_spec (ws := (Cond.code yMo_bothOf prog_10_method_71_code 4 (some .boolean) :: sw_tb)) B.pre⟩
  have hr := B.returns
  have hlk := B.notSynchronized
  have hw := sw_begin hv
  have hl := lv_entry [.ref (ξ.2.2.2.1 84), .int a1] (n := 4) (Nat.le_of_ble_eq_true rfl)
  rw [lg_entry_eq]
  generalize (lg_sl [.ref (ξ.2.2.2.1 84), .int a1] ++ List.replicate (4 - (lg_sl [.ref (ξ.2.2.2.1 84), .int a1]).length) Slot.unset).toArray = ls at hl ⊢
  have hl : lv_has ls 4 [(0, .ref (ξ.2.2.2.1 84)), (1, .int a1)] := hl
  unfold fMo_bothOf at hm
  refine lv_aload_n S.1 S.2.1 dMo_bothOf_0 rfl (lv_at hl 0 rfl) ?_
  refine lv_iload_n S.1 S.2.1 dMo_bothOf_1 rfl (lv_at hl 1 rfl) ?_
  obtain ⟨⟨v3, μ2⟩, h1, hm⟩ := ob hm
  refine sw_Vi (q := 84) (rest := []) S hw (cMo_plainOf l N rc rr hr0 hrc hf a1 h1) kMo_plainOf wm_Mo_337 (is_84 hf).1 (e_Mo (is_84 hf)) rfl rfl rfl rfl hl.1 (Nat.le_of_ble_eq_true rfl) ⟨rfl, rfl, by show rr.frames + 52 + 1 ≤ rr.frames + _; omega, by show 8 + (3 + 11) + (rr.locals + 1192) ≤ rr.locals + _; omega⟩ ⟨Nat.le_of_ble_eq_true rfl, Nat.le_of_ble_eq_true rfl⟩ dMo_bothOf_2 (fun H locs hw _ => ?_)
  refine lv_istore_n (lv' := [(2, .int v3), (0, .ref (ξ.2.2.2.1 84)), (1, .int a1)]) S.1 S.2.1 dMo_bothOf_5 rfl hl (by decide) rfl (fun ls hl => ?_)
  exact wMo_bothOf_6 S hr hlk hf rc rr hr0 hrc N  N μ2 a1 v3 _ _ _ hm hw (lv_sub hl [1, 2, 0] rfl)
set_option maxHeartbeats 4000000 in
set_option maxRecDepth 100000 in
theorem wMo_readClause_29 {l : Launch} {p : Program} {e : Env} {s : State} {m : MethodId} {args : Array Value} {below : List Frame} {meth : Method} {c : Code} {Γ : sw_C} {A : Nat → Prop} {ξ : sw_x} {g : sw_g} {res : sw_m} (S : CallFix p m c prog_10_method_45_code 1 s args (Cond.code yMo_readClause prog_10_method_45_code 1 (none) :: sw_tb) R_Mo) (hr : meth.sig.returnType = none) (hlk : meth.locks = false) (hf : sw_wf ξ g.2.2) (N : Nat) : ∀ (μ : sw_m)  (H : Heap) (locs : List Loc) (ls : Array Slot), fMo_readClause_29 N   μ = some res → sw_S Γ A ξ g μ s H locs → lv_has ls 1 [(0, .ref (ξ.2.2.2.1 84))] → W p l e (headSpec (Cond.code yMo_readClause prog_10_method_45_code 1 (none) :: sw_tb) rmMo_readClause).room s m args below meth c H locs 0 0 (MQ below (sw_Qv Γ A ξ g res (True)) args s 0 0 A) (F0 m 29 ls []) := by
  intro μ H locs ls hm hw hl
  unfold fMo_readClause_29 at hm
  refine lv_aload_n S.1 S.2.1 dMo_readClause_29 rfl (lv_at hl 0 rfl) ?_
  refine lv_iconst (v := (4 : Int32)) S.1 S.2.1 dMo_readClause_30 (by decide) ?_
  obtain ⟨⟨v8, μ7⟩, h6, hm⟩ := ob hm
  refine sw_Vi (q := 84) (rest := []) S hw (cMo_takes0 l N hf (4 : Int32) h6) kMo_takes0 wm_Mo_204 (is_84 hf).1 (e_Mo (is_84 hf)) rfl rfl rfl rfl hl.1 (Nat.le_of_ble_eq_true rfl) ⟨rfl, rfl, Nat.le_of_ble_eq_true rfl, Nat.le_of_ble_eq_true rfl⟩ ⟨Nat.le_of_ble_eq_true rfl, Nat.le_of_ble_eq_true rfl⟩ dMo_readClause_31 (fun H locs hw _ => ?_)
  refine bif_eq (tgt := 42) S.1 S.2.1 hm dMo_readClause_34 (by decide) (fun hm => ?_) (fun hm => ?_)
  · obtain rfl := Option.some.inj hm
    exact sw_vret S hr hlk hw trivial dMo_readClause_42
  · refine lv_aload_n S.1 S.2.1 dMo_readClause_37 rfl (lv_at hl 0 rfl) ?_
    refine lv_iconst (v := (0 : Int32)) S.1 S.2.1 dMo_readClause_38 (by decide) ?_
    obtain ⟨μ10, h9, hm⟩ := ob hm
    refine sw_Vv (q := 84) (rest := []) S hw (cMo_readTest l N 10 hf (0 : Int32) h9) kMo_readTest wm_Mo_220 (is_84 hf).1 (e_Mo (is_84 hf)) rfl rfl rfl rfl hl.1 (Nat.le_of_ble_eq_true rfl) ⟨rfl, rfl, Nat.le_of_ble_eq_true rfl, Nat.le_of_ble_eq_true rfl⟩ ⟨Nat.le_of_ble_eq_true rfl, Nat.le_of_ble_eq_true rfl⟩ dMo_readClause_39 (fun H locs hw _ => ?_)
    obtain rfl := Option.some.inj hm
    exact sw_vret S hr hlk hw trivial dMo_readClause_42
set_option maxHeartbeats 4000000 in
set_option maxRecDepth 100000 in
theorem wMo_readClause_16 {l : Launch} {p : Program} {e : Env} {s : State} {m : MethodId} {args : Array Value} {below : List Frame} {meth : Method} {c : Code} {Γ : sw_C} {A : Nat → Prop} {ξ : sw_x} {g : sw_g} {res : sw_m} (S : CallFix p m c prog_10_method_45_code 1 s args (Cond.code yMo_readClause prog_10_method_45_code 1 (none) :: sw_tb) R_Mo) (hr : meth.sig.returnType = none) (hlk : meth.locks = false) (hf : sw_wf ξ g.2.2) (N : Nat) : ∀ (μ : sw_m)  (H : Heap) (locs : List Loc) (ls : Array Slot), fMo_readClause_16 N   μ = some res → sw_S Γ A ξ g μ s H locs → lv_has ls 1 [(0, .ref (ξ.2.2.2.1 84))] → W p l e (headSpec (Cond.code yMo_readClause prog_10_method_45_code 1 (none) :: sw_tb) rmMo_readClause).room s m args below meth c H locs 0 0 (MQ below (sw_Qv Γ A ξ g res (True)) args s 0 0 A) (F0 m 16 ls []) := by
  intro μ H locs ls hm hw hl
  unfold fMo_readClause_16 at hm
  refine lv_aload_n S.1 S.2.1 dMo_readClause_16 rfl (lv_at hl 0 rfl) ?_
  refine lv_iconst (v := (0 : Int32)) S.1 S.2.1 dMo_readClause_17 (by decide) ?_
  obtain ⟨μ5, h4, hm⟩ := ob hm
  refine sw_Vv (q := 84) (rest := []) S hw (cMo_readSum l N 10 hf (0 : Int32) h4) kMo_readSum wm_Mo_213 (is_84 hf).1 (e_Mo (is_84 hf)) rfl rfl rfl rfl hl.1 (Nat.le_of_ble_eq_true rfl) ⟨rfl, rfl, Nat.le_of_ble_eq_true rfl, Nat.le_of_ble_eq_true rfl⟩ ⟨Nat.le_of_ble_eq_true rfl, Nat.le_of_ble_eq_true rfl⟩ dMo_readClause_18 (fun H locs hw _ => ?_)
  refine lv_goto (tgt := 29) S.1 S.2.1 dMo_readClause_21 (by decide) ?_
  exact wMo_readClause_29 S hr hlk hf N  μ5 _ _ _ hm hw (lv_sub hl [0] rfl)
set_option maxHeartbeats 4000000 in
set_option maxRecDepth 100000 in
theorem cMo_readClause (l : Launch) (N : Nat) {Γ : sw_C} {A : Nat → Prop} {ξ : sw_x} {g : sw_g} {μ : sw_m} (hf : sw_wf ξ g.2.2) {res : sw_m} (hm : fMo_readClause N μ = some res) : Met l yMo_readClause (Cond.code yMo_readClause prog_10_method_45_code 1 (none) :: sw_tb) rmMo_readClause (va_Pc [.ref (ξ.2.2.2.1 84)] (sw_V Γ A ξ g μ)) (sw_Qv Γ A ξ g res (True)) 0 0 A := by
  refine Met.ofW (cc := prog_10_method_45_code) (maxL := 1) (ret := none) (by decide) rfl ?_
  intro p e s m args below meth c s₁ B hml hv
  obtain ⟨rfl, hv⟩ := hv
  have S : CallFix p m c prog_10_method_45_code 1 s _ (Cond.code yMo_readClause prog_10_method_45_code 1 (none) :: sw_tb) R_Mo := ⟨B.exec, B.bytes, hml, findClass_of_methodNamed B.named, atoms_spec (ws := (Cond.code yMo_readClause prog_10_method_45_code 1 (none) :: sw_tb)) B.pre⟩
  have hr := B.returns
  have hlk := B.notSynchronized
  have hw := sw_begin hv
  have hl := lv_entry [.ref (ξ.2.2.2.1 84)] (n := 1) (Nat.le_of_ble_eq_true rfl)
  rw [lg_entry_eq]
  generalize (lg_sl [.ref (ξ.2.2.2.1 84)] ++ List.replicate (1 - (lg_sl [.ref (ξ.2.2.2.1 84)]).length) Slot.unset).toArray = ls at hl ⊢
  have hl : lv_has ls 1 [(0, .ref (ξ.2.2.2.1 84))] := hl
  unfold fMo_readClause at hm
  refine lv_aload_n S.1 S.2.1 dMo_readClause_0 rfl (lv_at hl 0 rfl) ?_
  refine lv_iconst (v := (1 : Int32)) S.1 S.2.1 dMo_readClause_1 (by decide) ?_
  obtain ⟨⟨v3, μ2⟩, h1, hm⟩ := ob hm
  refine sw_Vi (q := 84) (rest := []) S hw (cMo_takes0 l N hf (1 : Int32) h1) kMo_takes0 wm_Mo_204 (is_84 hf).1 (e_Mo (is_84 hf)) rfl rfl rfl rfl hl.1 (Nat.le_of_ble_eq_true rfl) ⟨rfl, rfl, Nat.le_of_ble_eq_true rfl, Nat.le_of_ble_eq_true rfl⟩ ⟨Nat.le_of_ble_eq_true rfl, Nat.le_of_ble_eq_true rfl⟩ dMo_readClause_2 (fun H locs hw _ => ?_)
  refine bif_ne (tgt := 16) S.1 S.2.1 hm dMo_readClause_5 (by decide) (fun hm => ?_) (fun hm => ?_)
  · exact wMo_readClause_16 S hr hlk hf N  μ2 _ _ _ hm hw (lv_sub hl [0] rfl)
  · refine lv_aload_n S.1 S.2.1 dMo_readClause_8 rfl (lv_at hl 0 rfl) ?_
    refine lv_iconst (v := (2 : Int32)) S.1 S.2.1 dMo_readClause_9 (by decide) ?_
    obtain ⟨⟨v13, μ12⟩, h11, hm⟩ := ob hm
    refine sw_Vi (q := 84) (rest := []) S hw (cMo_takes0 l N hf (2 : Int32) h11) kMo_takes0 wm_Mo_204 (is_84 hf).1 (e_Mo (is_84 hf)) rfl rfl rfl rfl hl.1 (Nat.le_of_ble_eq_true rfl) ⟨rfl, rfl, Nat.le_of_ble_eq_true rfl, Nat.le_of_ble_eq_true rfl⟩ ⟨Nat.le_of_ble_eq_true rfl, Nat.le_of_ble_eq_true rfl⟩ dMo_readClause_10 (fun H locs hw _ => ?_)
    refine bif_eq (tgt := 24) S.1 S.2.1 hm dMo_readClause_13 (by decide) (fun hm => ?_) (fun hm => ?_)
    · refine lv_aload_n S.1 S.2.1 dMo_readClause_24 rfl (lv_at hl 0 rfl) ?_
      refine lv_iconst (v := (3 : Int32)) S.1 S.2.1 dMo_readClause_25 (by decide) ?_
      obtain ⟨μ15, h14, hm⟩ := ob hm
      refine sw_Vv (q := 84) (rest := []) S hw (cMo_must l N hf (3 : Int32) h14) kMo_must wm_Mo_217 (is_84 hf).1 (e_Mo (is_84 hf)) rfl rfl rfl rfl hl.1 (Nat.le_of_ble_eq_true rfl) ⟨rfl, rfl, Nat.le_of_ble_eq_true rfl, Nat.le_of_ble_eq_true rfl⟩ ⟨Nat.le_of_ble_eq_true rfl, Nat.le_of_ble_eq_true rfl⟩ dMo_readClause_26 (fun H locs hw _ => ?_)
      exact wMo_readClause_29 S hr hlk hf N  μ15 _ _ _ hm hw (lv_sub hl [0] rfl)
    · exact wMo_readClause_16 S hr hlk hf N  μ12 _ _ _ hm hw (lv_sub hl [0] rfl)
set_option maxHeartbeats 4000000 in
set_option maxRecDepth 100000 in
theorem wMo_readOrder_75 {l : Launch} {p : Program} {e : Env} {s : State} {m : MethodId} {args : Array Value} {below : List Frame} {meth : Method} {c : Code} {Γ : sw_C} {A : Nat → Prop} {ξ : sw_x} {g : sw_g} {res : sw_m} (S : CallFix p m c prog_10_method_47_code 1 s args (Cond.code yMo_readOrder prog_10_method_47_code 1 (none) :: sw_tb) R_Mo) (hr : meth.sig.returnType = none) (hlk : meth.locks = false) (hf : sw_wf ξ g.2.2) (N : Nat) : ∀ (μ : sw_m)  (H : Heap) (locs : List Loc) (ls : Array Slot), fMo_readOrder_75 N   μ = some res → sw_S Γ A ξ g μ s H locs → lv_has ls 1 [(0, .ref (ξ.2.2.2.1 84))] → W p l e (headSpec (Cond.code yMo_readOrder prog_10_method_47_code 1 (none) :: sw_tb) rmMo_readOrder).room s m args below meth c H locs 0 0 (MQ below (sw_Qv Γ A ξ g res (True)) args s 0 0 A) (F0 m 75 ls []) := by
  intro μ H locs ls hm hw hl
  unfold fMo_readOrder_75 at hm
  refine lv_aload_n S.1 S.2.1 dMo_readOrder_75 rfl (lv_at hl 0 rfl) ?_
  refine lv_iconst (v := (4 : Int32)) S.1 S.2.1 dMo_readOrder_76 (by decide) ?_
  obtain ⟨⟨v17, μ16⟩, h15, hm⟩ := ob hm
  refine sw_Vi (q := 84) (rest := []) S hw (cMo_takes0 l N hf (4 : Int32) h15) kMo_takes0 wm_Mo_204 (is_84 hf).1 (e_Mo (is_84 hf)) rfl rfl rfl rfl hl.1 (Nat.le_of_ble_eq_true rfl) ⟨rfl, rfl, Nat.le_of_ble_eq_true rfl, Nat.le_of_ble_eq_true rfl⟩ ⟨Nat.le_of_ble_eq_true rfl, Nat.le_of_ble_eq_true rfl⟩ dMo_readOrder_77 (fun H locs hw _ => ?_)
  refine bif_eq (tgt := 88) S.1 S.2.1 hm dMo_readOrder_80 (by decide) (fun hm => ?_) (fun hm => ?_)
  · obtain rfl := Option.some.inj hm
    exact sw_vret S hr hlk hw trivial dMo_readOrder_88
  · refine lv_aload_n S.1 S.2.1 dMo_readOrder_83 rfl (lv_at hl 0 rfl) ?_
    refine lv_iconst (v := (0 : Int32)) S.1 S.2.1 dMo_readOrder_84 (by decide) ?_
    obtain ⟨μ19, h18, hm⟩ := ob hm
    refine sw_Vv (q := 84) (rest := []) S hw (cMo_readTest l N 10 hf (0 : Int32) h18) kMo_readTest wm_Mo_220 (is_84 hf).1 (e_Mo (is_84 hf)) rfl rfl rfl rfl hl.1 (Nat.le_of_ble_eq_true rfl) ⟨rfl, rfl, Nat.le_of_ble_eq_true rfl, Nat.le_of_ble_eq_true rfl⟩ ⟨Nat.le_of_ble_eq_true rfl, Nat.le_of_ble_eq_true rfl⟩ dMo_readOrder_85 (fun H locs hw _ => ?_)
    obtain rfl := Option.some.inj hm
    exact sw_vret S hr hlk hw trivial dMo_readOrder_88
set_option maxHeartbeats 4000000 in
set_option maxRecDepth 100000 in
theorem wMo_readOrder_59 {l : Launch} {p : Program} {e : Env} {s : State} {m : MethodId} {args : Array Value} {below : List Frame} {meth : Method} {c : Code} {Γ : sw_C} {A : Nat → Prop} {ξ : sw_x} {g : sw_g} {res : sw_m} (S : CallFix p m c prog_10_method_47_code 1 s args (Cond.code yMo_readOrder prog_10_method_47_code 1 (none) :: sw_tb) R_Mo) (hr : meth.sig.returnType = none) (hlk : meth.locks = false) (hf : sw_wf ξ g.2.2) (N : Nat) : ∀ (μ : sw_m)  (H : Heap) (locs : List Loc) (ls : Array Slot), fMo_readOrder_59 N   μ = some res → sw_S Γ A ξ g μ s H locs → lv_has ls 1 [(0, .ref (ξ.2.2.2.1 84))] → W p l e (headSpec (Cond.code yMo_readOrder prog_10_method_47_code 1 (none) :: sw_tb) rmMo_readOrder).room s m args below meth c H locs 0 0 (MQ below (sw_Qv Γ A ξ g res (True)) args s 0 0 A) (F0 m 59 ls []) := by
  intro μ H locs ls hm hw hl
  unfold fMo_readOrder_59 at hm
  refine lv_aload_n S.1 S.2.1 dMo_readOrder_59 rfl (lv_at hl 0 rfl) ?_
  refine lv_bipush (v := (26 : Int32)) S.1 S.2.1 dMo_readOrder_60 (by decide) ?_
  obtain ⟨⟨v14, μ13⟩, h12, hm⟩ := ob hm
  refine sw_Vi (q := 84) (rest := []) S hw (cMo_takes0 l N hf (26 : Int32) h12) kMo_takes0 wm_Mo_204 (is_84 hf).1 (e_Mo (is_84 hf)) rfl rfl rfl rfl hl.1 (Nat.le_of_ble_eq_true rfl) ⟨rfl, rfl, Nat.le_of_ble_eq_true rfl, Nat.le_of_ble_eq_true rfl⟩ ⟨Nat.le_of_ble_eq_true rfl, Nat.le_of_ble_eq_true rfl⟩ dMo_readOrder_62 (fun H locs hw _ => ?_)
  refine bif_eq (tgt := 75) S.1 S.2.1 hm dMo_readOrder_65 (by decide) (fun hm => ?_) (fun hm => ?_)
  · exact wMo_readOrder_75 S hr hlk hf N  μ13 _ _ _ hm hw (lv_sub hl [0] rfl)
  · refine lv_aload_n S.1 S.2.1 dMo_readOrder_68 rfl (lv_at hl 0 rfl) ?_
    refine lv_iconst (v := (1 : Int32)) S.1 S.2.1 dMo_readOrder_69 (by decide) ?_
    refine lv_bipush (v := (20 : Int32)) S.1 S.2.1 dMo_readOrder_70 (by decide) ?_
    obtain ⟨μ21, h20, hm⟩ := ob hm
    refine sw_Vv (q := 84) (rest := []) S hw (cMo_mustNumber l N hf (1 : Int32) (20 : Int32) h20) kMo_mustNumber wm_Mo_226 (is_84 hf).1 (e_Mo (is_84 hf)) rfl rfl rfl rfl hl.1 (Nat.le_of_ble_eq_true rfl) ⟨rfl, rfl, Nat.le_of_ble_eq_true rfl, Nat.le_of_ble_eq_true rfl⟩ ⟨Nat.le_of_ble_eq_true rfl, Nat.le_of_ble_eq_true rfl⟩ dMo_readOrder_72 (fun H locs hw _ => ?_)
    exact wMo_readOrder_75 S hr hlk hf N  μ21 _ _ _ hm hw (lv_sub hl [0] rfl)
set_option maxHeartbeats 4000000 in
set_option maxRecDepth 100000 in
theorem cMo_readOrder (l : Launch) (N : Nat) {Γ : sw_C} {A : Nat → Prop} {ξ : sw_x} {g : sw_g} {μ : sw_m} (hf : sw_wf ξ g.2.2) {res : sw_m} (hm : fMo_readOrder N μ = some res) : Met l yMo_readOrder (Cond.code yMo_readOrder prog_10_method_47_code 1 (none) :: sw_tb) rmMo_readOrder (va_Pc [.ref (ξ.2.2.2.1 84)] (sw_V Γ A ξ g μ)) (sw_Qv Γ A ξ g res (True)) 0 0 A := by
  refine Met.ofW (cc := prog_10_method_47_code) (maxL := 1) (ret := none) (by decide) rfl ?_
  intro p e s m args below meth c s₁ B hml hv
  obtain ⟨rfl, hv⟩ := hv
  have S : CallFix p m c prog_10_method_47_code 1 s _ (Cond.code yMo_readOrder prog_10_method_47_code 1 (none) :: sw_tb) R_Mo := ⟨B.exec, B.bytes, hml, findClass_of_methodNamed B.named, atoms_spec (ws := (Cond.code yMo_readOrder prog_10_method_47_code 1 (none) :: sw_tb)) B.pre⟩
  have hr := B.returns
  have hlk := B.notSynchronized
  have hw := sw_begin hv
  have hl := lv_entry [.ref (ξ.2.2.2.1 84)] (n := 1) (Nat.le_of_ble_eq_true rfl)
  rw [lg_entry_eq]
  generalize (lg_sl [.ref (ξ.2.2.2.1 84)] ++ List.replicate (1 - (lg_sl [.ref (ξ.2.2.2.1 84)]).length) Slot.unset).toArray = ls at hl ⊢
  have hl : lv_has ls 1 [(0, .ref (ξ.2.2.2.1 84))] := hl
  unfold fMo_readOrder at hm
  refine lv_aload_n S.1 S.2.1 dMo_readOrder_0 rfl (lv_at hl 0 rfl) ?_
  refine lv_bipush (v := (21 : Int32)) S.1 S.2.1 dMo_readOrder_1 (by decide) ?_
  obtain ⟨⟨v3, μ2⟩, h1, hm⟩ := ob hm
  refine sw_Vi (q := 84) (rest := []) S hw (cMo_takes0 l N hf (21 : Int32) h1) kMo_takes0 wm_Mo_204 (is_84 hf).1 (e_Mo (is_84 hf)) rfl rfl rfl rfl hl.1 (Nat.le_of_ble_eq_true rfl) ⟨rfl, rfl, Nat.le_of_ble_eq_true rfl, Nat.le_of_ble_eq_true rfl⟩ ⟨Nat.le_of_ble_eq_true rfl, Nat.le_of_ble_eq_true rfl⟩ dMo_readOrder_3 (fun H locs hw _ => ?_)
  refine bif_eq (tgt := 18) S.1 S.2.1 hm dMo_readOrder_6 (by decide) (fun hm => ?_) (fun hm => ?_)
  · refine lv_aload_n S.1 S.2.1 dMo_readOrder_18 rfl (lv_at hl 0 rfl) ?_
    refine lv_bipush (v := (23 : Int32)) S.1 S.2.1 dMo_readOrder_19 (by decide) ?_
    obtain ⟨⟨v6, μ5⟩, h4, hm⟩ := ob hm
    refine sw_Vi (q := 84) (rest := []) S hw (cMo_takes0 l N hf (23 : Int32) h4) kMo_takes0 wm_Mo_204 (is_84 hf).1 (e_Mo (is_84 hf)) rfl rfl rfl rfl hl.1 (Nat.le_of_ble_eq_true rfl) ⟨rfl, rfl, Nat.le_of_ble_eq_true rfl, Nat.le_of_ble_eq_true rfl⟩ ⟨Nat.le_of_ble_eq_true rfl, Nat.le_of_ble_eq_true rfl⟩ dMo_readOrder_21 (fun H locs hw _ => ?_)
    refine bif_eq (tgt := 36) S.1 S.2.1 hm dMo_readOrder_24 (by decide) (fun hm => ?_) (fun hm => ?_)
    · refine lv_aload_n S.1 S.2.1 dMo_readOrder_36 rfl (lv_at hl 0 rfl) ?_
      refine lv_bipush (v := (22 : Int32)) S.1 S.2.1 dMo_readOrder_37 (by decide) ?_
      obtain ⟨⟨v9, μ8⟩, h7, hm⟩ := ob hm
      refine sw_Vi (q := 84) (rest := []) S hw (cMo_takes0 l N hf (22 : Int32) h7) kMo_takes0 wm_Mo_204 (is_84 hf).1 (e_Mo (is_84 hf)) rfl rfl rfl rfl hl.1 (Nat.le_of_ble_eq_true rfl) ⟨rfl, rfl, Nat.le_of_ble_eq_true rfl, Nat.le_of_ble_eq_true rfl⟩ ⟨Nat.le_of_ble_eq_true rfl, Nat.le_of_ble_eq_true rfl⟩ dMo_readOrder_39 (fun H locs hw _ => ?_)
      refine bif_eq (tgt := 53) S.1 S.2.1 hm dMo_readOrder_42 (by decide) (fun hm => ?_) (fun hm => ?_)
      · refine lv_aload_n S.1 S.2.1 dMo_readOrder_53 rfl (lv_at hl 0 rfl) ?_
        refine lv_bipush (v := (25 : Int32)) S.1 S.2.1 dMo_readOrder_54 (by decide) ?_
        obtain ⟨μ11, h10, hm⟩ := ob hm
        refine sw_Vv (q := 84) (rest := []) S hw (cMo_must l N hf (25 : Int32) h10) kMo_must wm_Mo_217 (is_84 hf).1 (e_Mo (is_84 hf)) rfl rfl rfl rfl hl.1 (Nat.le_of_ble_eq_true rfl) ⟨rfl, rfl, Nat.le_of_ble_eq_true rfl, Nat.le_of_ble_eq_true rfl⟩ ⟨Nat.le_of_ble_eq_true rfl, Nat.le_of_ble_eq_true rfl⟩ dMo_readOrder_56 (fun H locs hw _ => ?_)
        exact wMo_readOrder_59 S hr hlk hf N  μ11 _ _ _ hm hw (lv_sub hl [0] rfl)
      · refine lv_aload_n S.1 S.2.1 dMo_readOrder_45 rfl (lv_at hl 0 rfl) ?_
        refine lv_iconst (v := (0 : Int32)) S.1 S.2.1 dMo_readOrder_46 (by decide) ?_
        obtain ⟨μ23, h22, hm⟩ := ob hm
        refine sw_Vv (q := 84) (rest := []) S hw (cMo_readSum l N 10 hf (0 : Int32) h22) kMo_readSum wm_Mo_213 (is_84 hf).1 (e_Mo (is_84 hf)) rfl rfl rfl rfl hl.1 (Nat.le_of_ble_eq_true rfl) ⟨rfl, rfl, Nat.le_of_ble_eq_true rfl, Nat.le_of_ble_eq_true rfl⟩ ⟨Nat.le_of_ble_eq_true rfl, Nat.le_of_ble_eq_true rfl⟩ dMo_readOrder_47 (fun H locs hw _ => ?_)
        refine lv_goto (tgt := 59) S.1 S.2.1 dMo_readOrder_50 (by decide) ?_
        exact wMo_readOrder_59 S hr hlk hf N  μ23 _ _ _ hm hw (lv_sub hl [0] rfl)
    · refine lv_aload_n S.1 S.2.1 dMo_readOrder_27 rfl (lv_at hl 0 rfl) ?_
      refine lv_bipush (v := (24 : Int32)) S.1 S.2.1 dMo_readOrder_28 (by decide) ?_
      obtain ⟨μ25, h24, hm⟩ := ob hm
      refine sw_Vv (q := 84) (rest := []) S hw (cMo_readTwo l N hf (24 : Int32) h24) kMo_readTwo wm_Mo_223 (is_84 hf).1 (e_Mo (is_84 hf)) rfl rfl rfl rfl hl.1 (Nat.le_of_ble_eq_true rfl) ⟨rfl, rfl, Nat.le_of_ble_eq_true rfl, Nat.le_of_ble_eq_true rfl⟩ ⟨Nat.le_of_ble_eq_true rfl, Nat.le_of_ble_eq_true rfl⟩ dMo_readOrder_30 (fun H locs hw _ => ?_)
      refine lv_goto (tgt := 59) S.1 S.2.1 dMo_readOrder_33 (by decide) ?_
      exact wMo_readOrder_59 S hr hlk hf N  μ25 _ _ _ hm hw (lv_sub hl [0] rfl)
  · refine lv_aload_n S.1 S.2.1 dMo_readOrder_9 rfl (lv_at hl 0 rfl) ?_
    refine lv_bipush (v := (20 : Int32)) S.1 S.2.1 dMo_readOrder_10 (by decide) ?_
    obtain ⟨μ27, h26, hm⟩ := ob hm
    refine sw_Vv (q := 84) (rest := []) S hw (cMo_readTwo l N hf (20 : Int32) h26) kMo_readTwo wm_Mo_223 (is_84 hf).1 (e_Mo (is_84 hf)) rfl rfl rfl rfl hl.1 (Nat.le_of_ble_eq_true rfl) ⟨rfl, rfl, Nat.le_of_ble_eq_true rfl, Nat.le_of_ble_eq_true rfl⟩ ⟨Nat.le_of_ble_eq_true rfl, Nat.le_of_ble_eq_true rfl⟩ dMo_readOrder_12 (fun H locs hw _ => ?_)
    refine lv_goto (tgt := 59) S.1 S.2.1 dMo_readOrder_15 (by decide) ?_
    exact wMo_readOrder_59 S hr hlk hf N  μ27 _ _ _ hm hw (lv_sub hl [0] rfl)
