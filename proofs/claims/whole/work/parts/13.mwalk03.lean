set_option maxHeartbeats 4000000 in
set_option maxRecDepth 100000 in
theorem cMo_readOne (l : Launch) (N : Nat) {Γ : sw_C} {A : Nat → Prop} {ξ : sw_x} {g : sw_g} {μ : sw_m} (hf : sw_wf ξ g.2.2) {res : sw_m} (hm : fMo_readOne N μ = some res) : Met l yMo_readOne (Cond.code yMo_readOne prog_10_method_48_code 1 (none) :: sw_tb) rmMo_readOne (va_Pc [.ref (ξ.2.2.2.1 84)] (sw_V Γ A ξ g μ)) (sw_Qv Γ A ξ g res (True)) 0 0 A := by
  refine Met.ofW (cc := prog_10_method_48_code) (maxL := 1) (ret := none) (by decide) rfl ?_
  intro p e s m args below meth c s₁ B hml hv
  obtain ⟨rfl, hv⟩ := hv
  have S : CallFix p m c prog_10_method_48_code 1 s _ (Cond.code yMo_readOne prog_10_method_48_code 1 (none) :: sw_tb) R_Mo := ⟨B.exec, B.bytes, hml, findClass_of_methodNamed B.named, atoms_spec (ws := (Cond.code yMo_readOne prog_10_method_48_code 1 (none) :: sw_tb)) B.pre⟩
  have hr := B.returns
  have hlk := B.notSynchronized
  have hw := sw_begin hv
  have hl := lv_entry [.ref (ξ.2.2.2.1 84)] (n := 1) (Nat.le_of_ble_eq_true rfl)
  rw [lg_entry_eq]
  generalize (lg_sl [.ref (ξ.2.2.2.1 84)] ++ List.replicate (1 - (lg_sl [.ref (ξ.2.2.2.1 84)]).length) Slot.unset).toArray = ls at hl ⊢
  have hl : lv_has ls 1 [(0, .ref (ξ.2.2.2.1 84))] := hl
  unfold fMo_readOne at hm
  refine lv_aload_n S.1 S.2.1 dMo_readOne_0 rfl (lv_at hl 0 rfl) ?_
  refine get_Mo (v := .int (μ.1 84 10)) S hw (is_84 hf) 10 (by decide) rfl wf_Mo_229 dMo_readOne_1 ?_
  refine bif_eq (tgt := 14) S.1 S.2.1 hm dMo_readOne_4 (by decide) (fun hm => ?_) (fun hm => ?_)
  · refine lv_aload_n S.1 S.2.1 dMo_readOne_14 rfl (lv_at hl 0 rfl) ?_
    obtain ⟨μ2, h1, hm⟩ := ob hm
    refine sw_Vv (q := 84) (rest := []) S hw (cMo_readClause l N hf  h1) kMo_readClause wm_Mo_236 (is_84 hf).1 (e_Mo (is_84 hf)) rfl rfl rfl rfl hl.1 (Nat.le_of_ble_eq_true rfl) ⟨rfl, rfl, Nat.le_of_ble_eq_true rfl, Nat.le_of_ble_eq_true rfl⟩ ⟨Nat.le_of_ble_eq_true rfl, Nat.le_of_ble_eq_true rfl⟩ dMo_readOne_15 (fun H locs hw _ => ?_)
    obtain rfl := Option.some.inj hm
    exact sw_vret S hr hlk hw trivial dMo_readOne_18
  · refine lv_aload_n S.1 S.2.1 dMo_readOne_7 rfl (lv_at hl 0 rfl) ?_
    obtain ⟨μ4, h3, hm⟩ := ob hm
    refine sw_Vv (q := 84) (rest := []) S hw (cMo_readOrder l N hf  h3) kMo_readOrder wm_Mo_233 (is_84 hf).1 (e_Mo (is_84 hf)) rfl rfl rfl rfl hl.1 (Nat.le_of_ble_eq_true rfl) ⟨rfl, rfl, Nat.le_of_ble_eq_true rfl, Nat.le_of_ble_eq_true rfl⟩ ⟨Nat.le_of_ble_eq_true rfl, Nat.le_of_ble_eq_true rfl⟩ dMo_readOne_8 (fun H locs hw _ => ?_)
    refine lv_goto (tgt := 18) S.1 S.2.1 dMo_readOne_11 (by decide) ?_
    obtain rfl := Option.some.inj hm
    exact sw_vret S hr hlk hw trivial dMo_readOne_18
set_option maxHeartbeats 4000000 in
set_option maxRecDepth 100000 in
theorem wMo_reads_56 {l : Launch} {p : Program} {e : Env} {s : State} {m : MethodId} {args : Array Value} {below : List Frame} {meth : Method} {c : Code} {Γ : sw_C} {A : Nat → Prop} {ξ : sw_x} {g : sw_g} {res : Int32 × sw_m} (S : CallFix p m c prog_10_method_55_code 2 s args (Cond.code yMo_reads prog_10_method_55_code 2 (some .boolean) :: sw_tb) R_Mo) (hr : meth.sig.returnType = some .boolean) (hlk : meth.locks = false) (hf : sw_wf ξ g.2.2) (N : Nat) (k34 : sw_m → Int32 → Option (Int32 × sw_m)) (hk34 : ∀ (μ : sw_m) (u1 : Int32) (H : Heap) (locs : List Loc) (ls : Array Slot), k34 μ u1 = some res → sw_S Γ A ξ g μ s H locs → lv_has ls 2 [(0, .ref (ξ.2.2.2.1 84)), (1, .int u1)] → W p l e (headSpec (Cond.code yMo_reads prog_10_method_55_code 2 (some .boolean) :: sw_tb) rmMo_reads).room s m args below meth c H locs 0 0 (MQ below (sw_Qi Γ A ξ g res.2 res.1 (True)) args s 0 0 A) (F0 m 34 ls [])) : ∀ (μ : sw_m) (u1 : Int32) (H : Heap) (locs : List Loc) (ls : Array Slot), fMo_reads_56 N  k34 μ u1 = some res → sw_S Γ A ξ g μ s H locs → lv_has ls 2 [(0, .ref (ξ.2.2.2.1 84)), (1, .int u1)] → W p l e (headSpec (Cond.code yMo_reads prog_10_method_55_code 2 (some .boolean) :: sw_tb) rmMo_reads).room s m args below meth c H locs 0 0 (MQ below (sw_Qi Γ A ξ g res.2 res.1 (True)) args s 0 0 A) (F0 m 56 ls []) := by
  intro μ u1 H locs ls hm hw hl
  unfold fMo_reads_56 at hm
  refine lv_aload_n S.1 S.2.1 dMo_reads_56 rfl (lv_at hl 0 rfl) ?_
  obtain ⟨⟨v25, μ24⟩, h23, hm⟩ := ob hm
  refine sw_Vi (q := 84) (rest := []) S hw (cMo_fine l  hf  h23) kMo_fine wm_Mo_197 (is_84 hf).1 (e_Mo (is_84 hf)) rfl rfl rfl rfl hl.1 (Nat.le_of_ble_eq_true rfl) ⟨rfl, rfl, Nat.le_of_ble_eq_true rfl, Nat.le_of_ble_eq_true rfl⟩ ⟨Nat.le_of_ble_eq_true rfl, Nat.le_of_ble_eq_true rfl⟩ dMo_reads_57 (fun H locs hw _ => ?_)
  refine bif_eq (tgt := 67) S.1 S.2.1 hm dMo_reads_60 (by decide) (fun hm => ?_) (fun hm => ?_)
  · obtain ⟨x26, ex26, hm⟩ := nm_x hm
    refine lv_iinc (v := x26) (lv' := [(1, .int x26), (0, .ref (ξ.2.2.2.1 84))]) S.1 S.2.1 dMo_reads_67 hl (k := 1) rfl (by rw [ex26]; rfl) (by decide) rfl (fun ls hl => ?_)
    refine lv_goto (tgt := 34) S.1 S.2.1 dMo_reads_70 (by decide) ?_
    exact hk34 μ24 x26 _ _ _ hm hw (lv_sub hl [1, 0] rfl)
  · refine lv_aload_n S.1 S.2.1 dMo_reads_63 rfl (lv_at hl 0 rfl) ?_
    obtain ⟨μ28, h27, hm⟩ := ob hm
    refine sw_Vv (q := 84) (rest := []) S hw (cMo_readOne l N hf  h27) kMo_readOne wm_Mo_267 (is_84 hf).1 (e_Mo (is_84 hf)) rfl rfl rfl rfl hl.1 (Nat.le_of_ble_eq_true rfl) ⟨rfl, rfl, Nat.le_of_ble_eq_true rfl, Nat.le_of_ble_eq_true rfl⟩ ⟨Nat.le_of_ble_eq_true rfl, Nat.le_of_ble_eq_true rfl⟩ dMo_reads_64 (fun H locs hw _ => ?_)
    obtain ⟨x29, ex29, hm⟩ := nm_x hm
    refine lv_iinc (v := x29) (lv' := [(1, .int x29), (0, .ref (ξ.2.2.2.1 84))]) S.1 S.2.1 dMo_reads_67 hl (k := 1) rfl (by rw [ex29]; rfl) (by decide) rfl (fun ls hl => ?_)
    refine lv_goto (tgt := 34) S.1 S.2.1 dMo_reads_70 (by decide) ?_
    exact hk34 μ28 x29 _ _ _ hm hw (lv_sub hl [1, 0] rfl)
set_option maxHeartbeats 4000000 in
set_option maxRecDepth 100000 in
theorem wMo_reads_95 {l : Launch} {p : Program} {e : Env} {s : State} {m : MethodId} {args : Array Value} {below : List Frame} {meth : Method} {c : Code} {Γ : sw_C} {A : Nat → Prop} {ξ : sw_x} {g : sw_g} {res : Int32 × sw_m} (S : CallFix p m c prog_10_method_55_code 2 s args (Cond.code yMo_reads prog_10_method_55_code 2 (some .boolean) :: sw_tb) R_Mo) (hr : meth.sig.returnType = some .boolean) (hlk : meth.locks = false) (hf : sw_wf ξ g.2.2) (N : Nat) : ∀ (μ : sw_m)  (H : Heap) (locs : List Loc) (ls : Array Slot), fMo_reads_95 N   μ = some res → sw_S Γ A ξ g μ s H locs → lv_has ls 2 [(0, .ref (ξ.2.2.2.1 84))] → W p l e (headSpec (Cond.code yMo_reads prog_10_method_55_code 2 (some .boolean) :: sw_tb) rmMo_reads).room s m args below meth c H locs 0 0 (MQ below (sw_Qi Γ A ξ g res.2 res.1 (True)) args s 0 0 A) (F0 m 95 ls []) := by
  intro μ H locs ls hm hw hl
  unfold fMo_reads_95 at hm
  refine lv_aload_n S.1 S.2.1 dMo_reads_95 rfl (lv_at hl 0 rfl) ?_
  refine lv_aload_n S.1 S.2.1 dMo_reads_96 rfl (lv_at hl 0 rfl) ?_
  refine get_Mo (v := .int (μ.1 84 21)) S hw (is_84 hf) 21 (by decide) rfl wf_Mo_194 dMo_reads_97 ?_
  refine put_Mo S hw (is_84 hf) 14 (by decide) ps_Mo_14 rfl rfl rfl wf_Mo_51 hm dMo_reads_100 (fun μ17 H locs hm hw => ?_)
  refine lv_aload_n S.1 S.2.1 dMo_reads_103 rfl (lv_at hl 0 rfl) ?_
  obtain ⟨⟨v20, μ19⟩, h18, hm⟩ := ob hm
  refine sw_Vi (q := 84) (rest := []) S hw (cMo_fine l  hf  h18) kMo_fine wm_Mo_197 (is_84 hf).1 (e_Mo (is_84 hf)) rfl rfl rfl rfl hl.1 (Nat.le_of_ble_eq_true rfl) ⟨rfl, rfl, Nat.le_of_ble_eq_true rfl, Nat.le_of_ble_eq_true rfl⟩ ⟨Nat.le_of_ble_eq_true rfl, Nat.le_of_ble_eq_true rfl⟩ dMo_reads_104 (fun H locs hw _ => ?_)
  obtain ⟨hz, hm⟩ := ob_tz hm
  obtain rfl := Option.some.inj hm
  exact sw_zret S hr hlk hz hw trivial dMo_reads_107
set_option maxHeartbeats 4000000 in
set_option maxRecDepth 100000 in
theorem wMo_reads_34 {l : Launch} {p : Program} {e : Env} {s : State} {m : MethodId} {args : Array Value} {below : List Frame} {meth : Method} {c : Code} {Γ : sw_C} {A : Nat → Prop} {ξ : sw_x} {g : sw_g} {res : Int32 × sw_m} (S : CallFix p m c prog_10_method_55_code 2 s args (Cond.code yMo_reads prog_10_method_55_code 2 (some .boolean) :: sw_tb) R_Mo) (hr : meth.sig.returnType = some .boolean) (hlk : meth.locks = false) (hf : sw_wf ξ g.2.2) (N : Nat) : ∀ (fu : Nat) (μ : sw_m) (u1 : Int32) (H : Heap) (locs : List Loc) (ls : Array Slot), fMo_reads_34 N   fu μ u1 = some res → sw_S Γ A ξ g μ s H locs → lv_has ls 2 [(0, .ref (ξ.2.2.2.1 84)), (1, .int u1)] → W p l e (headSpec (Cond.code yMo_reads prog_10_method_55_code 2 (some .boolean) :: sw_tb) rmMo_reads).room s m args below meth c H locs 0 0 (MQ below (sw_Qi Γ A ξ g res.2 res.1 (True)) args s 0 0 A) (F0 m 34 ls []) := by
  intro fu
  induction fu with
  | zero => intro μ u1 H locs ls hm; rw [fMo_reads_34.eq_1] at hm; cases hm
  | succ fu ih =>
    intro μ u1 H locs ls hm hw hl
    rw [fMo_reads_34.eq_2] at hm
    refine lv_aload_n S.1 S.2.1 dMo_reads_34 rfl (lv_at hl 0 rfl) ?_
    refine lv_bipush (v := (59 : Int32)) S.1 S.2.1 dMo_reads_35 (by decide) ?_
    obtain ⟨v10, h9, hm⟩ := ob hm
    refine sw_Si (rest := [.ref (ξ.2.2.2.1 84)]) S hw (cMo_sign l  hf (59 : Int32) h9) kMo_sign wm_Mo_245 rfl rfl hl.1 (Nat.le_of_ble_eq_true rfl) ⟨rfl, rfl, Nat.le_of_ble_eq_true rfl, Nat.le_of_ble_eq_true rfl⟩ ⟨Nat.le_of_ble_eq_true rfl, Nat.le_of_ble_eq_true rfl⟩ dMo_reads_37 (fun H locs hw _ => ?_)
    obtain ⟨⟨v13, μ12⟩, h11, hm⟩ := ob hm
    refine sw_Vi (q := 84) (rest := []) S hw (cMo_takes0 l N hf v10 h11) kMo_takes0 wm_Mo_204 (is_84 hf).1 (e_Mo (is_84 hf)) rfl rfl rfl rfl hl.1 (Nat.le_of_ble_eq_true rfl) ⟨rfl, rfl, Nat.le_of_ble_eq_true rfl, Nat.le_of_ble_eq_true rfl⟩ ⟨Nat.le_of_ble_eq_true rfl, Nat.le_of_ble_eq_true rfl⟩ dMo_reads_40 (fun H locs hw _ => ?_)
    refine bif_eq (tgt := 73) S.1 S.2.1 hm dMo_reads_43 (by decide) (fun hm => ?_) (fun hm => ?_)
    · refine lv_aload_n S.1 S.2.1 dMo_reads_73 rfl (lv_at hl 0 rfl) ?_
      obtain ⟨⟨v16, μ15⟩, h14, hm⟩ := ob hm
      refine sw_Vi (q := 84) (rest := []) S hw (cMo_fine l  hf  h14) kMo_fine wm_Mo_197 (is_84 hf).1 (e_Mo (is_84 hf)) rfl rfl rfl rfl hl.1 (Nat.le_of_ble_eq_true rfl) ⟨rfl, rfl, Nat.le_of_ble_eq_true rfl, Nat.le_of_ble_eq_true rfl⟩ ⟨Nat.le_of_ble_eq_true rfl, Nat.le_of_ble_eq_true rfl⟩ dMo_reads_74 (fun H locs hw _ => ?_)
      refine bif_eq (tgt := 95) S.1 S.2.1 hm dMo_reads_77 (by decide) (fun hm => ?_) (fun hm => ?_)
      · exact wMo_reads_95 S hr hlk hf N  μ15 _ _ _ hm hw (lv_sub hl [0] rfl)
      · refine lv_aload_n S.1 S.2.1 dMo_reads_80 rfl (lv_at hl 0 rfl) ?_
        refine get_Mo (v := .int (μ15.1 84 19)) S hw (is_84 hf) 19 (by decide) rfl wf_Mo_201 dMo_reads_81 ?_
        refine lv_aload_n S.1 S.2.1 dMo_reads_84 rfl (lv_at hl 0 rfl) ?_
        refine get_Mo (v := .int (μ15.1 84 18)) S hw (is_84 hf) 18 (by decide) rfl wf_Mo_181 dMo_reads_85 ?_
        refine bicmp_ge (tgt := 95) S.1 S.2.1 hm dMo_reads_88 (by decide) (fun hm => ?_) (fun hm => ?_)
        · exact wMo_reads_95 S hr hlk hf N  μ15 _ _ _ hm hw (lv_sub hl [0] rfl)
        · refine lv_aload_n S.1 S.2.1 dMo_reads_91 rfl (lv_at hl 0 rfl) ?_
          obtain ⟨μ22, h21, hm⟩ := ob hm
          refine sw_Vv (q := 84) (rest := []) S hw (cMo_faults l  hf  h21) kMo_faults wm_Mo_207 (is_84 hf).1 (e_Mo (is_84 hf)) rfl rfl rfl rfl hl.1 (Nat.le_of_ble_eq_true rfl) ⟨rfl, rfl, Nat.le_of_ble_eq_true rfl, Nat.le_of_ble_eq_true rfl⟩ ⟨Nat.le_of_ble_eq_true rfl, Nat.le_of_ble_eq_true rfl⟩ dMo_reads_92 (fun H locs hw _ => ?_)
          exact wMo_reads_95 S hr hlk hf N  μ22 _ _ _ hm hw (lv_sub hl [0] rfl)
    · refine lv_iload_n S.1 S.2.1 dMo_reads_46 rfl (lv_at hl 1 rfl) ?_
      refine lv_bipush (v := (12 : Int32)) S.1 S.2.1 dMo_reads_47 (by decide) ?_
      refine bicmp_ne (tgt := 56) S.1 S.2.1 hm dMo_reads_49 (by decide) (fun hm => ?_) (fun hm => ?_)
      · exact wMo_reads_56 S hr hlk hf N (fMo_reads_34 N   fu) ih μ12 u1 _ _ _ hm hw (lv_sub hl [0, 1] rfl)
      · refine lv_aload_n S.1 S.2.1 dMo_reads_52 rfl (lv_at hl 0 rfl) ?_
        obtain ⟨μ31, h30, hm⟩ := ob hm
        refine sw_Vv (q := 84) (rest := []) S hw (cMo_faults l  hf  h30) kMo_faults wm_Mo_207 (is_84 hf).1 (e_Mo (is_84 hf)) rfl rfl rfl rfl hl.1 (Nat.le_of_ble_eq_true rfl) ⟨rfl, rfl, Nat.le_of_ble_eq_true rfl, Nat.le_of_ble_eq_true rfl⟩ ⟨Nat.le_of_ble_eq_true rfl, Nat.le_of_ble_eq_true rfl⟩ dMo_reads_53 (fun H locs hw _ => ?_)
        exact wMo_reads_56 S hr hlk hf N (fMo_reads_34 N   fu) ih μ31 u1 _ _ _ hm hw (lv_sub hl [0, 1] rfl)
set_option maxHeartbeats 4000000 in
set_option maxRecDepth 100000 in
theorem cMo_reads (l : Launch) (N : Nat) {Γ : sw_C} {A : Nat → Prop} {ξ : sw_x} {g : sw_g} {μ : sw_m} (hf : sw_wf ξ g.2.2) {res : Int32 × sw_m} (hm : fMo_reads N μ = some res) : Met l yMo_reads (Cond.code yMo_reads prog_10_method_55_code 2 (some .boolean) :: sw_tb) rmMo_reads (va_Pc [.ref (ξ.2.2.2.1 84)] (sw_V Γ A ξ g μ)) (sw_Qi Γ A ξ g res.2 res.1 (True)) 0 0 A := by
  refine Met.ofW (cc := prog_10_method_55_code) (maxL := 2) (ret := some .boolean) (by decide) rfl ?_
  intro p e s m args below meth c s₁ B hml hv
  obtain ⟨rfl, hv⟩ := hv
  have S : CallFix p m c prog_10_method_55_code 2 s _ (Cond.code yMo_reads prog_10_method_55_code 2 (some .boolean) :: sw_tb) R_Mo := ⟨B.exec, B.bytes, hml, findClass_of_methodNamed B.named, atoms_spec (ws := (Cond.code yMo_reads prog_10_method_55_code 2 (some .boolean) :: sw_tb)) B.pre⟩
  have hr := B.returns
  have hlk := B.notSynchronized
  have hw := sw_begin hv
  have hl := lv_entry [.ref (ξ.2.2.2.1 84)] (n := 2) (Nat.le_of_ble_eq_true rfl)
  rw [lg_entry_eq]
  generalize (lg_sl [.ref (ξ.2.2.2.1 84)] ++ List.replicate (2 - (lg_sl [.ref (ξ.2.2.2.1 84)]).length) Slot.unset).toArray = ls at hl ⊢
  have hl : lv_has ls 2 [(0, .ref (ξ.2.2.2.1 84))] := hl
  unfold fMo_reads at hm
  refine lv_aload_n S.1 S.2.1 dMo_reads_0 rfl (lv_at hl 0 rfl) ?_
  refine lv_aload_n S.1 S.2.1 dMo_reads_1 rfl (lv_at hl 0 rfl) ?_
  refine get_Mo (v := .int (μ.1 84 13)) S hw (is_84 hf) 13 (by decide) rfl wf_Mo_175 dMo_reads_2 ?_
  obtain ⟨μ2, h1, hm⟩ := ob hm
  refine sw_Vv (q := 84) (rest := []) S hw (cMo_splits l N hf (μ.1 84 13) h1) kMo_splits wm_Mo_264 (is_84 hf).1 (e_Mo (is_84 hf)) rfl rfl rfl rfl hl.1 (Nat.le_of_ble_eq_true rfl) ⟨rfl, rfl, Nat.le_of_ble_eq_true rfl, Nat.le_of_ble_eq_true rfl⟩ ⟨Nat.le_of_ble_eq_true rfl, Nat.le_of_ble_eq_true rfl⟩ dMo_reads_5 (fun H locs hw _ => ?_)
  refine lv_aload_n S.1 S.2.1 dMo_reads_8 rfl (lv_at hl 0 rfl) ?_
  refine lv_iconst (v := (0 : Int32)) S.1 S.2.1 dMo_reads_9 (by decide) ?_
  refine put_Mo S hw (is_84 hf) 13 (by decide) ps_Mo_13 rfl rfl rfl wf_Mo_175 hm dMo_reads_10 (fun μ3 H locs hm hw => ?_)
  refine lv_aload_n S.1 S.2.1 dMo_reads_13 rfl (lv_at hl 0 rfl) ?_
  refine lv_iconst (v := (0 : Int32)) S.1 S.2.1 dMo_reads_14 (by decide) ?_
  refine put_Mo S hw (is_84 hf) 19 (by decide) ps_Mo_19 rfl rfl rfl wf_Mo_201 hm dMo_reads_15 (fun μ4 H locs hm hw => ?_)
  refine lv_aload_n S.1 S.2.1 dMo_reads_18 rfl (lv_at hl 0 rfl) ?_
  refine lv_iconst (v := (0 : Int32)) S.1 S.2.1 dMo_reads_19 (by decide) ?_
  refine put_Mo S hw (is_84 hf) 20 (by decide) ps_Mo_20 rfl rfl rfl wf_Mo_210 hm dMo_reads_20 (fun μ5 H locs hm hw => ?_)
  refine lv_aload_n S.1 S.2.1 dMo_reads_23 rfl (lv_at hl 0 rfl) ?_
  refine lv_iconst (v := (-1 : Int32)) S.1 S.2.1 dMo_reads_24 (by decide) ?_
  refine put_Mo S hw (is_84 hf) 21 (by decide) ps_Mo_21 rfl rfl rfl wf_Mo_194 hm dMo_reads_25 (fun μ6 H locs hm hw => ?_)
  refine lv_aload_n S.1 S.2.1 dMo_reads_28 rfl (lv_at hl 0 rfl) ?_
  obtain ⟨μ8, h7, hm⟩ := ob hm
  refine sw_Vv (q := 84) (rest := []) S hw (cMo_readOne l N hf  h7) kMo_readOne wm_Mo_267 (is_84 hf).1 (e_Mo (is_84 hf)) rfl rfl rfl rfl hl.1 (Nat.le_of_ble_eq_true rfl) ⟨rfl, rfl, Nat.le_of_ble_eq_true rfl, Nat.le_of_ble_eq_true rfl⟩ ⟨Nat.le_of_ble_eq_true rfl, Nat.le_of_ble_eq_true rfl⟩ dMo_reads_29 (fun H locs hw _ => ?_)
  refine lv_iconst (v := (1 : Int32)) S.1 S.2.1 dMo_reads_32 (by decide) ?_
  refine lv_istore_n (lv' := [(1, .int (1 : Int32)), (0, .ref (ξ.2.2.2.1 84))]) S.1 S.2.1 dMo_reads_33 rfl hl (by decide) rfl (fun ls hl => ?_)
  exact wMo_reads_34 S hr hlk hf N  N μ8 (1 : Int32) _ _ _ hm hw (lv_sub hl [1, 0] rfl)
set_option maxHeartbeats 4000000 in
set_option maxRecDepth 100000 in
theorem wMo_readsAs_32 {l : Launch} {p : Program} {e : Env} {s : State} {m : MethodId} {args : Array Value} {below : List Frame} {meth : Method} {c : Code} {Γ : sw_C} {A : Nat → Prop} {ξ : sw_x} {g : sw_g} {res : Int32 × sw_m} (S : CallFix p m c prog_10_method_56_code 2 s args (Cond.code yMo_readsAs prog_10_method_56_code 2 (some .boolean) :: sw_tb) R_Mo) (hr : meth.sig.returnType = some .boolean) (hlk : meth.locks = false) (hf : sw_wf ξ g.2.2) (N : Nat) : ∀ (μ : sw_m) (s0 : Int32) (H : Heap) (locs : List Loc) (ls : Array Slot), fMo_readsAs_32 N   μ s0 = some res → sw_S Γ A ξ g μ s H locs → lv_has ls 2 [(0, .ref (ξ.2.2.2.1 84))] → W p l e (headSpec (Cond.code yMo_readsAs prog_10_method_56_code 2 (some .boolean) :: sw_tb) rmMo_readsAs).room s m args below meth c H locs 0 0 (MQ below (sw_Qi Γ A ξ g res.2 res.1 (True)) args s 0 0 A) (F0 m 32 ls [.int s0, .ref (ξ.2.2.2.1 84)]) := by
  intro μ s0 H locs ls hm hw hl
  unfold fMo_readsAs_32 at hm
  refine put_Mo S hw (is_84 hf) 9 (by decide) ps_Mo_9 rfl rfl rfl wf_Mo_258 hm dMo_readsAs_32 (fun μ3 H locs hm hw => ?_)
  refine lv_aload_n S.1 S.2.1 dMo_readsAs_35 rfl (lv_at hl 0 rfl) ?_
  obtain ⟨⟨v6, μ5⟩, h4, hm⟩ := ob hm
  refine sw_Vi (q := 84) (rest := []) S hw (cMo_reads l N hf  h4) kMo_reads wm_Mo_270 (is_84 hf).1 (e_Mo (is_84 hf)) rfl rfl rfl rfl hl.1 (Nat.le_of_ble_eq_true rfl) ⟨rfl, rfl, Nat.le_of_ble_eq_true rfl, Nat.le_of_ble_eq_true rfl⟩ ⟨Nat.le_of_ble_eq_true rfl, Nat.le_of_ble_eq_true rfl⟩ dMo_readsAs_36 (fun H locs hw _ => ?_)
  obtain ⟨hz, hm⟩ := ob_tz hm
  obtain rfl := Option.some.inj hm
  exact sw_zret S hr hlk hz hw trivial dMo_readsAs_39
set_option maxHeartbeats 4000000 in
set_option maxRecDepth 100000 in
theorem wMo_readsAs_17 {l : Launch} {p : Program} {e : Env} {s : State} {m : MethodId} {args : Array Value} {below : List Frame} {meth : Method} {c : Code} {Γ : sw_C} {A : Nat → Prop} {ξ : sw_x} {g : sw_g} {res : Int32 × sw_m} (S : CallFix p m c prog_10_method_56_code 2 s args (Cond.code yMo_readsAs prog_10_method_56_code 2 (some .boolean) :: sw_tb) R_Mo) (hr : meth.sig.returnType = some .boolean) (hlk : meth.locks = false) (hf : sw_wf ξ g.2.2) (N : Nat) : ∀ (μ : sw_m) (u1 : Int32) (s0 : Int32) (H : Heap) (locs : List Loc) (ls : Array Slot), fMo_readsAs_17 N   μ u1 s0 = some res → sw_S Γ A ξ g μ s H locs → lv_has ls 2 [(0, .ref (ξ.2.2.2.1 84)), (1, .int u1)] → W p l e (headSpec (Cond.code yMo_readsAs prog_10_method_56_code 2 (some .boolean) :: sw_tb) rmMo_readsAs).room s m args below meth c H locs 0 0 (MQ below (sw_Qi Γ A ξ g res.2 res.1 (True)) args s 0 0 A) (F0 m 17 ls [.int s0, .ref (ξ.2.2.2.1 84)]) := by
  intro μ u1 s0 H locs ls hm hw hl
  unfold fMo_readsAs_17 at hm
  refine put_Mo S hw (is_84 hf) 8 (by decide) ps_Mo_8 rfl rfl rfl wf_Mo_255 hm dMo_readsAs_17 (fun μ2 H locs hm hw => ?_)
  refine lv_aload_n S.1 S.2.1 dMo_readsAs_20 rfl (lv_at hl 0 rfl) ?_
  refine lv_iload_n S.1 S.2.1 dMo_readsAs_21 rfl (lv_at hl 1 rfl) ?_
  refine bif_eq (tgt := 30) S.1 S.2.1 hm dMo_readsAs_22 (by decide) (fun hm => ?_) (fun hm => ?_)
  · refine lv_bipush (v := (15 : Int32)) S.1 S.2.1 dMo_readsAs_30 (by decide) ?_
    exact wMo_readsAs_32 S hr hlk hf N  μ2 (15 : Int32) _ _ _ hm hw (lv_sub hl [0] rfl)
  · refine lv_bipush (v := (20 : Int32)) S.1 S.2.1 dMo_readsAs_25 (by decide) ?_
    refine lv_goto (tgt := 32) S.1 S.2.1 dMo_readsAs_27 (by decide) ?_
    exact wMo_readsAs_32 S hr hlk hf N  μ2 (20 : Int32) _ _ _ hm hw (lv_sub hl [0] rfl)
set_option maxHeartbeats 4000000 in
set_option maxRecDepth 100000 in
theorem cMo_readsAs (l : Launch) (N : Nat) {Γ : sw_C} {A : Nat → Prop} {ξ : sw_x} {g : sw_g} {μ : sw_m} (hf : sw_wf ξ g.2.2) (a1 : Int32) {res : Int32 × sw_m} (hm : fMo_readsAs N μ a1 = some res) : Met l yMo_readsAs (Cond.code yMo_readsAs prog_10_method_56_code 2 (some .boolean) :: sw_tb) rmMo_readsAs (va_Pc [.ref (ξ.2.2.2.1 84), .int a1] (sw_V Γ A ξ g μ)) (sw_Qi Γ A ξ g res.2 res.1 (True)) 0 0 A := by
  refine Met.ofW (cc := prog_10_method_56_code) (maxL := 2) (ret := some .boolean) (by decide) rfl ?_
  intro p e s m args below meth c s₁ B hml hv
  obtain ⟨rfl, hv⟩ := hv
  have S : CallFix p m c prog_10_method_56_code 2 s _ (Cond.code yMo_readsAs prog_10_method_56_code 2 (some .boolean) :: sw_tb) R_Mo := ⟨B.exec, B.bytes, hml, findClass_of_methodNamed B.named, atoms_spec (ws := (Cond.code yMo_readsAs prog_10_method_56_code 2 (some .boolean) :: sw_tb)) B.pre⟩
  have hr := B.returns
  have hlk := B.notSynchronized
  have hw := sw_begin hv
  have hl := lv_entry [.ref (ξ.2.2.2.1 84), .int a1] (n := 2) (Nat.le_of_ble_eq_true rfl)
  rw [lg_entry_eq]
  generalize (lg_sl [.ref (ξ.2.2.2.1 84), .int a1] ++ List.replicate (2 - (lg_sl [.ref (ξ.2.2.2.1 84), .int a1]).length) Slot.unset).toArray = ls at hl ⊢
  have hl : lv_has ls 2 [(0, .ref (ξ.2.2.2.1 84)), (1, .int a1)] := hl
  unfold fMo_readsAs at hm
  refine lv_aload_n S.1 S.2.1 dMo_readsAs_0 rfl (lv_at hl 0 rfl) ?_
  refine lv_iload_n S.1 S.2.1 dMo_readsAs_1 rfl (lv_at hl 1 rfl) ?_
  obtain ⟨hz, hm⟩ := ob_tz hm
  refine put_Mo S hw (is_84 hf) 10 (by decide) ps_Mo_10 rfl (tz_narrow hz) (tz_fits hz) wf_Mo_229 hm dMo_readsAs_2 (fun μ1 H locs hm hw => ?_)
  refine lv_aload_n S.1 S.2.1 dMo_readsAs_5 rfl (lv_at hl 0 rfl) ?_
  refine lv_iload_n S.1 S.2.1 dMo_readsAs_6 rfl (lv_at hl 1 rfl) ?_
  refine bif_eq (tgt := 15) S.1 S.2.1 hm dMo_readsAs_7 (by decide) (fun hm => ?_) (fun hm => ?_)
  · refine lv_bipush (v := (8 : Int32)) S.1 S.2.1 dMo_readsAs_15 (by decide) ?_
    exact wMo_readsAs_17 S hr hlk hf N  μ1 a1 (8 : Int32) _ _ _ hm hw (lv_sub hl [0, 1] rfl)
  · refine lv_bipush (v := (14 : Int32)) S.1 S.2.1 dMo_readsAs_10 (by decide) ?_
    refine lv_goto (tgt := 17) S.1 S.2.1 dMo_readsAs_12 (by decide) ?_
    exact wMo_readsAs_17 S hr hlk hf N  μ1 a1 (14 : Int32) _ _ _ hm hw (lv_sub hl [0, 1] rfl)
set_option maxHeartbeats 4000000 in
set_option maxRecDepth 100000 in
theorem cMo_law (l : Launch) (N : Nat) {Γ : sw_C} {A : Nat → Prop} {ξ : sw_x} {g : sw_g} {μ : sw_m} (hf : sw_wf ξ g.2.2) {res : Int32 × sw_m} (hm : fMo_law N μ = some res) : Met l yMo_law (Cond.code yMo_law prog_10_method_58_code 1 (some .int) :: sw_tb) rmMo_law (va_Pc [.ref (ξ.2.2.2.1 84)] (sw_V Γ A ξ g μ)) (sw_Qi Γ A ξ g res.2 res.1 (True)) 0 0 A := by
  refine Met.ofW (cc := prog_10_method_58_code) (maxL := 1) (ret := some .int) (by decide) rfl ?_
  intro p e s m args below meth c s₁ B hml hv
  obtain ⟨rfl, hv⟩ := hv
  have S : CallFix p m c prog_10_method_58_code 1 s _ (Cond.code yMo_law prog_10_method_58_code 1 (some .int) :: sw_tb) R_Mo := ⟨B.exec, B.bytes, hml, findClass_of_methodNamed B.named, atoms_spec (ws := (Cond.code yMo_law prog_10_method_58_code 1 (some .int) :: sw_tb)) B.pre⟩
  have hr := B.returns
  have hlk := B.notSynchronized
  have hw := sw_begin hv
  have hl := lv_entry [.ref (ξ.2.2.2.1 84)] (n := 1) (Nat.le_of_ble_eq_true rfl)
  rw [lg_entry_eq]
  generalize (lg_sl [.ref (ξ.2.2.2.1 84)] ++ List.replicate (1 - (lg_sl [.ref (ξ.2.2.2.1 84)]).length) Slot.unset).toArray = ls at hl ⊢
  have hl : lv_has ls 1 [(0, .ref (ξ.2.2.2.1 84))] := hl
  unfold fMo_law at hm
  refine lv_aload_n S.1 S.2.1 dMo_law_0 rfl (lv_at hl 0 rfl) ?_
  refine get_Mo (v := .ref (ξ.2.2.2.1 86)) S hw (is_84 hf) 2 (by decide) rfl wf_Mo_28 dMo_law_1 ?_
  refine lv_bipush (v := (45 : Int32)) S.1 S.2.1 dMo_law_4 (by decide) ?_
  refine sm_iald S hw (is_86 hf) hm dMo_law_6 (fun v1 hm => ?_)
  refine lv_bipush (v := (6 : Int32)) S.1 S.2.1 dMo_law_7 (by decide) ?_
  refine bicmp_ne (tgt := 24) S.1 S.2.1 hm dMo_law_9 (by decide) (fun hm => ?_) (fun hm => ?_)
  · refine lv_aload_n S.1 S.2.1 dMo_law_24 rfl (lv_at hl 0 rfl) ?_
    refine lv_iconst (v := (0 : Int32)) S.1 S.2.1 dMo_law_25 (by decide) ?_
    obtain ⟨⟨v4, μ3⟩, h2, hm⟩ := ob hm
    refine sw_Vi (q := 84) (rest := []) S hw (cMo_readsAs l N hf (0 : Int32) h2) kMo_readsAs wm_Mo_273 (is_84 hf).1 (e_Mo (is_84 hf)) rfl rfl rfl rfl hl.1 (Nat.le_of_ble_eq_true rfl) ⟨rfl, rfl, Nat.le_of_ble_eq_true rfl, Nat.le_of_ble_eq_true rfl⟩ ⟨Nat.le_of_ble_eq_true rfl, Nat.le_of_ble_eq_true rfl⟩ dMo_law_26 (fun H locs hw _ => ?_)
    refine bif_ne (tgt := 39) S.1 S.2.1 hm dMo_law_29 (by decide) (fun hm => ?_) (fun hm => ?_)
    · refine lv_aload_n S.1 S.2.1 dMo_law_39 rfl (lv_at hl 0 rfl) ?_
      refine lv_aload_n S.1 S.2.1 dMo_law_40 rfl (lv_at hl 0 rfl) ?_
      refine get_Mo (v := .ref (ξ.2.2.2.1 86)) S hw (is_84 hf) 2 (by decide) rfl wf_Mo_28 dMo_law_41 ?_
      refine lv_bipush (v := (45 : Int32)) S.1 S.2.1 dMo_law_44 (by decide) ?_
      refine sm_iald S hw (is_86 hf) hm dMo_law_46 (fun v5 hm => ?_)
      obtain ⟨μ7, h6, hm⟩ := ob hm
      refine sw_Vv (q := 84) (rest := []) S hw (cMo_lays l N hf v5 h6) kMo_lays wm_Mo_277 (is_84 hf).1 (e_Mo (is_84 hf)) rfl rfl rfl rfl hl.1 (Nat.le_of_ble_eq_true rfl) ⟨rfl, rfl, Nat.le_of_ble_eq_true rfl, Nat.le_of_ble_eq_true rfl⟩ ⟨Nat.le_of_ble_eq_true rfl, Nat.le_of_ble_eq_true rfl⟩ dMo_law_47 (fun H locs hw _ => ?_)
      refine lv_aload_n S.1 S.2.1 dMo_law_50 rfl (lv_at hl 0 rfl) ?_
      refine get_Mo (v := .ref (ξ.2.2.2.1 86)) S hw (is_84 hf) 2 (by decide) rfl wf_Mo_28 dMo_law_51 ?_
      refine lv_bipush (v := (45 : Int32)) S.1 S.2.1 dMo_law_54 (by decide) ?_
      refine lv_dup2_11 S.1 S.2.1 dMo_law_56 rfl rfl ?_
      refine sm_iald S hw (is_86 hf) hm dMo_law_57 (fun v8 hm => ?_)
      refine lv_iconst (v := (1 : Int32)) S.1 S.2.1 dMo_law_58 (by decide) ?_
      refine lv_iadd S.1 S.2.1 dMo_law_59 ?_
      refine sm_iast S hw (is_86 hf) hm dMo_law_60 (fun μ9 H locs hm hw => ?_)
      refine lv_aload_n S.1 S.2.1 dMo_law_61 rfl (lv_at hl 0 rfl) ?_
      refine lv_aload_n S.1 S.2.1 dMo_law_62 rfl (lv_at hl 0 rfl) ?_
      refine get_Mo (v := .ref (ξ.2.2.2.1 86)) S hw (is_84 hf) 2 (by decide) rfl wf_Mo_28 dMo_law_63 ?_
      refine lv_bipush (v := (45 : Int32)) S.1 S.2.1 dMo_law_66 (by decide) ?_
      refine sm_iald S hw (is_86 hf) hm dMo_law_68 (fun v10 hm => ?_)
      refine lv_iconst (v := (1 : Int32)) S.1 S.2.1 dMo_law_69 (by decide) ?_
      refine lv_isub S.1 S.2.1 dMo_law_70 ?_
      obtain ⟨⟨v13, μ12⟩, h11, hm⟩ := ob hm
      refine sw_Vi (q := 84) (rest := []) S hw (cMo_good l  hf (v10 - (1 : Int32)) h11) kMo_good wm_Mo_14 (is_84 hf).1 (e_Mo (is_84 hf)) rfl rfl rfl rfl hl.1 (Nat.le_of_ble_eq_true rfl) ⟨rfl, rfl, Nat.le_of_ble_eq_true rfl, Nat.le_of_ble_eq_true rfl⟩ ⟨Nat.le_of_ble_eq_true rfl, Nat.le_of_ble_eq_true rfl⟩ dMo_law_71 (fun H locs hw _ => ?_)
      obtain rfl := Option.some.inj hm
      exact sw_iret S hr hlk hw trivial dMo_law_74
    · refine lv_aload_n S.1 S.2.1 dMo_law_32 rfl (lv_at hl 0 rfl) ?_
      refine lv_bipush (v := (-6 : Int32)) S.1 S.2.1 dMo_law_33 (by decide) ?_
      obtain ⟨⟨v16, μ15⟩, h14, hm⟩ := ob hm
      refine sw_Vi (q := 84) (rest := []) S hw (cMo_refuses l  hf (-6 : Int32) h14) kMo_refuses wm_Mo_113 (is_84 hf).1 (e_Mo (is_84 hf)) rfl rfl rfl rfl hl.1 (Nat.le_of_ble_eq_true rfl) ⟨rfl, rfl, Nat.le_of_ble_eq_true rfl, Nat.le_of_ble_eq_true rfl⟩ ⟨Nat.le_of_ble_eq_true rfl, Nat.le_of_ble_eq_true rfl⟩ dMo_law_35 (fun H locs hw _ => ?_)
      obtain rfl := Option.some.inj hm
      exact sw_iret S hr hlk hw trivial dMo_law_38
  · refine lv_aload_n S.1 S.2.1 dMo_law_12 rfl (lv_at hl 0 rfl) ?_
    refine lv_iconst (v := (0 : Int32)) S.1 S.2.1 dMo_law_13 (by decide) ?_
    refine put_Mo S hw (is_84 hf) 13 (by decide) ps_Mo_13 rfl rfl rfl wf_Mo_175 hm dMo_law_14 (fun μ17 H locs hm hw => ?_)
    refine lv_aload_n S.1 S.2.1 dMo_law_17 rfl (lv_at hl 0 rfl) ?_
    refine lv_bipush (v := (-5 : Int32)) S.1 S.2.1 dMo_law_18 (by decide) ?_
    obtain ⟨⟨v20, μ19⟩, h18, hm⟩ := ob hm
    refine sw_Vi (q := 84) (rest := []) S hw (cMo_refuses l  hf (-5 : Int32) h18) kMo_refuses wm_Mo_113 (is_84 hf).1 (e_Mo (is_84 hf)) rfl rfl rfl rfl hl.1 (Nat.le_of_ble_eq_true rfl) ⟨rfl, rfl, Nat.le_of_ble_eq_true rfl, Nat.le_of_ble_eq_true rfl⟩ ⟨Nat.le_of_ble_eq_true rfl, Nat.le_of_ble_eq_true rfl⟩ dMo_law_20 (fun H locs hw _ => ?_)
    obtain rfl := Option.some.inj hm
    exact sw_iret S hr hlk hw trivial dMo_law_23
set_option maxHeartbeats 4000000 in
set_option maxRecDepth 100000 in
theorem wMo_testOf_28 {l : Launch} {p : Program} {e : Env} {s : State} {m : MethodId} {args : Array Value} {below : List Frame} {meth : Method} {c : Code} {Γ : sw_C} {A : Nat → Prop} {ξ : sw_x} {g : sw_g} {res : Int32 × sw_m} (S : CallFix p m c prog_10_method_70_code 4 s args (Cond.code yMo_testOf prog_10_method_70_code 4 (some .boolean) :: sw_tb) R_Mo) (hr : meth.sig.returnType = some .boolean) (hlk : meth.locks = false) (hf : sw_wf ξ g.2.2) (rc : sw_m → Int32 → Option (Int32 × sw_m)) (rr : Room) (hr0 : rr.cells = 0 ∧ rr.slots = 0) (hrc : ∀ {Γ : sw_C} {A : Nat → Prop} {ξ : sw_x} {g : sw_g} {μ : sw_m} (hf : sw_wf ξ g.2.2) (a1 : Int32) {res : Int32 × sw_m}, rc μ a1 = some res → Met l yMo_testOf (Cond.code yMo_testOf prog_10_method_70_code 4 (some .boolean) :: sw_tb) rr (va_Pc [.ref (ξ.2.2.2.1 84), .int a1] (sw_V Γ A ξ g μ)) (sw_Qi Γ A ξ g res.2 res.1 (True)) 0 0 A) (N : Nat) (k6 : sw_m → Int32 → Int32 → Option (Int32 × sw_m)) (hk6 : ∀ (μ : sw_m) (u1 : Int32) (u2 : Int32) (H : Heap) (locs : List Loc) (ls : Array Slot), k6 μ u1 u2 = some res → sw_S Γ A ξ g μ s H locs → lv_has ls 4 [(0, .ref (ξ.2.2.2.1 84)), (1, .int u1), (2, .int u2)] → W p l e (headSpec (Cond.code yMo_testOf prog_10_method_70_code 4 (some .boolean) :: sw_tb) (rgMo_testOf rr)).room s m args below meth c H locs 0 0 (MQ below (sw_Qi Γ A ξ g res.2 res.1 (True)) args s 0 0 A) (F0 m 6 ls [])) : ∀ (μ : sw_m) (u1 : Int32) (u2 : Int32) (s0 : Int32) (H : Heap) (locs : List Loc) (ls : Array Slot), fMo_testOf_b_28 N rc k6 μ u1 u2 s0 = some res → sw_S Γ A ξ g μ s H locs → lv_has ls 4 [(0, .ref (ξ.2.2.2.1 84)), (1, .int u1), (2, .int u2)] → W p l e (headSpec (Cond.code yMo_testOf prog_10_method_70_code 4 (some .boolean) :: sw_tb) (rgMo_testOf rr)).room s m args below meth c H locs 0 0 (MQ below (sw_Qi Γ A ξ g res.2 res.1 (True)) args s 0 0 A) (F0 m 28 ls [.int s0, .ref (ξ.2.2.2.1 84)]) := by
  intro μ u1 u2 s0 H locs ls hm hw hl
  unfold fMo_testOf_b_28 at hm
  obtain ⟨⟨v9, μ8⟩, h7, hm⟩ := ob hm
  refine sw_Vi (q := 84) (rest := []) S hw (cMo_bothOf l N rc rr hr0 hrc hf s0 h7) kMo_bothOf wm_Mo_334 (is_84 hf).1 (e_Mo (is_84 hf)) rfl rfl rfl rfl hl.1 (Nat.le_of_ble_eq_true rfl) ⟨rfl, rfl, by show rr.frames + 53 + 1 ≤ rr.frames + _; omega, by show 8 + (4 + 11) + (rr.locals + 1214) ≤ rr.locals + _; omega⟩ ⟨Nat.le_of_ble_eq_true rfl, Nat.le_of_ble_eq_true rfl⟩ dMo_testOf_28 (fun H locs hw _ => ?_)
  refine lv_istore_n (lv' := [(3, .int v9), (0, .ref (ξ.2.2.2.1 84)), (1, .int u1), (2, .int u2)]) S.1 S.2.1 dMo_testOf_31 rfl hl (by decide) rfl (fun ls hl => ?_)
  refine lv_iload_n S.1 S.2.1 dMo_testOf_32 rfl (lv_at hl 3 rfl) ?_
  refine bif_ne (tgt := 40) S.1 S.2.1 hm dMo_testOf_33 (by decide) (fun hm => ?_) (fun hm => ?_)
  · refine lv_iconst (v := (1 : Int32)) S.1 S.2.1 dMo_testOf_40 (by decide) ?_
    refine lv_goto (tgt := 45) S.1 S.2.1 dMo_testOf_41 (by decide) ?_
    refine lv_istore_n (lv' := [(2, .int (1 : Int32)), (3, .int v9), (0, .ref (ξ.2.2.2.1 84)), (1, .int u1)]) S.1 S.2.1 dMo_testOf_45 rfl hl (by decide) rfl (fun ls hl => ?_)
    refine lv_goto (tgt := 6) S.1 S.2.1 dMo_testOf_46 (by decide) ?_
    exact hk6 μ8 u1 (1 : Int32) _ _ _ hm hw (lv_sub hl [2, 3, 0] rfl)
  · refine lv_iload_n S.1 S.2.1 dMo_testOf_36 rfl (lv_at hl 0 rfl) ?_
    refine bif_eq (tgt := 44) S.1 S.2.1 hm dMo_testOf_37 (by decide) (fun hm => ?_) (fun hm => ?_)
    · refine lv_iconst (v := (0 : Int32)) S.1 S.2.1 dMo_testOf_44 (by decide) ?_
      refine lv_istore_n (lv' := [(2, .int (0 : Int32)), (3, .int v9), (0, .ref (ξ.2.2.2.1 84)), (1, .int u1)]) S.1 S.2.1 dMo_testOf_45 rfl hl (by decide) rfl (fun ls hl => ?_)
      refine lv_goto (tgt := 6) S.1 S.2.1 dMo_testOf_46 (by decide) ?_
      exact hk6 μ8 u1 (0 : Int32) _ _ _ hm hw (lv_sub hl [2, 3, 0] rfl)
    · refine lv_iconst (v := (1 : Int32)) S.1 S.2.1 dMo_testOf_40 (by decide) ?_
      refine lv_goto (tgt := 45) S.1 S.2.1 dMo_testOf_41 (by decide) ?_
      refine lv_istore_n (lv' := [(2, .int (1 : Int32)), (3, .int v9), (0, .ref (ξ.2.2.2.1 84)), (1, .int u1)]) S.1 S.2.1 dMo_testOf_45 rfl hl (by decide) rfl (fun ls hl => ?_)
      refine lv_goto (tgt := 6) S.1 S.2.1 dMo_testOf_46 (by decide) ?_
      exact hk6 μ8 u1 (1 : Int32) _ _ _ hm hw (lv_sub hl [2, 3, 0] rfl)
set_option maxHeartbeats 4000000 in
set_option maxRecDepth 100000 in
theorem wMo_testOf_6 {l : Launch} {p : Program} {e : Env} {s : State} {m : MethodId} {args : Array Value} {below : List Frame} {meth : Method} {c : Code} {Γ : sw_C} {A : Nat → Prop} {ξ : sw_x} {g : sw_g} {res : Int32 × sw_m} (S : CallFix p m c prog_10_method_70_code 4 s args (Cond.code yMo_testOf prog_10_method_70_code 4 (some .boolean) :: sw_tb) R_Mo) (hr : meth.sig.returnType = some .boolean) (hlk : meth.locks = false) (hf : sw_wf ξ g.2.2) (rc : sw_m → Int32 → Option (Int32 × sw_m)) (rr : Room) (hr0 : rr.cells = 0 ∧ rr.slots = 0) (hrc : ∀ {Γ : sw_C} {A : Nat → Prop} {ξ : sw_x} {g : sw_g} {μ : sw_m} (hf : sw_wf ξ g.2.2) (a1 : Int32) {res : Int32 × sw_m}, rc μ a1 = some res → Met l yMo_testOf (Cond.code yMo_testOf prog_10_method_70_code 4 (some .boolean) :: sw_tb) rr (va_Pc [.ref (ξ.2.2.2.1 84), .int a1] (sw_V Γ A ξ g μ)) (sw_Qi Γ A ξ g res.2 res.1 (True)) 0 0 A) (N : Nat) : ∀ (fu : Nat) (μ : sw_m) (u1 : Int32) (u2 : Int32) (H : Heap) (locs : List Loc) (ls : Array Slot), fMo_testOf_b_6 N rc  fu μ u1 u2 = some res → sw_S Γ A ξ g μ s H locs → lv_has ls 4 [(0, .ref (ξ.2.2.2.1 84)), (1, .int u1), (2, .int u2)] → W p l e (headSpec (Cond.code yMo_testOf prog_10_method_70_code 4 (some .boolean) :: sw_tb) (rgMo_testOf rr)).room s m args below meth c H locs 0 0 (MQ below (sw_Qi Γ A ξ g res.2 res.1 (True)) args s 0 0 A) (F0 m 6 ls []) := by
  intro fu
  induction fu with
  | zero => intro μ u1 u2 H locs ls hm; rw [fMo_testOf_b_6.eq_1] at hm; cases hm
  | succ fu ih =>
    intro μ u1 u2 H locs ls hm hw hl
    rw [fMo_testOf_b_6.eq_2] at hm
    refine lv_aload_n S.1 S.2.1 dMo_testOf_6 rfl (lv_at hl 0 rfl) ?_
    refine lv_iconst (v := (5 : Int32)) S.1 S.2.1 dMo_testOf_7 (by decide) ?_
    obtain ⟨⟨v6, μ5⟩, h4, hm⟩ := ob hm
    refine sw_Vi (q := 84) (rest := []) S hw (cMo_passes0 l N hf (5 : Int32) h4) kMo_passes0 wm_Mo_310 (is_84 hf).1 (e_Mo (is_84 hf)) rfl rfl rfl rfl hl.1 (Nat.le_of_ble_eq_true rfl) ⟨rfl, rfl, by show 1 + 1 ≤ rr.frames + _; omega, by show 8 + (3 + 11) + 21 ≤ rr.locals + _; omega⟩ ⟨Nat.le_of_ble_eq_true rfl, Nat.le_of_ble_eq_true rfl⟩ dMo_testOf_8 (fun H locs hw _ => ?_)
    refine bif_eq (tgt := 49) S.1 S.2.1 hm dMo_testOf_11 (by decide) (fun hm => ?_) (fun hm => ?_)
    · refine lv_iload_n S.1 S.2.1 dMo_testOf_49 rfl (lv_at hl 2 rfl) ?_
      obtain ⟨hz, hm⟩ := ob_tz hm
      obtain rfl := Option.some.inj hm
      exact sw_zret S hr hlk hz hw trivial dMo_testOf_50
    · refine lv_aload_n S.1 S.2.1 dMo_testOf_14 rfl (lv_at hl 0 rfl) ?_
      refine lv_iload_n S.1 S.2.1 dMo_testOf_15 rfl (lv_at hl 1 rfl) ?_
      refine bif_eq (tgt := 27) S.1 S.2.1 hm dMo_testOf_16 (by decide) (fun hm => ?_) (fun hm => ?_)
      · refine lv_iconst (v := (0 : Int32)) S.1 S.2.1 dMo_testOf_27 (by decide) ?_
        exact wMo_testOf_28 S hr hlk hf rc rr hr0 hrc N (fMo_testOf_b_6 N rc  fu) ih μ5 u1 u2 (0 : Int32) _ _ _ hm hw (lv_sub hl [0, 1, 2] rfl)
      · refine lv_iload_n S.1 S.2.1 dMo_testOf_19 rfl (lv_at hl 2 rfl) ?_
        refine bif_ne (tgt := 27) S.1 S.2.1 hm dMo_testOf_20 (by decide) (fun hm => ?_) (fun hm => ?_)
        · refine lv_iconst (v := (0 : Int32)) S.1 S.2.1 dMo_testOf_27 (by decide) ?_
          exact wMo_testOf_28 S hr hlk hf rc rr hr0 hrc N (fMo_testOf_b_6 N rc  fu) ih μ5 u1 u2 (0 : Int32) _ _ _ hm hw (lv_sub hl [0, 1, 2] rfl)
        · refine lv_iconst (v := (1 : Int32)) S.1 S.2.1 dMo_testOf_23 (by decide) ?_
          refine lv_goto (tgt := 28) S.1 S.2.1 dMo_testOf_24 (by decide) ?_
          exact wMo_testOf_28 S hr hlk hf rc rr hr0 hrc N (fMo_testOf_b_6 N rc  fu) ih μ5 u1 u2 (1 : Int32) _ _ _ hm hw (lv_sub hl [0, 1, 2] rfl)
set_option maxHeartbeats 4000000 in
set_option maxRecDepth 100000 in
theorem cMo_testOf_b (l : Launch) (N : Nat) (rc : sw_m → Int32 → Option (Int32 × sw_m)) (rr : Room) (hr0 : rr.cells = 0 ∧ rr.slots = 0) (hrc : ∀ {Γ : sw_C} {A : Nat → Prop} {ξ : sw_x} {g : sw_g} {μ : sw_m} (hf : sw_wf ξ g.2.2) (a1 : Int32) {res : Int32 × sw_m}, rc μ a1 = some res → Met l yMo_testOf (Cond.code yMo_testOf prog_10_method_70_code 4 (some .boolean) :: sw_tb) rr (va_Pc [.ref (ξ.2.2.2.1 84), .int a1] (sw_V Γ A ξ g μ)) (sw_Qi Γ A ξ g res.2 res.1 (True)) 0 0 A) {Γ : sw_C} {A : Nat → Prop} {ξ : sw_x} {g : sw_g} {μ : sw_m} (hf : sw_wf ξ g.2.2) (a1 : Int32) {res : Int32 × sw_m} (hm : fMo_testOf_b N rc μ a1 = some res) : Met l yMo_testOf (Cond.code yMo_testOf prog_10_method_70_code 4 (some .boolean) :: sw_tb) (rgMo_testOf rr) (va_Pc [.ref (ξ.2.2.2.1 84), .int a1] (sw_V Γ A ξ g μ)) (sw_Qi Γ A ξ g res.2 res.1 (True)) 0 0 A := by
  refine Met.ofW (cc := prog_10_method_70_code) (maxL := 4) (ret := some .boolean) (by decide) rfl ?_
  intro p e s m args below meth c s₁ B hml hv
  obtain ⟨rfl, hv⟩ := hv
  have S : CallFix p m c prog_10_method_70_code 4 s _ (Cond.code yMo_testOf prog_10_method_70_code 4 (some .boolean) :: sw_tb) R_Mo := ⟨B.exec, B.bytes, hml, findClass_of_methodNamed B.named, atoms_spec (ws := (Cond.code yMo_testOf prog_10_method_70_code 4 (some .boolean) :: sw_tb)) B.pre⟩
  have hr := B.returns
  have hlk := B.notSynchronized
  have hw := sw_begin hv
  have hl := lv_entry [.ref (ξ.2.2.2.1 84), .int a1] (n := 4) (Nat.le_of_ble_eq_true rfl)
  rw [lg_entry_eq]
  generalize (lg_sl [.ref (ξ.2.2.2.1 84), .int a1] ++ List.replicate (4 - (lg_sl [.ref (ξ.2.2.2.1 84), .int a1]).length) Slot.unset).toArray = ls at hl ⊢
  have hl : lv_has ls 4 [(0, .ref (ξ.2.2.2.1 84)), (1, .int a1)] := hl
  unfold fMo_testOf_b at hm
  refine lv_aload_n S.1 S.2.1 dMo_testOf_0 rfl (lv_at hl 0 rfl) ?_
  refine lv_iload_n S.1 S.2.1 dMo_testOf_1 rfl (lv_at hl 1 rfl) ?_
  obtain ⟨⟨v3, μ2⟩, h1, hm⟩ := ob hm
  refine sw_Vi (q := 84) (rest := []) S hw (cMo_bothOf l N rc rr hr0 hrc hf a1 h1) kMo_bothOf wm_Mo_334 (is_84 hf).1 (e_Mo (is_84 hf)) rfl rfl rfl rfl hl.1 (Nat.le_of_ble_eq_true rfl) ⟨rfl, rfl, by show rr.frames + 53 + 1 ≤ rr.frames + _; omega, by show 8 + (4 + 11) + (rr.locals + 1214) ≤ rr.locals + _; omega⟩ ⟨Nat.le_of_ble_eq_true rfl, Nat.le_of_ble_eq_true rfl⟩ dMo_testOf_2 (fun H locs hw _ => ?_)
  refine lv_istore_n (lv' := [(2, .int v3), (0, .ref (ξ.2.2.2.1 84)), (1, .int a1)]) S.1 S.2.1 dMo_testOf_5 rfl hl (by decide) rfl (fun ls hl => ?_)
  exact wMo_testOf_6 S hr hlk hf rc rr hr0 hrc N  N μ2 a1 v3 _ _ _ hm hw (lv_sub hl [1, 2, 0] rfl)
def rmMo_testOf : Nat → Room
  | 0 => { frames := 0, cells := 0, slots := 0, locals := 0 }
  | d + 1 => rgMo_testOf (rmMo_testOf d)
theorem cMo_testOf (l : Launch) (N : Nat) : ∀ (d : Nat) {Γ : sw_C} {A : Nat → Prop} {ξ : sw_x} {g : sw_g} {μ : sw_m} (hf : sw_wf ξ g.2.2) (a1 : Int32) {res : Int32 × sw_m} (hm : fMo_testOf N  d μ a1 = some res), Met l yMo_testOf (Cond.code yMo_testOf prog_10_method_70_code 4 (some .boolean) :: sw_tb) (rmMo_testOf d) (va_Pc [.ref (ξ.2.2.2.1 84), .int a1] (sw_V Γ A ξ g μ)) (sw_Qi Γ A ξ g res.2 res.1 (True)) 0 0 A := by
  intro d
  induction d with
  | zero => intro Γ A ξ g μ hf a1 res hm; cases hm
  | succ d ih =>
    intro Γ A ξ g μ hf a1 res hm
    exact cMo_testOf_b l N (fMo_testOf N  d) (rmMo_testOf d) (by cases d <;> exact ⟨rfl, rfl⟩) (fun {Γ A ξ g μ} hf a1 {res} hm => ih hf a1 hm) hf a1 hm
set_option maxHeartbeats 4000000 in
set_option maxRecDepth 100000 in
theorem wMo_tells_154 {l : Launch} {p : Program} {e : Env} {s : State} {m : MethodId} {args : Array Value} {below : List Frame} {meth : Method} {c : Code} {Γ : sw_C} {A : Nat → Prop} {ξ : sw_x} {g : sw_g} {res : Int32 × sw_m} (S : CallFix p m c prog_10_method_75_code 13 s args (Cond.code yMo_tells prog_10_method_75_code 13 (some .int) :: sw_tb) R_Mo) (hr : meth.sig.returnType = some .int) (hlk : meth.locks = false) (hf : sw_wf ξ g.2.2) (N : Nat) (k69 : sw_m → Int32 → Int32 → Int64 → Option (Int32 × sw_m)) (hk69 : ∀ (μ : sw_m) (u1 : Int32) (u4 : Int32) (u6 : Int64) (H : Heap) (locs : List Loc) (ls : Array Slot), k69 μ u1 u4 u6 = some res → sw_S Γ A ξ g μ s H locs → lv_has ls 13 [(0, .ref (ξ.2.2.2.1 84)), (1, .int u1), (4, .int u4), (6, .long u6)] → W p l e (headSpec (Cond.code yMo_tells prog_10_method_75_code 13 (some .int) :: sw_tb) rmMo_tells).room s m args below meth c H locs 0 0 (MQ below (sw_Qi Γ A ξ g res.2 res.1 (True)) args s 0 0 A) (F0 m 69 ls [])) : ∀ (μ : sw_m) (u1 : Int32) (u4 : Int32) (u6 : Int64) (u8 : Int32) (u9 : Int64) (u11 : Int32) (s0 : Int32) (H : Heap) (locs : List Loc) (ls : Array Slot), fMo_tells_154 N  k69 μ u1 u4 u6 u8 u9 u11 s0 = some res → sw_S Γ A ξ g μ s H locs → lv_has ls 13 [(0, .ref (ξ.2.2.2.1 84)), (1, .int u1), (4, .int u4), (6, .long u6), (8, .int u8), (9, .long u9), (11, .int u11)] → W p l e (headSpec (Cond.code yMo_tells prog_10_method_75_code 13 (some .int) :: sw_tb) rmMo_tells).room s m args below meth c H locs 0 0 (MQ below (sw_Qi Γ A ξ g res.2 res.1 (True)) args s 0 0 A) (F0 m 154 ls [.int s0]) := by
  intro μ u1 u4 u6 u8 u9 u11 s0 H locs ls hm hw hl
  unfold fMo_tells_154 at hm
  refine lv_istore (lv' := [(12, .int s0), (0, .ref (ξ.2.2.2.1 84)), (1, .int u1), (4, .int u4), (6, .long u6), (8, .int u8), (9, .long u9), (11, .int u11)]) S.1 S.2.1 dMo_tells_154 hl (by decide) rfl (fun ls hl => ?_)
  refine lv_iload S.1 S.2.1 dMo_tells_156 (lv_at hl 5 rfl) ?_
  refine lv_iload_n S.1 S.2.1 dMo_tells_158 rfl (lv_at hl 2 rfl) ?_
  refine bicmp_ne (tgt := 209) S.1 S.2.1 hm dMo_tells_159 (by decide) (fun hm => ?_) (fun hm => ?_)
  · refine lv_aload_n S.1 S.2.1 dMo_tells_209 rfl (lv_at hl 1 rfl) ?_
    refine lv_dup S.1 S.2.1 dMo_tells_210 rfl ?_
    refine get_Mo (v := .int (μ.1 84 22)) S hw (is_84 hf) 22 (by decide) rfl wf_Mo_286 dMo_tells_211 ?_
    refine lv_iconst (v := (1 : Int32)) S.1 S.2.1 dMo_tells_214 (by decide) ?_
    refine lv_iadd S.1 S.2.1 dMo_tells_215 ?_
    refine put_Mo S hw (is_84 hf) 22 (by decide) ps_Mo_22 rfl rfl rfl wf_Mo_286 hm dMo_tells_216 (fun μ24 H locs hm hw => ?_)
    refine lv_goto (tgt := 69) S.1 S.2.1 dMo_tells_219 (by decide) ?_
    exact hk69 μ24 u1 u4 u6 _ _ _ hm hw (lv_sub hl [1, 2, 3, 4] rfl)
  · refine lv_iload S.1 S.2.1 dMo_tells_162 (lv_at hl 0 rfl) ?_
    refine bif_eq (tgt := 209) S.1 S.2.1 hm dMo_tells_164 (by decide) (fun hm => ?_) (fun hm => ?_)
    · refine lv_aload_n S.1 S.2.1 dMo_tells_209 rfl (lv_at hl 1 rfl) ?_
      refine lv_dup S.1 S.2.1 dMo_tells_210 rfl ?_
      refine get_Mo (v := .int (μ.1 84 22)) S hw (is_84 hf) 22 (by decide) rfl wf_Mo_286 dMo_tells_211 ?_
      refine lv_iconst (v := (1 : Int32)) S.1 S.2.1 dMo_tells_214 (by decide) ?_
      refine lv_iadd S.1 S.2.1 dMo_tells_215 ?_
      refine put_Mo S hw (is_84 hf) 22 (by decide) ps_Mo_22 rfl rfl rfl wf_Mo_286 hm dMo_tells_216 (fun μ25 H locs hm hw => ?_)
      refine lv_goto (tgt := 69) S.1 S.2.1 dMo_tells_219 (by decide) ?_
      exact hk69 μ25 u1 u4 u6 _ _ _ hm hw (lv_sub hl [1, 2, 3, 4] rfl)
    · refine lv_aload_n S.1 S.2.1 dMo_tells_167 rfl (lv_at hl 1 rfl) ?_
      refine get_Mo (v := .int (μ.1 84 24)) S hw (is_84 hf) 24 (by decide) rfl wf_Mo_296 dMo_tells_168 ?_
      refine bif_ne (tgt := 209) S.1 S.2.1 hm dMo_tells_171 (by decide) (fun hm => ?_) (fun hm => ?_)
      · refine lv_aload_n S.1 S.2.1 dMo_tells_209 rfl (lv_at hl 1 rfl) ?_
        refine lv_dup S.1 S.2.1 dMo_tells_210 rfl ?_
        refine get_Mo (v := .int (μ.1 84 22)) S hw (is_84 hf) 22 (by decide) rfl wf_Mo_286 dMo_tells_211 ?_
        refine lv_iconst (v := (1 : Int32)) S.1 S.2.1 dMo_tells_214 (by decide) ?_
        refine lv_iadd S.1 S.2.1 dMo_tells_215 ?_
        refine put_Mo S hw (is_84 hf) 22 (by decide) ps_Mo_22 rfl rfl rfl wf_Mo_286 hm dMo_tells_216 (fun μ26 H locs hm hw => ?_)
        refine lv_goto (tgt := 69) S.1 S.2.1 dMo_tells_219 (by decide) ?_
        exact hk69 μ26 u1 u4 u6 _ _ _ hm hw (lv_sub hl [1, 2, 3, 4] rfl)
      · refine lv_iload S.1 S.2.1 dMo_tells_174 (lv_at hl 7 rfl) ?_
        refine bif_ne (tgt := 209) S.1 S.2.1 hm dMo_tells_176 (by decide) (fun hm => ?_) (fun hm => ?_)
        · refine lv_aload_n S.1 S.2.1 dMo_tells_209 rfl (lv_at hl 1 rfl) ?_
          refine lv_dup S.1 S.2.1 dMo_tells_210 rfl ?_
          refine get_Mo (v := .int (μ.1 84 22)) S hw (is_84 hf) 22 (by decide) rfl wf_Mo_286 dMo_tells_211 ?_
          refine lv_iconst (v := (1 : Int32)) S.1 S.2.1 dMo_tells_214 (by decide) ?_
          refine lv_iadd S.1 S.2.1 dMo_tells_215 ?_
          refine put_Mo S hw (is_84 hf) 22 (by decide) ps_Mo_22 rfl rfl rfl wf_Mo_286 hm dMo_tells_216 (fun μ27 H locs hm hw => ?_)
          refine lv_goto (tgt := 69) S.1 S.2.1 dMo_tells_219 (by decide) ?_
          exact hk69 μ27 u1 u4 u6 _ _ _ hm hw (lv_sub hl [1, 2, 3, 4] rfl)
        · refine lv_lload S.1 S.2.1 dMo_tells_179 (lv_at hl 6 rfl) ?_
          refine lv_lconst (v := (0 : Int64)) S.1 S.2.1 dMo_tells_181 (by decide) ?_
          refine W.lcmp S.1 S.2.1 dMo_tells_182 ?_
          refine bif_ge (tgt := 190) S.1 S.2.1 hm dMo_tells_183 (by decide) (fun hm => ?_) (fun hm => ?_)
          · refine lv_lload S.1 S.2.1 dMo_tells_190 (lv_at hl 6 rfl) ?_
            refine lv_iload S.1 S.2.1 dMo_tells_192 (lv_at hl 3 rfl) ?_
            refine lv_i2l (v := (u4).toInt64) S.1 S.2.1 dMo_tells_194 rfl ?_
            refine W.lcmp S.1 S.2.1 dMo_tells_195 ?_
            refine bif_le (tgt := 205) S.1 S.2.1 hm dMo_tells_196 (by decide) (fun hm => ?_) (fun hm => ?_)
            · refine lv_lload S.1 S.2.1 dMo_tells_205 (lv_at hl 6 rfl) ?_
              refine lv_lstore (lv' := [(6, .long u9), (12, .int s0), (0, .ref (ξ.2.2.2.1 84)), (1, .int u1), (4, .int u4), (8, .int u8), (9, .long u9), (11, .int u11)]) S.1 S.2.1 dMo_tells_207 hl (by decide) rfl (fun ls hl => ?_)
              refine lv_aload_n S.1 S.2.1 dMo_tells_209 rfl (lv_at hl 2 rfl) ?_
              refine lv_dup S.1 S.2.1 dMo_tells_210 rfl ?_
              refine get_Mo (v := .int (μ.1 84 22)) S hw (is_84 hf) 22 (by decide) rfl wf_Mo_286 dMo_tells_211 ?_
              refine lv_iconst (v := (1 : Int32)) S.1 S.2.1 dMo_tells_214 (by decide) ?_
              refine lv_iadd S.1 S.2.1 dMo_tells_215 ?_
              refine put_Mo S hw (is_84 hf) 22 (by decide) ps_Mo_22 rfl rfl rfl wf_Mo_286 hm dMo_tells_216 (fun μ28 H locs hm hw => ?_)
              refine lv_goto (tgt := 69) S.1 S.2.1 dMo_tells_219 (by decide) ?_
              exact hk69 μ28 u1 u4 u9 _ _ _ hm hw (lv_sub hl [2, 3, 4, 0] rfl)
            · refine lv_iload S.1 S.2.1 dMo_tells_199 (lv_at hl 3 rfl) ?_
              refine lv_i2l (v := (u4).toInt64) S.1 S.2.1 dMo_tells_201 rfl ?_
              refine lv_goto (tgt := 207) S.1 S.2.1 dMo_tells_202 (by decide) ?_
              refine nm_l hm (fun x29 hm => ?_)
              refine lv_lstore (lv' := [(6, .long x29), (12, .int s0), (0, .ref (ξ.2.2.2.1 84)), (1, .int u1), (4, .int u4), (8, .int u8), (9, .long u9), (11, .int u11)]) S.1 S.2.1 dMo_tells_207 hl (by decide) rfl (fun ls hl => ?_)
              refine lv_aload_n S.1 S.2.1 dMo_tells_209 rfl (lv_at hl 2 rfl) ?_
              refine lv_dup S.1 S.2.1 dMo_tells_210 rfl ?_
              refine get_Mo (v := .int (μ.1 84 22)) S hw (is_84 hf) 22 (by decide) rfl wf_Mo_286 dMo_tells_211 ?_
              refine lv_iconst (v := (1 : Int32)) S.1 S.2.1 dMo_tells_214 (by decide) ?_
              refine lv_iadd S.1 S.2.1 dMo_tells_215 ?_
              refine put_Mo S hw (is_84 hf) 22 (by decide) ps_Mo_22 rfl rfl rfl wf_Mo_286 hm dMo_tells_216 (fun μ30 H locs hm hw => ?_)
              refine lv_goto (tgt := 69) S.1 S.2.1 dMo_tells_219 (by decide) ?_
              exact hk69 μ30 u1 u4 x29 _ _ _ hm hw (lv_sub hl [2, 3, 4, 0] rfl)
          · refine lv_lconst (v := (0 : Int64)) S.1 S.2.1 dMo_tells_186 (by decide) ?_
            refine lv_goto (tgt := 207) S.1 S.2.1 dMo_tells_187 (by decide) ?_
            refine lv_lstore (lv' := [(6, .long (0 : Int64)), (12, .int s0), (0, .ref (ξ.2.2.2.1 84)), (1, .int u1), (4, .int u4), (8, .int u8), (9, .long u9), (11, .int u11)]) S.1 S.2.1 dMo_tells_207 hl (by decide) rfl (fun ls hl => ?_)
            refine lv_aload_n S.1 S.2.1 dMo_tells_209 rfl (lv_at hl 2 rfl) ?_
            refine lv_dup S.1 S.2.1 dMo_tells_210 rfl ?_
            refine get_Mo (v := .int (μ.1 84 22)) S hw (is_84 hf) 22 (by decide) rfl wf_Mo_286 dMo_tells_211 ?_
            refine lv_iconst (v := (1 : Int32)) S.1 S.2.1 dMo_tells_214 (by decide) ?_
            refine lv_iadd S.1 S.2.1 dMo_tells_215 ?_
            refine put_Mo S hw (is_84 hf) 22 (by decide) ps_Mo_22 rfl rfl rfl wf_Mo_286 hm dMo_tells_216 (fun μ31 H locs hm hw => ?_)
            refine lv_goto (tgt := 69) S.1 S.2.1 dMo_tells_219 (by decide) ?_
            exact hk69 μ31 u1 u4 (0 : Int64) _ _ _ hm hw (lv_sub hl [2, 3, 4, 0] rfl)
set_option maxHeartbeats 4000000 in
set_option maxRecDepth 100000 in
theorem wMo_tells_120 {l : Launch} {p : Program} {e : Env} {s : State} {m : MethodId} {args : Array Value} {below : List Frame} {meth : Method} {c : Code} {Γ : sw_C} {A : Nat → Prop} {ξ : sw_x} {g : sw_g} {res : Int32 × sw_m} (S : CallFix p m c prog_10_method_75_code 13 s args (Cond.code yMo_tells prog_10_method_75_code 13 (some .int) :: sw_tb) R_Mo) (hr : meth.sig.returnType = some .int) (hlk : meth.locks = false) (hf : sw_wf ξ g.2.2) (N : Nat) (k69 : sw_m → Int32 → Int32 → Int64 → Option (Int32 × sw_m)) (hk69 : ∀ (μ : sw_m) (u1 : Int32) (u4 : Int32) (u6 : Int64) (H : Heap) (locs : List Loc) (ls : Array Slot), k69 μ u1 u4 u6 = some res → sw_S Γ A ξ g μ s H locs → lv_has ls 13 [(0, .ref (ξ.2.2.2.1 84)), (1, .int u1), (4, .int u4), (6, .long u6)] → W p l e (headSpec (Cond.code yMo_tells prog_10_method_75_code 13 (some .int) :: sw_tb) rmMo_tells).room s m args below meth c H locs 0 0 (MQ below (sw_Qi Γ A ξ g res.2 res.1 (True)) args s 0 0 A) (F0 m 69 ls [])) : ∀ (μ : sw_m) (u1 : Int32) (u4 : Int32) (u6 : Int64) (u8 : Int32) (s0 : Int64) (H : Heap) (locs : List Loc) (ls : Array Slot), fMo_tells_120 N  k69 μ u1 u4 u6 u8 s0 = some res → sw_S Γ A ξ g μ s H locs → lv_has ls 13 [(0, .ref (ξ.2.2.2.1 84)), (1, .int u1), (4, .int u4), (6, .long u6), (8, .int u8)] → W p l e (headSpec (Cond.code yMo_tells prog_10_method_75_code 13 (some .int) :: sw_tb) rmMo_tells).room s m args below meth c H locs 0 0 (MQ below (sw_Qi Γ A ξ g res.2 res.1 (True)) args s 0 0 A) (F0 m 120 ls [.long s0]) := by
  intro μ u1 u4 u6 u8 s0 H locs ls hm hw hl
  unfold fMo_tells_120 at hm
  refine lv_lstore (lv' := [(9, .long s0), (0, .ref (ξ.2.2.2.1 84)), (1, .int u1), (4, .int u4), (6, .long u6), (8, .int u8)]) S.1 S.2.1 dMo_tells_120 hl (by decide) rfl (fun ls hl => ?_)
  refine lv_aload_n S.1 S.2.1 dMo_tells_122 rfl (lv_at hl 1 rfl) ?_
  refine get_Mo (v := .int (μ.1 84 24)) S hw (is_84 hf) 24 (by decide) rfl wf_Mo_296 dMo_tells_123 ?_
  refine nm_i hm (fun x19 hm => ?_)
  refine lv_istore (lv' := [(11, .int x19), (9, .long s0), (0, .ref (ξ.2.2.2.1 84)), (1, .int u1), (4, .int u4), (6, .long u6), (8, .int u8)]) S.1 S.2.1 dMo_tells_126 hl (by decide) rfl (fun ls hl => ?_)
  refine lv_aload_n S.1 S.2.1 dMo_tells_128 rfl (lv_at hl 2 rfl) ?_
  refine lv_iconst (v := (0 : Int32)) S.1 S.2.1 dMo_tells_129 (by decide) ?_
  refine put_Mo S hw (is_84 hf) 24 (by decide) ps_Mo_24 rfl rfl rfl wf_Mo_296 hm dMo_tells_130 (fun μ20 H locs hm hw => ?_)
  refine lv_aload_n S.1 S.2.1 dMo_tells_133 rfl (lv_at hl 2 rfl) ?_
  refine lv_iconst (v := (4 : Int32)) S.1 S.2.1 dMo_tells_134 (by decide) ?_
  obtain ⟨⟨v23, μ22⟩, h21, hm⟩ := ob hm
  refine sw_Vi (q := 84) (rest := []) S hw (cMo_passes0 l N hf (4 : Int32) h21) kMo_passes0 wm_Mo_310 (is_84 hf).1 (e_Mo (is_84 hf)) rfl rfl rfl rfl hl.1 (Nat.le_of_ble_eq_true rfl) ⟨rfl, rfl, Nat.le_of_ble_eq_true rfl, Nat.le_of_ble_eq_true rfl⟩ ⟨Nat.le_of_ble_eq_true rfl, Nat.le_of_ble_eq_true rfl⟩ dMo_tells_135 (fun H locs hw _ => ?_)
  refine bif_eq (tgt := 149) S.1 S.2.1 hm dMo_tells_138 (by decide) (fun hm => ?_) (fun hm => ?_)
  · refine lv_iconst (v := (1 : Int32)) S.1 S.2.1 dMo_tells_149 (by decide) ?_
    refine lv_goto (tgt := 154) S.1 S.2.1 dMo_tells_150 (by decide) ?_
    exact wMo_tells_154 S hr hlk hf N k69 hk69 μ22 u1 u4 u6 u8 s0 x19 (1 : Int32) _ _ _ hm hw (lv_sub hl [2, 3, 4, 5, 6, 1, 0] rfl)
  · refine lv_aload_n S.1 S.2.1 dMo_tells_141 rfl (lv_at hl 2 rfl) ?_
    refine lv_iconst (v := (1 : Int32)) S.1 S.2.1 dMo_tells_142 (by decide) ?_
    obtain ⟨⟨v34, μ33⟩, h32, hm⟩ := ob hm
    refine sw_Vi (q := 84) (rest := []) S hw (cMo_testOf l N 10 hf (1 : Int32) h32) kMo_testOf wm_Mo_343 (is_84 hf).1 (e_Mo (is_84 hf)) rfl rfl rfl rfl hl.1 (Nat.le_of_ble_eq_true rfl) ⟨rfl, rfl, Nat.le_of_ble_eq_true rfl, Nat.le_of_ble_eq_true rfl⟩ ⟨Nat.le_of_ble_eq_true rfl, Nat.le_of_ble_eq_true rfl⟩ dMo_tells_143 (fun H locs hw _ => ?_)
    refine bif_eq (tgt := 153) S.1 S.2.1 hm dMo_tells_146 (by decide) (fun hm => ?_) (fun hm => ?_)
    · refine lv_iconst (v := (0 : Int32)) S.1 S.2.1 dMo_tells_153 (by decide) ?_
      exact wMo_tells_154 S hr hlk hf N k69 hk69 μ33 u1 u4 u6 u8 s0 x19 (0 : Int32) _ _ _ hm hw (lv_sub hl [2, 3, 4, 5, 6, 1, 0] rfl)
    · refine lv_iconst (v := (1 : Int32)) S.1 S.2.1 dMo_tells_149 (by decide) ?_
      refine lv_goto (tgt := 154) S.1 S.2.1 dMo_tells_150 (by decide) ?_
      exact wMo_tells_154 S hr hlk hf N k69 hk69 μ33 u1 u4 u6 u8 s0 x19 (1 : Int32) _ _ _ hm hw (lv_sub hl [2, 3, 4, 5, 6, 1, 0] rfl)
set_option maxHeartbeats 4000000 in
set_option maxRecDepth 100000 in
theorem wMo_tells_69 {l : Launch} {p : Program} {e : Env} {s : State} {m : MethodId} {args : Array Value} {below : List Frame} {meth : Method} {c : Code} {Γ : sw_C} {A : Nat → Prop} {ξ : sw_x} {g : sw_g} {res : Int32 × sw_m} (S : CallFix p m c prog_10_method_75_code 13 s args (Cond.code yMo_tells prog_10_method_75_code 13 (some .int) :: sw_tb) R_Mo) (hr : meth.sig.returnType = some .int) (hlk : meth.locks = false) (hf : sw_wf ξ g.2.2) (N : Nat) : ∀ (fu : Nat) (μ : sw_m) (u1 : Int32) (u4 : Int32) (u6 : Int64) (H : Heap) (locs : List Loc) (ls : Array Slot), fMo_tells_69 N   fu μ u1 u4 u6 = some res → sw_S Γ A ξ g μ s H locs → lv_has ls 13 [(0, .ref (ξ.2.2.2.1 84)), (1, .int u1), (4, .int u4), (6, .long u6)] → W p l e (headSpec (Cond.code yMo_tells prog_10_method_75_code 13 (some .int) :: sw_tb) rmMo_tells).room s m args below meth c H locs 0 0 (MQ below (sw_Qi Γ A ξ g res.2 res.1 (True)) args s 0 0 A) (F0 m 69 ls []) := by
  intro fu
  induction fu with
  | zero => intro μ u1 u4 u6 H locs ls hm; rw [fMo_tells_69.eq_1] at hm; cases hm
  | succ fu ih =>
    intro μ u1 u4 u6 H locs ls hm hw hl
    rw [fMo_tells_69.eq_2] at hm
    refine lv_aload_n S.1 S.2.1 dMo_tells_69 rfl (lv_at hl 0 rfl) ?_
    refine get_Mo (v := .int (μ.1 84 22)) S hw (is_84 hf) 22 (by decide) rfl wf_Mo_286 dMo_tells_70 ?_
    refine lv_aload_n S.1 S.2.1 dMo_tells_73 rfl (lv_at hl 0 rfl) ?_
    refine get_Mo (v := .int (μ.1 84 23)) S hw (is_84 hf) 23 (by decide) rfl wf_Mo_283 dMo_tells_74 ?_
    refine bicmp_ge (tgt := 222) S.1 S.2.1 hm dMo_tells_77 (by decide) (fun hm => ?_) (fun hm => ?_)
    · refine lv_lload S.1 S.2.1 dMo_tells_222 (lv_at hl 3 rfl) ?_
      refine lv_l2i (v := (u6).toInt32) S.1 S.2.1 dMo_tells_224 rfl ?_
      obtain rfl := Option.some.inj hm
      exact sw_iret S hr hlk hw trivial dMo_tells_225
    · refine lv_aload_n S.1 S.2.1 dMo_tells_80 rfl (lv_at hl 0 rfl) ?_
      refine lv_aload_n S.1 S.2.1 dMo_tells_81 rfl (lv_at hl 0 rfl) ?_
      refine get_Mo (v := .int (μ.1 84 22)) S hw (is_84 hf) 22 (by decide) rfl wf_Mo_286 dMo_tells_82 ?_
      obtain ⟨⟨v13, μ12⟩, h11, hm⟩ := ob hm
      refine sw_Vi (q := 84) (rest := []) S hw (cMo_codeAt l  hf (μ.1 84 22) h11) kMo_codeAt wm_Mo_289 (is_84 hf).1 (e_Mo (is_84 hf)) rfl rfl rfl rfl hl.1 (Nat.le_of_ble_eq_true rfl) ⟨rfl, rfl, Nat.le_of_ble_eq_true rfl, Nat.le_of_ble_eq_true rfl⟩ ⟨Nat.le_of_ble_eq_true rfl, Nat.le_of_ble_eq_true rfl⟩ dMo_tells_85 (fun H locs hw _ => ?_)
      refine lv_istore (lv' := [(8, .int v13), (0, .ref (ξ.2.2.2.1 84)), (1, .int u1), (4, .int u4), (6, .long u6)]) S.1 S.2.1 dMo_tells_88 hl (by decide) rfl (fun ls hl => ?_)
      refine lv_aload_n S.1 S.2.1 dMo_tells_90 rfl (lv_at hl 1 rfl) ?_
      refine lv_iconst (v := (0 : Int32)) S.1 S.2.1 dMo_tells_91 (by decide) ?_
      refine put_Mo S hw (is_84 hf) 24 (by decide) ps_Mo_24 rfl rfl rfl wf_Mo_296 hm dMo_tells_92 (fun μ14 H locs hm hw => ?_)
      refine lv_aload_n S.1 S.2.1 dMo_tells_95 rfl (lv_at hl 1 rfl) ?_
      refine lv_dup S.1 S.2.1 dMo_tells_96 rfl ?_
      refine get_Mo (v := .int (μ14.1 84 22)) S hw (is_84 hf) 22 (by decide) rfl wf_Mo_286 dMo_tells_97 ?_
      refine lv_iconst (v := (1 : Int32)) S.1 S.2.1 dMo_tells_100 (by decide) ?_
      refine lv_iadd S.1 S.2.1 dMo_tells_101 ?_
      refine put_Mo S hw (is_84 hf) 22 (by decide) ps_Mo_22 rfl rfl rfl wf_Mo_286 hm dMo_tells_102 (fun μ15 H locs hm hw => ?_)
      refine lv_iload S.1 S.2.1 dMo_tells_105 (lv_at hl 0 rfl) ?_
      refine lv_iconst (v := (3 : Int32)) S.1 S.2.1 dMo_tells_107 (by decide) ?_
      refine bicmp_ne (tgt := 115) S.1 S.2.1 hm dMo_tells_108 (by decide) (fun hm => ?_) (fun hm => ?_)
      · refine lv_aload_n S.1 S.2.1 dMo_tells_115 rfl (lv_at hl 1 rfl) ?_
        refine lv_iconst (v := (1 : Int32)) S.1 S.2.1 dMo_tells_116 (by decide) ?_
        obtain ⟨⟨v18, μ17⟩, h16, hm⟩ := ob hm
        refine sw_Vl (q := 84) (rest := []) S hw (cMo_sumOf l N 10 hf (1 : Int32) h16) kMo_sumOf wm_Mo_313 (is_84 hf).1 (e_Mo (is_84 hf)) rfl rfl rfl rfl hl.1 (Nat.le_of_ble_eq_true rfl) ⟨rfl, rfl, Nat.le_of_ble_eq_true rfl, Nat.le_of_ble_eq_true rfl⟩ ⟨Nat.le_of_ble_eq_true rfl, Nat.le_of_ble_eq_true rfl⟩ dMo_tells_117 (fun H locs hw _ => ?_)
        exact wMo_tells_120 S hr hlk hf N (fMo_tells_69 N   fu) ih μ17 u1 u4 u6 v13 v18 _ _ _ hm hw (lv_sub hl [1, 2, 3, 4, 0] rfl)
      · refine lv_lconst (v := (1 : Int64)) S.1 S.2.1 dMo_tells_111 (by decide) ?_
        refine lv_goto (tgt := 120) S.1 S.2.1 dMo_tells_112 (by decide) ?_
        exact wMo_tells_120 S hr hlk hf N (fMo_tells_69 N   fu) ih μ15 u1 u4 u6 v13 (1 : Int64) _ _ _ hm hw (lv_sub hl [1, 2, 3, 4, 0] rfl)
set_option maxHeartbeats 4000000 in
set_option maxRecDepth 100000 in
theorem cMo_tells (l : Launch) (N : Nat) {Γ : sw_C} {A : Nat → Prop} {ξ : sw_x} {g : sw_g} {μ : sw_m} (hf : sw_wf ξ g.2.2) (a1 : Int32) (a2 : Int32) (a3 : Int32) (a4 : Int32) (a5 : Int32) {res : Int32 × sw_m} (hm : fMo_tells N μ a1 a2 a3 a4 a5 = some res) : Met l yMo_tells (Cond.code yMo_tells prog_10_method_75_code 13 (some .int) :: sw_tb) rmMo_tells (va_Pc [.ref (ξ.2.2.2.1 84), .int a1, .int a2, .int a3, .int a4, .int a5] (sw_V Γ A ξ g μ)) (sw_Qi Γ A ξ g res.2 res.1 (True)) 0 0 A := by
  refine Met.ofW (cc := prog_10_method_75_code) (maxL := 13) (ret := some .int) (by decide) rfl ?_
  intro p e s m args below meth c s₁ B hml hv
  obtain ⟨rfl, hv⟩ := hv
  have S : CallFix p m c prog_10_method_75_code 13 s _ (Cond.code yMo_tells prog_10_method_75_code 13 (some .int) :: sw_tb) R_Mo := ⟨B.exec, B.bytes, hml, findClass_of_methodNamed B.named, atoms_spec (ws := (Cond.code yMo_tells prog_10_method_75_code 13 (some .int) :: sw_tb)) B.pre⟩
  have hr := B.returns
  have hlk := B.notSynchronized
  have hw := sw_begin hv
  have hl := lv_entry [.ref (ξ.2.2.2.1 84), .int a1, .int a2, .int a3, .int a4, .int a5] (n := 13) (Nat.le_of_ble_eq_true rfl)
  rw [lg_entry_eq]
  generalize (lg_sl [.ref (ξ.2.2.2.1 84), .int a1, .int a2, .int a3, .int a4, .int a5] ++ List.replicate (13 - (lg_sl [.ref (ξ.2.2.2.1 84), .int a1, .int a2, .int a3, .int a4, .int a5]).length) Slot.unset).toArray = ls at hl ⊢
  have hl : lv_has ls 13 [(0, .ref (ξ.2.2.2.1 84)), (1, .int a1), (2, .int a2), (3, .int a3), (4, .int a4), (5, .int a5)] := hl
  unfold fMo_tells at hm
  refine lv_aload_n S.1 S.2.1 dMo_tells_0 rfl (lv_at hl 0 rfl) ?_
  refine get_Mo (v := .ref (ξ.2.2.2.1 86)) S hw (is_84 hf) 2 (by decide) rfl wf_Mo_28 dMo_tells_1 ?_
  refine lv_bipush (v := (46 : Int32)) S.1 S.2.1 dMo_tells_4 (by decide) ?_
  refine sm_iald S hw (is_86 hf) hm dMo_tells_6 (fun v1 hm => ?_)
  refine lv_iconst (v := (-1 : Int32)) S.1 S.2.1 dMo_tells_7 (by decide) ?_
  refine bicmp_ne (tgt := 14) S.1 S.2.1 hm dMo_tells_8 (by decide) (fun hm => ?_) (fun hm => ?_)
  · refine lv_aload_n S.1 S.2.1 dMo_tells_14 rfl (lv_at hl 0 rfl) ?_
    refine lv_iload_n S.1 S.2.1 dMo_tells_15 rfl (lv_at hl 2 rfl) ?_
    refine lv_iload_n S.1 S.2.1 dMo_tells_16 rfl (lv_at hl 3 rfl) ?_
    obtain ⟨μ3, h2, hm⟩ := ob hm
    refine sw_Vv (q := 84) (rest := []) S hw (cMo_setsAsked l  hf a2 a3 h2) kMo_setsAsked wm_Mo_346 (is_84 hf).1 (e_Mo (is_84 hf)) rfl rfl rfl rfl hl.1 (Nat.le_of_ble_eq_true rfl) ⟨rfl, rfl, Nat.le_of_ble_eq_true rfl, Nat.le_of_ble_eq_true rfl⟩ ⟨Nat.le_of_ble_eq_true rfl, Nat.le_of_ble_eq_true rfl⟩ dMo_tells_17 (fun H locs hw _ => ?_)
    refine lv_aload_n S.1 S.2.1 dMo_tells_20 rfl (lv_at hl 0 rfl) ?_
    refine lv_iconst (v := (0 : Int32)) S.1 S.2.1 dMo_tells_21 (by decide) ?_
    refine put_Mo S hw (is_84 hf) 25 (by decide) ps_Mo_25 rfl rfl rfl wf_Mo_316 hm dMo_tells_22 (fun μ4 H locs hm hw => ?_)
    refine lv_iload S.1 S.2.1 dMo_tells_25 (lv_at hl 5 rfl) ?_
    refine lv_i2l (v := (a5).toInt64) S.1 S.2.1 dMo_tells_27 rfl ?_
    refine nm_l hm (fun x5 hm => ?_)
    refine lv_lstore (lv' := [(6, .long x5), (0, .ref (ξ.2.2.2.1 84)), (1, .int a1), (2, .int a2), (3, .int a3), (4, .int a4), (5, .int a5)]) S.1 S.2.1 dMo_tells_28 hl (by decide) rfl (fun ls hl => ?_)
    refine lv_aload_n S.1 S.2.1 dMo_tells_30 rfl (lv_at hl 1 rfl) ?_
    refine lv_sipush (v := (400 : Int32)) S.1 S.2.1 dMo_tells_31 (by decide) ?_
    refine lv_aload_n S.1 S.2.1 dMo_tells_34 rfl (lv_at hl 1 rfl) ?_
    refine get_Mo (v := .ref (ξ.2.2.2.1 86)) S hw (is_84 hf) 2 (by decide) rfl wf_Mo_28 dMo_tells_35 ?_
    refine lv_bipush (v := (46 : Int32)) S.1 S.2.1 dMo_tells_38 (by decide) ?_
    refine sm_iald S hw (is_86 hf) hm dMo_tells_40 (fun v6 hm => ?_)
    refine lv_imul S.1 S.2.1 dMo_tells_41 ?_
    refine put_Mo S hw (is_84 hf) 22 (by decide) ps_Mo_22 rfl rfl rfl wf_Mo_286 hm dMo_tells_42 (fun μ7 H locs hm hw => ?_)
    refine lv_aload_n S.1 S.2.1 dMo_tells_45 rfl (lv_at hl 1 rfl) ?_
    refine lv_aload_n S.1 S.2.1 dMo_tells_46 rfl (lv_at hl 1 rfl) ?_
    refine get_Mo (v := .int (μ7.1 84 22)) S hw (is_84 hf) 22 (by decide) rfl wf_Mo_286 dMo_tells_47 ?_
    refine lv_aload_n S.1 S.2.1 dMo_tells_50 rfl (lv_at hl 1 rfl) ?_
    refine get_Mo (v := .ref (ξ.2.2.2.1 86)) S hw (is_84 hf) 2 (by decide) rfl wf_Mo_28 dMo_tells_51 ?_
    refine lv_bipush (v := (47 : Int32)) S.1 S.2.1 dMo_tells_54 (by decide) ?_
    refine lv_aload_n S.1 S.2.1 dMo_tells_56 rfl (lv_at hl 1 rfl) ?_
    refine get_Mo (v := .ref (ξ.2.2.2.1 86)) S hw (is_84 hf) 2 (by decide) rfl wf_Mo_28 dMo_tells_57 ?_
    refine lv_bipush (v := (46 : Int32)) S.1 S.2.1 dMo_tells_60 (by decide) ?_
    refine sm_iald S hw (is_86 hf) hm dMo_tells_62 (fun v8 hm => ?_)
    refine lv_iadd S.1 S.2.1 dMo_tells_63 ?_
    refine sm_iald S hw (is_86 hf) hm dMo_tells_64 (fun v9 hm => ?_)
    refine lv_iadd S.1 S.2.1 dMo_tells_65 ?_
    refine put_Mo S hw (is_84 hf) 23 (by decide) ps_Mo_23 rfl rfl rfl wf_Mo_283 hm dMo_tells_66 (fun μ10 H locs hm hw => ?_)
    exact wMo_tells_69 S hr hlk hf N  N μ10 a1 a4 x5 _ _ _ hm hw (lv_sub hl [1, 2, 5, 0] rfl)
  · refine lv_iload S.1 S.2.1 dMo_tells_11 (lv_at hl 5 rfl) ?_
    obtain rfl := Option.some.inj hm
    exact sw_iret S hr hlk hw trivial dMo_tells_13
set_option maxHeartbeats 4000000 in
set_option maxRecDepth 100000 in
theorem cMo_countsAt (l : Launch) (N : Nat) {Γ : sw_C} {A : Nat → Prop} {ξ : sw_x} {g : sw_g} {μ : sw_m} (hf : sw_wf ξ g.2.2) (a1 : Int32) (a2 : Int32) {res : Int32 × sw_m} (hm : fMo_countsAt N μ a1 a2 = some res) : Met l yMo_countsAt (Cond.code yMo_countsAt prog_10_method_76_code 3 (some .int) :: sw_tb) rmMo_countsAt (va_Pc [.ref (ξ.2.2.2.1 84), .int a1, .int a2] (sw_V Γ A ξ g μ)) (sw_Qi Γ A ξ g res.2 res.1 (True)) 0 0 A := by
  refine Met.ofW (cc := prog_10_method_76_code) (maxL := 3) (ret := some .int) (by decide) rfl ?_
  intro p e s m args below meth c s₁ B hml hv
  obtain ⟨rfl, hv⟩ := hv
  have S : CallFix p m c prog_10_method_76_code 3 s _ (Cond.code yMo_countsAt prog_10_method_76_code 3 (some .int) :: sw_tb) R_Mo := ⟨B.exec, B.bytes, hml, findClass_of_methodNamed B.named, atoms_spec (ws := (Cond.code yMo_countsAt prog_10_method_76_code 3 (some .int) :: sw_tb)) B.pre⟩
  have hr := B.returns
  have hlk := B.notSynchronized
  have hw := sw_begin hv
  have hl := lv_entry [.ref (ξ.2.2.2.1 84), .int a1, .int a2] (n := 3) (Nat.le_of_ble_eq_true rfl)
  rw [lg_entry_eq]
  generalize (lg_sl [.ref (ξ.2.2.2.1 84), .int a1, .int a2] ++ List.replicate (3 - (lg_sl [.ref (ξ.2.2.2.1 84), .int a1, .int a2]).length) Slot.unset).toArray = ls at hl ⊢
  have hl : lv_has ls 3 [(0, .ref (ξ.2.2.2.1 84)), (1, .int a1), (2, .int a2)] := hl
  unfold fMo_countsAt at hm
  refine lv_aload_n S.1 S.2.1 dMo_countsAt_0 rfl (lv_at hl 0 rfl) ?_
  refine lv_iconst (v := (1 : Int32)) S.1 S.2.1 dMo_countsAt_1 (by decide) ?_
  refine lv_iload_n S.1 S.2.1 dMo_countsAt_2 rfl (lv_at hl 1 rfl) ?_
  refine lv_iload_n S.1 S.2.1 dMo_countsAt_3 rfl (lv_at hl 2 rfl) ?_
  refine lv_bipush (v := (99 : Int32)) S.1 S.2.1 dMo_countsAt_4 (by decide) ?_
  refine lv_aload_n S.1 S.2.1 dMo_countsAt_6 rfl (lv_at hl 0 rfl) ?_
  refine get_Mo (v := .ref (ξ.2.2.2.1 86)) S hw (is_84 hf) 2 (by decide) rfl wf_Mo_28 dMo_countsAt_7 ?_
  refine lv_iconst (v := (0 : Int32)) S.1 S.2.1 dMo_countsAt_10 (by decide) ?_
  refine lv_iload_n S.1 S.2.1 dMo_countsAt_11 rfl (lv_at hl 1 rfl) ?_
  refine lv_iadd S.1 S.2.1 dMo_countsAt_12 ?_
  refine sm_iald S hw (is_86 hf) hm dMo_countsAt_13 (fun v1 hm => ?_)
  obtain ⟨⟨v4, μ3⟩, h2, hm⟩ := ob hm
  refine sw_Vi (q := 84) (rest := []) S hw (cMo_tells l N hf (1 : Int32) a1 a2 (99 : Int32) v1 h2) kMo_tells wm_Mo_349 (is_84 hf).1 (e_Mo (is_84 hf)) rfl rfl rfl rfl hl.1 (Nat.le_of_ble_eq_true rfl) ⟨rfl, rfl, Nat.le_of_ble_eq_true rfl, Nat.le_of_ble_eq_true rfl⟩ ⟨Nat.le_of_ble_eq_true rfl, Nat.le_of_ble_eq_true rfl⟩ dMo_countsAt_14 (fun H locs hw _ => ?_)
  obtain rfl := Option.some.inj hm
  exact sw_iret S hr hlk hw trivial dMo_countsAt_17
set_option maxHeartbeats 4000000 in
set_option maxRecDepth 100000 in
theorem cMo_shedsAt (l : Launch) (N : Nat) {Γ : sw_C} {A : Nat → Prop} {ξ : sw_x} {g : sw_g} {μ : sw_m} (hf : sw_wf ξ g.2.2) (a1 : Int32) (a2 : Int32) {res : Int32 × sw_m} (hm : fMo_shedsAt N μ a1 a2 = some res) : Met l yMo_shedsAt (Cond.code yMo_shedsAt prog_10_method_77_code 3 (some .int) :: sw_tb) rmMo_shedsAt (va_Pc [.ref (ξ.2.2.2.1 84), .int a1, .int a2] (sw_V Γ A ξ g μ)) (sw_Qi Γ A ξ g res.2 res.1 (True)) 0 0 A := by
  refine Met.ofW (cc := prog_10_method_77_code) (maxL := 3) (ret := some .int) (by decide) rfl ?_
  intro p e s m args below meth c s₁ B hml hv
  obtain ⟨rfl, hv⟩ := hv
  have S : CallFix p m c prog_10_method_77_code 3 s _ (Cond.code yMo_shedsAt prog_10_method_77_code 3 (some .int) :: sw_tb) R_Mo := ⟨B.exec, B.bytes, hml, findClass_of_methodNamed B.named, atoms_spec (ws := (Cond.code yMo_shedsAt prog_10_method_77_code 3 (some .int) :: sw_tb)) B.pre⟩
  have hr := B.returns
  have hlk := B.notSynchronized
  have hw := sw_begin hv
  have hl := lv_entry [.ref (ξ.2.2.2.1 84), .int a1, .int a2] (n := 3) (Nat.le_of_ble_eq_true rfl)
  rw [lg_entry_eq]
  generalize (lg_sl [.ref (ξ.2.2.2.1 84), .int a1, .int a2] ++ List.replicate (3 - (lg_sl [.ref (ξ.2.2.2.1 84), .int a1, .int a2]).length) Slot.unset).toArray = ls at hl ⊢
  have hl : lv_has ls 3 [(0, .ref (ξ.2.2.2.1 84)), (1, .int a1), (2, .int a2)] := hl
  unfold fMo_shedsAt at hm
  refine lv_aload_n S.1 S.2.1 dMo_shedsAt_0 rfl (lv_at hl 0 rfl) ?_
  refine lv_iconst (v := (2 : Int32)) S.1 S.2.1 dMo_shedsAt_1 (by decide) ?_
  refine lv_iload_n S.1 S.2.1 dMo_shedsAt_2 rfl (lv_at hl 1 rfl) ?_
  refine lv_iload_n S.1 S.2.1 dMo_shedsAt_3 rfl (lv_at hl 2 rfl) ?_
  refine lv_bipush (v := (9 : Int32)) S.1 S.2.1 dMo_shedsAt_4 (by decide) ?_
  refine lv_iconst (v := (0 : Int32)) S.1 S.2.1 dMo_shedsAt_6 (by decide) ?_
  obtain ⟨⟨v3, μ2⟩, h1, hm⟩ := ob hm
  refine sw_Vi (q := 84) (rest := []) S hw (cMo_tells l N hf (2 : Int32) a1 a2 (9 : Int32) (0 : Int32) h1) kMo_tells wm_Mo_349 (is_84 hf).1 (e_Mo (is_84 hf)) rfl rfl rfl rfl hl.1 (Nat.le_of_ble_eq_true rfl) ⟨rfl, rfl, Nat.le_of_ble_eq_true rfl, Nat.le_of_ble_eq_true rfl⟩ ⟨Nat.le_of_ble_eq_true rfl, Nat.le_of_ble_eq_true rfl⟩ dMo_shedsAt_7 (fun H locs hw _ => ?_)
  obtain rfl := Option.some.inj hm
  exact sw_iret S hr hlk hw trivial dMo_shedsAt_10
set_option maxHeartbeats 4000000 in
set_option maxRecDepth 100000 in
theorem cMo_isBarred (l : Launch) (N : Nat) {Γ : sw_C} {A : Nat → Prop} {ξ : sw_x} {g : sw_g} {μ : sw_m} (hf : sw_wf ξ g.2.2) (a1 : Int32) (a2 : Int32) {res : Int32 × sw_m} (hm : fMo_isBarred N μ a1 a2 = some res) : Met l yMo_isBarred (Cond.code yMo_isBarred prog_10_method_78_code 3 (some .boolean) :: sw_tb) rmMo_isBarred (va_Pc [.ref (ξ.2.2.2.1 84), .int a1, .int a2] (sw_V Γ A ξ g μ)) (sw_Qi Γ A ξ g res.2 res.1 (True)) 0 0 A := by
  refine Met.ofW (cc := prog_10_method_78_code) (maxL := 3) (ret := some .boolean) (by decide) rfl ?_
  intro p e s m args below meth c s₁ B hml hv
  obtain ⟨rfl, hv⟩ := hv
  have S : CallFix p m c prog_10_method_78_code 3 s _ (Cond.code yMo_isBarred prog_10_method_78_code 3 (some .boolean) :: sw_tb) R_Mo := ⟨B.exec, B.bytes, hml, findClass_of_methodNamed B.named, atoms_spec (ws := (Cond.code yMo_isBarred prog_10_method_78_code 3 (some .boolean) :: sw_tb)) B.pre⟩
  have hr := B.returns
  have hlk := B.notSynchronized
  have hw := sw_begin hv
  have hl := lv_entry [.ref (ξ.2.2.2.1 84), .int a1, .int a2] (n := 3) (Nat.le_of_ble_eq_true rfl)
  rw [lg_entry_eq]
  generalize (lg_sl [.ref (ξ.2.2.2.1 84), .int a1, .int a2] ++ List.replicate (3 - (lg_sl [.ref (ξ.2.2.2.1 84), .int a1, .int a2]).length) Slot.unset).toArray = ls at hl ⊢
  have hl : lv_has ls 3 [(0, .ref (ξ.2.2.2.1 84)), (1, .int a1), (2, .int a2)] := hl
  unfold fMo_isBarred at hm
  refine lv_aload_n S.1 S.2.1 dMo_isBarred_0 rfl (lv_at hl 0 rfl) ?_
  refine lv_iconst (v := (3 : Int32)) S.1 S.2.1 dMo_isBarred_1 (by decide) ?_
  refine lv_iload_n S.1 S.2.1 dMo_isBarred_2 rfl (lv_at hl 1 rfl) ?_
  refine lv_iload_n S.1 S.2.1 dMo_isBarred_3 rfl (lv_at hl 2 rfl) ?_
  refine lv_iconst (v := (1 : Int32)) S.1 S.2.1 dMo_isBarred_4 (by decide) ?_
  refine lv_iconst (v := (0 : Int32)) S.1 S.2.1 dMo_isBarred_5 (by decide) ?_
  obtain ⟨⟨v3, μ2⟩, h1, hm⟩ := ob hm
  refine sw_Vi (q := 84) (rest := []) S hw (cMo_tells l N hf (3 : Int32) a1 a2 (1 : Int32) (0 : Int32) h1) kMo_tells wm_Mo_349 (is_84 hf).1 (e_Mo (is_84 hf)) rfl rfl rfl rfl hl.1 (Nat.le_of_ble_eq_true rfl) ⟨rfl, rfl, Nat.le_of_ble_eq_true rfl, Nat.le_of_ble_eq_true rfl⟩ ⟨Nat.le_of_ble_eq_true rfl, Nat.le_of_ble_eq_true rfl⟩ dMo_isBarred_6 (fun H locs hw _ => ?_)
  refine lv_iconst (v := (1 : Int32)) S.1 S.2.1 dMo_isBarred_9 (by decide) ?_
  refine bicmp_ne (tgt := 17) S.1 S.2.1 hm dMo_isBarred_10 (by decide) (fun hm => ?_) (fun hm => ?_)
  · refine lv_iconst (v := (0 : Int32)) S.1 S.2.1 dMo_isBarred_17 (by decide) ?_
    obtain rfl := Option.some.inj hm
    exact sw_zret S hr hlk (Or.inl rfl) hw trivial dMo_isBarred_18
  · refine lv_iconst (v := (1 : Int32)) S.1 S.2.1 dMo_isBarred_13 (by decide) ?_
    refine lv_goto (tgt := 18) S.1 S.2.1 dMo_isBarred_14 (by decide) ?_
    obtain rfl := Option.some.inj hm
    exact sw_zret S hr hlk (Or.inr rfl) hw trivial dMo_isBarred_18
set_option maxHeartbeats 4000000 in
set_option maxRecDepth 100000 in
theorem cMo_pullOf (l : Launch) (N : Nat) {Γ : sw_C} {A : Nat → Prop} {ξ : sw_x} {g : sw_g} {μ : sw_m} (hf : sw_wf ξ g.2.2) (a1 : Int32) {res : Int32 × sw_m} (hm : fMo_pullOf N μ a1 = some res) : Met l yMo_pullOf (Cond.code yMo_pullOf prog_10_method_79_code 2 (some .int) :: sw_tb) rmMo_pullOf (va_Pc [.ref (ξ.2.2.2.1 84), .int a1] (sw_V Γ A ξ g μ)) (sw_Qi Γ A ξ g res.2 res.1 (True)) 0 0 A := by
  refine Met.ofW (cc := prog_10_method_79_code) (maxL := 2) (ret := some .int) (by decide) rfl ?_
  intro p e s m args below meth c s₁ B hml hv
  obtain ⟨rfl, hv⟩ := hv
  have S : CallFix p m c prog_10_method_79_code 2 s _ (Cond.code yMo_pullOf prog_10_method_79_code 2 (some .int) :: sw_tb) R_Mo := ⟨B.exec, B.bytes, hml, findClass_of_methodNamed B.named, atoms_spec (ws := (Cond.code yMo_pullOf prog_10_method_79_code 2 (some .int) :: sw_tb)) B.pre⟩
  have hr := B.returns
  have hlk := B.notSynchronized
  have hw := sw_begin hv
  have hl := lv_entry [.ref (ξ.2.2.2.1 84), .int a1] (n := 2) (Nat.le_of_ble_eq_true rfl)
  rw [lg_entry_eq]
  generalize (lg_sl [.ref (ξ.2.2.2.1 84), .int a1] ++ List.replicate (2 - (lg_sl [.ref (ξ.2.2.2.1 84), .int a1]).length) Slot.unset).toArray = ls at hl ⊢
  have hl : lv_has ls 2 [(0, .ref (ξ.2.2.2.1 84)), (1, .int a1)] := hl
  unfold fMo_pullOf at hm
  refine lv_aload_n S.1 S.2.1 dMo_pullOf_0 rfl (lv_at hl 0 rfl) ?_
  refine lv_iload_n S.1 S.2.1 dMo_pullOf_1 rfl (lv_at hl 1 rfl) ?_
  obtain ⟨⟨v3, μ2⟩, h1, hm⟩ := ob hm
  refine sw_Vi (q := 84) (rest := []) S hw (cMo_isOn l  hf a1 h1) kMo_isOn wm_Mo_138 (is_84 hf).1 (e_Mo (is_84 hf)) rfl rfl rfl rfl hl.1 (Nat.le_of_ble_eq_true rfl) ⟨rfl, rfl, Nat.le_of_ble_eq_true rfl, Nat.le_of_ble_eq_true rfl⟩ ⟨Nat.le_of_ble_eq_true rfl, Nat.le_of_ble_eq_true rfl⟩ dMo_pullOf_2 (fun H locs hw _ => ?_)
  refine bif_eq (tgt := 38) S.1 S.2.1 hm dMo_pullOf_5 (by decide) (fun hm => ?_) (fun hm => ?_)
  · refine lv_iconst (v := (0 : Int32)) S.1 S.2.1 dMo_pullOf_38 (by decide) ?_
    obtain rfl := Option.some.inj hm
    exact sw_iret S hr hlk hw trivial dMo_pullOf_39
  · refine lv_aload_n S.1 S.2.1 dMo_pullOf_8 rfl (lv_at hl 0 rfl) ?_
    refine lv_iload_n S.1 S.2.1 dMo_pullOf_9 rfl (lv_at hl 1 rfl) ?_
    refine lv_aload_n S.1 S.2.1 dMo_pullOf_10 rfl (lv_at hl 0 rfl) ?_
    refine get_Mo (v := .ref (ξ.2.2.2.1 86)) S hw (is_84 hf) 2 (by decide) rfl wf_Mo_28 dMo_pullOf_11 ?_
    refine lv_bipush (v := (7 : Int32)) S.1 S.2.1 dMo_pullOf_14 (by decide) ?_
    refine lv_iload_n S.1 S.2.1 dMo_pullOf_16 rfl (lv_at hl 1 rfl) ?_
    refine lv_iadd S.1 S.2.1 dMo_pullOf_17 ?_
    refine sm_iald S hw (is_86 hf) hm dMo_pullOf_18 (fun v4 hm => ?_)
    obtain ⟨⟨v7, μ6⟩, h5, hm⟩ := ob hm
    refine sw_Vi (q := 84) (rest := []) S hw (cMo_countsAt l N hf a1 v4 h5) kMo_countsAt wm_Mo_141 (is_84 hf).1 (e_Mo (is_84 hf)) rfl rfl rfl rfl hl.1 (Nat.le_of_ble_eq_true rfl) ⟨rfl, rfl, Nat.le_of_ble_eq_true rfl, Nat.le_of_ble_eq_true rfl⟩ ⟨Nat.le_of_ble_eq_true rfl, Nat.le_of_ble_eq_true rfl⟩ dMo_pullOf_19 (fun H locs hw _ => ?_)
    refine lv_aload_n S.1 S.2.1 dMo_pullOf_22 rfl (lv_at hl 0 rfl) ?_
    refine get_Mo (v := .ref (ξ.2.2.2.1 86)) S hw (is_84 hf) 2 (by decide) rfl wf_Mo_28 dMo_pullOf_23 ?_
    refine lv_bipush (v := (7 : Int32)) S.1 S.2.1 dMo_pullOf_26 (by decide) ?_
    refine lv_iload_n S.1 S.2.1 dMo_pullOf_28 rfl (lv_at hl 1 rfl) ?_
    refine lv_iadd S.1 S.2.1 dMo_pullOf_29 ?_
    refine sm_iald S hw (is_86 hf) hm dMo_pullOf_30 (fun v8 hm => ?_)
    obtain ⟨v10, h9, hm⟩ := ob hm
    refine sw_Si (rest := [.int v7]) S hw (cMo_armOf l  hf v8 h9) kMo_armOf wm_Mo_160 rfl rfl hl.1 (Nat.le_of_ble_eq_true rfl) ⟨rfl, rfl, Nat.le_of_ble_eq_true rfl, Nat.le_of_ble_eq_true rfl⟩ ⟨Nat.le_of_ble_eq_true rfl, Nat.le_of_ble_eq_true rfl⟩ dMo_pullOf_31 (fun H locs hw _ => ?_)
    refine lv_imul S.1 S.2.1 dMo_pullOf_34 ?_
    refine lv_goto (tgt := 39) S.1 S.2.1 dMo_pullOf_35 (by decide) ?_
    obtain rfl := Option.some.inj hm
    exact sw_iret S hr hlk hw trivial dMo_pullOf_39
set_option maxHeartbeats 4000000 in
set_option maxRecDepth 100000 in
theorem wMo_tiltNow_4 {l : Launch} {p : Program} {e : Env} {s : State} {m : MethodId} {args : Array Value} {below : List Frame} {meth : Method} {c : Code} {Γ : sw_C} {A : Nat → Prop} {ξ : sw_x} {g : sw_g} {res : Int32 × sw_m} (S : CallFix p m c prog_10_method_80_code 3 s args (Cond.code yMo_tiltNow prog_10_method_80_code 3 (some .int) :: sw_tb) R_Mo) (hr : meth.sig.returnType = some .int) (hlk : meth.locks = false) (hf : sw_wf ξ g.2.2) (N : Nat) : ∀ (fu : Nat) (μ : sw_m) (u1 : Int32) (u2 : Int32) (H : Heap) (locs : List Loc) (ls : Array Slot), fMo_tiltNow_4 N   fu μ u1 u2 = some res → sw_S Γ A ξ g μ s H locs → lv_has ls 3 [(0, .ref (ξ.2.2.2.1 84)), (1, .int u1), (2, .int u2)] → W p l e (headSpec (Cond.code yMo_tiltNow prog_10_method_80_code 3 (some .int) :: sw_tb) rmMo_tiltNow).room s m args below meth c H locs 0 0 (MQ below (sw_Qi Γ A ξ g res.2 res.1 (True)) args s 0 0 A) (F0 m 4 ls []) := by
  intro fu
  induction fu with
  | zero => intro μ u1 u2 H locs ls hm; rw [fMo_tiltNow_4.eq_1] at hm; cases hm
  | succ fu ih =>
    intro μ u1 u2 H locs ls hm hw hl
    rw [fMo_tiltNow_4.eq_2] at hm
    refine lv_iload_n S.1 S.2.1 dMo_tiltNow_4 rfl (lv_at hl 2 rfl) ?_
    refine lv_aload_n S.1 S.2.1 dMo_tiltNow_5 rfl (lv_at hl 0 rfl) ?_
    obtain ⟨⟨v3, μ2⟩, h1, hm⟩ := ob hm
    refine sw_Vi (q := 84) (rest := [.int u2]) S hw (cMo_many l  hf  h1) kMo_many wm_Mo_119 (is_84 hf).1 (e_Mo (is_84 hf)) rfl rfl rfl rfl hl.1 (Nat.le_of_ble_eq_true rfl) ⟨rfl, rfl, Nat.le_of_ble_eq_true rfl, Nat.le_of_ble_eq_true rfl⟩ ⟨Nat.le_of_ble_eq_true rfl, Nat.le_of_ble_eq_true rfl⟩ dMo_tiltNow_6 (fun H locs hw _ => ?_)
    refine bicmp_ge (tgt := 26) S.1 S.2.1 hm dMo_tiltNow_9 (by decide) (fun hm => ?_) (fun hm => ?_)
    · refine lv_iload_n S.1 S.2.1 dMo_tiltNow_26 rfl (lv_at hl 1 rfl) ?_
      obtain rfl := Option.some.inj hm
      exact sw_iret S hr hlk hw trivial dMo_tiltNow_27
    · refine lv_iload_n S.1 S.2.1 dMo_tiltNow_12 rfl (lv_at hl 1 rfl) ?_
      refine lv_aload_n S.1 S.2.1 dMo_tiltNow_13 rfl (lv_at hl 0 rfl) ?_
      refine lv_iload_n S.1 S.2.1 dMo_tiltNow_14 rfl (lv_at hl 2 rfl) ?_
      obtain ⟨⟨v6, μ5⟩, h4, hm⟩ := ob hm
      refine sw_Vi (q := 84) (rest := [.int u1]) S hw (cMo_pullOf l N hf u2 h4) kMo_pullOf wm_Mo_157 (is_84 hf).1 (e_Mo (is_84 hf)) rfl rfl rfl rfl hl.1 (Nat.le_of_ble_eq_true rfl) ⟨rfl, rfl, Nat.le_of_ble_eq_true rfl, Nat.le_of_ble_eq_true rfl⟩ ⟨Nat.le_of_ble_eq_true rfl, Nat.le_of_ble_eq_true rfl⟩ dMo_tiltNow_15 (fun H locs hw _ => ?_)
      refine lv_iadd S.1 S.2.1 dMo_tiltNow_18 ?_
      refine nm_i hm (fun x7 hm => ?_)
      refine lv_istore_n (lv' := [(1, .int x7), (0, .ref (ξ.2.2.2.1 84)), (2, .int u2)]) S.1 S.2.1 dMo_tiltNow_19 rfl hl (by decide) rfl (fun ls hl => ?_)
      obtain ⟨x8, ex8, hm⟩ := nm_x hm
      refine lv_iinc (v := x8) (lv' := [(2, .int x8), (1, .int x7), (0, .ref (ξ.2.2.2.1 84))]) S.1 S.2.1 dMo_tiltNow_20 hl (k := 2) rfl (by rw [ex8]; rfl) (by decide) rfl (fun ls hl => ?_)
      refine lv_goto (tgt := 4) S.1 S.2.1 dMo_tiltNow_23 (by decide) ?_
      exact ih μ5 x7 x8 _ _ _ hm hw (lv_sub hl [2, 1, 0] rfl)
set_option maxHeartbeats 4000000 in
set_option maxRecDepth 100000 in
theorem cMo_tiltNow (l : Launch) (N : Nat) {Γ : sw_C} {A : Nat → Prop} {ξ : sw_x} {g : sw_g} {μ : sw_m} (hf : sw_wf ξ g.2.2) {res : Int32 × sw_m} (hm : fMo_tiltNow N μ = some res) : Met l yMo_tiltNow (Cond.code yMo_tiltNow prog_10_method_80_code 3 (some .int) :: sw_tb) rmMo_tiltNow (va_Pc [.ref (ξ.2.2.2.1 84)] (sw_V Γ A ξ g μ)) (sw_Qi Γ A ξ g res.2 res.1 (True)) 0 0 A := by
  refine Met.ofW (cc := prog_10_method_80_code) (maxL := 3) (ret := some .int) (by decide) rfl ?_
  intro p e s m args below meth c s₁ B hml hv
  obtain ⟨rfl, hv⟩ := hv
  have S : CallFix p m c prog_10_method_80_code 3 s _ (Cond.code yMo_tiltNow prog_10_method_80_code 3 (some .int) :: sw_tb) R_Mo := ⟨B.exec, B.bytes, hml, findClass_of_methodNamed B.named, atoms_spec (ws := (Cond.code yMo_tiltNow prog_10_method_80_code 3 (some .int) :: sw_tb)) B.pre⟩
  have hr := B.returns
  have hlk := B.notSynchronized
  have hw := sw_begin hv
  have hl := lv_entry [.ref (ξ.2.2.2.1 84)] (n := 3) (Nat.le_of_ble_eq_true rfl)
  rw [lg_entry_eq]
  generalize (lg_sl [.ref (ξ.2.2.2.1 84)] ++ List.replicate (3 - (lg_sl [.ref (ξ.2.2.2.1 84)]).length) Slot.unset).toArray = ls at hl ⊢
  have hl : lv_has ls 3 [(0, .ref (ξ.2.2.2.1 84))] := hl
  unfold fMo_tiltNow at hm
  refine lv_iconst (v := (0 : Int32)) S.1 S.2.1 dMo_tiltNow_0 (by decide) ?_
  refine lv_istore_n (lv' := [(1, .int (0 : Int32)), (0, .ref (ξ.2.2.2.1 84))]) S.1 S.2.1 dMo_tiltNow_1 rfl hl (by decide) rfl (fun ls hl => ?_)
  refine lv_iconst (v := (0 : Int32)) S.1 S.2.1 dMo_tiltNow_2 (by decide) ?_
  refine lv_istore_n (lv' := [(2, .int (0 : Int32)), (1, .int (0 : Int32)), (0, .ref (ξ.2.2.2.1 84))]) S.1 S.2.1 dMo_tiltNow_3 rfl hl (by decide) rfl (fun ls hl => ?_)
  exact wMo_tiltNow_4 S hr hlk hf N  N μ (0 : Int32) (0 : Int32) _ _ _ hm hw (lv_sub hl [2, 1, 0] rfl)
set_option maxHeartbeats 4000000 in
set_option maxRecDepth 100000 in
theorem wMo_dayPasses_98 {l : Launch} {p : Program} {e : Env} {s : State} {m : MethodId} {args : Array Value} {below : List Frame} {meth : Method} {c : Code} {Γ : sw_C} {A : Nat → Prop} {ξ : sw_x} {g : sw_g} {res : Int32 × sw_m} (S : CallFix p m c prog_10_method_82_code 4 s args (Cond.code yMo_dayPasses prog_10_method_82_code 4 (some .int) :: sw_tb) R_Mo) (hr : meth.sig.returnType = some .int) (hlk : meth.locks = false) (hf : sw_wf ξ g.2.2) (N : Nat) (k52 : sw_m → Int32 → Int32 → Option (Int32 × sw_m)) (hk52 : ∀ (μ : sw_m) (u1 : Int32) (u2 : Int32) (H : Heap) (locs : List Loc) (ls : Array Slot), k52 μ u1 u2 = some res → sw_S Γ A ξ g μ s H locs → lv_has ls 4 [(0, .ref (ξ.2.2.2.1 84)), (1, .int u1), (2, .int u2)] → W p l e (headSpec (Cond.code yMo_dayPasses prog_10_method_82_code 4 (some .int) :: sw_tb) rmMo_dayPasses).room s m args below meth c H locs 0 0 (MQ below (sw_Qi Γ A ξ g res.2 res.1 (True)) args s 0 0 A) (F0 m 52 ls [])) : ∀ (μ : sw_m) (u2 : Int32) (u3 : Int32) (s0 : Int32) (s1 : Int32) (H : Heap) (locs : List Loc) (ls : Array Slot), fMo_dayPasses_98 N  k52 μ u2 u3 s0 s1 = some res → sw_S Γ A ξ g μ s H locs → lv_has ls 4 [(0, .ref (ξ.2.2.2.1 84)), (2, .int u2), (3, .int u3)] → W p l e (headSpec (Cond.code yMo_dayPasses prog_10_method_82_code 4 (some .int) :: sw_tb) rmMo_dayPasses).room s m args below meth c H locs 0 0 (MQ below (sw_Qi Γ A ξ g res.2 res.1 (True)) args s 0 0 A) (F0 m 98 ls [.int s0, .int s1]) := by
  intro μ u2 u3 s0 s1 H locs ls hm hw hl
  unfold fMo_dayPasses_98 at hm
  refine lv_iadd S.1 S.2.1 dMo_dayPasses_98 ?_
  refine nm_i hm (fun x14 hm => ?_)
  refine lv_istore_n (lv' := [(1, .int x14), (0, .ref (ξ.2.2.2.1 84)), (2, .int u2), (3, .int u3)]) S.1 S.2.1 dMo_dayPasses_99 rfl hl (by decide) rfl (fun ls hl => ?_)
  refine lv_aload_n S.1 S.2.1 dMo_dayPasses_100 rfl (lv_at hl 1 rfl) ?_
  refine get_Mo (v := .ref (ξ.2.2.2.1 86)) S hw (is_84 hf) 2 (by decide) rfl wf_Mo_28 dMo_dayPasses_101 ?_
  refine lv_iconst (v := (0 : Int32)) S.1 S.2.1 dMo_dayPasses_104 (by decide) ?_
  refine lv_iload_n S.1 S.2.1 dMo_dayPasses_105 rfl (lv_at hl 2 rfl) ?_
  refine lv_iadd S.1 S.2.1 dMo_dayPasses_106 ?_
  refine lv_iload_n S.1 S.2.1 dMo_dayPasses_107 rfl (lv_at hl 3 rfl) ?_
  refine sm_iast S hw (is_86 hf) hm dMo_dayPasses_108 (fun μ15 H locs hm hw => ?_)
  obtain ⟨x16, ex16, hm⟩ := nm_x hm
  refine lv_iinc (v := x16) (lv' := [(2, .int x16), (1, .int x14), (0, .ref (ξ.2.2.2.1 84)), (3, .int u3)]) S.1 S.2.1 dMo_dayPasses_109 hl (k := 2) rfl (by rw [ex16]; rfl) (by decide) rfl (fun ls hl => ?_)
  refine lv_goto (tgt := 52) S.1 S.2.1 dMo_dayPasses_112 (by decide) ?_
  exact hk52 μ15 x14 x16 _ _ _ hm hw (lv_sub hl [2, 1, 0] rfl)
set_option maxHeartbeats 4000000 in
set_option maxRecDepth 100000 in
theorem wMo_dayPasses_52 {l : Launch} {p : Program} {e : Env} {s : State} {m : MethodId} {args : Array Value} {below : List Frame} {meth : Method} {c : Code} {Γ : sw_C} {A : Nat → Prop} {ξ : sw_x} {g : sw_g} {res : Int32 × sw_m} (S : CallFix p m c prog_10_method_82_code 4 s args (Cond.code yMo_dayPasses prog_10_method_82_code 4 (some .int) :: sw_tb) R_Mo) (hr : meth.sig.returnType = some .int) (hlk : meth.locks = false) (hf : sw_wf ξ g.2.2) (N : Nat) : ∀ (fu : Nat) (μ : sw_m) (u1 : Int32) (u2 : Int32) (H : Heap) (locs : List Loc) (ls : Array Slot), fMo_dayPasses_52 N   fu μ u1 u2 = some res → sw_S Γ A ξ g μ s H locs → lv_has ls 4 [(0, .ref (ξ.2.2.2.1 84)), (1, .int u1), (2, .int u2)] → W p l e (headSpec (Cond.code yMo_dayPasses prog_10_method_82_code 4 (some .int) :: sw_tb) rmMo_dayPasses).room s m args below meth c H locs 0 0 (MQ below (sw_Qi Γ A ξ g res.2 res.1 (True)) args s 0 0 A) (F0 m 52 ls []) := by
  intro fu
  induction fu with
  | zero => intro μ u1 u2 H locs ls hm; rw [fMo_dayPasses_52.eq_1] at hm; cases hm
  | succ fu ih =>
    intro μ u1 u2 H locs ls hm hw hl
    rw [fMo_dayPasses_52.eq_2] at hm
    refine lv_iload_n S.1 S.2.1 dMo_dayPasses_52 rfl (lv_at hl 2 rfl) ?_
    refine lv_aload_n S.1 S.2.1 dMo_dayPasses_53 rfl (lv_at hl 0 rfl) ?_
    obtain ⟨⟨v6, μ5⟩, h4, hm⟩ := ob hm
    refine sw_Vi (q := 84) (rest := [.int u2]) S hw (cMo_many l  hf  h4) kMo_many wm_Mo_119 (is_84 hf).1 (e_Mo (is_84 hf)) rfl rfl rfl rfl hl.1 (Nat.le_of_ble_eq_true rfl) ⟨rfl, rfl, Nat.le_of_ble_eq_true rfl, Nat.le_of_ble_eq_true rfl⟩ ⟨Nat.le_of_ble_eq_true rfl, Nat.le_of_ble_eq_true rfl⟩ dMo_dayPasses_54 (fun H locs hw _ => ?_)
    refine bicmp_ge (tgt := 115) S.1 S.2.1 hm dMo_dayPasses_57 (by decide) (fun hm => ?_) (fun hm => ?_)
    · refine lv_aload_n S.1 S.2.1 dMo_dayPasses_115 rfl (lv_at hl 0 rfl) ?_
      refine get_Mo (v := .ref (ξ.2.2.2.1 86)) S hw (is_84 hf) 2 (by decide) rfl wf_Mo_28 dMo_dayPasses_116 ?_
      refine lv_bipush (v := (14 : Int32)) S.1 S.2.1 dMo_dayPasses_119 (by decide) ?_
      refine lv_dup2_11 S.1 S.2.1 dMo_dayPasses_121 rfl rfl ?_
      refine sm_iald S hw (is_86 hf) hm dMo_dayPasses_122 (fun v7 hm => ?_)
      refine lv_iconst (v := (1 : Int32)) S.1 S.2.1 dMo_dayPasses_123 (by decide) ?_
      refine lv_iadd S.1 S.2.1 dMo_dayPasses_124 ?_
      refine sm_iast S hw (is_86 hf) hm dMo_dayPasses_125 (fun μ8 H locs hm hw => ?_)
      refine lv_iload_n S.1 S.2.1 dMo_dayPasses_126 rfl (lv_at hl 1 rfl) ?_
      obtain rfl := Option.some.inj hm
      exact sw_iret S hr hlk hw trivial dMo_dayPasses_127
    · refine lv_iconst (v := (1 : Int32)) S.1 S.2.1 dMo_dayPasses_60 (by decide) ?_
      refine lv_aload_n S.1 S.2.1 dMo_dayPasses_61 rfl (lv_at hl 0 rfl) ?_
      refine get_Mo (v := .ref (ξ.2.2.2.1 86)) S hw (is_84 hf) 2 (by decide) rfl wf_Mo_28 dMo_dayPasses_62 ?_
      refine lv_iconst (v := (0 : Int32)) S.1 S.2.1 dMo_dayPasses_65 (by decide) ?_
      refine lv_iload_n S.1 S.2.1 dMo_dayPasses_66 rfl (lv_at hl 2 rfl) ?_
      refine lv_iadd S.1 S.2.1 dMo_dayPasses_67 ?_
      refine sm_iald S hw (is_86 hf) hm dMo_dayPasses_68 (fun v9 hm => ?_)
      refine lv_aload_n S.1 S.2.1 dMo_dayPasses_69 rfl (lv_at hl 0 rfl) ?_
      refine get_Mo (v := .ref (ξ.2.2.2.1 97)) S hw (is_84 hf) 30 (by decide) rfl wf_Mo_66 dMo_dayPasses_70 ?_
      refine lv_iload_n S.1 S.2.1 dMo_dayPasses_73 rfl (lv_at hl 2 rfl) ?_
      refine sm_iald S hw (is_97 hf) hm dMo_dayPasses_74 (fun v10 hm => ?_)
      refine lv_isub S.1 S.2.1 dMo_dayPasses_75 ?_
      obtain ⟨v12, h11, hm⟩ := ob hm
      refine sw_Si (rest := []) S hw (cMo_greater l  hf (1 : Int32) (v9 - v10) h11) kMo_greater wm_Mo_353 rfl rfl hl.1 (Nat.le_of_ble_eq_true rfl) ⟨rfl, rfl, Nat.le_of_ble_eq_true rfl, Nat.le_of_ble_eq_true rfl⟩ ⟨Nat.le_of_ble_eq_true rfl, Nat.le_of_ble_eq_true rfl⟩ dMo_dayPasses_76 (fun H locs hw _ => ?_)
      refine lv_istore_n (lv' := [(3, .int v12), (0, .ref (ξ.2.2.2.1 84)), (1, .int u1), (2, .int u2)]) S.1 S.2.1 dMo_dayPasses_79 rfl hl (by decide) rfl (fun ls hl => ?_)
      refine lv_iload_n S.1 S.2.1 dMo_dayPasses_80 rfl (lv_at hl 2 rfl) ?_
      refine lv_iload_n S.1 S.2.1 dMo_dayPasses_81 rfl (lv_at hl 0 rfl) ?_
      refine lv_aload_n S.1 S.2.1 dMo_dayPasses_82 rfl (lv_at hl 1 rfl) ?_
      refine get_Mo (v := .ref (ξ.2.2.2.1 86)) S hw (is_84 hf) 2 (by decide) rfl wf_Mo_28 dMo_dayPasses_83 ?_
      refine lv_iconst (v := (0 : Int32)) S.1 S.2.1 dMo_dayPasses_86 (by decide) ?_
      refine lv_iload_n S.1 S.2.1 dMo_dayPasses_87 rfl (lv_at hl 3 rfl) ?_
      refine lv_iadd S.1 S.2.1 dMo_dayPasses_88 ?_
      refine sm_iald S hw (is_86 hf) hm dMo_dayPasses_89 (fun v13 hm => ?_)
      refine bicmp_ge (tgt := 97) S.1 S.2.1 hm dMo_dayPasses_90 (by decide) (fun hm => ?_) (fun hm => ?_)
      · refine lv_iconst (v := (0 : Int32)) S.1 S.2.1 dMo_dayPasses_97 (by decide) ?_
        exact wMo_dayPasses_98 S hr hlk hf N (fMo_dayPasses_52 N   fu) ih μ5 u2 v12 (0 : Int32) u1 _ _ _ hm hw (lv_sub hl [1, 3, 0] rfl)
      · refine lv_iconst (v := (1 : Int32)) S.1 S.2.1 dMo_dayPasses_93 (by decide) ?_
        refine lv_goto (tgt := 98) S.1 S.2.1 dMo_dayPasses_94 (by decide) ?_
        exact wMo_dayPasses_98 S hr hlk hf N (fMo_dayPasses_52 N   fu) ih μ5 u2 v12 (1 : Int32) u1 _ _ _ hm hw (lv_sub hl [1, 3, 0] rfl)
set_option maxHeartbeats 4000000 in
set_option maxRecDepth 100000 in
theorem wMo_dayPasses_4 {l : Launch} {p : Program} {e : Env} {s : State} {m : MethodId} {args : Array Value} {below : List Frame} {meth : Method} {c : Code} {Γ : sw_C} {A : Nat → Prop} {ξ : sw_x} {g : sw_g} {res : Int32 × sw_m} (S : CallFix p m c prog_10_method_82_code 4 s args (Cond.code yMo_dayPasses prog_10_method_82_code 4 (some .int) :: sw_tb) R_Mo) (hr : meth.sig.returnType = some .int) (hlk : meth.locks = false) (hf : sw_wf ξ g.2.2) (N : Nat) : ∀ (fu : Nat) (μ : sw_m) (u1 : Int32) (u2 : Int32) (H : Heap) (locs : List Loc) (ls : Array Slot), fMo_dayPasses_4 N   fu μ u1 u2 = some res → sw_S Γ A ξ g μ s H locs → lv_has ls 4 [(0, .ref (ξ.2.2.2.1 84)), (1, .int u1), (2, .int u2)] → W p l e (headSpec (Cond.code yMo_dayPasses prog_10_method_82_code 4 (some .int) :: sw_tb) rmMo_dayPasses).room s m args below meth c H locs 0 0 (MQ below (sw_Qi Γ A ξ g res.2 res.1 (True)) args s 0 0 A) (F0 m 4 ls []) := by
  intro fu
  induction fu with
  | zero => intro μ u1 u2 H locs ls hm; rw [fMo_dayPasses_4.eq_1] at hm; cases hm
  | succ fu ih =>
    intro μ u1 u2 H locs ls hm hw hl
    rw [fMo_dayPasses_4.eq_2] at hm
    refine lv_iload_n S.1 S.2.1 dMo_dayPasses_4 rfl (lv_at hl 2 rfl) ?_
    refine lv_aload_n S.1 S.2.1 dMo_dayPasses_5 rfl (lv_at hl 0 rfl) ?_
    obtain ⟨⟨v3, μ2⟩, h1, hm⟩ := ob hm
    refine sw_Vi (q := 84) (rest := [.int u2]) S hw (cMo_many l  hf  h1) kMo_many wm_Mo_119 (is_84 hf).1 (e_Mo (is_84 hf)) rfl rfl rfl rfl hl.1 (Nat.le_of_ble_eq_true rfl) ⟨rfl, rfl, Nat.le_of_ble_eq_true rfl, Nat.le_of_ble_eq_true rfl⟩ ⟨Nat.le_of_ble_eq_true rfl, Nat.le_of_ble_eq_true rfl⟩ dMo_dayPasses_6 (fun H locs hw _ => ?_)
    refine bicmp_ge (tgt := 50) S.1 S.2.1 hm dMo_dayPasses_9 (by decide) (fun hm => ?_) (fun hm => ?_)
    · refine lv_iconst (v := (0 : Int32)) S.1 S.2.1 dMo_dayPasses_50 (by decide) ?_
      refine lv_istore_n (lv' := [(2, .int (0 : Int32)), (0, .ref (ξ.2.2.2.1 84)), (1, .int u1)]) S.1 S.2.1 dMo_dayPasses_51 rfl hl (by decide) rfl (fun ls hl => ?_)
      exact wMo_dayPasses_52 S hr hlk hf N  N μ2 u1 (0 : Int32) _ _ _ hm hw (lv_sub hl [1, 2, 0] rfl)
    · refine lv_aload_n S.1 S.2.1 dMo_dayPasses_12 rfl (lv_at hl 0 rfl) ?_
      refine get_Mo (v := .ref (ξ.2.2.2.1 97)) S hw (is_84 hf) 30 (by decide) rfl wf_Mo_66 dMo_dayPasses_13 ?_
      refine lv_iload_n S.1 S.2.1 dMo_dayPasses_16 rfl (lv_at hl 2 rfl) ?_
      refine lv_aload_n S.1 S.2.1 dMo_dayPasses_17 rfl (lv_at hl 0 rfl) ?_
      refine lv_iload_n S.1 S.2.1 dMo_dayPasses_18 rfl (lv_at hl 2 rfl) ?_
      obtain ⟨⟨v19, μ18⟩, h17, hm⟩ := ob hm
      refine sw_Vi (q := 84) (rest := [.int u2, .ref (ξ.2.2.2.1 97)]) S hw (cMo_isOn l  hf u2 h17) kMo_isOn wm_Mo_138 (is_84 hf).1 (e_Mo (is_84 hf)) rfl rfl rfl rfl hl.1 (Nat.le_of_ble_eq_true rfl) ⟨rfl, rfl, Nat.le_of_ble_eq_true rfl, Nat.le_of_ble_eq_true rfl⟩ ⟨Nat.le_of_ble_eq_true rfl, Nat.le_of_ble_eq_true rfl⟩ dMo_dayPasses_19 (fun H locs hw _ => ?_)
      refine bif_eq (tgt := 42) S.1 S.2.1 hm dMo_dayPasses_22 (by decide) (fun hm => ?_) (fun hm => ?_)
      · refine lv_iconst (v := (0 : Int32)) S.1 S.2.1 dMo_dayPasses_42 (by decide) ?_
        refine sm_iast S hw (is_97 hf) hm dMo_dayPasses_43 (fun μ20 H locs hm hw => ?_)
        obtain ⟨x21, ex21, hm⟩ := nm_x hm
        refine lv_iinc (v := x21) (lv' := [(2, .int x21), (0, .ref (ξ.2.2.2.1 84)), (1, .int u1)]) S.1 S.2.1 dMo_dayPasses_44 hl (k := 2) rfl (by rw [ex21]; rfl) (by decide) rfl (fun ls hl => ?_)
        refine lv_goto (tgt := 4) S.1 S.2.1 dMo_dayPasses_47 (by decide) ?_
        exact ih μ20 u1 x21 _ _ _ hm hw (lv_sub hl [1, 2, 0] rfl)
      · refine lv_aload_n S.1 S.2.1 dMo_dayPasses_25 rfl (lv_at hl 0 rfl) ?_
        refine lv_iload_n S.1 S.2.1 dMo_dayPasses_26 rfl (lv_at hl 2 rfl) ?_
        refine lv_aload_n S.1 S.2.1 dMo_dayPasses_27 rfl (lv_at hl 0 rfl) ?_
        refine get_Mo (v := .ref (ξ.2.2.2.1 86)) S hw (is_84 hf) 2 (by decide) rfl wf_Mo_28 dMo_dayPasses_28 ?_
        refine lv_bipush (v := (7 : Int32)) S.1 S.2.1 dMo_dayPasses_31 (by decide) ?_
        refine lv_iload_n S.1 S.2.1 dMo_dayPasses_33 rfl (lv_at hl 2 rfl) ?_
        refine lv_iadd S.1 S.2.1 dMo_dayPasses_34 ?_
        refine sm_iald S hw (is_86 hf) hm dMo_dayPasses_35 (fun v22 hm => ?_)
        obtain ⟨⟨v25, μ24⟩, h23, hm⟩ := ob hm
        refine sw_Vi (q := 84) (rest := [.int u2, .ref (ξ.2.2.2.1 97)]) S hw (cMo_shedsAt l N hf u2 v22 h23) kMo_shedsAt wm_Mo_145 (is_84 hf).1 (e_Mo (is_84 hf)) rfl rfl rfl rfl hl.1 (Nat.le_of_ble_eq_true rfl) ⟨rfl, rfl, Nat.le_of_ble_eq_true rfl, Nat.le_of_ble_eq_true rfl⟩ ⟨Nat.le_of_ble_eq_true rfl, Nat.le_of_ble_eq_true rfl⟩ dMo_dayPasses_36 (fun H locs hw _ => ?_)
        refine lv_goto (tgt := 43) S.1 S.2.1 dMo_dayPasses_39 (by decide) ?_
        refine sm_iast S hw (is_97 hf) hm dMo_dayPasses_43 (fun μ26 H locs hm hw => ?_)
        obtain ⟨x27, ex27, hm⟩ := nm_x hm
        refine lv_iinc (v := x27) (lv' := [(2, .int x27), (0, .ref (ξ.2.2.2.1 84)), (1, .int u1)]) S.1 S.2.1 dMo_dayPasses_44 hl (k := 2) rfl (by rw [ex27]; rfl) (by decide) rfl (fun ls hl => ?_)
        refine lv_goto (tgt := 4) S.1 S.2.1 dMo_dayPasses_47 (by decide) ?_
        exact ih μ26 u1 x27 _ _ _ hm hw (lv_sub hl [1, 2, 0] rfl)
set_option maxHeartbeats 4000000 in
set_option maxRecDepth 100000 in
theorem cMo_dayPasses (l : Launch) (N : Nat) {Γ : sw_C} {A : Nat → Prop} {ξ : sw_x} {g : sw_g} {μ : sw_m} (hf : sw_wf ξ g.2.2) {res : Int32 × sw_m} (hm : fMo_dayPasses N μ = some res) : Met l yMo_dayPasses (Cond.code yMo_dayPasses prog_10_method_82_code 4 (some .int) :: sw_tb) rmMo_dayPasses (va_Pc [.ref (ξ.2.2.2.1 84)] (sw_V Γ A ξ g μ)) (sw_Qi Γ A ξ g res.2 res.1 (True)) 0 0 A := by
  refine Met.ofW (cc := prog_10_method_82_code) (maxL := 4) (ret := some .int) (by decide) rfl ?_
  intro p e s m args below meth c s₁ B hml hv
  obtain ⟨rfl, hv⟩ := hv
  have S : CallFix p m c prog_10_method_82_code 4 s _ (Cond.code yMo_dayPasses prog_10_method_82_code 4 (some .int) :: sw_tb) R_Mo := ⟨B.exec, B.bytes, hml, findClass_of_methodNamed B.named, atoms_spec (ws := (Cond.code yMo_dayPasses prog_10_method_82_code 4 (some .int) :: sw_tb)) B.pre⟩
  have hr := B.returns
  have hlk := B.notSynchronized
  have hw := sw_begin hv
  have hl := lv_entry [.ref (ξ.2.2.2.1 84)] (n := 4) (Nat.le_of_ble_eq_true rfl)
  rw [lg_entry_eq]
  generalize (lg_sl [.ref (ξ.2.2.2.1 84)] ++ List.replicate (4 - (lg_sl [.ref (ξ.2.2.2.1 84)]).length) Slot.unset).toArray = ls at hl ⊢
  have hl : lv_has ls 4 [(0, .ref (ξ.2.2.2.1 84))] := hl
  unfold fMo_dayPasses at hm
  refine lv_iconst (v := (0 : Int32)) S.1 S.2.1 dMo_dayPasses_0 (by decide) ?_
  refine lv_istore_n (lv' := [(1, .int (0 : Int32)), (0, .ref (ξ.2.2.2.1 84))]) S.1 S.2.1 dMo_dayPasses_1 rfl hl (by decide) rfl (fun ls hl => ?_)
  refine lv_iconst (v := (0 : Int32)) S.1 S.2.1 dMo_dayPasses_2 (by decide) ?_
  refine lv_istore_n (lv' := [(2, .int (0 : Int32)), (1, .int (0 : Int32)), (0, .ref (ξ.2.2.2.1 84))]) S.1 S.2.1 dMo_dayPasses_3 rfl hl (by decide) rfl (fun ls hl => ?_)
  exact wMo_dayPasses_4 S hr hlk hf N  N μ (0 : Int32) (0 : Int32) _ _ _ hm hw (lv_sub hl [2, 1, 0] rfl)
set_option maxHeartbeats 4000000 in
set_option maxRecDepth 100000 in
theorem cMo_canPut (l : Launch) (N : Nat) {Γ : sw_C} {A : Nat → Prop} {ξ : sw_x} {g : sw_g} {μ : sw_m} (hf : sw_wf ξ g.2.2) (a1 : Int32) (a2 : Int32) {res : Int32 × sw_m} (hm : fMo_canPut N μ a1 a2 = some res) : Met l yMo_canPut (Cond.code yMo_canPut prog_10_method_86_code 3 (some .boolean) :: sw_tb) rmMo_canPut (va_Pc [.ref (ξ.2.2.2.1 84), .int a1, .int a2] (sw_V Γ A ξ g μ)) (sw_Qi Γ A ξ g res.2 res.1 (True)) 0 0 A := by
  refine Met.ofW (cc := prog_10_method_86_code) (maxL := 3) (ret := some .boolean) (by decide) rfl ?_
  intro p e s m args below meth c s₁ B hml hv
  obtain ⟨rfl, hv⟩ := hv
  have S : CallFix p m c prog_10_method_86_code 3 s _ (Cond.code yMo_canPut prog_10_method_86_code 3 (some .boolean) :: sw_tb) R_Mo := ⟨B.exec, B.bytes, hml, findClass_of_methodNamed B.named, atoms_spec (ws := (Cond.code yMo_canPut prog_10_method_86_code 3 (some .boolean) :: sw_tb)) B.pre⟩
  have hr := B.returns
  have hlk := B.notSynchronized
  have hw := sw_begin hv
  have hl := lv_entry [.ref (ξ.2.2.2.1 84), .int a1, .int a2] (n := 3) (Nat.le_of_ble_eq_true rfl)
  rw [lg_entry_eq]
  generalize (lg_sl [.ref (ξ.2.2.2.1 84), .int a1, .int a2] ++ List.replicate (3 - (lg_sl [.ref (ξ.2.2.2.1 84), .int a1, .int a2]).length) Slot.unset).toArray = ls at hl ⊢
  have hl : lv_has ls 3 [(0, .ref (ξ.2.2.2.1 84)), (1, .int a1), (2, .int a2)] := hl
  unfold fMo_canPut at hm
  refine lv_aload_n S.1 S.2.1 dMo_canPut_0 rfl (lv_at hl 0 rfl) ?_
  refine get_Mo (v := .ref (ξ.2.2.2.1 86)) S hw (is_84 hf) 2 (by decide) rfl wf_Mo_28 dMo_canPut_1 ?_
  refine lv_bipush (v := (7 : Int32)) S.1 S.2.1 dMo_canPut_4 (by decide) ?_
  refine lv_iload_n S.1 S.2.1 dMo_canPut_6 rfl (lv_at hl 1 rfl) ?_
  refine lv_iadd S.1 S.2.1 dMo_canPut_7 ?_
  refine sm_iald S hw (is_86 hf) hm dMo_canPut_8 (fun v1 hm => ?_)
  refine lv_iload_n S.1 S.2.1 dMo_canPut_9 rfl (lv_at hl 2 rfl) ?_
  refine bicmp_eq (tgt := 26) S.1 S.2.1 hm dMo_canPut_10 (by decide) (fun hm => ?_) (fun hm => ?_)
  · refine lv_iconst (v := (0 : Int32)) S.1 S.2.1 dMo_canPut_26 (by decide) ?_
    obtain rfl := Option.some.inj hm
    exact sw_zret S hr hlk (Or.inl rfl) hw trivial dMo_canPut_27
  · refine lv_aload_n S.1 S.2.1 dMo_canPut_13 rfl (lv_at hl 0 rfl) ?_
    refine lv_iload_n S.1 S.2.1 dMo_canPut_14 rfl (lv_at hl 1 rfl) ?_
    refine lv_iload_n S.1 S.2.1 dMo_canPut_15 rfl (lv_at hl 2 rfl) ?_
    obtain ⟨⟨v4, μ3⟩, h2, hm⟩ := ob hm
    refine sw_Vi (q := 84) (rest := []) S hw (cMo_isBarred l N hf a1 a2 h2) kMo_isBarred wm_Mo_151 (is_84 hf).1 (e_Mo (is_84 hf)) rfl rfl rfl rfl hl.1 (Nat.le_of_ble_eq_true rfl) ⟨rfl, rfl, Nat.le_of_ble_eq_true rfl, Nat.le_of_ble_eq_true rfl⟩ ⟨Nat.le_of_ble_eq_true rfl, Nat.le_of_ble_eq_true rfl⟩ dMo_canPut_16 (fun H locs hw _ => ?_)
    refine bif_ne (tgt := 26) S.1 S.2.1 hm dMo_canPut_19 (by decide) (fun hm => ?_) (fun hm => ?_)
    · refine lv_iconst (v := (0 : Int32)) S.1 S.2.1 dMo_canPut_26 (by decide) ?_
      obtain rfl := Option.some.inj hm
      exact sw_zret S hr hlk (Or.inl rfl) hw trivial dMo_canPut_27
    · refine lv_iconst (v := (1 : Int32)) S.1 S.2.1 dMo_canPut_22 (by decide) ?_
      refine lv_goto (tgt := 27) S.1 S.2.1 dMo_canPut_23 (by decide) ?_
      obtain rfl := Option.some.inj hm
      exact sw_zret S hr hlk (Or.inr rfl) hw trivial dMo_canPut_27
set_option maxHeartbeats 4000000 in
set_option maxRecDepth 100000 in
theorem cMo_putsKept (l : Launch) (N : Nat) {Γ : sw_C} {A : Nat → Prop} {ξ : sw_x} {g : sw_g} {μ : sw_m} (hf : sw_wf ξ g.2.2) (a1 : Int32) (a2 : Int32) {res : Int32 × sw_m} (hm : fMo_putsKept N μ a1 a2 = some res) : Met l yMo_putsKept (Cond.code yMo_putsKept prog_10_method_87_code 3 (some .int) :: sw_tb) rmMo_putsKept (va_Pc [.ref (ξ.2.2.2.1 84), .int a1, .int a2] (sw_V Γ A ξ g μ)) (sw_Qi Γ A ξ g res.2 res.1 (True)) 0 0 A := by
  refine Met.ofW (cc := prog_10_method_87_code) (maxL := 3) (ret := some .int) (by decide) rfl ?_
  intro p e s m args below meth c s₁ B hml hv
  obtain ⟨rfl, hv⟩ := hv
  have S : CallFix p m c prog_10_method_87_code 3 s _ (Cond.code yMo_putsKept prog_10_method_87_code 3 (some .int) :: sw_tb) R_Mo := ⟨B.exec, B.bytes, hml, findClass_of_methodNamed B.named, atoms_spec (ws := (Cond.code yMo_putsKept prog_10_method_87_code 3 (some .int) :: sw_tb)) B.pre⟩
  have hr := B.returns
  have hlk := B.notSynchronized
  have hw := sw_begin hv
  have hl := lv_entry [.ref (ξ.2.2.2.1 84), .int a1, .int a2] (n := 3) (Nat.le_of_ble_eq_true rfl)
  rw [lg_entry_eq]
  generalize (lg_sl [.ref (ξ.2.2.2.1 84), .int a1, .int a2] ++ List.replicate (3 - (lg_sl [.ref (ξ.2.2.2.1 84), .int a1, .int a2]).length) Slot.unset).toArray = ls at hl ⊢
  have hl : lv_has ls 3 [(0, .ref (ξ.2.2.2.1 84)), (1, .int a1), (2, .int a2)] := hl
  unfold fMo_putsKept at hm
  refine lv_iload_n S.1 S.2.1 dMo_putsKept_0 rfl (lv_at hl 2 rfl) ?_
  obtain ⟨v2, h1, hm⟩ := ob hm
  refine sw_Si (rest := []) S hw (cMo_isPlace l  hf a2 h1) kMo_isPlace wm_Mo_148 rfl rfl hl.1 (Nat.le_of_ble_eq_true rfl) ⟨rfl, rfl, Nat.le_of_ble_eq_true rfl, Nat.le_of_ble_eq_true rfl⟩ ⟨Nat.le_of_ble_eq_true rfl, Nat.le_of_ble_eq_true rfl⟩ dMo_putsKept_1 (fun H locs hw _ => ?_)
  refine bif_ne (tgt := 9) S.1 S.2.1 hm dMo_putsKept_4 (by decide) (fun hm => ?_) (fun hm => ?_)
  · refine lv_aload_n S.1 S.2.1 dMo_putsKept_9 rfl (lv_at hl 0 rfl) ?_
    refine lv_iload_n S.1 S.2.1 dMo_putsKept_10 rfl (lv_at hl 1 rfl) ?_
    obtain ⟨⟨v5, μ4⟩, h3, hm⟩ := ob hm
    refine sw_Vi (q := 84) (rest := []) S hw (cMo_isClaim l  hf a1 h3) kMo_isClaim wm_Mo_135 (is_84 hf).1 (e_Mo (is_84 hf)) rfl rfl rfl rfl hl.1 (Nat.le_of_ble_eq_true rfl) ⟨rfl, rfl, Nat.le_of_ble_eq_true rfl, Nat.le_of_ble_eq_true rfl⟩ ⟨Nat.le_of_ble_eq_true rfl, Nat.le_of_ble_eq_true rfl⟩ dMo_putsKept_11 (fun H locs hw _ => ?_)
    refine bif_ne (tgt := 20) S.1 S.2.1 hm dMo_putsKept_14 (by decide) (fun hm => ?_) (fun hm => ?_)
    · refine lv_aload_n S.1 S.2.1 dMo_putsKept_20 rfl (lv_at hl 0 rfl) ?_
      refine lv_iload_n S.1 S.2.1 dMo_putsKept_21 rfl (lv_at hl 1 rfl) ?_
      refine lv_iload_n S.1 S.2.1 dMo_putsKept_22 rfl (lv_at hl 2 rfl) ?_
      obtain ⟨⟨v8, μ7⟩, h6, hm⟩ := ob hm
      refine sw_Vi (q := 84) (rest := []) S hw (cMo_canPut l N hf a1 a2 h6) kMo_canPut wm_Mo_356 (is_84 hf).1 (e_Mo (is_84 hf)) rfl rfl rfl rfl hl.1 (Nat.le_of_ble_eq_true rfl) ⟨rfl, rfl, Nat.le_of_ble_eq_true rfl, Nat.le_of_ble_eq_true rfl⟩ ⟨Nat.le_of_ble_eq_true rfl, Nat.le_of_ble_eq_true rfl⟩ dMo_putsKept_23 (fun H locs hw _ => ?_)
      refine bif_ne (tgt := 32) S.1 S.2.1 hm dMo_putsKept_26 (by decide) (fun hm => ?_) (fun hm => ?_)
      · refine lv_aload_n S.1 S.2.1 dMo_putsKept_32 rfl (lv_at hl 0 rfl) ?_
        refine lv_iconst (v := (0 : Int32)) S.1 S.2.1 dMo_putsKept_33 (by decide) ?_
        obtain ⟨μ10, h9, hm⟩ := ob hm
        refine sw_Vv (q := 84) (rest := []) S hw (cMo_keeps l N hf (0 : Int32) h9) kMo_keeps wm_Mo_359 (is_84 hf).1 (e_Mo (is_84 hf)) rfl rfl rfl rfl hl.1 (Nat.le_of_ble_eq_true rfl) ⟨rfl, rfl, Nat.le_of_ble_eq_true rfl, Nat.le_of_ble_eq_true rfl⟩ ⟨Nat.le_of_ble_eq_true rfl, Nat.le_of_ble_eq_true rfl⟩ dMo_putsKept_34 (fun H locs hw _ => ?_)
        refine lv_aload_n S.1 S.2.1 dMo_putsKept_37 rfl (lv_at hl 0 rfl) ?_
        refine get_Mo (v := .ref (ξ.2.2.2.1 86)) S hw (is_84 hf) 2 (by decide) rfl wf_Mo_28 dMo_putsKept_38 ?_
        refine lv_bipush (v := (7 : Int32)) S.1 S.2.1 dMo_putsKept_41 (by decide) ?_
        refine lv_iload_n S.1 S.2.1 dMo_putsKept_43 rfl (lv_at hl 1 rfl) ?_
        refine lv_iadd S.1 S.2.1 dMo_putsKept_44 ?_
        refine lv_iload_n S.1 S.2.1 dMo_putsKept_45 rfl (lv_at hl 2 rfl) ?_
        refine sm_iast S hw (is_86 hf) hm dMo_putsKept_46 (fun μ11 H locs hm hw => ?_)
        refine lv_aload_n S.1 S.2.1 dMo_putsKept_47 rfl (lv_at hl 0 rfl) ?_
        obtain ⟨⟨v14, μ13⟩, h12, hm⟩ := ob hm
        refine sw_Vi (q := 84) (rest := []) S hw (cMo_tiltNow l N hf  h12) kMo_tiltNow wm_Mo_154 (is_84 hf).1 (e_Mo (is_84 hf)) rfl rfl rfl rfl hl.1 (Nat.le_of_ble_eq_true rfl) ⟨rfl, rfl, Nat.le_of_ble_eq_true rfl, Nat.le_of_ble_eq_true rfl⟩ ⟨Nat.le_of_ble_eq_true rfl, Nat.le_of_ble_eq_true rfl⟩ dMo_putsKept_48 (fun H locs hw _ => ?_)
        obtain ⟨v16, h15, hm⟩ := ob hm
        refine sw_Si (rest := []) S hw (cMo_either l  hf v14 h15) kMo_either wm_Mo_163 rfl rfl hl.1 (Nat.le_of_ble_eq_true rfl) ⟨rfl, rfl, Nat.le_of_ble_eq_true rfl, Nat.le_of_ble_eq_true rfl⟩ ⟨Nat.le_of_ble_eq_true rfl, Nat.le_of_ble_eq_true rfl⟩ dMo_putsKept_51 (fun H locs hw _ => ?_)
        obtain rfl := Option.some.inj hm
        exact sw_iret S hr hlk hw trivial dMo_putsKept_54
      · refine lv_bipush (v := (-3 : Int32)) S.1 S.2.1 dMo_putsKept_29 (by decide) ?_
        obtain rfl := Option.some.inj hm
        exact sw_iret S hr hlk hw trivial dMo_putsKept_31
    · refine lv_bipush (v := (-2 : Int32)) S.1 S.2.1 dMo_putsKept_17 (by decide) ?_
      obtain rfl := Option.some.inj hm
      exact sw_iret S hr hlk hw trivial dMo_putsKept_19
  · refine lv_iconst (v := (-1 : Int32)) S.1 S.2.1 dMo_putsKept_7 (by decide) ?_
    obtain rfl := Option.some.inj hm
    exact sw_iret S hr hlk hw trivial dMo_putsKept_8
set_option maxHeartbeats 4000000 in
set_option maxRecDepth 100000 in
theorem cMo_takesKept (l : Launch) (N : Nat) {Γ : sw_C} {A : Nat → Prop} {ξ : sw_x} {g : sw_g} {μ : sw_m} (hf : sw_wf ξ g.2.2) (a1 : Int32) {res : Int32 × sw_m} (hm : fMo_takesKept N μ a1 = some res) : Met l yMo_takesKept (Cond.code yMo_takesKept prog_10_method_88_code 2 (some .int) :: sw_tb) rmMo_takesKept (va_Pc [.ref (ξ.2.2.2.1 84), .int a1] (sw_V Γ A ξ g μ)) (sw_Qi Γ A ξ g res.2 res.1 (True)) 0 0 A := by
  refine Met.ofW (cc := prog_10_method_88_code) (maxL := 2) (ret := some .int) (by decide) rfl ?_
  intro p e s m args below meth c s₁ B hml hv
  obtain ⟨rfl, hv⟩ := hv
  have S : CallFix p m c prog_10_method_88_code 2 s _ (Cond.code yMo_takesKept prog_10_method_88_code 2 (some .int) :: sw_tb) R_Mo := ⟨B.exec, B.bytes, hml, findClass_of_methodNamed B.named, atoms_spec (ws := (Cond.code yMo_takesKept prog_10_method_88_code 2 (some .int) :: sw_tb)) B.pre⟩
  have hr := B.returns
  have hlk := B.notSynchronized
  have hw := sw_begin hv
  have hl := lv_entry [.ref (ξ.2.2.2.1 84), .int a1] (n := 2) (Nat.le_of_ble_eq_true rfl)
  rw [lg_entry_eq]
  generalize (lg_sl [.ref (ξ.2.2.2.1 84), .int a1] ++ List.replicate (2 - (lg_sl [.ref (ξ.2.2.2.1 84), .int a1]).length) Slot.unset).toArray = ls at hl ⊢
  have hl : lv_has ls 2 [(0, .ref (ξ.2.2.2.1 84)), (1, .int a1)] := hl
  unfold fMo_takesKept at hm
  refine lv_aload_n S.1 S.2.1 dMo_takesKept_0 rfl (lv_at hl 0 rfl) ?_
  refine lv_iload_n S.1 S.2.1 dMo_takesKept_1 rfl (lv_at hl 1 rfl) ?_
  obtain ⟨⟨v3, μ2⟩, h1, hm⟩ := ob hm
  refine sw_Vi (q := 84) (rest := []) S hw (cMo_isClaim l  hf a1 h1) kMo_isClaim wm_Mo_135 (is_84 hf).1 (e_Mo (is_84 hf)) rfl rfl rfl rfl hl.1 (Nat.le_of_ble_eq_true rfl) ⟨rfl, rfl, Nat.le_of_ble_eq_true rfl, Nat.le_of_ble_eq_true rfl⟩ ⟨Nat.le_of_ble_eq_true rfl, Nat.le_of_ble_eq_true rfl⟩ dMo_takesKept_2 (fun H locs hw _ => ?_)
  refine bif_ne (tgt := 11) S.1 S.2.1 hm dMo_takesKept_5 (by decide) (fun hm => ?_) (fun hm => ?_)
  · refine lv_aload_n S.1 S.2.1 dMo_takesKept_11 rfl (lv_at hl 0 rfl) ?_
    refine lv_iload_n S.1 S.2.1 dMo_takesKept_12 rfl (lv_at hl 1 rfl) ?_
    obtain ⟨⟨v6, μ5⟩, h4, hm⟩ := ob hm
    refine sw_Vi (q := 84) (rest := []) S hw (cMo_isOn l  hf a1 h4) kMo_isOn wm_Mo_138 (is_84 hf).1 (e_Mo (is_84 hf)) rfl rfl rfl rfl hl.1 (Nat.le_of_ble_eq_true rfl) ⟨rfl, rfl, Nat.le_of_ble_eq_true rfl, Nat.le_of_ble_eq_true rfl⟩ ⟨Nat.le_of_ble_eq_true rfl, Nat.le_of_ble_eq_true rfl⟩ dMo_takesKept_13 (fun H locs hw _ => ?_)
    refine bif_ne (tgt := 22) S.1 S.2.1 hm dMo_takesKept_16 (by decide) (fun hm => ?_) (fun hm => ?_)
    · refine lv_aload_n S.1 S.2.1 dMo_takesKept_22 rfl (lv_at hl 0 rfl) ?_
      refine lv_iconst (v := (1 : Int32)) S.1 S.2.1 dMo_takesKept_23 (by decide) ?_
      obtain ⟨μ8, h7, hm⟩ := ob hm
      refine sw_Vv (q := 84) (rest := []) S hw (cMo_keeps l N hf (1 : Int32) h7) kMo_keeps wm_Mo_359 (is_84 hf).1 (e_Mo (is_84 hf)) rfl rfl rfl rfl hl.1 (Nat.le_of_ble_eq_true rfl) ⟨rfl, rfl, Nat.le_of_ble_eq_true rfl, Nat.le_of_ble_eq_true rfl⟩ ⟨Nat.le_of_ble_eq_true rfl, Nat.le_of_ble_eq_true rfl⟩ dMo_takesKept_24 (fun H locs hw _ => ?_)
      refine lv_aload_n S.1 S.2.1 dMo_takesKept_27 rfl (lv_at hl 0 rfl) ?_
      refine get_Mo (v := .ref (ξ.2.2.2.1 86)) S hw (is_84 hf) 2 (by decide) rfl wf_Mo_28 dMo_takesKept_28 ?_
      refine lv_bipush (v := (7 : Int32)) S.1 S.2.1 dMo_takesKept_31 (by decide) ?_
      refine lv_iload_n S.1 S.2.1 dMo_takesKept_33 rfl (lv_at hl 1 rfl) ?_
      refine lv_iadd S.1 S.2.1 dMo_takesKept_34 ?_
      refine lv_iconst (v := (-1 : Int32)) S.1 S.2.1 dMo_takesKept_35 (by decide) ?_
      refine sm_iast S hw (is_86 hf) hm dMo_takesKept_36 (fun μ9 H locs hm hw => ?_)
      refine lv_aload_n S.1 S.2.1 dMo_takesKept_37 rfl (lv_at hl 0 rfl) ?_
      obtain ⟨⟨v12, μ11⟩, h10, hm⟩ := ob hm
      refine sw_Vi (q := 84) (rest := []) S hw (cMo_tiltNow l N hf  h10) kMo_tiltNow wm_Mo_154 (is_84 hf).1 (e_Mo (is_84 hf)) rfl rfl rfl rfl hl.1 (Nat.le_of_ble_eq_true rfl) ⟨rfl, rfl, Nat.le_of_ble_eq_true rfl, Nat.le_of_ble_eq_true rfl⟩ ⟨Nat.le_of_ble_eq_true rfl, Nat.le_of_ble_eq_true rfl⟩ dMo_takesKept_38 (fun H locs hw _ => ?_)
      obtain ⟨v14, h13, hm⟩ := ob hm
      refine sw_Si (rest := []) S hw (cMo_either l  hf v12 h13) kMo_either wm_Mo_163 rfl rfl hl.1 (Nat.le_of_ble_eq_true rfl) ⟨rfl, rfl, Nat.le_of_ble_eq_true rfl, Nat.le_of_ble_eq_true rfl⟩ ⟨Nat.le_of_ble_eq_true rfl, Nat.le_of_ble_eq_true rfl⟩ dMo_takesKept_41 (fun H locs hw _ => ?_)
      obtain rfl := Option.some.inj hm
      exact sw_iret S hr hlk hw trivial dMo_takesKept_44
    · refine lv_bipush (v := (-3 : Int32)) S.1 S.2.1 dMo_takesKept_19 (by decide) ?_
      obtain rfl := Option.some.inj hm
      exact sw_iret S hr hlk hw trivial dMo_takesKept_21
  · refine lv_bipush (v := (-2 : Int32)) S.1 S.2.1 dMo_takesKept_8 (by decide) ?_
    obtain rfl := Option.some.inj hm
    exact sw_iret S hr hlk hw trivial dMo_takesKept_10
set_option maxHeartbeats 4000000 in
set_option maxRecDepth 100000 in
theorem cMo_passesKept (l : Launch) (N : Nat) {Γ : sw_C} {A : Nat → Prop} {ξ : sw_x} {g : sw_g} {μ : sw_m} (hf : sw_wf ξ g.2.2) {res : Int32 × sw_m} (hm : fMo_passesKept N μ = some res) : Met l yMo_passesKept (Cond.code yMo_passesKept prog_10_method_90_code 1 (some .int) :: sw_tb) rmMo_passesKept (va_Pc [.ref (ξ.2.2.2.1 84)] (sw_V Γ A ξ g μ)) (sw_Qi Γ A ξ g res.2 res.1 (True)) 0 0 A := by
  refine Met.ofW (cc := prog_10_method_90_code) (maxL := 1) (ret := some .int) (by decide) rfl ?_
  intro p e s m args below meth c s₁ B hml hv
  obtain ⟨rfl, hv⟩ := hv
  have S : CallFix p m c prog_10_method_90_code 1 s _ (Cond.code yMo_passesKept prog_10_method_90_code 1 (some .int) :: sw_tb) R_Mo := ⟨B.exec, B.bytes, hml, findClass_of_methodNamed B.named, atoms_spec (ws := (Cond.code yMo_passesKept prog_10_method_90_code 1 (some .int) :: sw_tb)) B.pre⟩
  have hr := B.returns
  have hlk := B.notSynchronized
  have hw := sw_begin hv
  have hl := lv_entry [.ref (ξ.2.2.2.1 84)] (n := 1) (Nat.le_of_ble_eq_true rfl)
  rw [lg_entry_eq]
  generalize (lg_sl [.ref (ξ.2.2.2.1 84)] ++ List.replicate (1 - (lg_sl [.ref (ξ.2.2.2.1 84)]).length) Slot.unset).toArray = ls at hl ⊢
  have hl : lv_has ls 1 [(0, .ref (ξ.2.2.2.1 84))] := hl
  unfold fMo_passesKept at hm
  refine lv_aload_n S.1 S.2.1 dMo_passesKept_0 rfl (lv_at hl 0 rfl) ?_
  refine get_Mo (v := .ref (ξ.2.2.2.1 86)) S hw (is_84 hf) 2 (by decide) rfl wf_Mo_28 dMo_passesKept_1 ?_
  refine lv_bipush (v := (14 : Int32)) S.1 S.2.1 dMo_passesKept_4 (by decide) ?_
  refine sm_iald S hw (is_86 hf) hm dMo_passesKept_6 (fun v1 hm => ?_)
  refine lv_sipush (v := (999 : Int32)) S.1 S.2.1 dMo_passesKept_7 (by decide) ?_
  refine bicmp_ne (tgt := 16) S.1 S.2.1 hm dMo_passesKept_10 (by decide) (fun hm => ?_) (fun hm => ?_)
  · refine lv_aload_n S.1 S.2.1 dMo_passesKept_16 rfl (lv_at hl 0 rfl) ?_
    refine lv_iconst (v := (3 : Int32)) S.1 S.2.1 dMo_passesKept_17 (by decide) ?_
    obtain ⟨μ3, h2, hm⟩ := ob hm
    refine sw_Vv (q := 84) (rest := []) S hw (cMo_keeps l N hf (3 : Int32) h2) kMo_keeps wm_Mo_359 (is_84 hf).1 (e_Mo (is_84 hf)) rfl rfl rfl rfl hl.1 (Nat.le_of_ble_eq_true rfl) ⟨rfl, rfl, Nat.le_of_ble_eq_true rfl, Nat.le_of_ble_eq_true rfl⟩ ⟨Nat.le_of_ble_eq_true rfl, Nat.le_of_ble_eq_true rfl⟩ dMo_passesKept_18 (fun H locs hw _ => ?_)
    refine lv_aload_n S.1 S.2.1 dMo_passesKept_21 rfl (lv_at hl 0 rfl) ?_
    obtain ⟨⟨v6, μ5⟩, h4, hm⟩ := ob hm
    refine sw_Vi (q := 84) (rest := []) S hw (cMo_dayPasses l N hf  h4) kMo_dayPasses wm_Mo_362 (is_84 hf).1 (e_Mo (is_84 hf)) rfl rfl rfl rfl hl.1 (Nat.le_of_ble_eq_true rfl) ⟨rfl, rfl, Nat.le_of_ble_eq_true rfl, Nat.le_of_ble_eq_true rfl⟩ ⟨Nat.le_of_ble_eq_true rfl, Nat.le_of_ble_eq_true rfl⟩ dMo_passesKept_22 (fun H locs hw _ => ?_)
    obtain rfl := Option.some.inj hm
    exact sw_iret S hr hlk hw trivial dMo_passesKept_25
  · refine lv_bipush (v := (-3 : Int32)) S.1 S.2.1 dMo_passesKept_13 (by decide) ?_
    obtain rfl := Option.some.inj hm
    exact sw_iret S hr hlk hw trivial dMo_passesKept_15
set_option maxHeartbeats 4000000 in
set_option maxRecDepth 100000 in
theorem cMo_put (l : Launch) (N : Nat) {Γ : sw_C} {A : Nat → Prop} {ξ : sw_x} {g : sw_g} {μ : sw_m} (hf : sw_wf ξ g.2.2) (a1 : Int32) (a2 : Int32) {res : Int32 × sw_m} (hm : fMo_put N μ a1 a2 = some res) : Met l yMo_put (Cond.code yMo_put prog_10_method_91_code 3 (some .int) :: sw_tb) rmMo_put (va_Pc [.ref (ξ.2.2.2.1 84), .int a1, .int a2] (sw_V Γ A ξ g μ)) (sw_Qi Γ A ξ g res.2 res.1 (True)) 0 0 A := by
  refine Met.ofW (cc := prog_10_method_91_code) (maxL := 3) (ret := some .int) (by decide) rfl ?_
  intro p e s m args below meth c s₁ B hml hv
  obtain ⟨rfl, hv⟩ := hv
  have S : CallFix p m c prog_10_method_91_code 3 s _ (Cond.code yMo_put prog_10_method_91_code 3 (some .int) :: sw_tb) R_Mo := ⟨B.exec, B.bytes, hml, findClass_of_methodNamed B.named, atoms_spec (ws := (Cond.code yMo_put prog_10_method_91_code 3 (some .int) :: sw_tb)) B.pre⟩
  have hr := B.returns
  have hlk := B.notSynchronized
  have hw := sw_begin hv
  have hl := lv_entry [.ref (ξ.2.2.2.1 84), .int a1, .int a2] (n := 3) (Nat.le_of_ble_eq_true rfl)
  rw [lg_entry_eq]
  generalize (lg_sl [.ref (ξ.2.2.2.1 84), .int a1, .int a2] ++ List.replicate (3 - (lg_sl [.ref (ξ.2.2.2.1 84), .int a1, .int a2]).length) Slot.unset).toArray = ls at hl ⊢
  have hl : lv_has ls 3 [(0, .ref (ξ.2.2.2.1 84)), (1, .int a1), (2, .int a2)] := hl
  unfold fMo_put at hm
  refine lv_aload_n S.1 S.2.1 dMo_put_0 rfl (lv_at hl 0 rfl) ?_
  refine lv_aload_n S.1 S.2.1 dMo_put_1 rfl (lv_at hl 0 rfl) ?_
  refine lv_iload_n S.1 S.2.1 dMo_put_2 rfl (lv_at hl 1 rfl) ?_
  refine lv_iload_n S.1 S.2.1 dMo_put_3 rfl (lv_at hl 2 rfl) ?_
  obtain ⟨⟨v3, μ2⟩, h1, hm⟩ := ob hm
  refine sw_Vi (q := 84) (rest := [.ref (ξ.2.2.2.1 84)]) S hw (cMo_putsKept l N hf a1 a2 h1) kMo_putsKept wm_Mo_365 (is_84 hf).1 (e_Mo (is_84 hf)) rfl rfl rfl rfl hl.1 (Nat.le_of_ble_eq_true rfl) ⟨rfl, rfl, Nat.le_of_ble_eq_true rfl, Nat.le_of_ble_eq_true rfl⟩ ⟨Nat.le_of_ble_eq_true rfl, Nat.le_of_ble_eq_true rfl⟩ dMo_put_4 (fun H locs hw _ => ?_)
  obtain ⟨⟨v6, μ5⟩, h4, hm⟩ := ob hm
  refine sw_Vi (q := 84) (rest := []) S hw (cMo_goodOr l  hf v3 h4) kMo_goodOr wm_Mo_368 (is_84 hf).1 (e_Mo (is_84 hf)) rfl rfl rfl rfl hl.1 (Nat.le_of_ble_eq_true rfl) ⟨rfl, rfl, Nat.le_of_ble_eq_true rfl, Nat.le_of_ble_eq_true rfl⟩ ⟨Nat.le_of_ble_eq_true rfl, Nat.le_of_ble_eq_true rfl⟩ dMo_put_7 (fun H locs hw _ => ?_)
  obtain rfl := Option.some.inj hm
  exact sw_iret S hr hlk hw trivial dMo_put_10
set_option maxHeartbeats 4000000 in
set_option maxRecDepth 100000 in
theorem cMo_take (l : Launch) (N : Nat) {Γ : sw_C} {A : Nat → Prop} {ξ : sw_x} {g : sw_g} {μ : sw_m} (hf : sw_wf ξ g.2.2) (a1 : Int32) {res : Int32 × sw_m} (hm : fMo_take N μ a1 = some res) : Met l yMo_take (Cond.code yMo_take prog_10_method_92_code 2 (some .int) :: sw_tb) rmMo_take (va_Pc [.ref (ξ.2.2.2.1 84), .int a1] (sw_V Γ A ξ g μ)) (sw_Qi Γ A ξ g res.2 res.1 (True)) 0 0 A := by
  refine Met.ofW (cc := prog_10_method_92_code) (maxL := 2) (ret := some .int) (by decide) rfl ?_
  intro p e s m args below meth c s₁ B hml hv
  obtain ⟨rfl, hv⟩ := hv
  have S : CallFix p m c prog_10_method_92_code 2 s _ (Cond.code yMo_take prog_10_method_92_code 2 (some .int) :: sw_tb) R_Mo := ⟨B.exec, B.bytes, hml, findClass_of_methodNamed B.named, atoms_spec (ws := (Cond.code yMo_take prog_10_method_92_code 2 (some .int) :: sw_tb)) B.pre⟩
  have hr := B.returns
  have hlk := B.notSynchronized
  have hw := sw_begin hv
  have hl := lv_entry [.ref (ξ.2.2.2.1 84), .int a1] (n := 2) (Nat.le_of_ble_eq_true rfl)
  rw [lg_entry_eq]
  generalize (lg_sl [.ref (ξ.2.2.2.1 84), .int a1] ++ List.replicate (2 - (lg_sl [.ref (ξ.2.2.2.1 84), .int a1]).length) Slot.unset).toArray = ls at hl ⊢
  have hl : lv_has ls 2 [(0, .ref (ξ.2.2.2.1 84)), (1, .int a1)] := hl
  unfold fMo_take at hm
  refine lv_aload_n S.1 S.2.1 dMo_take_0 rfl (lv_at hl 0 rfl) ?_
  refine lv_aload_n S.1 S.2.1 dMo_take_1 rfl (lv_at hl 0 rfl) ?_
  refine lv_iload_n S.1 S.2.1 dMo_take_2 rfl (lv_at hl 1 rfl) ?_
  obtain ⟨⟨v3, μ2⟩, h1, hm⟩ := ob hm
  refine sw_Vi (q := 84) (rest := [.ref (ξ.2.2.2.1 84)]) S hw (cMo_takesKept l N hf a1 h1) kMo_takesKept wm_Mo_371 (is_84 hf).1 (e_Mo (is_84 hf)) rfl rfl rfl rfl hl.1 (Nat.le_of_ble_eq_true rfl) ⟨rfl, rfl, Nat.le_of_ble_eq_true rfl, Nat.le_of_ble_eq_true rfl⟩ ⟨Nat.le_of_ble_eq_true rfl, Nat.le_of_ble_eq_true rfl⟩ dMo_take_3 (fun H locs hw _ => ?_)
  obtain ⟨⟨v6, μ5⟩, h4, hm⟩ := ob hm
  refine sw_Vi (q := 84) (rest := []) S hw (cMo_goodOr l  hf v3 h4) kMo_goodOr wm_Mo_368 (is_84 hf).1 (e_Mo (is_84 hf)) rfl rfl rfl rfl hl.1 (Nat.le_of_ble_eq_true rfl) ⟨rfl, rfl, Nat.le_of_ble_eq_true rfl, Nat.le_of_ble_eq_true rfl⟩ ⟨Nat.le_of_ble_eq_true rfl, Nat.le_of_ble_eq_true rfl⟩ dMo_take_6 (fun H locs hw _ => ?_)
  obtain rfl := Option.some.inj hm
  exact sw_iret S hr hlk hw trivial dMo_take_9
set_option maxHeartbeats 4000000 in
set_option maxRecDepth 100000 in
theorem cMo_pass (l : Launch) (N : Nat) {Γ : sw_C} {A : Nat → Prop} {ξ : sw_x} {g : sw_g} {μ : sw_m} (hf : sw_wf ξ g.2.2) {res : Int32 × sw_m} (hm : fMo_pass N μ = some res) : Met l yMo_pass (Cond.code yMo_pass prog_10_method_94_code 1 (some .int) :: sw_tb) rmMo_pass (va_Pc [.ref (ξ.2.2.2.1 84)] (sw_V Γ A ξ g μ)) (sw_Qi Γ A ξ g res.2 res.1 (True)) 0 0 A := by
  refine Met.ofW (cc := prog_10_method_94_code) (maxL := 1) (ret := some .int) (by decide) rfl ?_
  intro p e s m args below meth c s₁ B hml hv
  obtain ⟨rfl, hv⟩ := hv
  have S : CallFix p m c prog_10_method_94_code 1 s _ (Cond.code yMo_pass prog_10_method_94_code 1 (some .int) :: sw_tb) R_Mo := ⟨B.exec, B.bytes, hml, findClass_of_methodNamed B.named, atoms_spec (ws := (Cond.code yMo_pass prog_10_method_94_code 1 (some .int) :: sw_tb)) B.pre⟩
  have hr := B.returns
  have hlk := B.notSynchronized
  have hw := sw_begin hv
  have hl := lv_entry [.ref (ξ.2.2.2.1 84)] (n := 1) (Nat.le_of_ble_eq_true rfl)
  rw [lg_entry_eq]
  generalize (lg_sl [.ref (ξ.2.2.2.1 84)] ++ List.replicate (1 - (lg_sl [.ref (ξ.2.2.2.1 84)]).length) Slot.unset).toArray = ls at hl ⊢
  have hl : lv_has ls 1 [(0, .ref (ξ.2.2.2.1 84))] := hl
  unfold fMo_pass at hm
  refine lv_aload_n S.1 S.2.1 dMo_pass_0 rfl (lv_at hl 0 rfl) ?_
  refine lv_aload_n S.1 S.2.1 dMo_pass_1 rfl (lv_at hl 0 rfl) ?_
  obtain ⟨⟨v3, μ2⟩, h1, hm⟩ := ob hm
  refine sw_Vi (q := 84) (rest := [.ref (ξ.2.2.2.1 84)]) S hw (cMo_passesKept l N hf  h1) kMo_passesKept wm_Mo_377 (is_84 hf).1 (e_Mo (is_84 hf)) rfl rfl rfl rfl hl.1 (Nat.le_of_ble_eq_true rfl) ⟨rfl, rfl, Nat.le_of_ble_eq_true rfl, Nat.le_of_ble_eq_true rfl⟩ ⟨Nat.le_of_ble_eq_true rfl, Nat.le_of_ble_eq_true rfl⟩ dMo_pass_2 (fun H locs hw _ => ?_)
  obtain ⟨⟨v6, μ5⟩, h4, hm⟩ := ob hm
  refine sw_Vi (q := 84) (rest := []) S hw (cMo_goodOr l  hf v3 h4) kMo_goodOr wm_Mo_368 (is_84 hf).1 (e_Mo (is_84 hf)) rfl rfl rfl rfl hl.1 (Nat.le_of_ble_eq_true rfl) ⟨rfl, rfl, Nat.le_of_ble_eq_true rfl, Nat.le_of_ble_eq_true rfl⟩ ⟨Nat.le_of_ble_eq_true rfl, Nat.le_of_ble_eq_true rfl⟩ dMo_pass_5 (fun H locs hw _ => ?_)
  obtain rfl := Option.some.inj hm
  exact sw_iret S hr hlk hw trivial dMo_pass_8
set_option maxHeartbeats 4000000 in
set_option maxRecDepth 100000 in
theorem wMo_laysPulls_12 {l : Launch} {p : Program} {e : Env} {s : State} {m : MethodId} {args : Array Value} {below : List Frame} {meth : Method} {c : Code} {Γ : sw_C} {A : Nat → Prop} {ξ : sw_x} {g : sw_g} {res : sw_m} (S : CallFix p m c prog_10_method_95_code 3 s args (Cond.code yMo_laysPulls prog_10_method_95_code 3 (none) :: sw_tb) R_Mo) (hr : meth.sig.returnType = none) (hlk : meth.locks = false) (hf : sw_wf ξ g.2.2) (N : Nat) (k2 : sw_m → Int32 → Option (sw_m)) (hk2 : ∀ (μ : sw_m) (u1 : Int32) (H : Heap) (locs : List Loc) (ls : Array Slot), k2 μ u1 = some res → sw_S Γ A ξ g μ s H locs → lv_has ls 3 [(0, .ref (ξ.2.2.2.1 84)), (1, .int u1)] → W p l e (headSpec (Cond.code yMo_laysPulls prog_10_method_95_code 3 (none) :: sw_tb) rmMo_laysPulls).room s m args below meth c H locs 0 0 (MQ below (sw_Qv Γ A ξ g res (True)) args s 0 0 A) (F0 m 2 ls [])) : ∀ (fu : Nat) (μ : sw_m) (u1 : Int32) (u2 : Int32) (H : Heap) (locs : List Loc) (ls : Array Slot), fMo_laysPulls_12 N  k2 fu μ u1 u2 = some res → sw_S Γ A ξ g μ s H locs → lv_has ls 3 [(0, .ref (ξ.2.2.2.1 84)), (1, .int u1), (2, .int u2)] → W p l e (headSpec (Cond.code yMo_laysPulls prog_10_method_95_code 3 (none) :: sw_tb) rmMo_laysPulls).room s m args below meth c H locs 0 0 (MQ below (sw_Qv Γ A ξ g res (True)) args s 0 0 A) (F0 m 12 ls []) := by
  intro fu
  induction fu with
  | zero => intro μ u1 u2 H locs ls hm; rw [fMo_laysPulls_12.eq_1] at hm; cases hm
  | succ fu ih =>
    intro μ u1 u2 H locs ls hm hw hl
    rw [fMo_laysPulls_12.eq_2] at hm
    refine lv_iload_n S.1 S.2.1 dMo_laysPulls_12 rfl (lv_at hl 2 rfl) ?_
    refine lv_bipush (v := (7 : Int32)) S.1 S.2.1 dMo_laysPulls_13 (by decide) ?_
    refine bicmp_ge (tgt := 63) S.1 S.2.1 hm dMo_laysPulls_15 (by decide) (fun hm => ?_) (fun hm => ?_)
    · obtain ⟨x4, ex4, hm⟩ := nm_x hm
      refine lv_iinc (v := x4) (lv' := [(1, .int x4), (0, .ref (ξ.2.2.2.1 84)), (2, .int u2)]) S.1 S.2.1 dMo_laysPulls_63 hl (k := 1) rfl (by rw [ex4]; rfl) (by decide) rfl (fun ls hl => ?_)
      refine lv_goto (tgt := 2) S.1 S.2.1 dMo_laysPulls_66 (by decide) ?_
      exact hk2 μ x4 _ _ _ hm hw (lv_sub hl [1, 0] rfl)
    · refine lv_aload_n S.1 S.2.1 dMo_laysPulls_18 rfl (lv_at hl 0 rfl) ?_
      refine get_Mo (v := .ref (ξ.2.2.2.1 100)) S hw (is_84 hf) 34 (by decide) rfl wf_Mo_75 dMo_laysPulls_19 ?_
      refine lv_bipush (v := (7 : Int32)) S.1 S.2.1 dMo_laysPulls_22 (by decide) ?_
      refine lv_iload_n S.1 S.2.1 dMo_laysPulls_24 rfl (lv_at hl 1 rfl) ?_
      refine lv_imul S.1 S.2.1 dMo_laysPulls_25 ?_
      refine lv_iload_n S.1 S.2.1 dMo_laysPulls_26 rfl (lv_at hl 2 rfl) ?_
      refine lv_iadd S.1 S.2.1 dMo_laysPulls_27 ?_
      refine lv_aload_n S.1 S.2.1 dMo_laysPulls_28 rfl (lv_at hl 0 rfl) ?_
      refine lv_iload_n S.1 S.2.1 dMo_laysPulls_29 rfl (lv_at hl 1 rfl) ?_
      refine lv_iload_n S.1 S.2.1 dMo_laysPulls_30 rfl (lv_at hl 2 rfl) ?_
      obtain ⟨⟨v7, μ6⟩, h5, hm⟩ := ob hm
      refine sw_Vi (q := 84) (rest := [.int (((7 : Int32) * u1) + u2), .ref (ξ.2.2.2.1 100)]) S hw (cMo_countsAt l N hf u1 u2 h5) kMo_countsAt wm_Mo_141 (is_84 hf).1 (e_Mo (is_84 hf)) rfl rfl rfl rfl hl.1 (Nat.le_of_ble_eq_true rfl) ⟨rfl, rfl, Nat.le_of_ble_eq_true rfl, Nat.le_of_ble_eq_true rfl⟩ ⟨Nat.le_of_ble_eq_true rfl, Nat.le_of_ble_eq_true rfl⟩ dMo_laysPulls_31 (fun H locs hw _ => ?_)
      refine lv_iload_n S.1 S.2.1 dMo_laysPulls_34 rfl (lv_at hl 2 rfl) ?_
      obtain ⟨v9, h8, hm⟩ := ob hm
      refine sw_Si (rest := [.int v7, .int (((7 : Int32) * u1) + u2), .ref (ξ.2.2.2.1 100)]) S hw (cMo_armOf l  hf u2 h8) kMo_armOf wm_Mo_160 rfl rfl hl.1 (Nat.le_of_ble_eq_true rfl) ⟨rfl, rfl, Nat.le_of_ble_eq_true rfl, Nat.le_of_ble_eq_true rfl⟩ ⟨Nat.le_of_ble_eq_true rfl, Nat.le_of_ble_eq_true rfl⟩ dMo_laysPulls_35 (fun H locs hw _ => ?_)
      refine lv_imul S.1 S.2.1 dMo_laysPulls_38 ?_
      refine sm_iast S hw (is_100 hf) hm dMo_laysPulls_39 (fun μ10 H locs hm hw => ?_)
      refine lv_aload_n S.1 S.2.1 dMo_laysPulls_40 rfl (lv_at hl 0 rfl) ?_
      refine get_Mo (v := .ref (ξ.2.2.2.1 101)) S hw (is_84 hf) 35 (by decide) rfl wf_Mo_78 dMo_laysPulls_41 ?_
      refine lv_bipush (v := (7 : Int32)) S.1 S.2.1 dMo_laysPulls_44 (by decide) ?_
      refine lv_iload_n S.1 S.2.1 dMo_laysPulls_46 rfl (lv_at hl 1 rfl) ?_
      refine lv_imul S.1 S.2.1 dMo_laysPulls_47 ?_
      refine lv_iload_n S.1 S.2.1 dMo_laysPulls_48 rfl (lv_at hl 2 rfl) ?_
      refine lv_iadd S.1 S.2.1 dMo_laysPulls_49 ?_
      refine lv_aload_n S.1 S.2.1 dMo_laysPulls_50 rfl (lv_at hl 0 rfl) ?_
      refine lv_iload_n S.1 S.2.1 dMo_laysPulls_51 rfl (lv_at hl 1 rfl) ?_
      refine lv_iload_n S.1 S.2.1 dMo_laysPulls_52 rfl (lv_at hl 2 rfl) ?_
      obtain ⟨⟨v13, μ12⟩, h11, hm⟩ := ob hm
      refine sw_Vi (q := 84) (rest := [.int (((7 : Int32) * u1) + u2), .ref (ξ.2.2.2.1 101)]) S hw (cMo_isBarred l N hf u1 u2 h11) kMo_isBarred wm_Mo_151 (is_84 hf).1 (e_Mo (is_84 hf)) rfl rfl rfl rfl hl.1 (Nat.le_of_ble_eq_true rfl) ⟨rfl, rfl, Nat.le_of_ble_eq_true rfl, Nat.le_of_ble_eq_true rfl⟩ ⟨Nat.le_of_ble_eq_true rfl, Nat.le_of_ble_eq_true rfl⟩ dMo_laysPulls_53 (fun H locs hw _ => ?_)
      refine sm_zast S hw (is_101 hf) hm dMo_laysPulls_56 (fun μ14 H locs hm hw => ?_)
      obtain ⟨x15, ex15, hm⟩ := nm_x hm
      refine lv_iinc (v := x15) (lv' := [(2, .int x15), (0, .ref (ξ.2.2.2.1 84)), (1, .int u1)]) S.1 S.2.1 dMo_laysPulls_57 hl (k := 2) rfl (by rw [ex15]; rfl) (by decide) rfl (fun ls hl => ?_)
      refine lv_goto (tgt := 12) S.1 S.2.1 dMo_laysPulls_60 (by decide) ?_
      exact ih μ14 u1 x15 _ _ _ hm hw (lv_sub hl [1, 2, 0] rfl)
set_option maxHeartbeats 4000000 in
set_option maxRecDepth 100000 in
theorem wMo_laysPulls_2 {l : Launch} {p : Program} {e : Env} {s : State} {m : MethodId} {args : Array Value} {below : List Frame} {meth : Method} {c : Code} {Γ : sw_C} {A : Nat → Prop} {ξ : sw_x} {g : sw_g} {res : sw_m} (S : CallFix p m c prog_10_method_95_code 3 s args (Cond.code yMo_laysPulls prog_10_method_95_code 3 (none) :: sw_tb) R_Mo) (hr : meth.sig.returnType = none) (hlk : meth.locks = false) (hf : sw_wf ξ g.2.2) (N : Nat) : ∀ (fu : Nat) (μ : sw_m) (u1 : Int32) (H : Heap) (locs : List Loc) (ls : Array Slot), fMo_laysPulls_2 N   fu μ u1 = some res → sw_S Γ A ξ g μ s H locs → lv_has ls 3 [(0, .ref (ξ.2.2.2.1 84)), (1, .int u1)] → W p l e (headSpec (Cond.code yMo_laysPulls prog_10_method_95_code 3 (none) :: sw_tb) rmMo_laysPulls).room s m args below meth c H locs 0 0 (MQ below (sw_Qv Γ A ξ g res (True)) args s 0 0 A) (F0 m 2 ls []) := by
  intro fu
  induction fu with
  | zero => intro μ u1 H locs ls hm; rw [fMo_laysPulls_2.eq_1] at hm; cases hm
  | succ fu ih =>
    intro μ u1 H locs ls hm hw hl
    rw [fMo_laysPulls_2.eq_2] at hm
    refine lv_iload_n S.1 S.2.1 dMo_laysPulls_2 rfl (lv_at hl 1 rfl) ?_
    refine lv_aload_n S.1 S.2.1 dMo_laysPulls_3 rfl (lv_at hl 0 rfl) ?_
    obtain ⟨⟨v3, μ2⟩, h1, hm⟩ := ob hm
    refine sw_Vi (q := 84) (rest := [.int u1]) S hw (cMo_many l  hf  h1) kMo_many wm_Mo_119 (is_84 hf).1 (e_Mo (is_84 hf)) rfl rfl rfl rfl hl.1 (Nat.le_of_ble_eq_true rfl) ⟨rfl, rfl, Nat.le_of_ble_eq_true rfl, Nat.le_of_ble_eq_true rfl⟩ ⟨Nat.le_of_ble_eq_true rfl, Nat.le_of_ble_eq_true rfl⟩ dMo_laysPulls_4 (fun H locs hw _ => ?_)
    refine bicmp_ge (tgt := 69) S.1 S.2.1 hm dMo_laysPulls_7 (by decide) (fun hm => ?_) (fun hm => ?_)
    · obtain rfl := Option.some.inj hm
      exact sw_vret S hr hlk hw trivial dMo_laysPulls_69
    · refine lv_iconst (v := (0 : Int32)) S.1 S.2.1 dMo_laysPulls_10 (by decide) ?_
      refine lv_istore_n (lv' := [(2, .int (0 : Int32)), (0, .ref (ξ.2.2.2.1 84)), (1, .int u1)]) S.1 S.2.1 dMo_laysPulls_11 rfl hl (by decide) rfl (fun ls hl => ?_)
      exact wMo_laysPulls_12 S hr hlk hf N (fMo_laysPulls_2 N   fu) ih N μ2 u1 (0 : Int32) _ _ _ hm hw (lv_sub hl [1, 2, 0] rfl)
set_option maxHeartbeats 4000000 in
set_option maxRecDepth 100000 in
theorem cMo_laysPulls (l : Launch) (N : Nat) {Γ : sw_C} {A : Nat → Prop} {ξ : sw_x} {g : sw_g} {μ : sw_m} (hf : sw_wf ξ g.2.2) {res : sw_m} (hm : fMo_laysPulls N μ = some res) : Met l yMo_laysPulls (Cond.code yMo_laysPulls prog_10_method_95_code 3 (none) :: sw_tb) rmMo_laysPulls (va_Pc [.ref (ξ.2.2.2.1 84)] (sw_V Γ A ξ g μ)) (sw_Qv Γ A ξ g res (True)) 0 0 A := by
  refine Met.ofW (cc := prog_10_method_95_code) (maxL := 3) (ret := none) (by decide) rfl ?_
  intro p e s m args below meth c s₁ B hml hv
  obtain ⟨rfl, hv⟩ := hv
  have S : CallFix p m c prog_10_method_95_code 3 s _ (Cond.code yMo_laysPulls prog_10_method_95_code 3 (none) :: sw_tb) R_Mo := ⟨B.exec, B.bytes, hml, findClass_of_methodNamed B.named, atoms_spec (ws := (Cond.code yMo_laysPulls prog_10_method_95_code 3 (none) :: sw_tb)) B.pre⟩
  have hr := B.returns
  have hlk := B.notSynchronized
  have hw := sw_begin hv
  have hl := lv_entry [.ref (ξ.2.2.2.1 84)] (n := 3) (Nat.le_of_ble_eq_true rfl)
  rw [lg_entry_eq]
  generalize (lg_sl [.ref (ξ.2.2.2.1 84)] ++ List.replicate (3 - (lg_sl [.ref (ξ.2.2.2.1 84)]).length) Slot.unset).toArray = ls at hl ⊢
  have hl : lv_has ls 3 [(0, .ref (ξ.2.2.2.1 84))] := hl
  unfold fMo_laysPulls at hm
  refine lv_iconst (v := (0 : Int32)) S.1 S.2.1 dMo_laysPulls_0 (by decide) ?_
  refine lv_istore_n (lv' := [(1, .int (0 : Int32)), (0, .ref (ξ.2.2.2.1 84))]) S.1 S.2.1 dMo_laysPulls_1 rfl hl (by decide) rfl (fun ls hl => ?_)
  exact wMo_laysPulls_2 S hr hlk hf N  N μ (0 : Int32) _ _ _ hm hw (lv_sub hl [1, 0] rfl)
set_option maxHeartbeats 4000000 in
set_option maxRecDepth 100000 in
theorem wMo_laysBest_78 {l : Launch} {p : Program} {e : Env} {s : State} {m : MethodId} {args : Array Value} {below : List Frame} {meth : Method} {c : Code} {Γ : sw_C} {A : Nat → Prop} {ξ : sw_x} {g : sw_g} {res : sw_m} (S : CallFix p m c prog_10_method_102_code 5 s args (Cond.code yMo_laysBest prog_10_method_102_code 5 (none) :: sw_tb) R_Mo) (hr : meth.sig.returnType = none) (hlk : meth.locks = false) (hf : sw_wf ξ g.2.2) (N : Nat) (k68 : sw_m → Int32 → Int32 → Option (sw_m)) (hk68 : ∀ (μ : sw_m) (u2 : Int32) (u3 : Int32) (H : Heap) (locs : List Loc) (ls : Array Slot), k68 μ u2 u3 = some res → sw_S Γ A ξ g μ s H locs → lv_has ls 5 [(0, .ref (ξ.2.2.2.1 84)), (2, .int u2), (3, .int u3)] → W p l e (headSpec (Cond.code yMo_laysBest prog_10_method_102_code 5 (none) :: sw_tb) rmMo_laysBest).room s m args below meth c H locs 0 0 (MQ below (sw_Qv Γ A ξ g res (True)) args s 0 0 A) (F0 m 68 ls [])) : ∀ (fu : Nat) (μ : sw_m) (u2 : Int32) (u3 : Int32) (u4 : Int32) (H : Heap) (locs : List Loc) (ls : Array Slot), fMo_laysBest_78 N  k68 fu μ u2 u3 u4 = some res → sw_S Γ A ξ g μ s H locs → lv_has ls 5 [(0, .ref (ξ.2.2.2.1 84)), (2, .int u2), (3, .int u3), (4, .int u4)] → W p l e (headSpec (Cond.code yMo_laysBest prog_10_method_102_code 5 (none) :: sw_tb) rmMo_laysBest).room s m args below meth c H locs 0 0 (MQ below (sw_Qv Γ A ξ g res (True)) args s 0 0 A) (F0 m 78 ls []) := by
  intro fu
  induction fu with
  | zero => intro μ u2 u3 u4 H locs ls hm; rw [fMo_laysBest_78.eq_1] at hm; cases hm
  | succ fu ih =>
    intro μ u2 u3 u4 H locs ls hm hw hl
    rw [fMo_laysBest_78.eq_2] at hm
    refine lv_iload S.1 S.2.1 dMo_laysBest_78 (lv_at hl 3 rfl) ?_
    refine lv_iload_n S.1 S.2.1 dMo_laysBest_80 rfl (lv_at hl 1 rfl) ?_
    refine lv_iload_n S.1 S.2.1 dMo_laysBest_81 rfl (lv_at hl 2 rfl) ?_
    refine lv_imul S.1 S.2.1 dMo_laysBest_82 ?_
    refine bicmp_gt (tgt := 116) S.1 S.2.1 hm dMo_laysBest_83 (by decide) (fun hm => ?_) (fun hm => ?_)
    · obtain ⟨x16, ex16, hm⟩ := nm_x hm
      refine lv_iinc (v := x16) (lv' := [(3, .int x16), (0, .ref (ξ.2.2.2.1 84)), (2, .int u2), (4, .int u4)]) S.1 S.2.1 dMo_laysBest_116 hl (k := 2) rfl (by rw [ex16]; rfl) (by decide) rfl (fun ls hl => ?_)
      refine lv_goto (tgt := 68) S.1 S.2.1 dMo_laysBest_119 (by decide) ?_
      exact hk68 μ u2 x16 _ _ _ hm hw (lv_sub hl [1, 2, 0] rfl)
    · refine lv_aload_n S.1 S.2.1 dMo_laysBest_86 rfl (lv_at hl 0 rfl) ?_
      refine get_Mo (v := .ref (ξ.2.2.2.1 102)) S hw (is_84 hf) 36 (by decide) rfl wf_Mo_82 dMo_laysBest_87 ?_
      refine lv_sipush (v := (4201 : Int32)) S.1 S.2.1 dMo_laysBest_90 (by decide) ?_
      refine lv_iload_n S.1 S.2.1 dMo_laysBest_93 rfl (lv_at hl 2 rfl) ?_
      refine lv_imul S.1 S.2.1 dMo_laysBest_94 ?_
      refine lv_sipush (v := (2100 : Int32)) S.1 S.2.1 dMo_laysBest_95 (by decide) ?_
      refine lv_iadd S.1 S.2.1 dMo_laysBest_98 ?_
      refine lv_iload S.1 S.2.1 dMo_laysBest_99 (lv_at hl 3 rfl) ?_
      refine lv_iadd S.1 S.2.1 dMo_laysBest_101 ?_
      refine lv_aload_n S.1 S.2.1 dMo_laysBest_102 rfl (lv_at hl 0 rfl) ?_
      refine lv_iload_n S.1 S.2.1 dMo_laysBest_103 rfl (lv_at hl 2 rfl) ?_
      refine lv_iload S.1 S.2.1 dMo_laysBest_104 (lv_at hl 3 rfl) ?_
      obtain ⟨⟨v19, μ18⟩, h17, hm⟩ := ob hm
      refine sw_Vi (q := 84) (rest := [.int ((((4201 : Int32) * u3) + (2100 : Int32)) + u4), .ref (ξ.2.2.2.1 102)]) S hw (cMo_bestOf l N hf u3 u4 h17) kMo_bestOf wm_Mo_405 (is_84 hf).1 (e_Mo (is_84 hf)) rfl rfl rfl rfl hl.1 (Nat.le_of_ble_eq_true rfl) ⟨rfl, rfl, Nat.le_of_ble_eq_true rfl, Nat.le_of_ble_eq_true rfl⟩ ⟨Nat.le_of_ble_eq_true rfl, Nat.le_of_ble_eq_true rfl⟩ dMo_laysBest_106 (fun H locs hw _ => ?_)
      refine sm_iast S hw (is_102 hf) hm dMo_laysBest_109 (fun μ20 H locs hm hw => ?_)
      obtain ⟨x21, ex21, hm⟩ := nm_x hm
      refine lv_iinc (v := x21) (lv' := [(4, .int x21), (0, .ref (ξ.2.2.2.1 84)), (2, .int u2), (3, .int u3)]) S.1 S.2.1 dMo_laysBest_110 hl (k := 3) rfl (by rw [ex21]; rfl) (by decide) rfl (fun ls hl => ?_)
      refine lv_goto (tgt := 78) S.1 S.2.1 dMo_laysBest_113 (by decide) ?_
      exact ih μ20 u2 u3 x21 _ _ _ hm hw (lv_sub hl [1, 2, 3, 0] rfl)
set_option maxHeartbeats 4000000 in
set_option maxRecDepth 100000 in
theorem wMo_laysBest_68 {l : Launch} {p : Program} {e : Env} {s : State} {m : MethodId} {args : Array Value} {below : List Frame} {meth : Method} {c : Code} {Γ : sw_C} {A : Nat → Prop} {ξ : sw_x} {g : sw_g} {res : sw_m} (S : CallFix p m c prog_10_method_102_code 5 s args (Cond.code yMo_laysBest prog_10_method_102_code 5 (none) :: sw_tb) R_Mo) (hr : meth.sig.returnType = none) (hlk : meth.locks = false) (hf : sw_wf ξ g.2.2) (N : Nat) : ∀ (fu : Nat) (μ : sw_m) (u2 : Int32) (u3 : Int32) (H : Heap) (locs : List Loc) (ls : Array Slot), fMo_laysBest_68 N   fu μ u2 u3 = some res → sw_S Γ A ξ g μ s H locs → lv_has ls 5 [(0, .ref (ξ.2.2.2.1 84)), (2, .int u2), (3, .int u3)] → W p l e (headSpec (Cond.code yMo_laysBest prog_10_method_102_code 5 (none) :: sw_tb) rmMo_laysBest).room s m args below meth c H locs 0 0 (MQ below (sw_Qv Γ A ξ g res (True)) args s 0 0 A) (F0 m 68 ls []) := by
  intro fu
  induction fu with
  | zero => intro μ u2 u3 H locs ls hm; rw [fMo_laysBest_68.eq_1] at hm; cases hm
  | succ fu ih =>
    intro μ u2 u3 H locs ls hm hw hl
    rw [fMo_laysBest_68.eq_2] at hm
    refine lv_iload_n S.1 S.2.1 dMo_laysBest_68 rfl (lv_at hl 2 rfl) ?_
    refine bif_lt (tgt := 122) S.1 S.2.1 hm dMo_laysBest_69 (by decide) (fun hm => ?_) (fun hm => ?_)
    · obtain rfl := Option.some.inj hm
      exact sw_vret S hr hlk hw trivial dMo_laysBest_122
    · refine lv_iload_n S.1 S.2.1 dMo_laysBest_72 rfl (lv_at hl 1 rfl) ?_
      refine lv_ineg S.1 S.2.1 dMo_laysBest_73 ?_
      refine lv_iload_n S.1 S.2.1 dMo_laysBest_74 rfl (lv_at hl 2 rfl) ?_
      refine lv_imul S.1 S.2.1 dMo_laysBest_75 ?_
      refine nm_i hm (fun x15 hm => ?_)
      refine lv_istore (lv' := [(4, .int x15), (0, .ref (ξ.2.2.2.1 84)), (2, .int u2), (3, .int u3)]) S.1 S.2.1 dMo_laysBest_76 hl (by decide) rfl (fun ls hl => ?_)
      exact wMo_laysBest_78 S hr hlk hf N (fMo_laysBest_68 N   fu) ih N μ u2 u3 x15 _ _ _ hm hw (lv_sub hl [1, 2, 3, 0] rfl)
set_option maxHeartbeats 4000000 in
set_option maxRecDepth 100000 in
theorem wMo_laysBest_21 {l : Launch} {p : Program} {e : Env} {s : State} {m : MethodId} {args : Array Value} {below : List Frame} {meth : Method} {c : Code} {Γ : sw_C} {A : Nat → Prop} {ξ : sw_x} {g : sw_g} {res : sw_m} (S : CallFix p m c prog_10_method_102_code 5 s args (Cond.code yMo_laysBest prog_10_method_102_code 5 (none) :: sw_tb) R_Mo) (hr : meth.sig.returnType = none) (hlk : meth.locks = false) (hf : sw_wf ξ g.2.2) (N : Nat) : ∀ (fu : Nat) (μ : sw_m) (u2 : Int32) (u3 : Int32) (H : Heap) (locs : List Loc) (ls : Array Slot), fMo_laysBest_21 N   fu μ u2 u3 = some res → sw_S Γ A ξ g μ s H locs → lv_has ls 5 [(0, .ref (ξ.2.2.2.1 84)), (2, .int u2), (3, .int u3)] → W p l e (headSpec (Cond.code yMo_laysBest prog_10_method_102_code 5 (none) :: sw_tb) rmMo_laysBest).room s m args below meth c H locs 0 0 (MQ below (sw_Qv Γ A ξ g res (True)) args s 0 0 A) (F0 m 21 ls []) := by
  intro fu
  induction fu with
  | zero => intro μ u2 u3 H locs ls hm; rw [fMo_laysBest_21.eq_1] at hm; cases hm
  | succ fu ih =>
    intro μ u2 u3 H locs ls hm hw hl
    rw [fMo_laysBest_21.eq_2] at hm
    refine lv_iload_n S.1 S.2.1 dMo_laysBest_21 rfl (lv_at hl 2 rfl) ?_
    refine lv_iload_n S.1 S.2.1 dMo_laysBest_22 rfl (lv_at hl 1 rfl) ?_
    refine lv_aload_n S.1 S.2.1 dMo_laysBest_23 rfl (lv_at hl 0 rfl) ?_
    obtain ⟨⟨v10, μ9⟩, h8, hm⟩ := ob hm
    refine sw_Vi (q := 84) (rest := [.int u2, .int u3]) S hw (cMo_many l  hf  h8) kMo_many wm_Mo_119 (is_84 hf).1 (e_Mo (is_84 hf)) rfl rfl rfl rfl hl.1 (Nat.le_of_ble_eq_true rfl) ⟨rfl, rfl, Nat.le_of_ble_eq_true rfl, Nat.le_of_ble_eq_true rfl⟩ ⟨Nat.le_of_ble_eq_true rfl, Nat.le_of_ble_eq_true rfl⟩ dMo_laysBest_24 (fun H locs hw _ => ?_)
    refine lv_imul S.1 S.2.1 dMo_laysBest_27 ?_
    refine bicmp_gt (tgt := 61) S.1 S.2.1 hm dMo_laysBest_28 (by decide) (fun hm => ?_) (fun hm => ?_)
    · refine lv_aload_n S.1 S.2.1 dMo_laysBest_61 rfl (lv_at hl 0 rfl) ?_
      obtain ⟨⟨v13, μ12⟩, h11, hm⟩ := ob hm
      refine sw_Vi (q := 84) (rest := []) S hw (cMo_many l  hf  h11) kMo_many wm_Mo_119 (is_84 hf).1 (e_Mo (is_84 hf)) rfl rfl rfl rfl hl.1 (Nat.le_of_ble_eq_true rfl) ⟨rfl, rfl, Nat.le_of_ble_eq_true rfl, Nat.le_of_ble_eq_true rfl⟩ ⟨Nat.le_of_ble_eq_true rfl, Nat.le_of_ble_eq_true rfl⟩ dMo_laysBest_62 (fun H locs hw _ => ?_)
      refine lv_iconst (v := (1 : Int32)) S.1 S.2.1 dMo_laysBest_65 (by decide) ?_
      refine lv_isub S.1 S.2.1 dMo_laysBest_66 ?_
      refine nm_i hm (fun x14 hm => ?_)
      refine lv_istore_n (lv' := [(3, .int x14), (0, .ref (ξ.2.2.2.1 84)), (2, .int u2)]) S.1 S.2.1 dMo_laysBest_67 rfl hl (by decide) rfl (fun ls hl => ?_)
      exact wMo_laysBest_68 S hr hlk hf N  N μ12 u2 x14 _ _ _ hm hw (lv_sub hl [1, 2, 0] rfl)
    · refine lv_aload_n S.1 S.2.1 dMo_laysBest_31 rfl (lv_at hl 0 rfl) ?_
      refine get_Mo (v := .ref (ξ.2.2.2.1 102)) S hw (is_84 hf) 36 (by decide) rfl wf_Mo_82 dMo_laysBest_32 ?_
      refine lv_sipush (v := (4201 : Int32)) S.1 S.2.1 dMo_laysBest_35 (by decide) ?_
      refine lv_aload_n S.1 S.2.1 dMo_laysBest_38 rfl (lv_at hl 0 rfl) ?_
      obtain ⟨⟨v24, μ23⟩, h22, hm⟩ := ob hm
      refine sw_Vi (q := 84) (rest := [.int (4201 : Int32), .ref (ξ.2.2.2.1 102)]) S hw (cMo_many l  hf  h22) kMo_many wm_Mo_119 (is_84 hf).1 (e_Mo (is_84 hf)) rfl rfl rfl rfl hl.1 (Nat.le_of_ble_eq_true rfl) ⟨rfl, rfl, Nat.le_of_ble_eq_true rfl, Nat.le_of_ble_eq_true rfl⟩ ⟨Nat.le_of_ble_eq_true rfl, Nat.le_of_ble_eq_true rfl⟩ dMo_laysBest_39 (fun H locs hw _ => ?_)
      refine lv_imul S.1 S.2.1 dMo_laysBest_42 ?_
      refine lv_sipush (v := (2100 : Int32)) S.1 S.2.1 dMo_laysBest_43 (by decide) ?_
      refine lv_iadd S.1 S.2.1 dMo_laysBest_46 ?_
      refine lv_iload_n S.1 S.2.1 dMo_laysBest_47 rfl (lv_at hl 2 rfl) ?_
      refine lv_iadd S.1 S.2.1 dMo_laysBest_48 ?_
      refine lv_aload_n S.1 S.2.1 dMo_laysBest_49 rfl (lv_at hl 0 rfl) ?_
      refine lv_iload_n S.1 S.2.1 dMo_laysBest_50 rfl (lv_at hl 2 rfl) ?_
      obtain ⟨⟨v27, μ26⟩, h25, hm⟩ := ob hm
      refine sw_Vi (q := 84) (rest := [.int ((((4201 : Int32) * v24) + (2100 : Int32)) + u3), .ref (ξ.2.2.2.1 102)]) S hw (cMo_endsAt l N hf u3 h25) kMo_endsAt wm_Mo_402 (is_84 hf).1 (e_Mo (is_84 hf)) rfl rfl rfl rfl hl.1 (Nat.le_of_ble_eq_true rfl) ⟨rfl, rfl, Nat.le_of_ble_eq_true rfl, Nat.le_of_ble_eq_true rfl⟩ ⟨Nat.le_of_ble_eq_true rfl, Nat.le_of_ble_eq_true rfl⟩ dMo_laysBest_51 (fun H locs hw _ => ?_)
      refine sm_iast S hw (is_102 hf) hm dMo_laysBest_54 (fun μ28 H locs hm hw => ?_)
      obtain ⟨x29, ex29, hm⟩ := nm_x hm
      refine lv_iinc (v := x29) (lv' := [(3, .int x29), (0, .ref (ξ.2.2.2.1 84)), (2, .int u2)]) S.1 S.2.1 dMo_laysBest_55 hl (k := 2) rfl (by rw [ex29]; rfl) (by decide) rfl (fun ls hl => ?_)
      refine lv_goto (tgt := 21) S.1 S.2.1 dMo_laysBest_58 (by decide) ?_
      exact ih μ28 u2 x29 _ _ _ hm hw (lv_sub hl [1, 2, 0] rfl)
set_option maxHeartbeats 4000000 in
set_option maxRecDepth 100000 in
theorem cMo_laysBest (l : Launch) (N : Nat) {Γ : sw_C} {A : Nat → Prop} {ξ : sw_x} {g : sw_g} {μ : sw_m} (hf : sw_wf ξ g.2.2) (a1 : Int32) {res : sw_m} (hm : fMo_laysBest N μ a1 = some res) : Met l yMo_laysBest (Cond.code yMo_laysBest prog_10_method_102_code 5 (none) :: sw_tb) rmMo_laysBest (va_Pc [.ref (ξ.2.2.2.1 84), .int a1] (sw_V Γ A ξ g μ)) (sw_Qv Γ A ξ g res (True)) 0 0 A := by
  refine Met.ofW (cc := prog_10_method_102_code) (maxL := 5) (ret := none) (by decide) rfl ?_
  intro p e s m args below meth c s₁ B hml hv
  obtain ⟨rfl, hv⟩ := hv
  have S : CallFix p m c prog_10_method_102_code 5 s _ (Cond.code yMo_laysBest prog_10_method_102_code 5 (none) :: sw_tb) R_Mo := ⟨B.exec, B.bytes, hml, findClass_of_methodNamed B.named, atoms_spec (ws := (Cond.code yMo_laysBest prog_10_method_102_code 5 (none) :: sw_tb)) B.pre⟩
  have hr := B.returns
  have hlk := B.notSynchronized
  have hw := sw_begin hv
  have hl := lv_entry [.ref (ξ.2.2.2.1 84), .int a1] (n := 5) (Nat.le_of_ble_eq_true rfl)
  rw [lg_entry_eq]
  generalize (lg_sl [.ref (ξ.2.2.2.1 84), .int a1] ++ List.replicate (5 - (lg_sl [.ref (ξ.2.2.2.1 84), .int a1]).length) Slot.unset).toArray = ls at hl ⊢
  have hl : lv_has ls 5 [(0, .ref (ξ.2.2.2.1 84)), (1, .int a1)] := hl
  unfold fMo_laysBest at hm
  refine lv_aload_n S.1 S.2.1 dMo_laysBest_0 rfl (lv_at hl 0 rfl) ?_
  refine lv_iload_n S.1 S.2.1 dMo_laysBest_1 rfl (lv_at hl 1 rfl) ?_
  refine put_Mo S hw (is_84 hf) 37 (by decide) ps_Mo_37 rfl rfl rfl wf_Mo_380 hm dMo_laysBest_2 (fun μ1 H locs hm hw => ?_)
  refine lv_aload_n S.1 S.2.1 dMo_laysBest_5 rfl (lv_at hl 0 rfl) ?_
  obtain ⟨μ3, h2, hm⟩ := ob hm
  refine sw_Vv (q := 84) (rest := []) S hw (cMo_laysPulls l N hf  h2) kMo_laysPulls wm_Mo_399 (is_84 hf).1 (e_Mo (is_84 hf)) rfl rfl rfl rfl hl.1 (Nat.le_of_ble_eq_true rfl) ⟨rfl, rfl, Nat.le_of_ble_eq_true rfl, Nat.le_of_ble_eq_true rfl⟩ ⟨Nat.le_of_ble_eq_true rfl, Nat.le_of_ble_eq_true rfl⟩ dMo_laysBest_6 (fun H locs hw _ => ?_)
  refine lv_sipush (v := (297 : Int32)) S.1 S.2.1 dMo_laysBest_9 (by decide) ?_
  refine lv_istore_n (lv' := [(2, .int (297 : Int32)), (0, .ref (ξ.2.2.2.1 84)), (1, .int a1)]) S.1 S.2.1 dMo_laysBest_12 rfl hl (by decide) rfl (fun ls hl => ?_)
  refine lv_iload_n S.1 S.2.1 dMo_laysBest_13 rfl (lv_at hl 0 rfl) ?_
  refine lv_ineg S.1 S.2.1 dMo_laysBest_14 ?_
  refine lv_aload_n S.1 S.2.1 dMo_laysBest_15 rfl (lv_at hl 1 rfl) ?_
  obtain ⟨⟨v6, μ5⟩, h4, hm⟩ := ob hm
  refine sw_Vi (q := 84) (rest := [.int (-(297 : Int32))]) S hw (cMo_many l  hf  h4) kMo_many wm_Mo_119 (is_84 hf).1 (e_Mo (is_84 hf)) rfl rfl rfl rfl hl.1 (Nat.le_of_ble_eq_true rfl) ⟨rfl, rfl, Nat.le_of_ble_eq_true rfl, Nat.le_of_ble_eq_true rfl⟩ ⟨Nat.le_of_ble_eq_true rfl, Nat.le_of_ble_eq_true rfl⟩ dMo_laysBest_16 (fun H locs hw _ => ?_)
  refine lv_imul S.1 S.2.1 dMo_laysBest_19 ?_
  refine nm_i hm (fun x7 hm => ?_)
  refine lv_istore_n (lv' := [(3, .int x7), (2, .int (297 : Int32)), (0, .ref (ξ.2.2.2.1 84)), (1, .int a1)]) S.1 S.2.1 dMo_laysBest_20 rfl hl (by decide) rfl (fun ls hl => ?_)
  exact wMo_laysBest_21 S hr hlk hf N  N μ5 (297 : Int32) x7 _ _ _ hm hw (lv_sub hl [2, 1, 0] rfl)
set_option maxHeartbeats 4000000 in
set_option maxRecDepth 100000 in
theorem wMo_rowTold_15 {l : Launch} {p : Program} {e : Env} {s : State} {m : MethodId} {args : Array Value} {below : List Frame} {meth : Method} {c : Code} {Γ : sw_C} {A : Nat → Prop} {ξ : sw_x} {g : sw_g} {res : Int32 × sw_m} (S : CallFix p m c prog_10_method_104_code 4 s args (Cond.code yMo_rowTold prog_10_method_104_code 4 (some .int) :: sw_tb) R_Mo) (hr : meth.sig.returnType = some .int) (hlk : meth.locks = false) (hf : sw_wf ξ g.2.2) (N : Nat) : ∀ (μ : sw_m) (u1 : Int32) (u2 : Int32) (H : Heap) (locs : List Loc) (ls : Array Slot), fMo_rowTold_15 N   μ u1 u2 = some res → sw_S Γ A ξ g μ s H locs → lv_has ls 4 [(0, .ref (ξ.2.2.2.1 84)), (1, .int u1), (2, .int u2)] → W p l e (headSpec (Cond.code yMo_rowTold prog_10_method_104_code 4 (some .int) :: sw_tb) rmMo_rowTold).room s m args below meth c H locs 0 0 (MQ below (sw_Qi Γ A ξ g res.2 res.1 (True)) args s 0 0 A) (F0 m 15 ls []) := by
  intro μ u1 u2 H locs ls hm hw hl
  unfold fMo_rowTold_15 at hm
  refine lv_aload_n S.1 S.2.1 dMo_rowTold_15 rfl (lv_at hl 0 rfl) ?_
  refine lv_iload_n S.1 S.2.1 dMo_rowTold_16 rfl (lv_at hl 1 rfl) ?_
  obtain ⟨μ2, h1, hm⟩ := ob hm
  refine sw_Vv (q := 84) (rest := []) S hw (cMo_laysBest l N hf u1 h1) kMo_laysBest wm_Mo_408 (is_84 hf).1 (e_Mo (is_84 hf)) rfl rfl rfl rfl hl.1 (Nat.le_of_ble_eq_true rfl) ⟨rfl, rfl, Nat.le_of_ble_eq_true rfl, Nat.le_of_ble_eq_true rfl⟩ ⟨Nat.le_of_ble_eq_true rfl, Nat.le_of_ble_eq_true rfl⟩ dMo_rowTold_17 (fun H locs hw _ => ?_)
  refine lv_aload_n S.1 S.2.1 dMo_rowTold_20 rfl (lv_at hl 0 rfl) ?_
  refine lv_iconst (v := (0 : Int32)) S.1 S.2.1 dMo_rowTold_21 (by decide) ?_
  refine lv_iconst (v := (0 : Int32)) S.1 S.2.1 dMo_rowTold_22 (by decide) ?_
  obtain ⟨⟨v5, μ4⟩, h3, hm⟩ := ob hm
  refine sw_Vi (q := 84) (rest := []) S hw (cMo_bestAt l  hf (0 : Int32) (0 : Int32) h3) kMo_bestAt wm_Mo_383 (is_84 hf).1 (e_Mo (is_84 hf)) rfl rfl rfl rfl hl.1 (Nat.le_of_ble_eq_true rfl) ⟨rfl, rfl, Nat.le_of_ble_eq_true rfl, Nat.le_of_ble_eq_true rfl⟩ ⟨Nat.le_of_ble_eq_true rfl, Nat.le_of_ble_eq_true rfl⟩ dMo_rowTold_23 (fun H locs hw _ => ?_)
  refine lv_istore_n (lv' := [(3, .int v5), (0, .ref (ξ.2.2.2.1 84)), (1, .int u1), (2, .int u2)]) S.1 S.2.1 dMo_rowTold_26 rfl hl (by decide) rfl (fun ls hl => ?_)
  refine lv_iload_n S.1 S.2.1 dMo_rowTold_27 rfl (lv_at hl 0 rfl) ?_
  refine lv_ldc S.1 S.2.1 S.2.2.2.1 (sw_word S wc_Mo_193) dMo_rowTold_28 ?_
  refine bicmp_ne (tgt := 37) S.1 S.2.1 hm dMo_rowTold_30 (by decide) (fun hm => ?_) (fun hm => ?_)
  · refine lv_iload_n S.1 S.2.1 dMo_rowTold_37 rfl (lv_at hl 3 rfl) ?_
    refine lv_iconst (v := (-1 : Int32)) S.1 S.2.1 dMo_rowTold_38 (by decide) ?_
    refine bicmp_ne (tgt := 46) S.1 S.2.1 hm dMo_rowTold_39 (by decide) (fun hm => ?_) (fun hm => ?_)
    · refine lv_aload_n S.1 S.2.1 dMo_rowTold_46 rfl (lv_at hl 1 rfl) ?_
      refine lv_iload_n S.1 S.2.1 dMo_rowTold_47 rfl (lv_at hl 3 rfl) ?_
      obtain ⟨⟨v8, μ7⟩, h6, hm⟩ := ob hm
      refine sw_Vi (q := 84) (rest := []) S hw (cMo_placeIn l N hf u2 h6) kMo_placeIn wm_Mo_411 (is_84 hf).1 (e_Mo (is_84 hf)) rfl rfl rfl rfl hl.1 (Nat.le_of_ble_eq_true rfl) ⟨rfl, rfl, Nat.le_of_ble_eq_true rfl, Nat.le_of_ble_eq_true rfl⟩ ⟨Nat.le_of_ble_eq_true rfl, Nat.le_of_ble_eq_true rfl⟩ dMo_rowTold_48 (fun H locs hw _ => ?_)
      obtain rfl := Option.some.inj hm
      exact sw_iret S hr hlk hw trivial dMo_rowTold_51
    · refine lv_iload_n S.1 S.2.1 dMo_rowTold_42 rfl (lv_at hl 0 rfl) ?_
      refine lv_goto (tgt := 51) S.1 S.2.1 dMo_rowTold_43 (by decide) ?_
      obtain rfl := Option.some.inj hm
      exact sw_iret S hr hlk hw trivial dMo_rowTold_51
  · refine lv_iconst (v := (-1 : Int32)) S.1 S.2.1 dMo_rowTold_33 (by decide) ?_
    refine lv_goto (tgt := 51) S.1 S.2.1 dMo_rowTold_34 (by decide) ?_
    obtain rfl := Option.some.inj hm
    exact sw_iret S hr hlk hw trivial dMo_rowTold_51
set_option maxHeartbeats 4000000 in
set_option maxRecDepth 100000 in
theorem cMo_rowTold (l : Launch) (N : Nat) {Γ : sw_C} {A : Nat → Prop} {ξ : sw_x} {g : sw_g} {μ : sw_m} (hf : sw_wf ξ g.2.2) (a1 : Int32) (a2 : Int32) {res : Int32 × sw_m} (hm : fMo_rowTold N μ a1 a2 = some res) : Met l yMo_rowTold (Cond.code yMo_rowTold prog_10_method_104_code 4 (some .int) :: sw_tb) rmMo_rowTold (va_Pc [.ref (ξ.2.2.2.1 84), .int a1, .int a2] (sw_V Γ A ξ g μ)) (sw_Qi Γ A ξ g res.2 res.1 (True)) 0 0 A := by
  refine Met.ofW (cc := prog_10_method_104_code) (maxL := 4) (ret := some .int) (by decide) rfl ?_
  intro p e s m args below meth c s₁ B hml hv
  obtain ⟨rfl, hv⟩ := hv
  have S : CallFix p m c prog_10_method_104_code 4 s _ (Cond.code yMo_rowTold prog_10_method_104_code 4 (some .int) :: sw_tb) R_Mo := ⟨B.exec, B.bytes, hml, findClass_of_methodNamed B.named, atoms_spec (ws := (Cond.code yMo_rowTold prog_10_method_104_code 4 (some .int) :: sw_tb)) B.pre⟩
  have hr := B.returns
  have hlk := B.notSynchronized
  have hw := sw_begin hv
  have hl := lv_entry [.ref (ξ.2.2.2.1 84), .int a1, .int a2] (n := 4) (Nat.le_of_ble_eq_true rfl)
  rw [lg_entry_eq]
  generalize (lg_sl [.ref (ξ.2.2.2.1 84), .int a1, .int a2] ++ List.replicate (4 - (lg_sl [.ref (ξ.2.2.2.1 84), .int a1, .int a2]).length) Slot.unset).toArray = ls at hl ⊢
  have hl : lv_has ls 4 [(0, .ref (ξ.2.2.2.1 84)), (1, .int a1), (2, .int a2)] := hl
  unfold fMo_rowTold at hm
  refine lv_iload_n S.1 S.2.1 dMo_rowTold_0 rfl (lv_at hl 2 rfl) ?_
  refine lv_iconst (v := (-1 : Int32)) S.1 S.2.1 dMo_rowTold_1 (by decide) ?_
  refine bicmp_eq (tgt := 15) S.1 S.2.1 hm dMo_rowTold_2 (by decide) (fun hm => ?_) (fun hm => ?_)
  · exact wMo_rowTold_15 S hr hlk hf N  μ a1 a2 _ _ _ hm hw (lv_sub hl [0, 1, 2] rfl)
  · refine lv_aload_n S.1 S.2.1 dMo_rowTold_5 rfl (lv_at hl 0 rfl) ?_
    refine lv_iload_n S.1 S.2.1 dMo_rowTold_6 rfl (lv_at hl 2 rfl) ?_
    obtain ⟨⟨v11, μ10⟩, h9, hm⟩ := ob hm
    refine sw_Vi (q := 84) (rest := []) S hw (cMo_isClaim l  hf a2 h9) kMo_isClaim wm_Mo_135 (is_84 hf).1 (e_Mo (is_84 hf)) rfl rfl rfl rfl hl.1 (Nat.le_of_ble_eq_true rfl) ⟨rfl, rfl, Nat.le_of_ble_eq_true rfl, Nat.le_of_ble_eq_true rfl⟩ ⟨Nat.le_of_ble_eq_true rfl, Nat.le_of_ble_eq_true rfl⟩ dMo_rowTold_7 (fun H locs hw _ => ?_)
    refine bif_ne (tgt := 15) S.1 S.2.1 hm dMo_rowTold_10 (by decide) (fun hm => ?_) (fun hm => ?_)
    · exact wMo_rowTold_15 S hr hlk hf N  μ10 a1 a2 _ _ _ hm hw (lv_sub hl [0, 1, 2] rfl)
    · refine lv_iconst (v := (-1 : Int32)) S.1 S.2.1 dMo_rowTold_13 (by decide) ?_
      obtain rfl := Option.some.inj hm
      exact sw_iret S hr hlk hw trivial dMo_rowTold_14
set_option maxHeartbeats 4000000 in
set_option maxRecDepth 100000 in
theorem cMo_rowMany (l : Launch) (N : Nat) {Γ : sw_C} {A : Nat → Prop} {ξ : sw_x} {g : sw_g} {μ : sw_m} (hf : sw_wf ξ g.2.2) {res : Int32 × sw_m} (hm : fMo_rowMany N μ = some res) : Met l yMo_rowMany (Cond.code yMo_rowMany prog_10_method_105_code 1 (some .int) :: sw_tb) rmMo_rowMany (va_Pc [.ref (ξ.2.2.2.1 84)] (sw_V Γ A ξ g μ)) (sw_Qi Γ A ξ g res.2 res.1 (True)) 0 0 A := by
  refine Met.ofW (cc := prog_10_method_105_code) (maxL := 1) (ret := some .int) (by decide) rfl ?_
  intro p e s m args below meth c s₁ B hml hv
  obtain ⟨rfl, hv⟩ := hv
  have S : CallFix p m c prog_10_method_105_code 1 s _ (Cond.code yMo_rowMany prog_10_method_105_code 1 (some .int) :: sw_tb) R_Mo := ⟨B.exec, B.bytes, hml, findClass_of_methodNamed B.named, atoms_spec (ws := (Cond.code yMo_rowMany prog_10_method_105_code 1 (some .int) :: sw_tb)) B.pre⟩
  have hr := B.returns
  have hlk := B.notSynchronized
  have hw := sw_begin hv
  have hl := lv_entry [.ref (ξ.2.2.2.1 84)] (n := 1) (Nat.le_of_ble_eq_true rfl)
  rw [lg_entry_eq]
  generalize (lg_sl [.ref (ξ.2.2.2.1 84)] ++ List.replicate (1 - (lg_sl [.ref (ξ.2.2.2.1 84)]).length) Slot.unset).toArray = ls at hl ⊢
  have hl : lv_has ls 1 [(0, .ref (ξ.2.2.2.1 84))] := hl
  unfold fMo_rowMany at hm
  refine lv_aload_n S.1 S.2.1 dMo_rowMany_0 rfl (lv_at hl 0 rfl) ?_
  refine lv_iconst (v := (3 : Int32)) S.1 S.2.1 dMo_rowMany_1 (by decide) ?_
  obtain ⟨μ2, h1, hm⟩ := ob hm
  refine sw_Vv (q := 84) (rest := []) S hw (cMo_laysBest l N hf (3 : Int32) h1) kMo_laysBest wm_Mo_408 (is_84 hf).1 (e_Mo (is_84 hf)) rfl rfl rfl rfl hl.1 (Nat.le_of_ble_eq_true rfl) ⟨rfl, rfl, Nat.le_of_ble_eq_true rfl, Nat.le_of_ble_eq_true rfl⟩ ⟨Nat.le_of_ble_eq_true rfl, Nat.le_of_ble_eq_true rfl⟩ dMo_rowMany_2 (fun H locs hw _ => ?_)
  refine lv_aload_n S.1 S.2.1 dMo_rowMany_5 rfl (lv_at hl 0 rfl) ?_
  refine lv_iconst (v := (0 : Int32)) S.1 S.2.1 dMo_rowMany_6 (by decide) ?_
  refine lv_iconst (v := (0 : Int32)) S.1 S.2.1 dMo_rowMany_7 (by decide) ?_
  obtain ⟨⟨v5, μ4⟩, h3, hm⟩ := ob hm
  refine sw_Vi (q := 84) (rest := []) S hw (cMo_bestAt l  hf (0 : Int32) (0 : Int32) h3) kMo_bestAt wm_Mo_383 (is_84 hf).1 (e_Mo (is_84 hf)) rfl rfl rfl rfl hl.1 (Nat.le_of_ble_eq_true rfl) ⟨rfl, rfl, Nat.le_of_ble_eq_true rfl, Nat.le_of_ble_eq_true rfl⟩ ⟨Nat.le_of_ble_eq_true rfl, Nat.le_of_ble_eq_true rfl⟩ dMo_rowMany_8 (fun H locs hw _ => ?_)
  obtain rfl := Option.some.inj hm
  exact sw_iret S hr hlk hw trivial dMo_rowMany_11
set_option maxHeartbeats 4000000 in
set_option maxRecDepth 100000 in
theorem wMo_settle_18 {l : Launch} {p : Program} {e : Env} {s : State} {m : MethodId} {args : Array Value} {below : List Frame} {meth : Method} {c : Code} {Γ : sw_C} {A : Nat → Prop} {ξ : sw_x} {g : sw_g} {res : Int32 × sw_m} (S : CallFix p m c prog_10_method_106_code 3 s args (Cond.code yMo_settle prog_10_method_106_code 3 (some .int) :: sw_tb) R_Mo) (hr : meth.sig.returnType = some .int) (hlk : meth.locks = false) (hf : sw_wf ξ g.2.2) (N : Nat) : ∀ (μ : sw_m) (u1 : Int32) (s0 : Int32) (H : Heap) (locs : List Loc) (ls : Array Slot), fMo_settle_18 N   μ u1 s0 = some res → sw_S Γ A ξ g μ s H locs → lv_has ls 3 [(1, .int u1)] → W p l e (headSpec (Cond.code yMo_settle prog_10_method_106_code 3 (some .int) :: sw_tb) rmMo_settle).room s m args below meth c H locs 0 0 (MQ below (sw_Qi Γ A ξ g res.2 res.1 (True)) args s 0 0 A) (F0 m 18 ls [.int s0]) := by
  intro μ u1 s0 H locs ls hm hw hl
  unfold fMo_settle_18 at hm
  refine lv_istore_n (lv' := [(2, .int s0), (1, .int u1)]) S.1 S.2.1 dMo_settle_18 rfl hl (by decide) rfl (fun ls hl => ?_)
  refine lv_iload_n S.1 S.2.1 dMo_settle_19 rfl (lv_at hl 1 rfl) ?_
  refine lv_iconst (v := (-1 : Int32)) S.1 S.2.1 dMo_settle_20 (by decide) ?_
  refine bicmp_ne (tgt := 32) S.1 S.2.1 hm dMo_settle_21 (by decide) (fun hm => ?_) (fun hm => ?_)
  · refine lv_iload_n S.1 S.2.1 dMo_settle_32 rfl (lv_at hl 0 rfl) ?_
    obtain rfl := Option.some.inj hm
    exact sw_iret S hr hlk hw trivial dMo_settle_33
  · refine lv_iload_n S.1 S.2.1 dMo_settle_24 rfl (lv_at hl 0 rfl) ?_
    refine bif_ne (tgt := 32) S.1 S.2.1 hm dMo_settle_25 (by decide) (fun hm => ?_) (fun hm => ?_)
    · refine lv_iload_n S.1 S.2.1 dMo_settle_32 rfl (lv_at hl 0 rfl) ?_
      obtain rfl := Option.some.inj hm
      exact sw_iret S hr hlk hw trivial dMo_settle_33
    · refine lv_iconst (v := (-1 : Int32)) S.1 S.2.1 dMo_settle_28 (by decide) ?_
      refine lv_goto (tgt := 33) S.1 S.2.1 dMo_settle_29 (by decide) ?_
      obtain rfl := Option.some.inj hm
      exact sw_iret S hr hlk hw trivial dMo_settle_33
set_option maxHeartbeats 4000000 in
set_option maxRecDepth 100000 in
theorem cMo_settle (l : Launch) (N : Nat) {Γ : sw_C} {A : Nat → Prop} {ξ : sw_x} {g : sw_g} {μ : sw_m} (hf : sw_wf ξ g.2.2) (a1 : Int32) {res : Int32 × sw_m} (hm : fMo_settle N μ a1 = some res) : Met l yMo_settle (Cond.code yMo_settle prog_10_method_106_code 3 (some .int) :: sw_tb) rmMo_settle (va_Pc [.ref (ξ.2.2.2.1 84), .int a1] (sw_V Γ A ξ g μ)) (sw_Qi Γ A ξ g res.2 res.1 (True)) 0 0 A := by
  refine Met.ofW (cc := prog_10_method_106_code) (maxL := 3) (ret := some .int) (by decide) rfl ?_
  intro p e s m args below meth c s₁ B hml hv
  obtain ⟨rfl, hv⟩ := hv
  have S : CallFix p m c prog_10_method_106_code 3 s _ (Cond.code yMo_settle prog_10_method_106_code 3 (some .int) :: sw_tb) R_Mo := ⟨B.exec, B.bytes, hml, findClass_of_methodNamed B.named, atoms_spec (ws := (Cond.code yMo_settle prog_10_method_106_code 3 (some .int) :: sw_tb)) B.pre⟩
  have hr := B.returns
  have hlk := B.notSynchronized
  have hw := sw_begin hv
  have hl := lv_entry [.ref (ξ.2.2.2.1 84), .int a1] (n := 3) (Nat.le_of_ble_eq_true rfl)
  rw [lg_entry_eq]
  generalize (lg_sl [.ref (ξ.2.2.2.1 84), .int a1] ++ List.replicate (3 - (lg_sl [.ref (ξ.2.2.2.1 84), .int a1]).length) Slot.unset).toArray = ls at hl ⊢
  have hl : lv_has ls 3 [(0, .ref (ξ.2.2.2.1 84)), (1, .int a1)] := hl
  unfold fMo_settle at hm
  refine lv_iload_n S.1 S.2.1 dMo_settle_0 rfl (lv_at hl 1 rfl) ?_
  refine lv_iconst (v := (-1 : Int32)) S.1 S.2.1 dMo_settle_1 (by decide) ?_
  refine bicmp_ne (tgt := 12) S.1 S.2.1 hm dMo_settle_2 (by decide) (fun hm => ?_) (fun hm => ?_)
  · refine lv_aload_n S.1 S.2.1 dMo_settle_12 rfl (lv_at hl 0 rfl) ?_
    refine lv_iconst (v := (0 : Int32)) S.1 S.2.1 dMo_settle_13 (by decide) ?_
    refine lv_iload_n S.1 S.2.1 dMo_settle_14 rfl (lv_at hl 1 rfl) ?_
    obtain ⟨⟨v3, μ2⟩, h1, hm⟩ := ob hm
    refine sw_Vi (q := 84) (rest := []) S hw (cMo_rowTold l N hf (0 : Int32) a1 h1) kMo_rowTold wm_Mo_417 (is_84 hf).1 (e_Mo (is_84 hf)) rfl rfl rfl rfl hl.1 (Nat.le_of_ble_eq_true rfl) ⟨rfl, rfl, Nat.le_of_ble_eq_true rfl, Nat.le_of_ble_eq_true rfl⟩ ⟨Nat.le_of_ble_eq_true rfl, Nat.le_of_ble_eq_true rfl⟩ dMo_settle_15 (fun H locs hw _ => ?_)
    exact wMo_settle_18 S hr hlk hf N  μ2 a1 v3 _ _ _ hm hw (lv_sub hl [1] rfl)
  · refine lv_aload_n S.1 S.2.1 dMo_settle_5 rfl (lv_at hl 0 rfl) ?_
    obtain ⟨⟨v6, μ5⟩, h4, hm⟩ := ob hm
    refine sw_Vi (q := 84) (rest := []) S hw (cMo_rowMany l N hf  h4) kMo_rowMany wm_Mo_414 (is_84 hf).1 (e_Mo (is_84 hf)) rfl rfl rfl rfl hl.1 (Nat.le_of_ble_eq_true rfl) ⟨rfl, rfl, Nat.le_of_ble_eq_true rfl, Nat.le_of_ble_eq_true rfl⟩ ⟨Nat.le_of_ble_eq_true rfl, Nat.le_of_ble_eq_true rfl⟩ dMo_settle_6 (fun H locs hw _ => ?_)
    refine lv_goto (tgt := 18) S.1 S.2.1 dMo_settle_9 (by decide) ?_
    exact wMo_settle_18 S hr hlk hf N  μ5 a1 v6 _ _ _ hm hw (lv_sub hl [1] rfl)
set_option maxHeartbeats 4000000 in
set_option maxRecDepth 100000 in
theorem cMo_least (l : Launch) (N : Nat) {Γ : sw_C} {A : Nat → Prop} {ξ : sw_x} {g : sw_g} {μ : sw_m} (hf : sw_wf ξ g.2.2) (a1 : Int32) {res : Int32 × sw_m} (hm : fMo_least N μ a1 = some res) : Met l yMo_least (Cond.code yMo_least prog_10_method_107_code 2 (some .int) :: sw_tb) rmMo_least (va_Pc [.ref (ξ.2.2.2.1 84), .int a1] (sw_V Γ A ξ g μ)) (sw_Qi Γ A ξ g res.2 res.1 (True)) 0 0 A := by
  refine Met.ofW (cc := prog_10_method_107_code) (maxL := 2) (ret := some .int) (by decide) rfl ?_
  intro p e s m args below meth c s₁ B hml hv
  obtain ⟨rfl, hv⟩ := hv
  have S : CallFix p m c prog_10_method_107_code 2 s _ (Cond.code yMo_least prog_10_method_107_code 2 (some .int) :: sw_tb) R_Mo := ⟨B.exec, B.bytes, hml, findClass_of_methodNamed B.named, atoms_spec (ws := (Cond.code yMo_least prog_10_method_107_code 2 (some .int) :: sw_tb)) B.pre⟩
  have hr := B.returns
  have hlk := B.notSynchronized
  have hw := sw_begin hv
  have hl := lv_entry [.ref (ξ.2.2.2.1 84), .int a1] (n := 2) (Nat.le_of_ble_eq_true rfl)
  rw [lg_entry_eq]
  generalize (lg_sl [.ref (ξ.2.2.2.1 84), .int a1] ++ List.replicate (2 - (lg_sl [.ref (ξ.2.2.2.1 84), .int a1]).length) Slot.unset).toArray = ls at hl ⊢
  have hl : lv_has ls 2 [(0, .ref (ξ.2.2.2.1 84)), (1, .int a1)] := hl
  unfold fMo_least at hm
  refine lv_aload_n S.1 S.2.1 dMo_least_0 rfl (lv_at hl 0 rfl) ?_
  refine lv_iconst (v := (1 : Int32)) S.1 S.2.1 dMo_least_1 (by decide) ?_
  refine lv_iload_n S.1 S.2.1 dMo_least_2 rfl (lv_at hl 1 rfl) ?_
  obtain ⟨⟨v3, μ2⟩, h1, hm⟩ := ob hm
  refine sw_Vi (q := 84) (rest := []) S hw (cMo_rowTold l N hf (1 : Int32) a1 h1) kMo_rowTold wm_Mo_417 (is_84 hf).1 (e_Mo (is_84 hf)) rfl rfl rfl rfl hl.1 (Nat.le_of_ble_eq_true rfl) ⟨rfl, rfl, Nat.le_of_ble_eq_true rfl, Nat.le_of_ble_eq_true rfl⟩ ⟨Nat.le_of_ble_eq_true rfl, Nat.le_of_ble_eq_true rfl⟩ dMo_least_3 (fun H locs hw _ => ?_)
  obtain rfl := Option.some.inj hm
  exact sw_iret S hr hlk hw trivial dMo_least_6
set_option maxHeartbeats 4000000 in
set_option maxRecDepth 100000 in
theorem cMo_moved (l : Launch) (N : Nat) {Γ : sw_C} {A : Nat → Prop} {ξ : sw_x} {g : sw_g} {μ : sw_m} (hf : sw_wf ξ g.2.2) (a1 : Int32) {res : Int32 × sw_m} (hm : fMo_moved N μ a1 = some res) : Met l yMo_moved (Cond.code yMo_moved prog_10_method_108_code 2 (some .int) :: sw_tb) rmMo_moved (va_Pc [.ref (ξ.2.2.2.1 84), .int a1] (sw_V Γ A ξ g μ)) (sw_Qi Γ A ξ g res.2 res.1 (True)) 0 0 A := by
  refine Met.ofW (cc := prog_10_method_108_code) (maxL := 2) (ret := some .int) (by decide) rfl ?_
  intro p e s m args below meth c s₁ B hml hv
  obtain ⟨rfl, hv⟩ := hv
  have S : CallFix p m c prog_10_method_108_code 2 s _ (Cond.code yMo_moved prog_10_method_108_code 2 (some .int) :: sw_tb) R_Mo := ⟨B.exec, B.bytes, hml, findClass_of_methodNamed B.named, atoms_spec (ws := (Cond.code yMo_moved prog_10_method_108_code 2 (some .int) :: sw_tb)) B.pre⟩
  have hr := B.returns
  have hlk := B.notSynchronized
  have hw := sw_begin hv
  have hl := lv_entry [.ref (ξ.2.2.2.1 84), .int a1] (n := 2) (Nat.le_of_ble_eq_true rfl)
  rw [lg_entry_eq]
  generalize (lg_sl [.ref (ξ.2.2.2.1 84), .int a1] ++ List.replicate (2 - (lg_sl [.ref (ξ.2.2.2.1 84), .int a1]).length) Slot.unset).toArray = ls at hl ⊢
  have hl : lv_has ls 2 [(0, .ref (ξ.2.2.2.1 84)), (1, .int a1)] := hl
  unfold fMo_moved at hm
  refine lv_aload_n S.1 S.2.1 dMo_moved_0 rfl (lv_at hl 0 rfl) ?_
  refine lv_iconst (v := (2 : Int32)) S.1 S.2.1 dMo_moved_1 (by decide) ?_
  refine lv_iload_n S.1 S.2.1 dMo_moved_2 rfl (lv_at hl 1 rfl) ?_
  obtain ⟨⟨v3, μ2⟩, h1, hm⟩ := ob hm
  refine sw_Vi (q := 84) (rest := []) S hw (cMo_rowTold l N hf (2 : Int32) a1 h1) kMo_rowTold wm_Mo_417 (is_84 hf).1 (e_Mo (is_84 hf)) rfl rfl rfl rfl hl.1 (Nat.le_of_ble_eq_true rfl) ⟨rfl, rfl, Nat.le_of_ble_eq_true rfl, Nat.le_of_ble_eq_true rfl⟩ ⟨Nat.le_of_ble_eq_true rfl, Nat.le_of_ble_eq_true rfl⟩ dMo_moved_3 (fun H locs hw _ => ?_)
  obtain rfl := Option.some.inj hm
  exact sw_iret S hr hlk hw trivial dMo_moved_6
set_option maxHeartbeats 4000000 in
set_option maxRecDepth 100000 in
theorem wMo_alone_24 {l : Launch} {p : Program} {e : Env} {s : State} {m : MethodId} {args : Array Value} {below : List Frame} {meth : Method} {c : Code} {Γ : sw_C} {A : Nat → Prop} {ξ : sw_x} {g : sw_g} {res : Int32 × sw_m} (S : CallFix p m c prog_10_method_109_code 5 s args (Cond.code yMo_alone prog_10_method_109_code 5 (some .int) :: sw_tb) R_Mo) (hr : meth.sig.returnType = some .int) (hlk : meth.locks = false) (hf : sw_wf ξ g.2.2) (N : Nat) (k13 : sw_m → Int32 → Int32 → Int32 → Option (Int32 × sw_m)) (hk13 : ∀ (μ : sw_m) (u1 : Int32) (u2 : Int32) (u3 : Int32) (H : Heap) (locs : List Loc) (ls : Array Slot), k13 μ u1 u2 u3 = some res → sw_S Γ A ξ g μ s H locs → lv_has ls 5 [(0, .ref (ξ.2.2.2.1 84)), (1, .int u1), (2, .int u2), (3, .int u3)] → W p l e (headSpec (Cond.code yMo_alone prog_10_method_109_code 5 (some .int) :: sw_tb) rmMo_alone).room s m args below meth c H locs 0 0 (MQ below (sw_Qi Γ A ξ g res.2 res.1 (True)) args s 0 0 A) (F0 m 13 ls [])) : ∀ (fu : Nat) (μ : sw_m) (u1 : Int32) (u2 : Int32) (u3 : Int32) (u4 : Int32) (H : Heap) (locs : List Loc) (ls : Array Slot), fMo_alone_24 N  k13 fu μ u1 u2 u3 u4 = some res → sw_S Γ A ξ g μ s H locs → lv_has ls 5 [(0, .ref (ξ.2.2.2.1 84)), (1, .int u1), (2, .int u2), (3, .int u3), (4, .int u4)] → W p l e (headSpec (Cond.code yMo_alone prog_10_method_109_code 5 (some .int) :: sw_tb) rmMo_alone).room s m args below meth c H locs 0 0 (MQ below (sw_Qi Γ A ξ g res.2 res.1 (True)) args s 0 0 A) (F0 m 24 ls []) := by
  intro fu
  induction fu with
  | zero => intro μ u1 u2 u3 u4 H locs ls hm; rw [fMo_alone_24.eq_1] at hm; cases hm
  | succ fu ih =>
    intro μ u1 u2 u3 u4 H locs ls hm hw hl
    rw [fMo_alone_24.eq_2] at hm
    refine lv_iload S.1 S.2.1 dMo_alone_24 (lv_at hl 4 rfl) ?_
    refine lv_bipush (v := (7 : Int32)) S.1 S.2.1 dMo_alone_26 (by decide) ?_
    refine bicmp_ge (tgt := 91) S.1 S.2.1 hm dMo_alone_28 (by decide) (fun hm => ?_) (fun hm => ?_)
    · obtain ⟨x9, ex9, hm⟩ := nm_x hm
      refine lv_iinc (v := x9) (lv' := [(3, .int x9), (0, .ref (ξ.2.2.2.1 84)), (1, .int u1), (2, .int u2), (4, .int u4)]) S.1 S.2.1 dMo_alone_91 hl (k := 3) rfl (by rw [ex9]; rfl) (by decide) rfl (fun ls hl => ?_)
      refine lv_goto (tgt := 13) S.1 S.2.1 dMo_alone_94 (by decide) ?_
      exact hk13 μ u1 u2 x9 _ _ _ hm hw (lv_sub hl [1, 2, 3, 0] rfl)
    · refine lv_iload_n S.1 S.2.1 dMo_alone_31 rfl (lv_at hl 2 rfl) ?_
      refine lv_aload_n S.1 S.2.1 dMo_alone_32 rfl (lv_at hl 0 rfl) ?_
      refine lv_iload_n S.1 S.2.1 dMo_alone_33 rfl (lv_at hl 3 rfl) ?_
      obtain ⟨⟨v12, μ11⟩, h10, hm⟩ := ob hm
      refine sw_Vi (q := 84) (rest := [.int u2]) S hw (cMo_isOn l  hf u3 h10) kMo_isOn wm_Mo_138 (is_84 hf).1 (e_Mo (is_84 hf)) rfl rfl rfl rfl hl.1 (Nat.le_of_ble_eq_true rfl) ⟨rfl, rfl, Nat.le_of_ble_eq_true rfl, Nat.le_of_ble_eq_true rfl⟩ ⟨Nat.le_of_ble_eq_true rfl, Nat.le_of_ble_eq_true rfl⟩ dMo_alone_34 (fun H locs hw _ => ?_)
      refine bif_ne (tgt := 82) S.1 S.2.1 hm dMo_alone_37 (by decide) (fun hm => ?_) (fun hm => ?_)
      · refine lv_iconst (v := (0 : Int32)) S.1 S.2.1 dMo_alone_82 (by decide) ?_
        refine lv_ior S.1 S.2.1 dMo_alone_83 ?_
        refine nm_i hm (fun x13 hm => ?_)
        refine lv_istore_n (lv' := [(2, .int x13), (0, .ref (ξ.2.2.2.1 84)), (1, .int u1), (3, .int u3), (4, .int u4)]) S.1 S.2.1 dMo_alone_84 rfl hl (by decide) rfl (fun ls hl => ?_)
        obtain ⟨x14, ex14, hm⟩ := nm_x hm
        refine lv_iinc (v := x14) (lv' := [(4, .int x14), (2, .int x13), (0, .ref (ξ.2.2.2.1 84)), (1, .int u1), (3, .int u3)]) S.1 S.2.1 dMo_alone_85 hl (k := 4) rfl (by rw [ex14]; rfl) (by decide) rfl (fun ls hl => ?_)
        refine lv_goto (tgt := 24) S.1 S.2.1 dMo_alone_88 (by decide) ?_
        exact ih μ11 u1 x13 u3 x14 _ _ _ hm hw (lv_sub hl [2, 3, 1, 4, 0] rfl)
      · refine lv_aload_n S.1 S.2.1 dMo_alone_40 rfl (lv_at hl 0 rfl) ?_
        refine get_Mo (v := .ref (ξ.2.2.2.1 101)) S hw (is_84 hf) 35 (by decide) rfl wf_Mo_78 dMo_alone_41 ?_
        refine lv_bipush (v := (7 : Int32)) S.1 S.2.1 dMo_alone_44 (by decide) ?_
        refine lv_iload_n S.1 S.2.1 dMo_alone_46 rfl (lv_at hl 3 rfl) ?_
        refine lv_imul S.1 S.2.1 dMo_alone_47 ?_
        refine lv_iload S.1 S.2.1 dMo_alone_48 (lv_at hl 4 rfl) ?_
        refine lv_iadd S.1 S.2.1 dMo_alone_50 ?_
        refine sm_zald S hw (is_101 hf) hm dMo_alone_51 (fun v15 hm => ?_)
        refine bif_ne (tgt := 82) S.1 S.2.1 hm dMo_alone_52 (by decide) (fun hm => ?_) (fun hm => ?_)
        · refine lv_iconst (v := (0 : Int32)) S.1 S.2.1 dMo_alone_82 (by decide) ?_
          refine lv_ior S.1 S.2.1 dMo_alone_83 ?_
          refine nm_i hm (fun x16 hm => ?_)
          refine lv_istore_n (lv' := [(2, .int x16), (0, .ref (ξ.2.2.2.1 84)), (1, .int u1), (3, .int u3), (4, .int u4)]) S.1 S.2.1 dMo_alone_84 rfl hl (by decide) rfl (fun ls hl => ?_)
          obtain ⟨x17, ex17, hm⟩ := nm_x hm
          refine lv_iinc (v := x17) (lv' := [(4, .int x17), (2, .int x16), (0, .ref (ξ.2.2.2.1 84)), (1, .int u1), (3, .int u3)]) S.1 S.2.1 dMo_alone_85 hl (k := 4) rfl (by rw [ex17]; rfl) (by decide) rfl (fun ls hl => ?_)
          refine lv_goto (tgt := 24) S.1 S.2.1 dMo_alone_88 (by decide) ?_
          exact ih μ11 u1 x16 u3 x17 _ _ _ hm hw (lv_sub hl [2, 3, 1, 4, 0] rfl)
        · refine lv_aload_n S.1 S.2.1 dMo_alone_55 rfl (lv_at hl 0 rfl) ?_
          refine lv_iload_n S.1 S.2.1 dMo_alone_56 rfl (lv_at hl 1 rfl) ?_
          refine lv_aload_n S.1 S.2.1 dMo_alone_57 rfl (lv_at hl 0 rfl) ?_
          refine get_Mo (v := .ref (ξ.2.2.2.1 100)) S hw (is_84 hf) 34 (by decide) rfl wf_Mo_75 dMo_alone_58 ?_
          refine lv_bipush (v := (7 : Int32)) S.1 S.2.1 dMo_alone_61 (by decide) ?_
          refine lv_iload_n S.1 S.2.1 dMo_alone_63 rfl (lv_at hl 3 rfl) ?_
          refine lv_imul S.1 S.2.1 dMo_alone_64 ?_
          refine lv_iload S.1 S.2.1 dMo_alone_65 (lv_at hl 4 rfl) ?_
          refine lv_iadd S.1 S.2.1 dMo_alone_67 ?_
          refine sm_iald S hw (is_100 hf) hm dMo_alone_68 (fun v18 hm => ?_)
          refine lv_iadd S.1 S.2.1 dMo_alone_69 ?_
          obtain ⟨⟨v21, μ20⟩, h19, hm⟩ := ob hm
          refine sw_Vi (q := 84) (rest := [.int u2]) S hw (cMo_isLevel l  hf (u1 + v18) h19) kMo_isLevel wm_Mo_166 (is_84 hf).1 (e_Mo (is_84 hf)) rfl rfl rfl rfl hl.1 (Nat.le_of_ble_eq_true rfl) ⟨rfl, rfl, Nat.le_of_ble_eq_true rfl, Nat.le_of_ble_eq_true rfl⟩ ⟨Nat.le_of_ble_eq_true rfl, Nat.le_of_ble_eq_true rfl⟩ dMo_alone_70 (fun H locs hw _ => ?_)
          refine bif_eq (tgt := 82) S.1 S.2.1 hm dMo_alone_73 (by decide) (fun hm => ?_) (fun hm => ?_)
          · refine lv_iconst (v := (0 : Int32)) S.1 S.2.1 dMo_alone_82 (by decide) ?_
            refine lv_ior S.1 S.2.1 dMo_alone_83 ?_
            refine nm_i hm (fun x22 hm => ?_)
            refine lv_istore_n (lv' := [(2, .int x22), (0, .ref (ξ.2.2.2.1 84)), (1, .int u1), (3, .int u3), (4, .int u4)]) S.1 S.2.1 dMo_alone_84 rfl hl (by decide) rfl (fun ls hl => ?_)
            obtain ⟨x23, ex23, hm⟩ := nm_x hm
            refine lv_iinc (v := x23) (lv' := [(4, .int x23), (2, .int x22), (0, .ref (ξ.2.2.2.1 84)), (1, .int u1), (3, .int u3)]) S.1 S.2.1 dMo_alone_85 hl (k := 4) rfl (by rw [ex23]; rfl) (by decide) rfl (fun ls hl => ?_)
            refine lv_goto (tgt := 24) S.1 S.2.1 dMo_alone_88 (by decide) ?_
            exact ih μ20 u1 x22 u3 x23 _ _ _ hm hw (lv_sub hl [2, 3, 1, 4, 0] rfl)
          · refine lv_iconst (v := (1 : Int32)) S.1 S.2.1 dMo_alone_76 (by decide) ?_
            refine lv_iload_n S.1 S.2.1 dMo_alone_77 rfl (lv_at hl 3 rfl) ?_
            refine lv_ishl S.1 S.2.1 dMo_alone_78 ?_
            refine lv_goto (tgt := 83) S.1 S.2.1 dMo_alone_79 (by decide) ?_
            refine lv_ior S.1 S.2.1 dMo_alone_83 ?_
            refine nm_i hm (fun x24 hm => ?_)
            refine lv_istore_n (lv' := [(2, .int x24), (0, .ref (ξ.2.2.2.1 84)), (1, .int u1), (3, .int u3), (4, .int u4)]) S.1 S.2.1 dMo_alone_84 rfl hl (by decide) rfl (fun ls hl => ?_)
            obtain ⟨x25, ex25, hm⟩ := nm_x hm
            refine lv_iinc (v := x25) (lv' := [(4, .int x25), (2, .int x24), (0, .ref (ξ.2.2.2.1 84)), (1, .int u1), (3, .int u3)]) S.1 S.2.1 dMo_alone_85 hl (k := 4) rfl (by rw [ex25]; rfl) (by decide) rfl (fun ls hl => ?_)
            refine lv_goto (tgt := 24) S.1 S.2.1 dMo_alone_88 (by decide) ?_
            exact ih μ20 u1 x24 u3 x25 _ _ _ hm hw (lv_sub hl [2, 3, 1, 4, 0] rfl)
set_option maxHeartbeats 4000000 in
set_option maxRecDepth 100000 in
theorem wMo_alone_13 {l : Launch} {p : Program} {e : Env} {s : State} {m : MethodId} {args : Array Value} {below : List Frame} {meth : Method} {c : Code} {Γ : sw_C} {A : Nat → Prop} {ξ : sw_x} {g : sw_g} {res : Int32 × sw_m} (S : CallFix p m c prog_10_method_109_code 5 s args (Cond.code yMo_alone prog_10_method_109_code 5 (some .int) :: sw_tb) R_Mo) (hr : meth.sig.returnType = some .int) (hlk : meth.locks = false) (hf : sw_wf ξ g.2.2) (N : Nat) : ∀ (fu : Nat) (μ : sw_m) (u1 : Int32) (u2 : Int32) (u3 : Int32) (H : Heap) (locs : List Loc) (ls : Array Slot), fMo_alone_13 N   fu μ u1 u2 u3 = some res → sw_S Γ A ξ g μ s H locs → lv_has ls 5 [(0, .ref (ξ.2.2.2.1 84)), (1, .int u1), (2, .int u2), (3, .int u3)] → W p l e (headSpec (Cond.code yMo_alone prog_10_method_109_code 5 (some .int) :: sw_tb) rmMo_alone).room s m args below meth c H locs 0 0 (MQ below (sw_Qi Γ A ξ g res.2 res.1 (True)) args s 0 0 A) (F0 m 13 ls []) := by
  intro fu
  induction fu with
  | zero => intro μ u1 u2 u3 H locs ls hm; rw [fMo_alone_13.eq_1] at hm; cases hm
  | succ fu ih =>
    intro μ u1 u2 u3 H locs ls hm hw hl
    rw [fMo_alone_13.eq_2] at hm
    refine lv_iload_n S.1 S.2.1 dMo_alone_13 rfl (lv_at hl 3 rfl) ?_
    refine lv_aload_n S.1 S.2.1 dMo_alone_14 rfl (lv_at hl 0 rfl) ?_
    obtain ⟨⟨v8, μ7⟩, h6, hm⟩ := ob hm
    refine sw_Vi (q := 84) (rest := [.int u3]) S hw (cMo_many l  hf  h6) kMo_many wm_Mo_119 (is_84 hf).1 (e_Mo (is_84 hf)) rfl rfl rfl rfl hl.1 (Nat.le_of_ble_eq_true rfl) ⟨rfl, rfl, Nat.le_of_ble_eq_true rfl, Nat.le_of_ble_eq_true rfl⟩ ⟨Nat.le_of_ble_eq_true rfl, Nat.le_of_ble_eq_true rfl⟩ dMo_alone_15 (fun H locs hw _ => ?_)
    refine bicmp_ge (tgt := 97) S.1 S.2.1 hm dMo_alone_18 (by decide) (fun hm => ?_) (fun hm => ?_)
    · refine lv_iload_n S.1 S.2.1 dMo_alone_97 rfl (lv_at hl 2 rfl) ?_
      obtain rfl := Option.some.inj hm
      exact sw_iret S hr hlk hw trivial dMo_alone_98
    · refine lv_iconst (v := (0 : Int32)) S.1 S.2.1 dMo_alone_21 (by decide) ?_
      refine lv_istore (lv' := [(4, .int (0 : Int32)), (0, .ref (ξ.2.2.2.1 84)), (1, .int u1), (2, .int u2), (3, .int u3)]) S.1 S.2.1 dMo_alone_22 hl (by decide) rfl (fun ls hl => ?_)
      exact wMo_alone_24 S hr hlk hf N (fMo_alone_13 N   fu) ih N μ7 u1 u2 u3 (0 : Int32) _ _ _ hm hw (lv_sub hl [1, 2, 3, 4, 0] rfl)
set_option maxHeartbeats 4000000 in
set_option maxRecDepth 100000 in
theorem cMo_alone (l : Launch) (N : Nat) {Γ : sw_C} {A : Nat → Prop} {ξ : sw_x} {g : sw_g} {μ : sw_m} (hf : sw_wf ξ g.2.2) {res : Int32 × sw_m} (hm : fMo_alone N μ = some res) : Met l yMo_alone (Cond.code yMo_alone prog_10_method_109_code 5 (some .int) :: sw_tb) rmMo_alone (va_Pc [.ref (ξ.2.2.2.1 84)] (sw_V Γ A ξ g μ)) (sw_Qi Γ A ξ g res.2 res.1 (True)) 0 0 A := by
  refine Met.ofW (cc := prog_10_method_109_code) (maxL := 5) (ret := some .int) (by decide) rfl ?_
  intro p e s m args below meth c s₁ B hml hv
  obtain ⟨rfl, hv⟩ := hv
  have S : CallFix p m c prog_10_method_109_code 5 s _ (Cond.code yMo_alone prog_10_method_109_code 5 (some .int) :: sw_tb) R_Mo := ⟨B.exec, B.bytes, hml, findClass_of_methodNamed B.named, atoms_spec (ws := (Cond.code yMo_alone prog_10_method_109_code 5 (some .int) :: sw_tb)) B.pre⟩
  have hr := B.returns
  have hlk := B.notSynchronized
  have hw := sw_begin hv
  have hl := lv_entry [.ref (ξ.2.2.2.1 84)] (n := 5) (Nat.le_of_ble_eq_true rfl)
  rw [lg_entry_eq]
  generalize (lg_sl [.ref (ξ.2.2.2.1 84)] ++ List.replicate (5 - (lg_sl [.ref (ξ.2.2.2.1 84)]).length) Slot.unset).toArray = ls at hl ⊢
  have hl : lv_has ls 5 [(0, .ref (ξ.2.2.2.1 84))] := hl
  unfold fMo_alone at hm
  refine lv_aload_n S.1 S.2.1 dMo_alone_0 rfl (lv_at hl 0 rfl) ?_
  obtain ⟨μ2, h1, hm⟩ := ob hm
  refine sw_Vv (q := 84) (rest := []) S hw (cMo_laysPulls l N hf  h1) kMo_laysPulls wm_Mo_399 (is_84 hf).1 (e_Mo (is_84 hf)) rfl rfl rfl rfl hl.1 (Nat.le_of_ble_eq_true rfl) ⟨rfl, rfl, Nat.le_of_ble_eq_true rfl, Nat.le_of_ble_eq_true rfl⟩ ⟨Nat.le_of_ble_eq_true rfl, Nat.le_of_ble_eq_true rfl⟩ dMo_alone_1 (fun H locs hw _ => ?_)
  refine lv_aload_n S.1 S.2.1 dMo_alone_4 rfl (lv_at hl 0 rfl) ?_
  obtain ⟨⟨v5, μ4⟩, h3, hm⟩ := ob hm
  refine sw_Vi (q := 84) (rest := []) S hw (cMo_tiltNow l N hf  h3) kMo_tiltNow wm_Mo_154 (is_84 hf).1 (e_Mo (is_84 hf)) rfl rfl rfl rfl hl.1 (Nat.le_of_ble_eq_true rfl) ⟨rfl, rfl, Nat.le_of_ble_eq_true rfl, Nat.le_of_ble_eq_true rfl⟩ ⟨Nat.le_of_ble_eq_true rfl, Nat.le_of_ble_eq_true rfl⟩ dMo_alone_5 (fun H locs hw _ => ?_)
  refine lv_istore_n (lv' := [(1, .int v5), (0, .ref (ξ.2.2.2.1 84))]) S.1 S.2.1 dMo_alone_8 rfl hl (by decide) rfl (fun ls hl => ?_)
  refine lv_iconst (v := (0 : Int32)) S.1 S.2.1 dMo_alone_9 (by decide) ?_
  refine lv_istore_n (lv' := [(2, .int (0 : Int32)), (1, .int v5), (0, .ref (ξ.2.2.2.1 84))]) S.1 S.2.1 dMo_alone_10 rfl hl (by decide) rfl (fun ls hl => ?_)
  refine lv_iconst (v := (0 : Int32)) S.1 S.2.1 dMo_alone_11 (by decide) ?_
  refine lv_istore_n (lv' := [(3, .int (0 : Int32)), (2, .int (0 : Int32)), (1, .int v5), (0, .ref (ξ.2.2.2.1 84))]) S.1 S.2.1 dMo_alone_12 rfl hl (by decide) rfl (fun ls hl => ?_)
  exact wMo_alone_13 S hr hlk hf N  N μ4 v5 (0 : Int32) (0 : Int32) _ _ _ hm hw (lv_sub hl [3, 2, 1, 0] rfl)
set_option maxHeartbeats 4000000 in
set_option maxRecDepth 100000 in
theorem cMo_tiltWith (l : Launch) (N : Nat) {Γ : sw_C} {A : Nat → Prop} {ξ : sw_x} {g : sw_g} {μ : sw_m} (hf : sw_wf ξ g.2.2) (a1 : Int32) (a2 : Int32) {res : Int32 × sw_m} (hm : fMo_tiltWith N μ a1 a2 = some res) : Met l yMo_tiltWith (Cond.code yMo_tiltWith prog_10_method_110_code 5 (some .int) :: sw_tb) rmMo_tiltWith (va_Pc [.ref (ξ.2.2.2.1 84), .int a1, .int a2] (sw_V Γ A ξ g μ)) (sw_Qi Γ A ξ g res.2 res.1 (True)) 0 0 A := by
  refine Met.ofW (cc := prog_10_method_110_code) (maxL := 5) (ret := some .int) (by decide) rfl ?_
  intro p e s m args below meth c s₁ B hml hv
  obtain ⟨rfl, hv⟩ := hv
  have S : CallFix p m c prog_10_method_110_code 5 s _ (Cond.code yMo_tiltWith prog_10_method_110_code 5 (some .int) :: sw_tb) R_Mo := ⟨B.exec, B.bytes, hml, findClass_of_methodNamed B.named, atoms_spec (ws := (Cond.code yMo_tiltWith prog_10_method_110_code 5 (some .int) :: sw_tb)) B.pre⟩
  have hr := B.returns
  have hlk := B.notSynchronized
  have hw := sw_begin hv
  have hl := lv_entry [.ref (ξ.2.2.2.1 84), .int a1, .int a2] (n := 5) (Nat.le_of_ble_eq_true rfl)
  rw [lg_entry_eq]
  generalize (lg_sl [.ref (ξ.2.2.2.1 84), .int a1, .int a2] ++ List.replicate (5 - (lg_sl [.ref (ξ.2.2.2.1 84), .int a1, .int a2]).length) Slot.unset).toArray = ls at hl ⊢
  have hl : lv_has ls 5 [(0, .ref (ξ.2.2.2.1 84)), (1, .int a1), (2, .int a2)] := hl
  unfold fMo_tiltWith at hm
  refine lv_bipush (v := (7 : Int32)) S.1 S.2.1 dMo_tiltWith_0 (by decide) ?_
  refine lv_iload_n S.1 S.2.1 dMo_tiltWith_2 rfl (lv_at hl 1 rfl) ?_
  refine lv_imul S.1 S.2.1 dMo_tiltWith_3 ?_
  refine lv_aload_n S.1 S.2.1 dMo_tiltWith_4 rfl (lv_at hl 0 rfl) ?_
  refine get_Mo (v := .ref (ξ.2.2.2.1 86)) S hw (is_84 hf) 2 (by decide) rfl wf_Mo_28 dMo_tiltWith_5 ?_
  refine lv_bipush (v := (7 : Int32)) S.1 S.2.1 dMo_tiltWith_8 (by decide) ?_
  refine lv_iload_n S.1 S.2.1 dMo_tiltWith_10 rfl (lv_at hl 2 rfl) ?_
  refine lv_iadd S.1 S.2.1 dMo_tiltWith_11 ?_
  refine sm_iald S hw (is_86 hf) hm dMo_tiltWith_12 (fun v1 hm => ?_)
  refine lv_iadd S.1 S.2.1 dMo_tiltWith_13 ?_
  refine nm_i hm (fun x2 hm => ?_)
  refine lv_istore_n (lv' := [(3, .int x2), (0, .ref (ξ.2.2.2.1 84)), (1, .int a1), (2, .int a2)]) S.1 S.2.1 dMo_tiltWith_14 rfl hl (by decide) rfl (fun ls hl => ?_)
  refine lv_bipush (v := (7 : Int32)) S.1 S.2.1 dMo_tiltWith_15 (by decide) ?_
  refine lv_iload_n S.1 S.2.1 dMo_tiltWith_17 rfl (lv_at hl 3 rfl) ?_
  refine lv_imul S.1 S.2.1 dMo_tiltWith_18 ?_
  refine lv_aload_n S.1 S.2.1 dMo_tiltWith_19 rfl (lv_at hl 1 rfl) ?_
  refine get_Mo (v := .ref (ξ.2.2.2.1 86)) S hw (is_84 hf) 2 (by decide) rfl wf_Mo_28 dMo_tiltWith_20 ?_
  refine lv_bipush (v := (7 : Int32)) S.1 S.2.1 dMo_tiltWith_23 (by decide) ?_
  refine lv_iload_n S.1 S.2.1 dMo_tiltWith_25 rfl (lv_at hl 2 rfl) ?_
  refine lv_iadd S.1 S.2.1 dMo_tiltWith_26 ?_
  refine sm_iald S hw (is_86 hf) hm dMo_tiltWith_27 (fun v3 hm => ?_)
  refine lv_iadd S.1 S.2.1 dMo_tiltWith_28 ?_
  refine nm_i hm (fun x4 hm => ?_)
  refine lv_istore (lv' := [(4, .int x4), (3, .int x2), (0, .ref (ξ.2.2.2.1 84)), (1, .int a1), (2, .int a2)]) S.1 S.2.1 dMo_tiltWith_29 hl (by decide) rfl (fun ls hl => ?_)
  refine lv_aload_n S.1 S.2.1 dMo_tiltWith_31 rfl (lv_at hl 2 rfl) ?_
  refine get_Mo (v := .ref (ξ.2.2.2.1 101)) S hw (is_84 hf) 35 (by decide) rfl wf_Mo_78 dMo_tiltWith_32 ?_
  refine lv_iload_n S.1 S.2.1 dMo_tiltWith_35 rfl (lv_at hl 1 rfl) ?_
  refine sm_zald S hw (is_101 hf) hm dMo_tiltWith_36 (fun v5 hm => ?_)
  refine bif_ne (tgt := 50) S.1 S.2.1 hm dMo_tiltWith_37 (by decide) (fun hm => ?_) (fun hm => ?_)
  · refine lv_ldc S.1 S.2.1 S.2.2.2.1 (sw_word S wc_Mo_193) dMo_tiltWith_50 ?_
    refine lv_goto (tgt := 89) S.1 S.2.1 dMo_tiltWith_52 (by decide) ?_
    obtain rfl := Option.some.inj hm
    exact sw_iret S hr hlk hw trivial dMo_tiltWith_89
  · refine lv_aload_n S.1 S.2.1 dMo_tiltWith_40 rfl (lv_at hl 2 rfl) ?_
    refine get_Mo (v := .ref (ξ.2.2.2.1 101)) S hw (is_84 hf) 35 (by decide) rfl wf_Mo_78 dMo_tiltWith_41 ?_
    refine lv_iload S.1 S.2.1 dMo_tiltWith_44 (lv_at hl 0 rfl) ?_
    refine sm_zald S hw (is_101 hf) hm dMo_tiltWith_46 (fun v6 hm => ?_)
    refine bif_eq (tgt := 55) S.1 S.2.1 hm dMo_tiltWith_47 (by decide) (fun hm => ?_) (fun hm => ?_)
    · refine lv_aload_n S.1 S.2.1 dMo_tiltWith_55 rfl (lv_at hl 2 rfl) ?_
      obtain ⟨⟨v9, μ8⟩, h7, hm⟩ := ob hm
      refine sw_Vi (q := 84) (rest := []) S hw (cMo_tiltNow l N hf  h7) kMo_tiltNow wm_Mo_154 (is_84 hf).1 (e_Mo (is_84 hf)) rfl rfl rfl rfl hl.1 (Nat.le_of_ble_eq_true rfl) ⟨rfl, rfl, Nat.le_of_ble_eq_true rfl, Nat.le_of_ble_eq_true rfl⟩ ⟨Nat.le_of_ble_eq_true rfl, Nat.le_of_ble_eq_true rfl⟩ dMo_tiltWith_56 (fun H locs hw _ => ?_)
      refine lv_aload_n S.1 S.2.1 dMo_tiltWith_59 rfl (lv_at hl 2 rfl) ?_
      refine lv_iload_n S.1 S.2.1 dMo_tiltWith_60 rfl (lv_at hl 3 rfl) ?_
      obtain ⟨⟨v12, μ11⟩, h10, hm⟩ := ob hm
      refine sw_Vi (q := 84) (rest := [.int v9]) S hw (cMo_pullOf l N hf a1 h10) kMo_pullOf wm_Mo_157 (is_84 hf).1 (e_Mo (is_84 hf)) rfl rfl rfl rfl hl.1 (Nat.le_of_ble_eq_true rfl) ⟨rfl, rfl, Nat.le_of_ble_eq_true rfl, Nat.le_of_ble_eq_true rfl⟩ ⟨Nat.le_of_ble_eq_true rfl, Nat.le_of_ble_eq_true rfl⟩ dMo_tiltWith_61 (fun H locs hw _ => ?_)
      refine lv_isub S.1 S.2.1 dMo_tiltWith_64 ?_
      refine lv_aload_n S.1 S.2.1 dMo_tiltWith_65 rfl (lv_at hl 2 rfl) ?_
      refine lv_iload_n S.1 S.2.1 dMo_tiltWith_66 rfl (lv_at hl 4 rfl) ?_
      obtain ⟨⟨v15, μ14⟩, h13, hm⟩ := ob hm
      refine sw_Vi (q := 84) (rest := [.int (v9 - v12)]) S hw (cMo_pullOf l N hf a2 h13) kMo_pullOf wm_Mo_157 (is_84 hf).1 (e_Mo (is_84 hf)) rfl rfl rfl rfl hl.1 (Nat.le_of_ble_eq_true rfl) ⟨rfl, rfl, Nat.le_of_ble_eq_true rfl, Nat.le_of_ble_eq_true rfl⟩ ⟨Nat.le_of_ble_eq_true rfl, Nat.le_of_ble_eq_true rfl⟩ dMo_tiltWith_67 (fun H locs hw _ => ?_)
      refine lv_isub S.1 S.2.1 dMo_tiltWith_70 ?_
      refine lv_aload_n S.1 S.2.1 dMo_tiltWith_71 rfl (lv_at hl 2 rfl) ?_
      refine get_Mo (v := .ref (ξ.2.2.2.1 100)) S hw (is_84 hf) 34 (by decide) rfl wf_Mo_75 dMo_tiltWith_72 ?_
      refine lv_iload_n S.1 S.2.1 dMo_tiltWith_75 rfl (lv_at hl 1 rfl) ?_
      refine sm_iald S hw (is_100 hf) hm dMo_tiltWith_76 (fun v16 hm => ?_)
      refine lv_iadd S.1 S.2.1 dMo_tiltWith_77 ?_
      refine lv_aload_n S.1 S.2.1 dMo_tiltWith_78 rfl (lv_at hl 2 rfl) ?_
      refine get_Mo (v := .ref (ξ.2.2.2.1 100)) S hw (is_84 hf) 34 (by decide) rfl wf_Mo_75 dMo_tiltWith_79 ?_
      refine lv_iload S.1 S.2.1 dMo_tiltWith_82 (lv_at hl 0 rfl) ?_
      refine sm_iald S hw (is_100 hf) hm dMo_tiltWith_84 (fun v17 hm => ?_)
      refine lv_iadd S.1 S.2.1 dMo_tiltWith_85 ?_
      obtain ⟨v19, h18, hm⟩ := ob hm
      refine sw_Si (rest := []) S hw (cMo_either l  hf ((((v9 - v12) - v15) + v16) + v17) h18) kMo_either wm_Mo_163 rfl rfl hl.1 (Nat.le_of_ble_eq_true rfl) ⟨rfl, rfl, Nat.le_of_ble_eq_true rfl, Nat.le_of_ble_eq_true rfl⟩ ⟨Nat.le_of_ble_eq_true rfl, Nat.le_of_ble_eq_true rfl⟩ dMo_tiltWith_86 (fun H locs hw _ => ?_)
      obtain rfl := Option.some.inj hm
      exact sw_iret S hr hlk hw trivial dMo_tiltWith_89
    · refine lv_ldc S.1 S.2.1 S.2.2.2.1 (sw_word S wc_Mo_193) dMo_tiltWith_50 ?_
      refine lv_goto (tgt := 89) S.1 S.2.1 dMo_tiltWith_52 (by decide) ?_
      obtain rfl := Option.some.inj hm
      exact sw_iret S hr hlk hw trivial dMo_tiltWith_89
set_option maxHeartbeats 4000000 in
set_option maxRecDepth 100000 in
theorem wMo_exchanged_83 {l : Launch} {p : Program} {e : Env} {s : State} {m : MethodId} {args : Array Value} {below : List Frame} {meth : Method} {c : Code} {Γ : sw_C} {A : Nat → Prop} {ξ : sw_x} {g : sw_g} {res : Int32 × sw_m} (S : CallFix p m c prog_10_method_111_code 7 s args (Cond.code yMo_exchanged prog_10_method_111_code 7 (some .int) :: sw_tb) R_Mo) (hr : meth.sig.returnType = some .int) (hlk : meth.locks = false) (hf : sw_wf ξ g.2.2) (N : Nat) (k28 : sw_m → Int32 → Int32 → Int32 → Int32 → Option (Int32 × sw_m)) (hk28 : ∀ (μ : sw_m) (u1 : Int32) (u2 : Int32) (u3 : Int32) (u4 : Int32) (H : Heap) (locs : List Loc) (ls : Array Slot), k28 μ u1 u2 u3 u4 = some res → sw_S Γ A ξ g μ s H locs → lv_has ls 7 [(0, .ref (ξ.2.2.2.1 84)), (1, .int u1), (2, .int u2), (3, .int u3), (4, .int u4)] → W p l e (headSpec (Cond.code yMo_exchanged prog_10_method_111_code 7 (some .int) :: sw_tb) rmMo_exchanged).room s m args below meth c H locs 0 0 (MQ below (sw_Qi Γ A ξ g res.2 res.1 (True)) args s 0 0 A) (F0 m 28 ls [])) (k43 : sw_m → Int32 → Int32 → Int32 → Int32 → Int32 → Option (Int32 × sw_m)) (hk43 : ∀ (μ : sw_m) (u1 : Int32) (u2 : Int32) (u3 : Int32) (u4 : Int32) (u5 : Int32) (H : Heap) (locs : List Loc) (ls : Array Slot), k43 μ u1 u2 u3 u4 u5 = some res → sw_S Γ A ξ g μ s H locs → lv_has ls 7 [(0, .ref (ξ.2.2.2.1 84)), (1, .int u1), (2, .int u2), (3, .int u3), (4, .int u4), (5, .int u5)] → W p l e (headSpec (Cond.code yMo_exchanged prog_10_method_111_code 7 (some .int) :: sw_tb) rmMo_exchanged).room s m args below meth c H locs 0 0 (MQ below (sw_Qi Γ A ξ g res.2 res.1 (True)) args s 0 0 A) (F0 m 43 ls [])) : ∀ (μ : sw_m) (u1 : Int32) (u2 : Int32) (u3 : Int32) (u4 : Int32) (u5 : Int32) (s0 : Int32) (H : Heap) (locs : List Loc) (ls : Array Slot), fMo_exchanged_83 N  k28 k43 μ u1 u2 u3 u4 u5 s0 = some res → sw_S Γ A ξ g μ s H locs → lv_has ls 7 [(0, .ref (ξ.2.2.2.1 84)), (1, .int u1), (2, .int u2), (3, .int u3), (4, .int u4), (5, .int u5)] → W p l e (headSpec (Cond.code yMo_exchanged prog_10_method_111_code 7 (some .int) :: sw_tb) rmMo_exchanged).room s m args below meth c H locs 0 0 (MQ below (sw_Qi Γ A ξ g res.2 res.1 (True)) args s 0 0 A) (F0 m 83 ls [.int s0]) := by
  intro μ u1 u2 u3 u4 u5 s0 H locs ls hm hw hl
  unfold fMo_exchanged_83 at hm
  refine lv_istore (lv' := [(6, .int s0), (0, .ref (ξ.2.2.2.1 84)), (1, .int u1), (2, .int u2), (3, .int u3), (4, .int u4), (5, .int u5)]) S.1 S.2.1 dMo_exchanged_83 hl (by decide) rfl (fun ls hl => ?_)
  refine lv_iload S.1 S.2.1 dMo_exchanged_85 (lv_at hl 0 rfl) ?_
  refine lv_iload_n S.1 S.2.1 dMo_exchanged_87 rfl (lv_at hl 3 rfl) ?_
  refine bicmp_lt (tgt := 94) S.1 S.2.1 hm dMo_exchanged_88 (by decide) (fun hm => ?_) (fun hm => ?_)
  · refine lv_iload S.1 S.2.1 dMo_exchanged_94 (lv_at hl 0 rfl) ?_
    refine lv_istore_n (lv' := [(2, .int s0), (6, .int s0), (0, .ref (ξ.2.2.2.1 84)), (1, .int u1), (3, .int u3), (4, .int u4), (5, .int u5)]) S.1 S.2.1 dMo_exchanged_96 rfl hl (by decide) rfl (fun ls hl => ?_)
    refine lv_bipush (v := (10 : Int32)) S.1 S.2.1 dMo_exchanged_97 (by decide) ?_
    refine lv_iload S.1 S.2.1 dMo_exchanged_99 (lv_at hl 5 rfl) ?_
    refine lv_imul S.1 S.2.1 dMo_exchanged_101 ?_
    refine lv_iload S.1 S.2.1 dMo_exchanged_102 (lv_at hl 6 rfl) ?_
    refine lv_iadd S.1 S.2.1 dMo_exchanged_104 ?_
    refine nm_i hm (fun x21 hm => ?_)
    refine lv_istore_n (lv' := [(3, .int x21), (2, .int s0), (6, .int s0), (0, .ref (ξ.2.2.2.1 84)), (1, .int u1), (4, .int u4), (5, .int u5)]) S.1 S.2.1 dMo_exchanged_105 rfl hl (by decide) rfl (fun ls hl => ?_)
    obtain ⟨x22, ex22, hm⟩ := nm_x hm
    refine lv_iinc (v := x22) (lv' := [(5, .int x22), (3, .int x21), (2, .int s0), (6, .int s0), (0, .ref (ξ.2.2.2.1 84)), (1, .int u1), (4, .int u4)]) S.1 S.2.1 dMo_exchanged_106 hl (k := 6) rfl (by rw [ex22]; rfl) (by decide) rfl (fun ls hl => ?_)
    refine lv_goto (tgt := 43) S.1 S.2.1 dMo_exchanged_109 (by decide) ?_
    exact hk43 μ u1 s0 x21 u4 x22 _ _ _ hm hw (lv_sub hl [4, 5, 2, 1, 6, 0] rfl)
  · refine lv_goto (tgt := 106) S.1 S.2.1 dMo_exchanged_91 (by decide) ?_
    obtain ⟨x23, ex23, hm⟩ := nm_x hm
    refine lv_iinc (v := x23) (lv' := [(5, .int x23), (6, .int s0), (0, .ref (ξ.2.2.2.1 84)), (1, .int u1), (2, .int u2), (3, .int u3), (4, .int u4)]) S.1 S.2.1 dMo_exchanged_106 hl (k := 6) rfl (by rw [ex23]; rfl) (by decide) rfl (fun ls hl => ?_)
    refine lv_goto (tgt := 43) S.1 S.2.1 dMo_exchanged_109 (by decide) ?_
    exact hk43 μ u1 u2 u3 u4 x23 _ _ _ hm hw (lv_sub hl [2, 3, 4, 5, 6, 0] rfl)
set_option maxHeartbeats 4000000 in
set_option maxRecDepth 100000 in
theorem wMo_exchanged_43 {l : Launch} {p : Program} {e : Env} {s : State} {m : MethodId} {args : Array Value} {below : List Frame} {meth : Method} {c : Code} {Γ : sw_C} {A : Nat → Prop} {ξ : sw_x} {g : sw_g} {res : Int32 × sw_m} (S : CallFix p m c prog_10_method_111_code 7 s args (Cond.code yMo_exchanged prog_10_method_111_code 7 (some .int) :: sw_tb) R_Mo) (hr : meth.sig.returnType = some .int) (hlk : meth.locks = false) (hf : sw_wf ξ g.2.2) (N : Nat) (k28 : sw_m → Int32 → Int32 → Int32 → Int32 → Option (Int32 × sw_m)) (hk28 : ∀ (μ : sw_m) (u1 : Int32) (u2 : Int32) (u3 : Int32) (u4 : Int32) (H : Heap) (locs : List Loc) (ls : Array Slot), k28 μ u1 u2 u3 u4 = some res → sw_S Γ A ξ g μ s H locs → lv_has ls 7 [(0, .ref (ξ.2.2.2.1 84)), (1, .int u1), (2, .int u2), (3, .int u3), (4, .int u4)] → W p l e (headSpec (Cond.code yMo_exchanged prog_10_method_111_code 7 (some .int) :: sw_tb) rmMo_exchanged).room s m args below meth c H locs 0 0 (MQ below (sw_Qi Γ A ξ g res.2 res.1 (True)) args s 0 0 A) (F0 m 28 ls [])) : ∀ (fu : Nat) (μ : sw_m) (u1 : Int32) (u2 : Int32) (u3 : Int32) (u4 : Int32) (u5 : Int32) (H : Heap) (locs : List Loc) (ls : Array Slot), fMo_exchanged_43 N  k28 fu μ u1 u2 u3 u4 u5 = some res → sw_S Γ A ξ g μ s H locs → lv_has ls 7 [(0, .ref (ξ.2.2.2.1 84)), (1, .int u1), (2, .int u2), (3, .int u3), (4, .int u4), (5, .int u5)] → W p l e (headSpec (Cond.code yMo_exchanged prog_10_method_111_code 7 (some .int) :: sw_tb) rmMo_exchanged).room s m args below meth c H locs 0 0 (MQ below (sw_Qi Γ A ξ g res.2 res.1 (True)) args s 0 0 A) (F0 m 43 ls []) := by
  intro fu
  induction fu with
  | zero => intro μ u1 u2 u3 u4 u5 H locs ls hm; rw [fMo_exchanged_43.eq_1] at hm; cases hm
  | succ fu ih =>
    intro μ u1 u2 u3 u4 u5 H locs ls hm hw hl
    rw [fMo_exchanged_43.eq_2] at hm
    refine lv_iload S.1 S.2.1 dMo_exchanged_43 (lv_at hl 5 rfl) ?_
    refine lv_aload_n S.1 S.2.1 dMo_exchanged_45 rfl (lv_at hl 0 rfl) ?_
    obtain ⟨⟨v16, μ15⟩, h14, hm⟩ := ob hm
    refine sw_Vi (q := 84) (rest := [.int u5]) S hw (cMo_many l  hf  h14) kMo_many wm_Mo_119 (is_84 hf).1 (e_Mo (is_84 hf)) rfl rfl rfl rfl hl.1 (Nat.le_of_ble_eq_true rfl) ⟨rfl, rfl, Nat.le_of_ble_eq_true rfl, Nat.le_of_ble_eq_true rfl⟩ ⟨Nat.le_of_ble_eq_true rfl, Nat.le_of_ble_eq_true rfl⟩ dMo_exchanged_46 (fun H locs hw _ => ?_)
    refine bicmp_ge (tgt := 112) S.1 S.2.1 hm dMo_exchanged_49 (by decide) (fun hm => ?_) (fun hm => ?_)
    · obtain ⟨x17, ex17, hm⟩ := nm_x hm
      refine lv_iinc (v := x17) (lv' := [(4, .int x17), (0, .ref (ξ.2.2.2.1 84)), (1, .int u1), (2, .int u2), (3, .int u3), (5, .int u5)]) S.1 S.2.1 dMo_exchanged_112 hl (k := 4) rfl (by rw [ex17]; rfl) (by decide) rfl (fun ls hl => ?_)
      refine lv_goto (tgt := 28) S.1 S.2.1 dMo_exchanged_115 (by decide) ?_
      exact hk28 μ15 u1 u2 u3 x17 _ _ _ hm hw (lv_sub hl [1, 2, 3, 4, 0] rfl)
    · refine lv_aload_n S.1 S.2.1 dMo_exchanged_52 rfl (lv_at hl 0 rfl) ?_
      refine lv_iload S.1 S.2.1 dMo_exchanged_53 (lv_at hl 4 rfl) ?_
      obtain ⟨⟨v20, μ19⟩, h18, hm⟩ := ob hm
      refine sw_Vi (q := 84) (rest := []) S hw (cMo_isOn l  hf u4 h18) kMo_isOn wm_Mo_138 (is_84 hf).1 (e_Mo (is_84 hf)) rfl rfl rfl rfl hl.1 (Nat.le_of_ble_eq_true rfl) ⟨rfl, rfl, Nat.le_of_ble_eq_true rfl, Nat.le_of_ble_eq_true rfl⟩ ⟨Nat.le_of_ble_eq_true rfl, Nat.le_of_ble_eq_true rfl⟩ dMo_exchanged_55 (fun H locs hw _ => ?_)
      refine bif_eq (tgt := 81) S.1 S.2.1 hm dMo_exchanged_58 (by decide) (fun hm => ?_) (fun hm => ?_)
      · refine lv_ldc S.1 S.2.1 S.2.2.2.1 (sw_word S wc_Mo_193) dMo_exchanged_81 ?_
        exact wMo_exchanged_83 S hr hlk hf N k28 hk28 (fMo_exchanged_43 N  k28 fu) ih μ19 u1 u2 u3 u4 u5 (1000000 : Int32) _ _ _ hm hw (lv_sub hl [0, 1, 2, 3, 4, 5] rfl)
      · refine lv_aload_n S.1 S.2.1 dMo_exchanged_61 rfl (lv_at hl 0 rfl) ?_
        refine lv_iload S.1 S.2.1 dMo_exchanged_62 (lv_at hl 5 rfl) ?_
        obtain ⟨⟨v26, μ25⟩, h24, hm⟩ := ob hm
        refine sw_Vi (q := 84) (rest := []) S hw (cMo_isOn l  hf u5 h24) kMo_isOn wm_Mo_138 (is_84 hf).1 (e_Mo (is_84 hf)) rfl rfl rfl rfl hl.1 (Nat.le_of_ble_eq_true rfl) ⟨rfl, rfl, Nat.le_of_ble_eq_true rfl, Nat.le_of_ble_eq_true rfl⟩ ⟨Nat.le_of_ble_eq_true rfl, Nat.le_of_ble_eq_true rfl⟩ dMo_exchanged_64 (fun H locs hw _ => ?_)
        refine bif_eq (tgt := 81) S.1 S.2.1 hm dMo_exchanged_67 (by decide) (fun hm => ?_) (fun hm => ?_)
        · refine lv_ldc S.1 S.2.1 S.2.2.2.1 (sw_word S wc_Mo_193) dMo_exchanged_81 ?_
          exact wMo_exchanged_83 S hr hlk hf N k28 hk28 (fMo_exchanged_43 N  k28 fu) ih μ25 u1 u2 u3 u4 u5 (1000000 : Int32) _ _ _ hm hw (lv_sub hl [0, 1, 2, 3, 4, 5] rfl)
        · refine lv_aload_n S.1 S.2.1 dMo_exchanged_70 rfl (lv_at hl 0 rfl) ?_
          refine lv_iload S.1 S.2.1 dMo_exchanged_71 (lv_at hl 4 rfl) ?_
          refine lv_iload S.1 S.2.1 dMo_exchanged_73 (lv_at hl 5 rfl) ?_
          obtain ⟨⟨v29, μ28⟩, h27, hm⟩ := ob hm
          refine sw_Vi (q := 84) (rest := []) S hw (cMo_tiltWith l N hf u4 u5 h27) kMo_tiltWith wm_Mo_420 (is_84 hf).1 (e_Mo (is_84 hf)) rfl rfl rfl rfl hl.1 (Nat.le_of_ble_eq_true rfl) ⟨rfl, rfl, Nat.le_of_ble_eq_true rfl, Nat.le_of_ble_eq_true rfl⟩ ⟨Nat.le_of_ble_eq_true rfl, Nat.le_of_ble_eq_true rfl⟩ dMo_exchanged_75 (fun H locs hw _ => ?_)
          refine lv_goto (tgt := 83) S.1 S.2.1 dMo_exchanged_78 (by decide) ?_
          exact wMo_exchanged_83 S hr hlk hf N k28 hk28 (fMo_exchanged_43 N  k28 fu) ih μ28 u1 u2 u3 u4 u5 v29 _ _ _ hm hw (lv_sub hl [0, 1, 2, 3, 4, 5] rfl)
set_option maxHeartbeats 4000000 in
set_option maxRecDepth 100000 in
theorem wMo_exchanged_28 {l : Launch} {p : Program} {e : Env} {s : State} {m : MethodId} {args : Array Value} {below : List Frame} {meth : Method} {c : Code} {Γ : sw_C} {A : Nat → Prop} {ξ : sw_x} {g : sw_g} {res : Int32 × sw_m} (S : CallFix p m c prog_10_method_111_code 7 s args (Cond.code yMo_exchanged prog_10_method_111_code 7 (some .int) :: sw_tb) R_Mo) (hr : meth.sig.returnType = some .int) (hlk : meth.locks = false) (hf : sw_wf ξ g.2.2) (N : Nat) : ∀ (fu : Nat) (μ : sw_m) (u1 : Int32) (u2 : Int32) (u3 : Int32) (u4 : Int32) (H : Heap) (locs : List Loc) (ls : Array Slot), fMo_exchanged_28 N   fu μ u1 u2 u3 u4 = some res → sw_S Γ A ξ g μ s H locs → lv_has ls 7 [(0, .ref (ξ.2.2.2.1 84)), (1, .int u1), (2, .int u2), (3, .int u3), (4, .int u4)] → W p l e (headSpec (Cond.code yMo_exchanged prog_10_method_111_code 7 (some .int) :: sw_tb) rmMo_exchanged).room s m args below meth c H locs 0 0 (MQ below (sw_Qi Γ A ξ g res.2 res.1 (True)) args s 0 0 A) (F0 m 28 ls []) := by
  intro fu
  induction fu with
  | zero => intro μ u1 u2 u3 u4 H locs ls hm; rw [fMo_exchanged_28.eq_1] at hm; cases hm
  | succ fu ih =>
    intro μ u1 u2 u3 u4 H locs ls hm hw hl
    rw [fMo_exchanged_28.eq_2] at hm
    refine lv_iload S.1 S.2.1 dMo_exchanged_28 (lv_at hl 4 rfl) ?_
    refine lv_aload_n S.1 S.2.1 dMo_exchanged_30 rfl (lv_at hl 0 rfl) ?_
    obtain ⟨⟨v12, μ11⟩, h10, hm⟩ := ob hm
    refine sw_Vi (q := 84) (rest := [.int u4]) S hw (cMo_many l  hf  h10) kMo_many wm_Mo_119 (is_84 hf).1 (e_Mo (is_84 hf)) rfl rfl rfl rfl hl.1 (Nat.le_of_ble_eq_true rfl) ⟨rfl, rfl, Nat.le_of_ble_eq_true rfl, Nat.le_of_ble_eq_true rfl⟩ ⟨Nat.le_of_ble_eq_true rfl, Nat.le_of_ble_eq_true rfl⟩ dMo_exchanged_31 (fun H locs hw _ => ?_)
    refine bicmp_ge (tgt := 118) S.1 S.2.1 hm dMo_exchanged_34 (by decide) (fun hm => ?_) (fun hm => ?_)
    · refine lv_iload_n S.1 S.2.1 dMo_exchanged_118 rfl (lv_at hl 3 rfl) ?_
      refine lv_iconst (v := (-1 : Int32)) S.1 S.2.1 dMo_exchanged_119 (by decide) ?_
      refine bicmp_eq (tgt := 127) S.1 S.2.1 hm dMo_exchanged_120 (by decide) (fun hm => ?_) (fun hm => ?_)
      · refine lv_iload_n S.1 S.2.1 dMo_exchanged_127 rfl (lv_at hl 3 rfl) ?_
        refine lv_goto (tgt := 132) S.1 S.2.1 dMo_exchanged_128 (by decide) ?_
        obtain rfl := Option.some.inj hm
        exact sw_iret S hr hlk hw trivial dMo_exchanged_132
      · refine lv_iload_n S.1 S.2.1 dMo_exchanged_123 rfl (lv_at hl 1 rfl) ?_
        refine bif_ne (tgt := 131) S.1 S.2.1 hm dMo_exchanged_124 (by decide) (fun hm => ?_) (fun hm => ?_)
        · refine lv_iload_n S.1 S.2.1 dMo_exchanged_131 rfl (lv_at hl 2 rfl) ?_
          obtain rfl := Option.some.inj hm
          exact sw_iret S hr hlk hw trivial dMo_exchanged_132
        · refine lv_iload_n S.1 S.2.1 dMo_exchanged_127 rfl (lv_at hl 3 rfl) ?_
          refine lv_goto (tgt := 132) S.1 S.2.1 dMo_exchanged_128 (by decide) ?_
          obtain rfl := Option.some.inj hm
          exact sw_iret S hr hlk hw trivial dMo_exchanged_132
    · refine lv_iload S.1 S.2.1 dMo_exchanged_37 (lv_at hl 4 rfl) ?_
      refine lv_iconst (v := (1 : Int32)) S.1 S.2.1 dMo_exchanged_39 (by decide) ?_
      refine lv_iadd S.1 S.2.1 dMo_exchanged_40 ?_
      refine nm_i hm (fun x13 hm => ?_)
      refine lv_istore (lv' := [(5, .int x13), (0, .ref (ξ.2.2.2.1 84)), (1, .int u1), (2, .int u2), (3, .int u3), (4, .int u4)]) S.1 S.2.1 dMo_exchanged_41 hl (by decide) rfl (fun ls hl => ?_)
      exact wMo_exchanged_43 S hr hlk hf N (fMo_exchanged_28 N   fu) ih N μ11 u1 u2 u3 u4 x13 _ _ _ hm hw (lv_sub hl [1, 2, 3, 4, 5, 0] rfl)
set_option maxHeartbeats 4000000 in
set_option maxRecDepth 100000 in
theorem cMo_exchanged (l : Launch) (N : Nat) {Γ : sw_C} {A : Nat → Prop} {ξ : sw_x} {g : sw_g} {μ : sw_m} (hf : sw_wf ξ g.2.2) (a1 : Int32) {res : Int32 × sw_m} (hm : fMo_exchanged N μ a1 = some res) : Met l yMo_exchanged (Cond.code yMo_exchanged prog_10_method_111_code 7 (some .int) :: sw_tb) rmMo_exchanged (va_Pc [.ref (ξ.2.2.2.1 84), .int a1] (sw_V Γ A ξ g μ)) (sw_Qi Γ A ξ g res.2 res.1 (True)) 0 0 A := by
  refine Met.ofW (cc := prog_10_method_111_code) (maxL := 7) (ret := some .int) (by decide) rfl ?_
  intro p e s m args below meth c s₁ B hml hv
  obtain ⟨rfl, hv⟩ := hv
  have S : CallFix p m c prog_10_method_111_code 7 s _ (Cond.code yMo_exchanged prog_10_method_111_code 7 (some .int) :: sw_tb) R_Mo := ⟨B.exec, B.bytes, hml, findClass_of_methodNamed B.named, atoms_spec (ws := (Cond.code yMo_exchanged prog_10_method_111_code 7 (some .int) :: sw_tb)) B.pre⟩
  have hr := B.returns
  have hlk := B.notSynchronized
  have hw := sw_begin hv
  have hl := lv_entry [.ref (ξ.2.2.2.1 84), .int a1] (n := 7) (Nat.le_of_ble_eq_true rfl)
  rw [lg_entry_eq]
  generalize (lg_sl [.ref (ξ.2.2.2.1 84), .int a1] ++ List.replicate (7 - (lg_sl [.ref (ξ.2.2.2.1 84), .int a1]).length) Slot.unset).toArray = ls at hl ⊢
  have hl : lv_has ls 7 [(0, .ref (ξ.2.2.2.1 84)), (1, .int a1)] := hl
  unfold fMo_exchanged at hm
  refine lv_iload_n S.1 S.2.1 dMo_exchanged_0 rfl (lv_at hl 1 rfl) ?_
  refine lv_iconst (v := (0 : Int32)) S.1 S.2.1 dMo_exchanged_1 (by decide) ?_
  refine lv_iconst (v := (1 : Int32)) S.1 S.2.1 dMo_exchanged_2 (by decide) ?_
  obtain ⟨v2, h1, hm⟩ := ob hm
  refine sw_Si (rest := []) S hw (cMo_lies l  hf a1 (0 : Int32) (1 : Int32) h1) kMo_lies wm_Mo_18 rfl rfl hl.1 (Nat.le_of_ble_eq_true rfl) ⟨rfl, rfl, Nat.le_of_ble_eq_true rfl, Nat.le_of_ble_eq_true rfl⟩ ⟨Nat.le_of_ble_eq_true rfl, Nat.le_of_ble_eq_true rfl⟩ dMo_exchanged_3 (fun H locs hw _ => ?_)
  refine bif_ne (tgt := 11) S.1 S.2.1 hm dMo_exchanged_6 (by decide) (fun hm => ?_) (fun hm => ?_)
  · refine lv_aload_n S.1 S.2.1 dMo_exchanged_11 rfl (lv_at hl 0 rfl) ?_
    obtain ⟨μ4, h3, hm⟩ := ob hm
    refine sw_Vv (q := 84) (rest := []) S hw (cMo_laysPulls l N hf  h3) kMo_laysPulls wm_Mo_399 (is_84 hf).1 (e_Mo (is_84 hf)) rfl rfl rfl rfl hl.1 (Nat.le_of_ble_eq_true rfl) ⟨rfl, rfl, Nat.le_of_ble_eq_true rfl, Nat.le_of_ble_eq_true rfl⟩ ⟨Nat.le_of_ble_eq_true rfl, Nat.le_of_ble_eq_true rfl⟩ dMo_exchanged_12 (fun H locs hw _ => ?_)
    refine lv_aload_n S.1 S.2.1 dMo_exchanged_15 rfl (lv_at hl 0 rfl) ?_
    obtain ⟨⟨v7, μ6⟩, h5, hm⟩ := ob hm
    refine sw_Vi (q := 84) (rest := []) S hw (cMo_tiltNow l N hf  h5) kMo_tiltNow wm_Mo_154 (is_84 hf).1 (e_Mo (is_84 hf)) rfl rfl rfl rfl hl.1 (Nat.le_of_ble_eq_true rfl) ⟨rfl, rfl, Nat.le_of_ble_eq_true rfl, Nat.le_of_ble_eq_true rfl⟩ ⟨Nat.le_of_ble_eq_true rfl, Nat.le_of_ble_eq_true rfl⟩ dMo_exchanged_16 (fun H locs hw _ => ?_)
    obtain ⟨v9, h8, hm⟩ := ob hm
    refine sw_Si (rest := []) S hw (cMo_either l  hf v7 h8) kMo_either wm_Mo_163 rfl rfl hl.1 (Nat.le_of_ble_eq_true rfl) ⟨rfl, rfl, Nat.le_of_ble_eq_true rfl, Nat.le_of_ble_eq_true rfl⟩ ⟨Nat.le_of_ble_eq_true rfl, Nat.le_of_ble_eq_true rfl⟩ dMo_exchanged_19 (fun H locs hw _ => ?_)
    refine lv_istore_n (lv' := [(2, .int v9), (0, .ref (ξ.2.2.2.1 84)), (1, .int a1)]) S.1 S.2.1 dMo_exchanged_22 rfl hl (by decide) rfl (fun ls hl => ?_)
    refine lv_iconst (v := (-1 : Int32)) S.1 S.2.1 dMo_exchanged_23 (by decide) ?_
    refine lv_istore_n (lv' := [(3, .int (-1 : Int32)), (2, .int v9), (0, .ref (ξ.2.2.2.1 84)), (1, .int a1)]) S.1 S.2.1 dMo_exchanged_24 rfl hl (by decide) rfl (fun ls hl => ?_)
    refine lv_iconst (v := (0 : Int32)) S.1 S.2.1 dMo_exchanged_25 (by decide) ?_
    refine lv_istore (lv' := [(4, .int (0 : Int32)), (3, .int (-1 : Int32)), (2, .int v9), (0, .ref (ξ.2.2.2.1 84)), (1, .int a1)]) S.1 S.2.1 dMo_exchanged_26 hl (by decide) rfl (fun ls hl => ?_)
    exact wMo_exchanged_28 S hr hlk hf N  N μ6 a1 v9 (-1 : Int32) (0 : Int32) _ _ _ hm hw (lv_sub hl [3, 4, 2, 1, 0] rfl)
  · refine lv_iconst (v := (-1 : Int32)) S.1 S.2.1 dMo_exchanged_9 (by decide) ?_
    obtain rfl := Option.some.inj hm
    exact sw_iret S hr hlk hw trivial dMo_exchanged_10
set_option maxHeartbeats 4000000 in
set_option maxRecDepth 100000 in
theorem cMo_compare (l : Launch) (N : Nat) {Γ : sw_C} {A : Nat → Prop} {ξ : sw_x} {g : sw_g} {μ : sw_m} (hf : sw_wf ξ g.2.2) (a1 : Int32) {res : Int32 × sw_m} (hm : fMo_compare N μ a1 = some res) : Met l yMo_compare (Cond.code yMo_compare prog_10_method_112_code 4 (some .int) :: sw_tb) rmMo_compare (va_Pc [.ref (ξ.2.2.2.1 84), .int a1] (sw_V Γ A ξ g μ)) (sw_Qi Γ A ξ g res.2 res.1 (True)) 0 0 A := by
  refine Met.ofW (cc := prog_10_method_112_code) (maxL := 4) (ret := some .int) (by decide) rfl ?_
  intro p e s m args below meth c s₁ B hml hv
  obtain ⟨rfl, hv⟩ := hv
  have S : CallFix p m c prog_10_method_112_code 4 s _ (Cond.code yMo_compare prog_10_method_112_code 4 (some .int) :: sw_tb) R_Mo := ⟨B.exec, B.bytes, hml, findClass_of_methodNamed B.named, atoms_spec (ws := (Cond.code yMo_compare prog_10_method_112_code 4 (some .int) :: sw_tb)) B.pre⟩
  have hr := B.returns
  have hlk := B.notSynchronized
  have hw := sw_begin hv
  have hl := lv_entry [.ref (ξ.2.2.2.1 84), .int a1] (n := 4) (Nat.le_of_ble_eq_true rfl)
  rw [lg_entry_eq]
  generalize (lg_sl [.ref (ξ.2.2.2.1 84), .int a1] ++ List.replicate (4 - (lg_sl [.ref (ξ.2.2.2.1 84), .int a1]).length) Slot.unset).toArray = ls at hl ⊢
  have hl : lv_has ls 4 [(0, .ref (ξ.2.2.2.1 84)), (1, .int a1)] := hl
  unfold fMo_compare at hm
  refine lv_aload_n S.1 S.2.1 dMo_compare_0 rfl (lv_at hl 0 rfl) ?_
  refine lv_iload_n S.1 S.2.1 dMo_compare_1 rfl (lv_at hl 1 rfl) ?_
  obtain ⟨⟨v3, μ2⟩, h1, hm⟩ := ob hm
  refine sw_Vi (q := 84) (rest := []) S hw (cMo_isLaw l  hf a1 h1) kMo_isLaw wm_Mo_280 (is_84 hf).1 (e_Mo (is_84 hf)) rfl rfl rfl rfl hl.1 (Nat.le_of_ble_eq_true rfl) ⟨rfl, rfl, Nat.le_of_ble_eq_true rfl, Nat.le_of_ble_eq_true rfl⟩ ⟨Nat.le_of_ble_eq_true rfl, Nat.le_of_ble_eq_true rfl⟩ dMo_compare_2 (fun H locs hw _ => ?_)
  refine bif_ne (tgt := 10) S.1 S.2.1 hm dMo_compare_5 (by decide) (fun hm => ?_) (fun hm => ?_)
  · refine lv_aload_n S.1 S.2.1 dMo_compare_10 rfl (lv_at hl 0 rfl) ?_
    refine get_Mo (v := .ref (ξ.2.2.2.1 86)) S hw (is_84 hf) 2 (by decide) rfl wf_Mo_28 dMo_compare_11 ?_
    refine lv_bipush (v := (46 : Int32)) S.1 S.2.1 dMo_compare_14 (by decide) ?_
    refine sm_iald S hw (is_86 hf) hm dMo_compare_16 (fun v4 hm => ?_)
    refine lv_istore_n (lv' := [(2, .int v4), (0, .ref (ξ.2.2.2.1 84)), (1, .int a1)]) S.1 S.2.1 dMo_compare_17 rfl hl (by decide) rfl (fun ls hl => ?_)
    refine lv_aload_n S.1 S.2.1 dMo_compare_18 rfl (lv_at hl 1 rfl) ?_
    refine get_Mo (v := .ref (ξ.2.2.2.1 86)) S hw (is_84 hf) 2 (by decide) rfl wf_Mo_28 dMo_compare_19 ?_
    refine lv_bipush (v := (46 : Int32)) S.1 S.2.1 dMo_compare_22 (by decide) ?_
    refine lv_iload_n S.1 S.2.1 dMo_compare_24 rfl (lv_at hl 2 rfl) ?_
    refine sm_iast S hw (is_86 hf) hm dMo_compare_25 (fun μ5 H locs hm hw => ?_)
    refine lv_aload_n S.1 S.2.1 dMo_compare_26 rfl (lv_at hl 1 rfl) ?_
    obtain ⟨⟨v8, μ7⟩, h6, hm⟩ := ob hm
    refine sw_Vi (q := 84) (rest := []) S hw (cMo_tiltNow l N hf  h6) kMo_tiltNow wm_Mo_154 (is_84 hf).1 (e_Mo (is_84 hf)) rfl rfl rfl rfl hl.1 (Nat.le_of_ble_eq_true rfl) ⟨rfl, rfl, Nat.le_of_ble_eq_true rfl, Nat.le_of_ble_eq_true rfl⟩ ⟨Nat.le_of_ble_eq_true rfl, Nat.le_of_ble_eq_true rfl⟩ dMo_compare_27 (fun H locs hw _ => ?_)
    obtain ⟨v10, h9, hm⟩ := ob hm
    refine sw_Si (rest := []) S hw (cMo_either l  hf v8 h9) kMo_either wm_Mo_163 rfl rfl hl.1 (Nat.le_of_ble_eq_true rfl) ⟨rfl, rfl, Nat.le_of_ble_eq_true rfl, Nat.le_of_ble_eq_true rfl⟩ ⟨Nat.le_of_ble_eq_true rfl, Nat.le_of_ble_eq_true rfl⟩ dMo_compare_30 (fun H locs hw _ => ?_)
    refine lv_istore_n (lv' := [(3, .int v10), (2, .int v4), (0, .ref (ξ.2.2.2.1 84)), (1, .int a1)]) S.1 S.2.1 dMo_compare_33 rfl hl (by decide) rfl (fun ls hl => ?_)
    refine lv_aload_n S.1 S.2.1 dMo_compare_34 rfl (lv_at hl 2 rfl) ?_
    refine get_Mo (v := .ref (ξ.2.2.2.1 86)) S hw (is_84 hf) 2 (by decide) rfl wf_Mo_28 dMo_compare_35 ?_
    refine lv_bipush (v := (46 : Int32)) S.1 S.2.1 dMo_compare_38 (by decide) ?_
    refine lv_iload_n S.1 S.2.1 dMo_compare_40 rfl (lv_at hl 1 rfl) ?_
    refine sm_iast S hw (is_86 hf) hm dMo_compare_41 (fun μ11 H locs hm hw => ?_)
    refine lv_iload_n S.1 S.2.1 dMo_compare_42 rfl (lv_at hl 0 rfl) ?_
    obtain rfl := Option.some.inj hm
    exact sw_iret S hr hlk hw trivial dMo_compare_43
  · refine lv_iconst (v := (-1 : Int32)) S.1 S.2.1 dMo_compare_8 (by decide) ?_
    obtain rfl := Option.some.inj hm
    exact sw_iret S hr hlk hw trivial dMo_compare_9
set_option maxHeartbeats 4000000 in
set_option maxRecDepth 100000 in
theorem wMo_laysTilts_46 {l : Launch} {p : Program} {e : Env} {s : State} {m : MethodId} {args : Array Value} {below : List Frame} {meth : Method} {c : Code} {Γ : sw_C} {A : Nat → Prop} {ξ : sw_x} {g : sw_g} {res : sw_m} (S : CallFix p m c prog_10_method_116_code 5 s args (Cond.code yMo_laysTilts prog_10_method_116_code 5 (none) :: sw_tb) R_Mo) (hr : meth.sig.returnType = none) (hlk : meth.locks = false) (hf : sw_wf ξ g.2.2) (N : Nat) (k29 : sw_m → Int32 → Int32 → Option (sw_m)) (hk29 : ∀ (μ : sw_m) (u1 : Int32) (u2 : Int32) (H : Heap) (locs : List Loc) (ls : Array Slot), k29 μ u1 u2 = some res → sw_S Γ A ξ g μ s H locs → lv_has ls 5 [(0, .ref (ξ.2.2.2.1 84)), (1, .int u1), (2, .int u2)] → W p l e (headSpec (Cond.code yMo_laysTilts prog_10_method_116_code 5 (none) :: sw_tb) rmMo_laysTilts).room s m args below meth c H locs 0 0 (MQ below (sw_Qv Γ A ξ g res (True)) args s 0 0 A) (F0 m 29 ls [])) : ∀ (fu : Nat) (μ : sw_m) (u1 : Int32) (u2 : Int32) (u3 : Int32) (u4 : Int32) (H : Heap) (locs : List Loc) (ls : Array Slot), fMo_laysTilts_46 N  k29 fu μ u1 u2 u3 u4 = some res → sw_S Γ A ξ g μ s H locs → lv_has ls 5 [(0, .ref (ξ.2.2.2.1 84)), (1, .int u1), (2, .int u2), (3, .int u3), (4, .int u4)] → W p l e (headSpec (Cond.code yMo_laysTilts prog_10_method_116_code 5 (none) :: sw_tb) rmMo_laysTilts).room s m args below meth c H locs 0 0 (MQ below (sw_Qv Γ A ξ g res (True)) args s 0 0 A) (F0 m 46 ls []) := by
  intro fu
  induction fu with
  | zero => intro μ u1 u2 u3 u4 H locs ls hm; rw [fMo_laysTilts_46.eq_1] at hm; cases hm
  | succ fu ih =>
    intro μ u1 u2 u3 u4 H locs ls hm hw hl
    rw [fMo_laysTilts_46.eq_2] at hm
    refine lv_iload S.1 S.2.1 dMo_laysTilts_46 (lv_at hl 4 rfl) ?_
    refine lv_iload_n S.1 S.2.1 dMo_laysTilts_48 rfl (lv_at hl 1 rfl) ?_
    refine bicmp_gt (tgt := 82) S.1 S.2.1 hm dMo_laysTilts_49 (by decide) (fun hm => ?_) (fun hm => ?_)
    · obtain ⟨x10, ex10, hm⟩ := nm_x hm
      refine lv_iinc (v := x10) (lv' := [(2, .int x10), (0, .ref (ξ.2.2.2.1 84)), (1, .int u1), (3, .int u3), (4, .int u4)]) S.1 S.2.1 dMo_laysTilts_82 hl (k := 2) rfl (by rw [ex10]; rfl) (by decide) rfl (fun ls hl => ?_)
      refine lv_goto (tgt := 29) S.1 S.2.1 dMo_laysTilts_85 (by decide) ?_
      exact hk29 μ u1 x10 _ _ _ hm hw (lv_sub hl [1, 2, 0] rfl)
    · refine lv_aload_n S.1 S.2.1 dMo_laysTilts_52 rfl (lv_at hl 0 rfl) ?_
      refine get_Mo (v := .ref (ξ.2.2.2.1 103)) S hw (is_84 hf) 38 (by decide) rfl wf_Mo_85 dMo_laysTilts_53 ?_
      refine lv_iload S.1 S.2.1 dMo_laysTilts_56 (lv_at hl 4 rfl) ?_
      refine lv_dup2_11 S.1 S.2.1 dMo_laysTilts_58 rfl rfl ?_
      refine sm_iald S hw (is_103 hf) hm dMo_laysTilts_59 (fun v11 hm => ?_)
      refine lv_iload S.1 S.2.1 dMo_laysTilts_60 (lv_at hl 4 rfl) ?_
      refine lv_iload_n S.1 S.2.1 dMo_laysTilts_62 rfl (lv_at hl 2 rfl) ?_
      obtain ⟨v13, h12, hm⟩ := ob hm
      refine sw_Si (rest := [.int v11, .int u4, .ref (ξ.2.2.2.1 103)]) S hw (cMo_isIn l  hf u4 u2 h12) kMo_isIn wm_Mo_423 rfl rfl hl.1 (Nat.le_of_ble_eq_true rfl) ⟨rfl, rfl, Nat.le_of_ble_eq_true rfl, Nat.le_of_ble_eq_true rfl⟩ ⟨Nat.le_of_ble_eq_true rfl, Nat.le_of_ble_eq_true rfl⟩ dMo_laysTilts_63 (fun H locs hw _ => ?_)
      refine bif_eq (tgt := 73) S.1 S.2.1 hm dMo_laysTilts_66 (by decide) (fun hm => ?_) (fun hm => ?_)
      · refine lv_iconst (v := (0 : Int32)) S.1 S.2.1 dMo_laysTilts_73 (by decide) ?_
        refine lv_iadd S.1 S.2.1 dMo_laysTilts_74 ?_
        refine sm_iast S hw (is_103 hf) hm dMo_laysTilts_75 (fun μ14 H locs hm hw => ?_)
        obtain ⟨x15, ex15, hm⟩ := nm_x hm
        refine lv_iinc (v := x15) (lv' := [(4, .int x15), (0, .ref (ξ.2.2.2.1 84)), (1, .int u1), (2, .int u2), (3, .int u3)]) S.1 S.2.1 dMo_laysTilts_76 hl (k := 4) rfl (by rw [ex15]; rfl) (by decide) rfl (fun ls hl => ?_)
        refine lv_goto (tgt := 46) S.1 S.2.1 dMo_laysTilts_79 (by decide) ?_
        exact ih μ14 u1 u2 u3 x15 _ _ _ hm hw (lv_sub hl [1, 2, 3, 4, 0] rfl)
      · refine lv_iload_n S.1 S.2.1 dMo_laysTilts_69 rfl (lv_at hl 3 rfl) ?_
        refine lv_goto (tgt := 74) S.1 S.2.1 dMo_laysTilts_70 (by decide) ?_
        refine lv_iadd S.1 S.2.1 dMo_laysTilts_74 ?_
        refine sm_iast S hw (is_103 hf) hm dMo_laysTilts_75 (fun μ16 H locs hm hw => ?_)
        obtain ⟨x17, ex17, hm⟩ := nm_x hm
        refine lv_iinc (v := x17) (lv' := [(4, .int x17), (0, .ref (ξ.2.2.2.1 84)), (1, .int u1), (2, .int u2), (3, .int u3)]) S.1 S.2.1 dMo_laysTilts_76 hl (k := 4) rfl (by rw [ex17]; rfl) (by decide) rfl (fun ls hl => ?_)
        refine lv_goto (tgt := 46) S.1 S.2.1 dMo_laysTilts_79 (by decide) ?_
        exact ih μ16 u1 u2 u3 x17 _ _ _ hm hw (lv_sub hl [1, 2, 3, 4, 0] rfl)
set_option maxHeartbeats 4000000 in
set_option maxRecDepth 100000 in
theorem wMo_laysTilts_29 {l : Launch} {p : Program} {e : Env} {s : State} {m : MethodId} {args : Array Value} {below : List Frame} {meth : Method} {c : Code} {Γ : sw_C} {A : Nat → Prop} {ξ : sw_x} {g : sw_g} {res : sw_m} (S : CallFix p m c prog_10_method_116_code 5 s args (Cond.code yMo_laysTilts prog_10_method_116_code 5 (none) :: sw_tb) R_Mo) (hr : meth.sig.returnType = none) (hlk : meth.locks = false) (hf : sw_wf ξ g.2.2) (N : Nat) : ∀ (fu : Nat) (μ : sw_m) (u1 : Int32) (u2 : Int32) (H : Heap) (locs : List Loc) (ls : Array Slot), fMo_laysTilts_29 N   fu μ u1 u2 = some res → sw_S Γ A ξ g μ s H locs → lv_has ls 5 [(0, .ref (ξ.2.2.2.1 84)), (1, .int u1), (2, .int u2)] → W p l e (headSpec (Cond.code yMo_laysTilts prog_10_method_116_code 5 (none) :: sw_tb) rmMo_laysTilts).room s m args below meth c H locs 0 0 (MQ below (sw_Qv Γ A ξ g res (True)) args s 0 0 A) (F0 m 29 ls []) := by
  intro fu
  induction fu with
  | zero => intro μ u1 u2 H locs ls hm; rw [fMo_laysTilts_29.eq_1] at hm; cases hm
  | succ fu ih =>
    intro μ u1 u2 H locs ls hm hw hl
    rw [fMo_laysTilts_29.eq_2] at hm
    refine lv_iload_n S.1 S.2.1 dMo_laysTilts_29 rfl (lv_at hl 2 rfl) ?_
    refine lv_aload_n S.1 S.2.1 dMo_laysTilts_30 rfl (lv_at hl 0 rfl) ?_
    obtain ⟨⟨v6, μ5⟩, h4, hm⟩ := ob hm
    refine sw_Vi (q := 84) (rest := [.int u2]) S hw (cMo_many l  hf  h4) kMo_many wm_Mo_119 (is_84 hf).1 (e_Mo (is_84 hf)) rfl rfl rfl rfl hl.1 (Nat.le_of_ble_eq_true rfl) ⟨rfl, rfl, Nat.le_of_ble_eq_true rfl, Nat.le_of_ble_eq_true rfl⟩ ⟨Nat.le_of_ble_eq_true rfl, Nat.le_of_ble_eq_true rfl⟩ dMo_laysTilts_31 (fun H locs hw _ => ?_)
    refine bicmp_ge (tgt := 88) S.1 S.2.1 hm dMo_laysTilts_34 (by decide) (fun hm => ?_) (fun hm => ?_)
    · obtain rfl := Option.some.inj hm
      exact sw_vret S hr hlk hw trivial dMo_laysTilts_88
    · refine lv_aload_n S.1 S.2.1 dMo_laysTilts_37 rfl (lv_at hl 0 rfl) ?_
      refine lv_iload_n S.1 S.2.1 dMo_laysTilts_38 rfl (lv_at hl 2 rfl) ?_
      obtain ⟨⟨v9, μ8⟩, h7, hm⟩ := ob hm
      refine sw_Vi (q := 84) (rest := []) S hw (cMo_pullOf l N hf u2 h7) kMo_pullOf wm_Mo_157 (is_84 hf).1 (e_Mo (is_84 hf)) rfl rfl rfl rfl hl.1 (Nat.le_of_ble_eq_true rfl) ⟨rfl, rfl, Nat.le_of_ble_eq_true rfl, Nat.le_of_ble_eq_true rfl⟩ ⟨Nat.le_of_ble_eq_true rfl, Nat.le_of_ble_eq_true rfl⟩ dMo_laysTilts_39 (fun H locs hw _ => ?_)
      refine lv_istore_n (lv' := [(3, .int v9), (0, .ref (ξ.2.2.2.1 84)), (1, .int u1), (2, .int u2)]) S.1 S.2.1 dMo_laysTilts_42 rfl hl (by decide) rfl (fun ls hl => ?_)
      refine lv_iconst (v := (0 : Int32)) S.1 S.2.1 dMo_laysTilts_43 (by decide) ?_
      refine lv_istore (lv' := [(4, .int (0 : Int32)), (3, .int v9), (0, .ref (ξ.2.2.2.1 84)), (1, .int u1), (2, .int u2)]) S.1 S.2.1 dMo_laysTilts_44 hl (by decide) rfl (fun ls hl => ?_)
      exact wMo_laysTilts_46 S hr hlk hf N (fMo_laysTilts_29 N   fu) ih N μ8 u1 u2 v9 (0 : Int32) _ _ _ hm hw (lv_sub hl [2, 3, 4, 1, 0] rfl)
set_option maxHeartbeats 4000000 in
set_option maxRecDepth 100000 in
theorem wMo_laysTilts_7 {l : Launch} {p : Program} {e : Env} {s : State} {m : MethodId} {args : Array Value} {below : List Frame} {meth : Method} {c : Code} {Γ : sw_C} {A : Nat → Prop} {ξ : sw_x} {g : sw_g} {res : sw_m} (S : CallFix p m c prog_10_method_116_code 5 s args (Cond.code yMo_laysTilts prog_10_method_116_code 5 (none) :: sw_tb) R_Mo) (hr : meth.sig.returnType = none) (hlk : meth.locks = false) (hf : sw_wf ξ g.2.2) (N : Nat) : ∀ (fu : Nat) (μ : sw_m) (u1 : Int32) (u2 : Int32) (H : Heap) (locs : List Loc) (ls : Array Slot), fMo_laysTilts_7 N   fu μ u1 u2 = some res → sw_S Γ A ξ g μ s H locs → lv_has ls 5 [(0, .ref (ξ.2.2.2.1 84)), (1, .int u1), (2, .int u2)] → W p l e (headSpec (Cond.code yMo_laysTilts prog_10_method_116_code 5 (none) :: sw_tb) rmMo_laysTilts).room s m args below meth c H locs 0 0 (MQ below (sw_Qv Γ A ξ g res (True)) args s 0 0 A) (F0 m 7 ls []) := by
  intro fu
  induction fu with
  | zero => intro μ u1 u2 H locs ls hm; rw [fMo_laysTilts_7.eq_1] at hm; cases hm
  | succ fu ih =>
    intro μ u1 u2 H locs ls hm hw hl
    rw [fMo_laysTilts_7.eq_2] at hm
    refine lv_iload_n S.1 S.2.1 dMo_laysTilts_7 rfl (lv_at hl 2 rfl) ?_
    refine lv_sipush (v := (128 : Int32)) S.1 S.2.1 dMo_laysTilts_8 (by decide) ?_
    refine bicmp_ge (tgt := 27) S.1 S.2.1 hm dMo_laysTilts_11 (by decide) (fun hm => ?_) (fun hm => ?_)
    · refine lv_iconst (v := (0 : Int32)) S.1 S.2.1 dMo_laysTilts_27 (by decide) ?_
      refine lv_istore_n (lv' := [(2, .int (0 : Int32)), (0, .ref (ξ.2.2.2.1 84)), (1, .int u1)]) S.1 S.2.1 dMo_laysTilts_28 rfl hl (by decide) rfl (fun ls hl => ?_)
      exact wMo_laysTilts_29 S hr hlk hf N  N μ u1 (0 : Int32) _ _ _ hm hw (lv_sub hl [1, 2, 0] rfl)
    · refine lv_aload_n S.1 S.2.1 dMo_laysTilts_14 rfl (lv_at hl 0 rfl) ?_
      refine get_Mo (v := .ref (ξ.2.2.2.1 103)) S hw (is_84 hf) 38 (by decide) rfl wf_Mo_85 dMo_laysTilts_15 ?_
      refine lv_iload_n S.1 S.2.1 dMo_laysTilts_18 rfl (lv_at hl 2 rfl) ?_
      refine lv_iconst (v := (0 : Int32)) S.1 S.2.1 dMo_laysTilts_19 (by decide) ?_
      refine sm_iast S hw (is_103 hf) hm dMo_laysTilts_20 (fun μ18 H locs hm hw => ?_)
      obtain ⟨x19, ex19, hm⟩ := nm_x hm
      refine lv_iinc (v := x19) (lv' := [(2, .int x19), (0, .ref (ξ.2.2.2.1 84)), (1, .int u1)]) S.1 S.2.1 dMo_laysTilts_21 hl (k := 2) rfl (by rw [ex19]; rfl) (by decide) rfl (fun ls hl => ?_)
      refine lv_goto (tgt := 7) S.1 S.2.1 dMo_laysTilts_24 (by decide) ?_
      exact ih μ18 u1 x19 _ _ _ hm hw (lv_sub hl [1, 2, 0] rfl)
set_option maxHeartbeats 4000000 in
set_option maxRecDepth 100000 in
theorem cMo_laysTilts (l : Launch) (N : Nat) {Γ : sw_C} {A : Nat → Prop} {ξ : sw_x} {g : sw_g} {μ : sw_m} (hf : sw_wf ξ g.2.2) {res : sw_m} (hm : fMo_laysTilts N μ = some res) : Met l yMo_laysTilts (Cond.code yMo_laysTilts prog_10_method_116_code 5 (none) :: sw_tb) rmMo_laysTilts (va_Pc [.ref (ξ.2.2.2.1 84)] (sw_V Γ A ξ g μ)) (sw_Qv Γ A ξ g res (True)) 0 0 A := by
  refine Met.ofW (cc := prog_10_method_116_code) (maxL := 5) (ret := none) (by decide) rfl ?_
  intro p e s m args below meth c s₁ B hml hv
  obtain ⟨rfl, hv⟩ := hv
  have S : CallFix p m c prog_10_method_116_code 5 s _ (Cond.code yMo_laysTilts prog_10_method_116_code 5 (none) :: sw_tb) R_Mo := ⟨B.exec, B.bytes, hml, findClass_of_methodNamed B.named, atoms_spec (ws := (Cond.code yMo_laysTilts prog_10_method_116_code 5 (none) :: sw_tb)) B.pre⟩
  have hr := B.returns
  have hlk := B.notSynchronized
  have hw := sw_begin hv
  have hl := lv_entry [.ref (ξ.2.2.2.1 84)] (n := 5) (Nat.le_of_ble_eq_true rfl)
  rw [lg_entry_eq]
  generalize (lg_sl [.ref (ξ.2.2.2.1 84)] ++ List.replicate (5 - (lg_sl [.ref (ξ.2.2.2.1 84)]).length) Slot.unset).toArray = ls at hl ⊢
  have hl : lv_has ls 5 [(0, .ref (ξ.2.2.2.1 84))] := hl
  unfold fMo_laysTilts at hm
  refine lv_aload_n S.1 S.2.1 dMo_laysTilts_0 rfl (lv_at hl 0 rfl) ?_
  obtain ⟨⟨v3, μ2⟩, h1, hm⟩ := ob hm
  refine sw_Vi (q := 84) (rest := []) S hw (cMo_onNow l N hf  h1) kMo_onNow wm_Mo_432 (is_84 hf).1 (e_Mo (is_84 hf)) rfl rfl rfl rfl hl.1 (Nat.le_of_ble_eq_true rfl) ⟨rfl, rfl, Nat.le_of_ble_eq_true rfl, Nat.le_of_ble_eq_true rfl⟩ ⟨Nat.le_of_ble_eq_true rfl, Nat.le_of_ble_eq_true rfl⟩ dMo_laysTilts_1 (fun H locs hw _ => ?_)
  refine lv_istore_n (lv' := [(1, .int v3), (0, .ref (ξ.2.2.2.1 84))]) S.1 S.2.1 dMo_laysTilts_4 rfl hl (by decide) rfl (fun ls hl => ?_)
  refine lv_iconst (v := (0 : Int32)) S.1 S.2.1 dMo_laysTilts_5 (by decide) ?_
  refine lv_istore_n (lv' := [(2, .int (0 : Int32)), (1, .int v3), (0, .ref (ξ.2.2.2.1 84))]) S.1 S.2.1 dMo_laysTilts_6 rfl hl (by decide) rfl (fun ls hl => ?_)
  exact wMo_laysTilts_7 S hr hlk hf N  N μ2 v3 (0 : Int32) _ _ _ hm hw (lv_sub hl [2, 1, 0] rfl)
