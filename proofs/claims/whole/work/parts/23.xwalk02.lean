set_option maxHeartbeats 4000000 in
set_option maxRecDepth 100000 in
theorem cRo_finds (l : Launch) (N : Nat) {Γ : sw_C} {A : Nat → Prop} {ξ : sw_x} {g : sw_g} {μ : sw_m} (hf : sw_wf ξ g.2.2) (a1 : Int32) (a2 : Int32) {res : Int32 × sw_g} (hm : fRo_finds N ξ.2.2.1 g a1 a2 = some res) : Met l yRo_finds (Cond.code yRo_finds prog_7_method_9_code 3 (some .boolean) :: sw_tb) rmRo_finds (va_Pc [.ref (ξ.2.2.2.1 49), .int a1, .int a2] (sw_V Γ A ξ g μ)) (sw_Qi Γ A ξ res.2 μ res.1 (sw_wf ξ res.2.2.2)) 0 0 A := by
  refine Met.ofW (cc := prog_7_method_9_code) (maxL := 3) (ret := some .boolean) (by decide) rfl ?_
  intro p e s m args below meth c s₁ B hml hv
  obtain ⟨rfl, hv⟩ := hv
  have S : CallFix p m c prog_7_method_9_code 3 s _ (Cond.code yRo_finds prog_7_method_9_code 3 (some .boolean) :: sw_tb) R_Ro := ⟨B.exec, B.bytes, hml, findClass_of_methodNamed B.named, atoms_spec (ws := (Cond.code yRo_finds prog_7_method_9_code 3 (some .boolean) :: sw_tb)) B.pre⟩
  have hr := B.returns
  have hlk := B.notSynchronized
  have hw := sw_begin hv
  have hl := lv_entry [.ref (ξ.2.2.2.1 49), .int a1, .int a2] (n := 3) (Nat.le_of_ble_eq_true rfl)
  rw [lg_entry_eq]
  generalize (lg_sl [.ref (ξ.2.2.2.1 49), .int a1, .int a2] ++ List.replicate (3 - (lg_sl [.ref (ξ.2.2.2.1 49), .int a1, .int a2]).length) Slot.unset).toArray = ls at hl ⊢
  have hl : lv_has ls 3 [(0, .ref (ξ.2.2.2.1 49)), (1, .int a1), (2, .int a2)] := hl
  unfold fRo_finds at hm
  refine lv_aload_n S.1 S.2.1 dRo_finds_0 rfl (lv_at hl 0 rfl) ?_
  refine lv_iload_n S.1 S.2.1 dRo_finds_1 rfl (lv_at hl 1 rfl) ?_
  refine put_Ro S hw hf (is_49 hf) 6 (by decide) ps_Ro_6 rfl rfl rfl wf_Ro_42 hm dRo_finds_2 (fun g1 H locs hf hm hw => ?_)
  refine lv_aload_n S.1 S.2.1 dRo_finds_5 rfl (lv_at hl 0 rfl) ?_
  refine lv_iload_n S.1 S.2.1 dRo_finds_6 rfl (lv_at hl 2 rfl) ?_
  refine put_Ro S hw hf (is_49 hf) 7 (by decide) ps_Ro_7 rfl rfl rfl wf_Ro_46 hm dRo_finds_7 (fun g2 H locs hf hm hw => ?_)
  refine lv_aload_n S.1 S.2.1 dRo_finds_10 rfl (lv_at hl 0 rfl) ?_
  refine lv_iconst (v := (0 : Int32)) S.1 S.2.1 dRo_finds_11 (by decide) ?_
  refine lv_iconst (v := (0 : Int32)) S.1 S.2.1 dRo_finds_12 (by decide) ?_
  refine lv_iconst (v := (0 : Int32)) S.1 S.2.1 dRo_finds_13 (by decide) ?_
  obtain ⟨⟨v5, g4⟩, h3, hm⟩ := ob hm
  refine sw_Vi (q := 49) (rest := []) S hw (cRo_findsFrom l N 10 hf (0 : Int32) (0 : Int32) (0 : Int32) h3) kRo_findsFrom wm_Ro_65 (is_49 hf).1 (e_Ro (is_49 hf)) rfl rfl rfl rfl hl.1 (Nat.le_of_ble_eq_true rfl) ⟨rfl, rfl, Nat.le_of_ble_eq_true rfl, Nat.le_of_ble_eq_true rfl⟩ ⟨Nat.le_of_ble_eq_true rfl, Nat.le_of_ble_eq_true rfl⟩ dRo_finds_14 (fun H locs hw hf => ?_)
  obtain ⟨hz, hm⟩ := ob_tz hm
  obtain rfl := Option.some.inj hm
  exact sw_zret S hr hlk hz hw hf dRo_finds_17
set_option maxHeartbeats 4000000 in
set_option maxRecDepth 100000 in
theorem wRo_leastWeight_21 {l : Launch} {p : Program} {e : Env} {s : State} {m : MethodId} {args : Array Value} {below : List Frame} {meth : Method} {c : Code} {Γ : sw_C} {A : Nat → Prop} {ξ : sw_x} {μ : sw_m} {res : Int32 × sw_g} (S : CallFix p m c prog_7_method_11_code 5 s args (Cond.code yRo_leastWeight prog_7_method_11_code 5 (some .int) :: sw_tb) R_Ro) (hr : meth.sig.returnType = some .int) (hlk : meth.locks = false) (N : Nat) : ∀ (fu : Nat) (g : sw_g) (u1 : Int32) (u2 : Int32) (u3 : Int32) (H : Heap) (locs : List Loc) (ls : Array Slot), fRo_leastWeight_21 N ξ.2.2.1  fu g u1 u2 u3 = some res → sw_S Γ A ξ g μ s H locs → sw_wf ξ g.2.2 → lv_has ls 5 [(0, .ref (ξ.2.2.2.1 49)), (1, .int u1), (2, .int u2), (3, .int u3)] → W p l e (headSpec (Cond.code yRo_leastWeight prog_7_method_11_code 5 (some .int) :: sw_tb) rmRo_leastWeight).room s m args below meth c H locs 0 0 (MQ below (sw_Qi Γ A ξ res.2 μ res.1 (sw_wf ξ res.2.2.2)) args s 0 0 A) (F0 m 21 ls []) := by
  intro fu
  induction fu with
  | zero => intro g u1 u2 u3 H locs ls hm; rw [fRo_leastWeight_21.eq_1] at hm; cases hm
  | succ fu ih =>
    intro g u1 u2 u3 H locs ls hm hw hf hl
    rw [fRo_leastWeight_21.eq_2] at hm
    refine lv_iload_n S.1 S.2.1 dRo_leastWeight_21 rfl (lv_at hl 3 rfl) ?_
    refine lv_bipush (v := (32 : Int32)) S.1 S.2.1 dRo_leastWeight_22 (by decide) ?_
    refine bicmp_ge (tgt := 66) S.1 S.2.1 hm dRo_leastWeight_24 (by decide) (fun hm => ?_) (fun hm => ?_)
    · refine lv_iload_n S.1 S.2.1 dRo_leastWeight_66 rfl (lv_at hl 1 rfl) ?_
      obtain rfl := Option.some.inj hm
      exact sw_iret S hr hlk hw hf dRo_leastWeight_67
    · refine lv_iload_n S.1 S.2.1 dRo_leastWeight_27 rfl (lv_at hl 1 rfl) ?_
      refine lv_iload_n S.1 S.2.1 dRo_leastWeight_28 rfl (lv_at hl 2 rfl) ?_
      refine bicmp_ge (tgt := 66) S.1 S.2.1 hm dRo_leastWeight_29 (by decide) (fun hm => ?_) (fun hm => ?_)
      · refine lv_iload_n S.1 S.2.1 dRo_leastWeight_66 rfl (lv_at hl 1 rfl) ?_
        obtain rfl := Option.some.inj hm
        exact sw_iret S hr hlk hw hf dRo_leastWeight_67
      · refine lv_iload_n S.1 S.2.1 dRo_leastWeight_32 rfl (lv_at hl 1 rfl) ?_
        refine lv_iload_n S.1 S.2.1 dRo_leastWeight_33 rfl (lv_at hl 2 rfl) ?_
        refine lv_iadd S.1 S.2.1 dRo_leastWeight_34 ?_
        refine lv_iconst (v := (2 : Int32)) S.1 S.2.1 dRo_leastWeight_35 (by decide) ?_
        refine lv_idiv S.1 S.2.1 dRo_leastWeight_36 (by decide) ?_
        refine nm_i hm (fun x4 hm => ?_)
        refine lv_istore (lv' := [(4, .int x4), (0, .ref (ξ.2.2.2.1 49)), (1, .int u1), (2, .int u2), (3, .int u3)]) S.1 S.2.1 dRo_leastWeight_37 hl (by decide) rfl (fun ls hl => ?_)
        refine lv_aload_n S.1 S.2.1 dRo_leastWeight_39 rfl (lv_at hl 1 rfl) ?_
        refine lv_iconst (v := (0 : Int32)) S.1 S.2.1 dRo_leastWeight_40 (by decide) ?_
        refine lv_iload S.1 S.2.1 dRo_leastWeight_41 (lv_at hl 0 rfl) ?_
        obtain ⟨⟨v7, g6⟩, h5, hm⟩ := ob hm
        refine sw_Vi (q := 49) (rest := []) S hw (cRo_finds l N hf (0 : Int32) x4 h5) kRo_finds wm_Ro_73 (is_49 hf).1 (e_Ro (is_49 hf)) rfl rfl rfl rfl hl.1 (Nat.le_of_ble_eq_true rfl) ⟨rfl, rfl, Nat.le_of_ble_eq_true rfl, Nat.le_of_ble_eq_true rfl⟩ ⟨Nat.le_of_ble_eq_true rfl, Nat.le_of_ble_eq_true rfl⟩ dRo_leastWeight_43 (fun H locs hw hf => ?_)
        refine bif_eq (tgt := 55) S.1 S.2.1 hm dRo_leastWeight_46 (by decide) (fun hm => ?_) (fun hm => ?_)
        · refine lv_iload S.1 S.2.1 dRo_leastWeight_55 (lv_at hl 0 rfl) ?_
          refine lv_iconst (v := (1 : Int32)) S.1 S.2.1 dRo_leastWeight_57 (by decide) ?_
          refine lv_iadd S.1 S.2.1 dRo_leastWeight_58 ?_
          refine nm_i hm (fun x8 hm => ?_)
          refine lv_istore_n (lv' := [(1, .int x8), (4, .int x4), (0, .ref (ξ.2.2.2.1 49)), (2, .int u2), (3, .int u3)]) S.1 S.2.1 dRo_leastWeight_59 rfl hl (by decide) rfl (fun ls hl => ?_)
          obtain ⟨x9, ex9, hm⟩ := nm_x hm
          refine lv_iinc (v := x9) (lv' := [(3, .int x9), (1, .int x8), (4, .int x4), (0, .ref (ξ.2.2.2.1 49)), (2, .int u2)]) S.1 S.2.1 dRo_leastWeight_60 hl (k := 4) rfl (by rw [ex9]; rfl) (by decide) rfl (fun ls hl => ?_)
          refine lv_goto (tgt := 21) S.1 S.2.1 dRo_leastWeight_63 (by decide) ?_
          exact ih g6 x8 u2 x9 _ _ _ hm hw hf (lv_sub hl [3, 1, 4, 0] rfl)
        · refine lv_iload S.1 S.2.1 dRo_leastWeight_49 (lv_at hl 0 rfl) ?_
          refine lv_istore_n (lv' := [(2, .int x4), (4, .int x4), (0, .ref (ξ.2.2.2.1 49)), (1, .int u1), (3, .int u3)]) S.1 S.2.1 dRo_leastWeight_51 rfl hl (by decide) rfl (fun ls hl => ?_)
          refine lv_goto (tgt := 60) S.1 S.2.1 dRo_leastWeight_52 (by decide) ?_
          obtain ⟨x10, ex10, hm⟩ := nm_x hm
          refine lv_iinc (v := x10) (lv' := [(3, .int x10), (2, .int x4), (4, .int x4), (0, .ref (ξ.2.2.2.1 49)), (1, .int u1)]) S.1 S.2.1 dRo_leastWeight_60 hl (k := 4) rfl (by rw [ex10]; rfl) (by decide) rfl (fun ls hl => ?_)
          refine lv_goto (tgt := 21) S.1 S.2.1 dRo_leastWeight_63 (by decide) ?_
          exact ih g6 u1 x4 x10 _ _ _ hm hw hf (lv_sub hl [3, 4, 1, 0] rfl)
set_option maxHeartbeats 4000000 in
set_option maxRecDepth 100000 in
theorem cRo_leastWeight (l : Launch) (N : Nat) {Γ : sw_C} {A : Nat → Prop} {ξ : sw_x} {g : sw_g} {μ : sw_m} (hf : sw_wf ξ g.2.2) {res : Int32 × sw_g} (hm : fRo_leastWeight N ξ.2.2.1 g = some res) : Met l yRo_leastWeight (Cond.code yRo_leastWeight prog_7_method_11_code 5 (some .int) :: sw_tb) rmRo_leastWeight (va_Pc [.ref (ξ.2.2.2.1 49)] (sw_V Γ A ξ g μ)) (sw_Qi Γ A ξ res.2 μ res.1 (sw_wf ξ res.2.2.2)) 0 0 A := by
  refine Met.ofW (cc := prog_7_method_11_code) (maxL := 5) (ret := some .int) (by decide) rfl ?_
  intro p e s m args below meth c s₁ B hml hv
  obtain ⟨rfl, hv⟩ := hv
  have S : CallFix p m c prog_7_method_11_code 5 s _ (Cond.code yRo_leastWeight prog_7_method_11_code 5 (some .int) :: sw_tb) R_Ro := ⟨B.exec, B.bytes, hml, findClass_of_methodNamed B.named, atoms_spec (ws := (Cond.code yRo_leastWeight prog_7_method_11_code 5 (some .int) :: sw_tb)) B.pre⟩
  have hr := B.returns
  have hlk := B.notSynchronized
  have hw := sw_begin hv
  have hl := lv_entry [.ref (ξ.2.2.2.1 49)] (n := 5) (Nat.le_of_ble_eq_true rfl)
  rw [lg_entry_eq]
  generalize (lg_sl [.ref (ξ.2.2.2.1 49)] ++ List.replicate (5 - (lg_sl [.ref (ξ.2.2.2.1 49)]).length) Slot.unset).toArray = ls at hl ⊢
  have hl : lv_has ls 5 [(0, .ref (ξ.2.2.2.1 49))] := hl
  unfold fRo_leastWeight at hm
  refine lv_aload_n S.1 S.2.1 dRo_leastWeight_0 rfl (lv_at hl 0 rfl) ?_
  refine lv_iconst (v := (0 : Int32)) S.1 S.2.1 dRo_leastWeight_1 (by decide) ?_
  refine lv_sipush (v := (2079 : Int32)) S.1 S.2.1 dRo_leastWeight_2 (by decide) ?_
  obtain ⟨⟨v3, g2⟩, h1, hm⟩ := ob hm
  refine sw_Vi (q := 49) (rest := []) S hw (cRo_finds l N hf (0 : Int32) (2079 : Int32) h1) kRo_finds wm_Ro_73 (is_49 hf).1 (e_Ro (is_49 hf)) rfl rfl rfl rfl hl.1 (Nat.le_of_ble_eq_true rfl) ⟨rfl, rfl, Nat.le_of_ble_eq_true rfl, Nat.le_of_ble_eq_true rfl⟩ ⟨Nat.le_of_ble_eq_true rfl, Nat.le_of_ble_eq_true rfl⟩ dRo_leastWeight_5 (fun H locs hw hf => ?_)
  refine bif_ne (tgt := 13) S.1 S.2.1 hm dRo_leastWeight_8 (by decide) (fun hm => ?_) (fun hm => ?_)
  · refine lv_iconst (v := (0 : Int32)) S.1 S.2.1 dRo_leastWeight_13 (by decide) ?_
    refine lv_istore_n (lv' := [(1, .int (0 : Int32)), (0, .ref (ξ.2.2.2.1 49))]) S.1 S.2.1 dRo_leastWeight_14 rfl hl (by decide) rfl (fun ls hl => ?_)
    refine lv_sipush (v := (2079 : Int32)) S.1 S.2.1 dRo_leastWeight_15 (by decide) ?_
    refine lv_istore_n (lv' := [(2, .int (2079 : Int32)), (1, .int (0 : Int32)), (0, .ref (ξ.2.2.2.1 49))]) S.1 S.2.1 dRo_leastWeight_18 rfl hl (by decide) rfl (fun ls hl => ?_)
    refine lv_iconst (v := (0 : Int32)) S.1 S.2.1 dRo_leastWeight_19 (by decide) ?_
    refine lv_istore_n (lv' := [(3, .int (0 : Int32)), (2, .int (2079 : Int32)), (1, .int (0 : Int32)), (0, .ref (ξ.2.2.2.1 49))]) S.1 S.2.1 dRo_leastWeight_20 rfl hl (by decide) rfl (fun ls hl => ?_)
    exact wRo_leastWeight_21 S hr hlk N  N g2 (0 : Int32) (2079 : Int32) (0 : Int32) _ _ _ hm hw hf (lv_sub hl [3, 2, 1, 0] rfl)
  · refine lv_iconst (v := (-1 : Int32)) S.1 S.2.1 dRo_leastWeight_11 (by decide) ?_
    obtain rfl := Option.some.inj hm
    exact sw_iret S hr hlk hw hf dRo_leastWeight_12
set_option maxHeartbeats 4000000 in
set_option maxRecDepth 100000 in
theorem wSx_terms_22 {l : Launch} {p : Program} {e : Env} {s : State} {m : MethodId} {args : Array Value} {below : List Frame} {meth : Method} {c : Code} {Γ : sw_C} {A : Nat → Prop} {ξ : sw_x} {μ : sw_m} {res : Int32 × sw_g} (S : CallFix p m c prog_1_method_6_code 4 s args (Cond.code ySx_terms prog_1_method_6_code 4 (some .int) :: sw_tb) R_Sx) (hr : meth.sig.returnType = some .int) (hlk : meth.locks = false) (N : Nat) : ∀ (g : sw_g)  (H : Heap) (locs : List Loc) (ls : Array Slot), fSx_terms_22 N ξ.2.2.1  g = some res → sw_S Γ A ξ g μ s H locs → sw_wf ξ g.2.2 → lv_has ls 4 [(0, .ref (ξ.2.2.2.1 0))] → W p l e (headSpec (Cond.code ySx_terms prog_1_method_6_code 4 (some .int) :: sw_tb) rmSx_terms).room s m args below meth c H locs 0 0 (MQ below (sw_Qi Γ A ξ res.2 μ res.1 (sw_wf ξ res.2.2.2)) args s 0 0 A) (F0 m 22 ls []) := by
  intro g H locs ls hm hw hf hl
  unfold fSx_terms_22 at hm
  refine lv_aload_n S.1 S.2.1 dSx_terms_22 rfl (lv_at hl 0 rfl) ?_
  refine lv_iconst (v := (-1 : Int32)) S.1 S.2.1 dSx_terms_23 (by decide) ?_
  obtain ⟨⟨v3, g2⟩, h1, hm⟩ := ob hm
  refine sw_Vi (q := 0) (rest := []) S hw (cSx_refuse l N hf (-1 : Int32) h1) kSx_refuse wm_Sx_85 (is_0 hf).1 (e_Sx (is_0 hf)) rfl rfl rfl rfl hl.1 (Nat.le_of_ble_eq_true rfl) ⟨rfl, rfl, Nat.le_of_ble_eq_true rfl, Nat.le_of_ble_eq_true rfl⟩ ⟨Nat.le_of_ble_eq_true rfl, Nat.le_of_ble_eq_true rfl⟩ dSx_terms_24 (fun H locs hw hf => ?_)
  obtain rfl := Option.some.inj hm
  exact sw_iret S hr hlk hw hf dSx_terms_27
set_option maxHeartbeats 4000000 in
set_option maxRecDepth 100000 in
theorem cSx_terms (l : Launch) (N : Nat) {Γ : sw_C} {A : Nat → Prop} {ξ : sw_x} {g : sw_g} {μ : sw_m} (hf : sw_wf ξ g.2.2) (a1 : Int32) (a2 : Int32) {res : Int32 × sw_g} (hm : fSx_terms N ξ.2.2.1 g a1 a2 = some res) : Met l ySx_terms (Cond.code ySx_terms prog_1_method_6_code 4 (some .int) :: sw_tb) rmSx_terms (va_Pc [.ref (ξ.2.2.2.1 0), .int a1, .int a2] (sw_V Γ A ξ g μ)) (sw_Qi Γ A ξ res.2 μ res.1 (sw_wf ξ res.2.2.2)) 0 0 A := by
  refine Met.ofW (cc := prog_1_method_6_code) (maxL := 4) (ret := some .int) (by decide) rfl ?_
  intro p e s m args below meth c s₁ B hml hv
  obtain ⟨rfl, hv⟩ := hv
  have S : CallFix p m c prog_1_method_6_code 4 s _ (Cond.code ySx_terms prog_1_method_6_code 4 (some .int) :: sw_tb) R_Sx := ⟨B.exec, B.bytes, hml, findClass_of_methodNamed B.named, atoms_spec (ws := (Cond.code ySx_terms prog_1_method_6_code 4 (some .int) :: sw_tb)) B.pre⟩
  have hr := B.returns
  have hlk := B.notSynchronized
  have hw := sw_begin hv
  have hl := lv_entry [.ref (ξ.2.2.2.1 0), .int a1, .int a2] (n := 4) (Nat.le_of_ble_eq_true rfl)
  rw [lg_entry_eq]
  generalize (lg_sl [.ref (ξ.2.2.2.1 0), .int a1, .int a2] ++ List.replicate (4 - (lg_sl [.ref (ξ.2.2.2.1 0), .int a1, .int a2]).length) Slot.unset).toArray = ls at hl ⊢
  have hl : lv_has ls 4 [(0, .ref (ξ.2.2.2.1 0)), (1, .int a1), (2, .int a2)] := hl
  unfold fSx_terms at hm
  refine lv_iload_n S.1 S.2.1 dSx_terms_0 rfl (lv_at hl 1 rfl) ?_
  refine bif_lt (tgt := 22) S.1 S.2.1 hm dSx_terms_1 (by decide) (fun hm => ?_) (fun hm => ?_)
  · exact wSx_terms_22 S hr hlk N  g _ _ _ hm hw hf (lv_sub hl [0] rfl)
  · refine lv_iload_n S.1 S.2.1 dSx_terms_4 rfl (lv_at hl 1 rfl) ?_
    refine lv_iconst (v := (4 : Int32)) S.1 S.2.1 dSx_terms_5 (by decide) ?_
    refine bicmp_ge (tgt := 22) S.1 S.2.1 hm dSx_terms_6 (by decide) (fun hm => ?_) (fun hm => ?_)
    · exact wSx_terms_22 S hr hlk N  g _ _ _ hm hw hf (lv_sub hl [0] rfl)
    · refine lv_iload_n S.1 S.2.1 dSx_terms_9 rfl (lv_at hl 2 rfl) ?_
      refine bif_lt (tgt := 22) S.1 S.2.1 hm dSx_terms_10 (by decide) (fun hm => ?_) (fun hm => ?_)
      · exact wSx_terms_22 S hr hlk N  g _ _ _ hm hw hf (lv_sub hl [0] rfl)
      · refine lv_iload_n S.1 S.2.1 dSx_terms_13 rfl (lv_at hl 2 rfl) ?_
        refine va_gets (v := .ref Γ.2.2.2.2) S.1 S.2.1 hw.2.2.2.2.2.2.2.2.2.1 hw.2.2.2.1 S.2.2.2.1 (sw_word S wf_Sx_150) (fun _ h => h) dSx_terms_14 ?_
        refine lv_iload_n S.1 S.2.1 dSx_terms_17 rfl (lv_at hl 1 rfl) ?_
        refine sw_tald S hw hm dSx_terms_18 (fun v4 hm => ?_)
        refine bicmp_le (tgt := 28) S.1 S.2.1 hm dSx_terms_19 (by decide) (fun hm => ?_) (fun hm => ?_)
        · refine lv_aload_n S.1 S.2.1 dSx_terms_28 rfl (lv_at hl 0 rfl) ?_
          refine get_Sx (v := .ref (ξ.2.2.2.1 1)) S hw (is_0 hf) 0 (by decide) rfl wf_Sx_12 dSx_terms_29 ?_
          refine get_Pl (v := .ref (ξ.2.2.2.1 5)) S hw (is_1 hf) 4 (by decide) rfl wf_Sx_153 dSx_terms_32 ?_
          refine lv_iload_n S.1 S.2.1 dSx_terms_35 rfl (lv_at hl 1 rfl) ?_
          refine sx_iald S hw (is_5 hf) hm dSx_terms_36 (fun v5 hm => ?_)
          refine lv_istore_n (lv' := [(3, .int v5), (0, .ref (ξ.2.2.2.1 0)), (1, .int a1), (2, .int a2)]) S.1 S.2.1 dSx_terms_37 rfl hl (by decide) rfl (fun ls hl => ?_)
          refine lv_aload_n S.1 S.2.1 dSx_terms_38 rfl (lv_at hl 1 rfl) ?_
          refine get_Sx (v := .ref (ξ.2.2.2.1 1)) S hw (is_0 hf) 0 (by decide) rfl wf_Sx_12 dSx_terms_39 ?_
          refine get_Pl (v := .ref (ξ.2.2.2.1 5)) S hw (is_1 hf) 4 (by decide) rfl wf_Sx_153 dSx_terms_42 ?_
          refine lv_iload_n S.1 S.2.1 dSx_terms_45 rfl (lv_at hl 2 rfl) ?_
          refine lv_iload_n S.1 S.2.1 dSx_terms_46 rfl (lv_at hl 3 rfl) ?_
          refine sx_iast S hw hf (is_5 hf) hm dSx_terms_47 (fun g6 H locs hf hm hw => ?_)
          refine lv_aload_n S.1 S.2.1 dSx_terms_48 rfl (lv_at hl 1 rfl) ?_
          refine get_Sx (v := .ref (ξ.2.2.2.1 29)) S hw (is_0 hf) 4 (by decide) rfl wf_Sx_29 dSx_terms_49 ?_
          obtain ⟨g8, h7, hm⟩ := ob hm
          refine sw_Vv (q := 29) (rest := []) S hw (cHi_clear l  hf 29 (is_29 hf) (is_30 hf) h7) kHi_clear wm_Sx_92 (is_29 hf).1 (e_Hi (is_29 hf)) rfl rfl rfl rfl hl.1 (Nat.le_of_ble_eq_true rfl) ⟨rfl, rfl, Nat.le_of_ble_eq_true rfl, Nat.le_of_ble_eq_true rfl⟩ ⟨Nat.le_of_ble_eq_true rfl, Nat.le_of_ble_eq_true rfl⟩ dSx_terms_52 (fun H locs hw hf => ?_)
          refine lv_aload_n S.1 S.2.1 dSx_terms_55 rfl (lv_at hl 1 rfl) ?_
          refine lv_iload_n S.1 S.2.1 dSx_terms_56 rfl (lv_at hl 0 rfl) ?_
          obtain ⟨⟨v11, g10⟩, h9, hm⟩ := ob hm
          refine sw_Vi (q := 0) (rest := []) S hw (cSx_told l  hf v5 h9) kSx_told wm_Sx_99 (is_0 hf).1 (e_Sx (is_0 hf)) rfl rfl rfl rfl hl.1 (Nat.le_of_ble_eq_true rfl) ⟨rfl, rfl, Nat.le_of_ble_eq_true rfl, Nat.le_of_ble_eq_true rfl⟩ ⟨Nat.le_of_ble_eq_true rfl, Nat.le_of_ble_eq_true rfl⟩ dSx_terms_57 (fun H locs hw hf => ?_)
          obtain rfl := Option.some.inj hm
          exact sw_iret S hr hlk hw hf dSx_terms_60
        · exact wSx_terms_22 S hr hlk N  g _ _ _ hm hw hf (lv_sub hl [0] rfl)
set_option maxHeartbeats 4000000 in
set_option maxRecDepth 100000 in
theorem wSx_force_23 {l : Launch} {p : Program} {e : Env} {s : State} {m : MethodId} {args : Array Value} {below : List Frame} {meth : Method} {c : Code} {Γ : sw_C} {A : Nat → Prop} {ξ : sw_x} {μ : sw_m} {res : Int32 × sw_g} (S : CallFix p m c prog_1_method_15_code 3 s args (Cond.code ySx_force prog_1_method_15_code 3 (some .int) :: sw_tb) R_Sx) (hr : meth.sig.returnType = some .int) (hlk : meth.locks = false) (N : Nat) : ∀ (g : sw_g) (u1 : Int32) (H : Heap) (locs : List Loc) (ls : Array Slot), fSx_force_23 N ξ.2.2.1  g u1 = some res → sw_S Γ A ξ g μ s H locs → sw_wf ξ g.2.2 → lv_has ls 3 [(0, .ref (ξ.2.2.2.1 0)), (1, .int u1)] → W p l e (headSpec (Cond.code ySx_force prog_1_method_15_code 3 (some .int) :: sw_tb) rmSx_force).room s m args below meth c H locs 0 0 (MQ below (sw_Qi Γ A ξ res.2 μ res.1 (sw_wf ξ res.2.2.2)) args s 0 0 A) (F0 m 23 ls []) := by
  intro g u1 H locs ls hm hw hf hl
  unfold fSx_force_23 at hm
  refine lv_aload_n S.1 S.2.1 dSx_force_23 rfl (lv_at hl 0 rfl) ?_
  refine get_Sx (v := .ref (ξ.2.2.2.1 1)) S hw (is_0 hf) 0 (by decide) rfl wf_Sx_12 dSx_force_24 ?_
  refine get_Pl (v := .int (g.1 1 11)) S hw (is_1 hf) 11 (by decide) rfl wf_Sx_213 dSx_force_27 ?_
  refine nm_i hm (fun x1 hm => ?_)
  refine lv_istore_n (lv' := [(2, .int x1), (0, .ref (ξ.2.2.2.1 0)), (1, .int u1)]) S.1 S.2.1 dSx_force_30 rfl hl (by decide) rfl (fun ls hl => ?_)
  refine lv_aload_n S.1 S.2.1 dSx_force_31 rfl (lv_at hl 1 rfl) ?_
  refine get_Sx (v := .ref (ξ.2.2.2.1 1)) S hw (is_0 hf) 0 (by decide) rfl wf_Sx_12 dSx_force_32 ?_
  refine lv_iload_n S.1 S.2.1 dSx_force_35 rfl (lv_at hl 2 rfl) ?_
  refine put_Pl S hw hf (is_1 hf) 11 (by decide) ps_Pl_11 rfl rfl rfl wf_Sx_213 hm dSx_force_36 (fun g2 H locs hf hm hw => ?_)
  refine lv_aload_n S.1 S.2.1 dSx_force_39 rfl (lv_at hl 1 rfl) ?_
  refine lv_iload_n S.1 S.2.1 dSx_force_40 rfl (lv_at hl 0 rfl) ?_
  obtain ⟨⟨v5, g4⟩, h3, hm⟩ := ob hm
  refine sw_Vi (q := 0) (rest := []) S hw (cSx_told l  hf x1 h3) kSx_told wm_Sx_99 (is_0 hf).1 (e_Sx (is_0 hf)) rfl rfl rfl rfl hl.1 (Nat.le_of_ble_eq_true rfl) ⟨rfl, rfl, Nat.le_of_ble_eq_true rfl, Nat.le_of_ble_eq_true rfl⟩ ⟨Nat.le_of_ble_eq_true rfl, Nat.le_of_ble_eq_true rfl⟩ dSx_force_41 (fun H locs hw hf => ?_)
  obtain rfl := Option.some.inj hm
  exact sw_iret S hr hlk hw hf dSx_force_44
set_option maxHeartbeats 4000000 in
set_option maxRecDepth 100000 in
theorem cSx_force (l : Launch) (N : Nat) {Γ : sw_C} {A : Nat → Prop} {ξ : sw_x} {g : sw_g} {μ : sw_m} (hf : sw_wf ξ g.2.2) (a1 : Int32) {res : Int32 × sw_g} (hm : fSx_force N ξ.2.2.1 g a1 = some res) : Met l ySx_force (Cond.code ySx_force prog_1_method_15_code 3 (some .int) :: sw_tb) rmSx_force (va_Pc [.ref (ξ.2.2.2.1 0), .int a1] (sw_V Γ A ξ g μ)) (sw_Qi Γ A ξ res.2 μ res.1 (sw_wf ξ res.2.2.2)) 0 0 A := by
  refine Met.ofW (cc := prog_1_method_15_code) (maxL := 3) (ret := some .int) (by decide) rfl ?_
  intro p e s m args below meth c s₁ B hml hv
  obtain ⟨rfl, hv⟩ := hv
  have S : CallFix p m c prog_1_method_15_code 3 s _ (Cond.code ySx_force prog_1_method_15_code 3 (some .int) :: sw_tb) R_Sx := ⟨B.exec, B.bytes, hml, findClass_of_methodNamed B.named, atoms_spec (ws := (Cond.code ySx_force prog_1_method_15_code 3 (some .int) :: sw_tb)) B.pre⟩
  have hr := B.returns
  have hlk := B.notSynchronized
  have hw := sw_begin hv
  have hl := lv_entry [.ref (ξ.2.2.2.1 0), .int a1] (n := 3) (Nat.le_of_ble_eq_true rfl)
  rw [lg_entry_eq]
  generalize (lg_sl [.ref (ξ.2.2.2.1 0), .int a1] ++ List.replicate (3 - (lg_sl [.ref (ξ.2.2.2.1 0), .int a1]).length) Slot.unset).toArray = ls at hl ⊢
  have hl : lv_has ls 3 [(0, .ref (ξ.2.2.2.1 0)), (1, .int a1)] := hl
  unfold fSx_force at hm
  refine lv_iload_n S.1 S.2.1 dSx_force_0 rfl (lv_at hl 1 rfl) ?_
  refine lv_iconst (v := (-1 : Int32)) S.1 S.2.1 dSx_force_1 (by decide) ?_
  refine bicmp_eq (tgt := 23) S.1 S.2.1 hm dSx_force_2 (by decide) (fun hm => ?_) (fun hm => ?_)
  · exact wSx_force_23 S hr hlk N  g a1 _ _ _ hm hw hf (lv_sub hl [0, 1] rfl)
  · refine lv_aload_n S.1 S.2.1 dSx_force_5 rfl (lv_at hl 0 rfl) ?_
    refine get_Sx (v := .ref (ξ.2.2.2.1 1)) S hw (is_0 hf) 0 (by decide) rfl wf_Sx_12 dSx_force_6 ?_
    refine lv_iload_n S.1 S.2.1 dSx_force_9 rfl (lv_at hl 1 rfl) ?_
    obtain ⟨⟨v8, g7⟩, h6, hm⟩ := ob hm
    refine sw_Vi (q := 1) (rest := []) S hw (cPl_hasLaw l  hf 1 (is_1 hf) a1 h6) kPl_hasLaw wm_Sx_210 (is_1 hf).1 (e_Pl (is_1 hf)) rfl rfl rfl rfl hl.1 (Nat.le_of_ble_eq_true rfl) ⟨rfl, rfl, Nat.le_of_ble_eq_true rfl, Nat.le_of_ble_eq_true rfl⟩ ⟨Nat.le_of_ble_eq_true rfl, Nat.le_of_ble_eq_true rfl⟩ dSx_force_10 (fun H locs hw hf => ?_)
    refine bif_ne (tgt := 23) S.1 S.2.1 hm dSx_force_13 (by decide) (fun hm => ?_) (fun hm => ?_)
    · exact wSx_force_23 S hr hlk N  g7 a1 _ _ _ hm hw hf (lv_sub hl [0, 1] rfl)
    · refine lv_aload_n S.1 S.2.1 dSx_force_16 rfl (lv_at hl 0 rfl) ?_
      refine lv_bipush (v := (-2 : Int32)) S.1 S.2.1 dSx_force_17 (by decide) ?_
      obtain ⟨⟨v11, g10⟩, h9, hm⟩ := ob hm
      refine sw_Vi (q := 0) (rest := []) S hw (cSx_refuse l N hf (-2 : Int32) h9) kSx_refuse wm_Sx_85 (is_0 hf).1 (e_Sx (is_0 hf)) rfl rfl rfl rfl hl.1 (Nat.le_of_ble_eq_true rfl) ⟨rfl, rfl, Nat.le_of_ble_eq_true rfl, Nat.le_of_ble_eq_true rfl⟩ ⟨Nat.le_of_ble_eq_true rfl, Nat.le_of_ble_eq_true rfl⟩ dSx_force_19 (fun H locs hw hf => ?_)
      obtain rfl := Option.some.inj hm
      exact sw_iret S hr hlk hw hf dSx_force_22
set_option maxHeartbeats 4000000 in
set_option maxRecDepth 100000 in
theorem cSx_pad (l : Launch) (N : Nat) {Γ : sw_C} {A : Nat → Prop} {ξ : sw_x} {g : sw_g} {μ : sw_m} (hf : sw_wf ξ g.2.2) (a1 : Int32) (a2 : Int32) {res : Int32 × sw_g} (hm : fSx_pad N ξ.2.2.1 g a1 a2 = some res) : Met l ySx_pad (Cond.code ySx_pad prog_1_method_18_code 4 (some .int) :: sw_tb) rmSx_pad (va_Pc [.ref (ξ.2.2.2.1 0), .int a1, .int a2] (sw_V Γ A ξ g μ)) (sw_Qi Γ A ξ res.2 μ res.1 (sw_wf ξ res.2.2.2)) 0 0 A := by
  refine Met.ofW (cc := prog_1_method_18_code) (maxL := 4) (ret := some .int) (by decide) rfl ?_
  intro p e s m args below meth c s₁ B hml hv
  obtain ⟨rfl, hv⟩ := hv
  have S : CallFix p m c prog_1_method_18_code 4 s _ (Cond.code ySx_pad prog_1_method_18_code 4 (some .int) :: sw_tb) R_Sx := ⟨B.exec, B.bytes, hml, findClass_of_methodNamed B.named, atoms_spec (ws := (Cond.code ySx_pad prog_1_method_18_code 4 (some .int) :: sw_tb)) B.pre⟩
  have hr := B.returns
  have hlk := B.notSynchronized
  have hw := sw_begin hv
  have hl := lv_entry [.ref (ξ.2.2.2.1 0), .int a1, .int a2] (n := 4) (Nat.le_of_ble_eq_true rfl)
  rw [lg_entry_eq]
  generalize (lg_sl [.ref (ξ.2.2.2.1 0), .int a1, .int a2] ++ List.replicate (4 - (lg_sl [.ref (ξ.2.2.2.1 0), .int a1, .int a2]).length) Slot.unset).toArray = ls at hl ⊢
  have hl : lv_has ls 4 [(0, .ref (ξ.2.2.2.1 0)), (1, .int a1), (2, .int a2)] := hl
  unfold fSx_pad at hm
  refine lv_aload_n S.1 S.2.1 dSx_pad_0 rfl (lv_at hl 0 rfl) ?_
  refine lv_iload_n S.1 S.2.1 dSx_pad_1 rfl (lv_at hl 1 rfl) ?_
  refine lv_iload_n S.1 S.2.1 dSx_pad_2 rfl (lv_at hl 2 rfl) ?_
  obtain ⟨⟨v3, g2⟩, h1, hm⟩ := ob hm
  refine sw_Vi (q := 0) (rest := []) S hw (cSx_pads l  hf a1 a2 h1) kSx_pads wm_Sx_222 (is_0 hf).1 (e_Sx (is_0 hf)) rfl rfl rfl rfl hl.1 (Nat.le_of_ble_eq_true rfl) ⟨rfl, rfl, Nat.le_of_ble_eq_true rfl, Nat.le_of_ble_eq_true rfl⟩ ⟨Nat.le_of_ble_eq_true rfl, Nat.le_of_ble_eq_true rfl⟩ dSx_pad_3 (fun H locs hw hf => ?_)
  refine lv_istore_n (lv' := [(3, .int v3), (0, .ref (ξ.2.2.2.1 0)), (1, .int a1), (2, .int a2)]) S.1 S.2.1 dSx_pad_6 rfl hl (by decide) rfl (fun ls hl => ?_)
  refine lv_iload_n S.1 S.2.1 dSx_pad_7 rfl (lv_at hl 0 rfl) ?_
  refine bif_ge (tgt := 19) S.1 S.2.1 hm dSx_pad_8 (by decide) (fun hm => ?_) (fun hm => ?_)
  · refine lv_aload_n S.1 S.2.1 dSx_pad_19 rfl (lv_at hl 1 rfl) ?_
    refine lv_iload_n S.1 S.2.1 dSx_pad_20 rfl (lv_at hl 0 rfl) ?_
    obtain ⟨⟨v6, g5⟩, h4, hm⟩ := ob hm
    refine sw_Vi (q := 0) (rest := []) S hw (cSx_told l  hf v3 h4) kSx_told wm_Sx_99 (is_0 hf).1 (e_Sx (is_0 hf)) rfl rfl rfl rfl hl.1 (Nat.le_of_ble_eq_true rfl) ⟨rfl, rfl, Nat.le_of_ble_eq_true rfl, Nat.le_of_ble_eq_true rfl⟩ ⟨Nat.le_of_ble_eq_true rfl, Nat.le_of_ble_eq_true rfl⟩ dSx_pad_21 (fun H locs hw hf => ?_)
    obtain rfl := Option.some.inj hm
    exact sw_iret S hr hlk hw hf dSx_pad_24
  · refine lv_aload_n S.1 S.2.1 dSx_pad_11 rfl (lv_at hl 1 rfl) ?_
    refine lv_iload_n S.1 S.2.1 dSx_pad_12 rfl (lv_at hl 0 rfl) ?_
    obtain ⟨⟨v9, g8⟩, h7, hm⟩ := ob hm
    refine sw_Vi (q := 0) (rest := []) S hw (cSx_refuse l N hf v3 h7) kSx_refuse wm_Sx_85 (is_0 hf).1 (e_Sx (is_0 hf)) rfl rfl rfl rfl hl.1 (Nat.le_of_ble_eq_true rfl) ⟨rfl, rfl, Nat.le_of_ble_eq_true rfl, Nat.le_of_ble_eq_true rfl⟩ ⟨Nat.le_of_ble_eq_true rfl, Nat.le_of_ble_eq_true rfl⟩ dSx_pad_13 (fun H locs hw hf => ?_)
    refine lv_goto (tgt := 24) S.1 S.2.1 dSx_pad_16 (by decide) ?_
    obtain rfl := Option.some.inj hm
    exact sw_iret S hr hlk hw hf dSx_pad_24
set_option maxHeartbeats 4000000 in
set_option maxRecDepth 100000 in
theorem cSx_undo (l : Launch) (N : Nat) {Γ : sw_C} {A : Nat → Prop} {ξ : sw_x} {g : sw_g} {μ : sw_m} (hf : sw_wf ξ g.2.2) {res : Int32 × sw_g} (hm : fSx_undo N ξ.2.2.1 g = some res) : Met l ySx_undo (Cond.code ySx_undo prog_1_method_20_code 1 (some .int) :: sw_tb) rmSx_undo (va_Pc [.ref (ξ.2.2.2.1 0)] (sw_V Γ A ξ g μ)) (sw_Qi Γ A ξ res.2 μ res.1 (sw_wf ξ res.2.2.2)) 0 0 A := by
  refine Met.ofW (cc := prog_1_method_20_code) (maxL := 1) (ret := some .int) (by decide) rfl ?_
  intro p e s m args below meth c s₁ B hml hv
  obtain ⟨rfl, hv⟩ := hv
  have S : CallFix p m c prog_1_method_20_code 1 s _ (Cond.code ySx_undo prog_1_method_20_code 1 (some .int) :: sw_tb) R_Sx := ⟨B.exec, B.bytes, hml, findClass_of_methodNamed B.named, atoms_spec (ws := (Cond.code ySx_undo prog_1_method_20_code 1 (some .int) :: sw_tb)) B.pre⟩
  have hr := B.returns
  have hlk := B.notSynchronized
  have hw := sw_begin hv
  have hl := lv_entry [.ref (ξ.2.2.2.1 0)] (n := 1) (Nat.le_of_ble_eq_true rfl)
  rw [lg_entry_eq]
  generalize (lg_sl [.ref (ξ.2.2.2.1 0)] ++ List.replicate (1 - (lg_sl [.ref (ξ.2.2.2.1 0)]).length) Slot.unset).toArray = ls at hl ⊢
  have hl : lv_has ls 1 [(0, .ref (ξ.2.2.2.1 0))] := hl
  unfold fSx_undo at hm
  refine lv_aload_n S.1 S.2.1 dSx_undo_0 rfl (lv_at hl 0 rfl) ?_
  refine get_Sx (v := .ref (ξ.2.2.2.1 29)) S hw (is_0 hf) 4 (by decide) rfl wf_Sx_29 dSx_undo_1 ?_
  refine get_Hi (v := .int (g.1 29 0)) S hw (is_29 hf) 0 (by decide) rfl wf_Sx_228 dSx_undo_4 ?_
  refine bif_ne (tgt := 17) S.1 S.2.1 hm dSx_undo_7 (by decide) (fun hm => ?_) (fun hm => ?_)
  · refine lv_aload_n S.1 S.2.1 dSx_undo_17 rfl (lv_at hl 0 rfl) ?_
    refine lv_aload_n S.1 S.2.1 dSx_undo_18 rfl (lv_at hl 0 rfl) ?_
    refine get_Sx (v := .ref (ξ.2.2.2.1 29)) S hw (is_0 hf) 4 (by decide) rfl wf_Sx_29 dSx_undo_19 ?_
    refine lv_aload_n S.1 S.2.1 dSx_undo_22 rfl (lv_at hl 0 rfl) ?_
    refine get_Sx (v := .ref (ξ.2.2.2.1 1)) S hw (is_0 hf) 0 (by decide) rfl wf_Sx_12 dSx_undo_23 ?_
    obtain ⟨⟨v3, g2⟩, h1, hm⟩ := ob hm
    refine sw_Vi (q := 29) (rest := [.ref (ξ.2.2.2.1 0)]) S hw (cHi_giveBack l  hf 29 1 (is_29 hf) (is_30 hf) (is_1 hf) h1) kHi_giveBack wm_Sx_231 (is_29 hf).1 (e_Hi (is_29 hf)) rfl rfl rfl rfl hl.1 (Nat.le_of_ble_eq_true rfl) ⟨rfl, rfl, Nat.le_of_ble_eq_true rfl, Nat.le_of_ble_eq_true rfl⟩ ⟨Nat.le_of_ble_eq_true rfl, Nat.le_of_ble_eq_true rfl⟩ dSx_undo_26 (fun H locs hw hf => ?_)
    obtain ⟨⟨v6, g5⟩, h4, hm⟩ := ob hm
    refine sw_Vi (q := 0) (rest := []) S hw (cSx_told l  hf v3 h4) kSx_told wm_Sx_99 (is_0 hf).1 (e_Sx (is_0 hf)) rfl rfl rfl rfl hl.1 (Nat.le_of_ble_eq_true rfl) ⟨rfl, rfl, Nat.le_of_ble_eq_true rfl, Nat.le_of_ble_eq_true rfl⟩ ⟨Nat.le_of_ble_eq_true rfl, Nat.le_of_ble_eq_true rfl⟩ dSx_undo_29 (fun H locs hw hf => ?_)
    obtain rfl := Option.some.inj hm
    exact sw_iret S hr hlk hw hf dSx_undo_32
  · refine lv_aload_n S.1 S.2.1 dSx_undo_10 rfl (lv_at hl 0 rfl) ?_
    refine lv_bipush (v := (-3 : Int32)) S.1 S.2.1 dSx_undo_11 (by decide) ?_
    obtain ⟨⟨v9, g8⟩, h7, hm⟩ := ob hm
    refine sw_Vi (q := 0) (rest := []) S hw (cSx_refuse l N hf (-3 : Int32) h7) kSx_refuse wm_Sx_85 (is_0 hf).1 (e_Sx (is_0 hf)) rfl rfl rfl rfl hl.1 (Nat.le_of_ble_eq_true rfl) ⟨rfl, rfl, Nat.le_of_ble_eq_true rfl, Nat.le_of_ble_eq_true rfl⟩ ⟨Nat.le_of_ble_eq_true rfl, Nat.le_of_ble_eq_true rfl⟩ dSx_undo_13 (fun H locs hw hf => ?_)
    obtain rfl := Option.some.inj hm
    exact sw_iret S hr hlk hw hf dSx_undo_16
set_option maxHeartbeats 4000000 in
set_option maxRecDepth 100000 in
theorem wSx_weighed_29 {l : Launch} {p : Program} {e : Env} {s : State} {m : MethodId} {args : Array Value} {below : List Frame} {meth : Method} {c : Code} {Γ : sw_C} {A : Nat → Prop} {ξ : sw_x} {μ : sw_m} {res : Int32 × sw_g} (S : CallFix p m c prog_1_method_29_code 4 s args (Cond.code ySx_weighed prog_1_method_29_code 4 (some .int) :: sw_tb) R_Sx) (hr : meth.sig.returnType = some .int) (hlk : meth.locks = false) (N : Nat) : ∀ (g : sw_g)  (H : Heap) (locs : List Loc) (ls : Array Slot), fSx_weighed_29 N ξ.2.2.1  g = some res → sw_S Γ A ξ g μ s H locs → sw_wf ξ g.2.2 → lv_has ls 4 [(0, .ref (ξ.2.2.2.1 0))] → W p l e (headSpec (Cond.code ySx_weighed prog_1_method_29_code 4 (some .int) :: sw_tb) rmSx_weighed).room s m args below meth c H locs 0 0 (MQ below (sw_Qi Γ A ξ res.2 μ res.1 (sw_wf ξ res.2.2.2)) args s 0 0 A) (F0 m 29 ls []) := by
  intro g H locs ls hm hw hf hl
  unfold fSx_weighed_29 at hm
  refine lv_aload_n S.1 S.2.1 dSx_weighed_29 rfl (lv_at hl 0 rfl) ?_
  refine lv_iconst (v := (-1 : Int32)) S.1 S.2.1 dSx_weighed_30 (by decide) ?_
  obtain ⟨⟨v5, g4⟩, h3, hm⟩ := ob hm
  refine sw_Vi (q := 0) (rest := []) S hw (cSx_refuse l N hf (-1 : Int32) h3) kSx_refuse wm_Sx_85 (is_0 hf).1 (e_Sx (is_0 hf)) rfl rfl rfl rfl hl.1 (Nat.le_of_ble_eq_true rfl) ⟨rfl, rfl, Nat.le_of_ble_eq_true rfl, Nat.le_of_ble_eq_true rfl⟩ ⟨Nat.le_of_ble_eq_true rfl, Nat.le_of_ble_eq_true rfl⟩ dSx_weighed_31 (fun H locs hw hf => ?_)
  obtain rfl := Option.some.inj hm
  exact sw_iret S hr hlk hw hf dSx_weighed_34
set_option maxHeartbeats 4000000 in
set_option maxRecDepth 100000 in
theorem cSx_weighed (l : Launch) (N : Nat) {Γ : sw_C} {A : Nat → Prop} {ξ : sw_x} {g : sw_g} {μ : sw_m} (hf : sw_wf ξ g.2.2) (a1 : Int32) (a2 : Int32) (a3 : Int32) {res : Int32 × sw_g} (hm : fSx_weighed N ξ.2.2.1 g a1 a2 a3 = some res) : Met l ySx_weighed (Cond.code ySx_weighed prog_1_method_29_code 4 (some .int) :: sw_tb) rmSx_weighed (va_Pc [.ref (ξ.2.2.2.1 0), .int a1, .int a2, .int a3] (sw_V Γ A ξ g μ)) (sw_Qi Γ A ξ res.2 μ res.1 (sw_wf ξ res.2.2.2)) 0 0 A := by
  refine Met.ofW (cc := prog_1_method_29_code) (maxL := 4) (ret := some .int) (by decide) rfl ?_
  intro p e s m args below meth c s₁ B hml hv
  obtain ⟨rfl, hv⟩ := hv
  have S : CallFix p m c prog_1_method_29_code 4 s _ (Cond.code ySx_weighed prog_1_method_29_code 4 (some .int) :: sw_tb) R_Sx := ⟨B.exec, B.bytes, hml, findClass_of_methodNamed B.named, atoms_spec (ws := (Cond.code ySx_weighed prog_1_method_29_code 4 (some .int) :: sw_tb)) B.pre⟩
  have hr := B.returns
  have hlk := B.notSynchronized
  have hw := sw_begin hv
  have hl := lv_entry [.ref (ξ.2.2.2.1 0), .int a1, .int a2, .int a3] (n := 4) (Nat.le_of_ble_eq_true rfl)
  rw [lg_entry_eq]
  generalize (lg_sl [.ref (ξ.2.2.2.1 0), .int a1, .int a2, .int a3] ++ List.replicate (4 - (lg_sl [.ref (ξ.2.2.2.1 0), .int a1, .int a2, .int a3]).length) Slot.unset).toArray = ls at hl ⊢
  have hl : lv_has ls 4 [(0, .ref (ξ.2.2.2.1 0)), (1, .int a1), (2, .int a2), (3, .int a3)] := hl
  unfold fSx_weighed at hm
  refine lv_iload_n S.1 S.2.1 dSx_weighed_0 rfl (lv_at hl 1 rfl) ?_
  obtain ⟨v2, h1, hm⟩ := ob hm
  refine sw_Si (rest := []) S hw (cSx_areBits l  hf a1 h1) kSx_areBits wm_Sx_286 rfl rfl hl.1 (Nat.le_of_ble_eq_true rfl) ⟨rfl, rfl, Nat.le_of_ble_eq_true rfl, Nat.le_of_ble_eq_true rfl⟩ ⟨Nat.le_of_ble_eq_true rfl, Nat.le_of_ble_eq_true rfl⟩ dSx_weighed_1 (fun H locs hw _ => ?_)
  refine bif_eq (tgt := 29) S.1 S.2.1 hm dSx_weighed_4 (by decide) (fun hm => ?_) (fun hm => ?_)
  · exact wSx_weighed_29 S hr hlk N  g _ _ _ hm hw hf (lv_sub hl [0] rfl)
  · refine lv_iload_n S.1 S.2.1 dSx_weighed_7 rfl (lv_at hl 2 rfl) ?_
    obtain ⟨v7, h6, hm⟩ := ob hm
    refine sw_Si (rest := []) S hw (cSx_areBits l  hf a2 h6) kSx_areBits wm_Sx_286 rfl rfl hl.1 (Nat.le_of_ble_eq_true rfl) ⟨rfl, rfl, Nat.le_of_ble_eq_true rfl, Nat.le_of_ble_eq_true rfl⟩ ⟨Nat.le_of_ble_eq_true rfl, Nat.le_of_ble_eq_true rfl⟩ dSx_weighed_8 (fun H locs hw _ => ?_)
    refine bif_eq (tgt := 29) S.1 S.2.1 hm dSx_weighed_11 (by decide) (fun hm => ?_) (fun hm => ?_)
    · exact wSx_weighed_29 S hr hlk N  g _ _ _ hm hw hf (lv_sub hl [0] rfl)
    · refine lv_iload_n S.1 S.2.1 dSx_weighed_14 rfl (lv_at hl 1 rfl) ?_
      refine lv_iload_n S.1 S.2.1 dSx_weighed_15 rfl (lv_at hl 2 rfl) ?_
      refine lv_iand S.1 S.2.1 dSx_weighed_16 ?_
      refine bif_ne (tgt := 29) S.1 S.2.1 hm dSx_weighed_17 (by decide) (fun hm => ?_) (fun hm => ?_)
      · exact wSx_weighed_29 S hr hlk N  g _ _ _ hm hw hf (lv_sub hl [0] rfl)
      · refine lv_iload_n S.1 S.2.1 dSx_weighed_20 rfl (lv_at hl 3 rfl) ?_
        refine bif_lt (tgt := 29) S.1 S.2.1 hm dSx_weighed_21 (by decide) (fun hm => ?_) (fun hm => ?_)
        · exact wSx_weighed_29 S hr hlk N  g _ _ _ hm hw hf (lv_sub hl [0] rfl)
        · refine lv_iload_n S.1 S.2.1 dSx_weighed_24 rfl (lv_at hl 3 rfl) ?_
          refine lv_iconst (v := (2 : Int32)) S.1 S.2.1 dSx_weighed_25 (by decide) ?_
          refine bicmp_le (tgt := 35) S.1 S.2.1 hm dSx_weighed_26 (by decide) (fun hm => ?_) (fun hm => ?_)
          · refine lv_iload_n S.1 S.2.1 dSx_weighed_35 rfl (lv_at hl 1 rfl) ?_
            refine lv_iload_n S.1 S.2.1 dSx_weighed_36 rfl (lv_at hl 2 rfl) ?_
            refine lv_ior S.1 S.2.1 dSx_weighed_37 ?_
            refine lv_aload_n S.1 S.2.1 dSx_weighed_38 rfl (lv_at hl 0 rfl) ?_
            refine get_Sx (v := .ref (ξ.2.2.2.1 1)) S hw (is_0 hf) 0 (by decide) rfl wf_Sx_12 dSx_weighed_39 ?_
            refine get_Pl (v := .int (g.1 1 0)) S hw (is_1 hf) 0 (by decide) rfl wf_Sx_89 dSx_weighed_42 ?_
            refine lv_ishr S.1 S.2.1 dSx_weighed_45 ?_
            refine bif_eq (tgt := 56) S.1 S.2.1 hm dSx_weighed_46 (by decide) (fun hm => ?_) (fun hm => ?_)
            · refine lv_aload_n S.1 S.2.1 dSx_weighed_56 rfl (lv_at hl 0 rfl) ?_
              refine get_Sx (v := .ref (ξ.2.2.2.1 1)) S hw (is_0 hf) 0 (by decide) rfl wf_Sx_12 dSx_weighed_57 ?_
              refine get_Pl (v := .int (g.1 1 5)) S hw (is_1 hf) 5 (by decide) rfl wf_Sx_289 dSx_weighed_60 ?_
              refine lv_bipush (v := (6 : Int32)) S.1 S.2.1 dSx_weighed_63 (by decide) ?_
              refine bicmp_lt (tgt := 75) S.1 S.2.1 hm dSx_weighed_65 (by decide) (fun hm => ?_) (fun hm => ?_)
              · refine lv_aload_n S.1 S.2.1 dSx_weighed_75 rfl (lv_at hl 0 rfl) ?_
                refine lv_aload_n S.1 S.2.1 dSx_weighed_76 rfl (lv_at hl 0 rfl) ?_
                refine get_Sx (v := .ref (ξ.2.2.2.1 1)) S hw (is_0 hf) 0 (by decide) rfl wf_Sx_12 dSx_weighed_77 ?_
                refine lv_iload_n S.1 S.2.1 dSx_weighed_80 rfl (lv_at hl 1 rfl) ?_
                refine lv_iload_n S.1 S.2.1 dSx_weighed_81 rfl (lv_at hl 2 rfl) ?_
                refine lv_iload_n S.1 S.2.1 dSx_weighed_82 rfl (lv_at hl 3 rfl) ?_
                obtain ⟨⟨v10, g9⟩, h8, hm⟩ := ob hm
                refine sw_Vi (q := 1) (rest := [.ref (ξ.2.2.2.1 0)]) S hw (cPl_addWeighing l  hf 1 (is_1 hf) a1 a2 a3 h8) kPl_addWeighing wm_Sx_292 (is_1 hf).1 (e_Pl (is_1 hf)) rfl rfl rfl rfl hl.1 (Nat.le_of_ble_eq_true rfl) ⟨rfl, rfl, Nat.le_of_ble_eq_true rfl, Nat.le_of_ble_eq_true rfl⟩ ⟨Nat.le_of_ble_eq_true rfl, Nat.le_of_ble_eq_true rfl⟩ dSx_weighed_83 (fun H locs hw hf => ?_)
                obtain ⟨⟨v13, g12⟩, h11, hm⟩ := ob hm
                refine sw_Vi (q := 0) (rest := []) S hw (cSx_told l  hf v10 h11) kSx_told wm_Sx_99 (is_0 hf).1 (e_Sx (is_0 hf)) rfl rfl rfl rfl hl.1 (Nat.le_of_ble_eq_true rfl) ⟨rfl, rfl, Nat.le_of_ble_eq_true rfl, Nat.le_of_ble_eq_true rfl⟩ ⟨Nat.le_of_ble_eq_true rfl, Nat.le_of_ble_eq_true rfl⟩ dSx_weighed_86 (fun H locs hw hf => ?_)
                obtain rfl := Option.some.inj hm
                exact sw_iret S hr hlk hw hf dSx_weighed_89
              · refine lv_aload_n S.1 S.2.1 dSx_weighed_68 rfl (lv_at hl 0 rfl) ?_
                refine lv_bipush (v := (-5 : Int32)) S.1 S.2.1 dSx_weighed_69 (by decide) ?_
                obtain ⟨⟨v16, g15⟩, h14, hm⟩ := ob hm
                refine sw_Vi (q := 0) (rest := []) S hw (cSx_refuse l N hf (-5 : Int32) h14) kSx_refuse wm_Sx_85 (is_0 hf).1 (e_Sx (is_0 hf)) rfl rfl rfl rfl hl.1 (Nat.le_of_ble_eq_true rfl) ⟨rfl, rfl, Nat.le_of_ble_eq_true rfl, Nat.le_of_ble_eq_true rfl⟩ ⟨Nat.le_of_ble_eq_true rfl, Nat.le_of_ble_eq_true rfl⟩ dSx_weighed_71 (fun H locs hw hf => ?_)
                obtain rfl := Option.some.inj hm
                exact sw_iret S hr hlk hw hf dSx_weighed_74
            · refine lv_aload_n S.1 S.2.1 dSx_weighed_49 rfl (lv_at hl 0 rfl) ?_
              refine lv_bipush (v := (-2 : Int32)) S.1 S.2.1 dSx_weighed_50 (by decide) ?_
              obtain ⟨⟨v19, g18⟩, h17, hm⟩ := ob hm
              refine sw_Vi (q := 0) (rest := []) S hw (cSx_refuse l N hf (-2 : Int32) h17) kSx_refuse wm_Sx_85 (is_0 hf).1 (e_Sx (is_0 hf)) rfl rfl rfl rfl hl.1 (Nat.le_of_ble_eq_true rfl) ⟨rfl, rfl, Nat.le_of_ble_eq_true rfl, Nat.le_of_ble_eq_true rfl⟩ ⟨Nat.le_of_ble_eq_true rfl, Nat.le_of_ble_eq_true rfl⟩ dSx_weighed_52 (fun H locs hw hf => ?_)
              obtain rfl := Option.some.inj hm
              exact sw_iret S hr hlk hw hf dSx_weighed_55
          · exact wSx_weighed_29 S hr hlk N  g _ _ _ hm hw hf (lv_sub hl [0] rfl)
set_option maxHeartbeats 4000000 in
set_option maxRecDepth 100000 in
theorem wSx_back_9 {l : Launch} {p : Program} {e : Env} {s : State} {m : MethodId} {args : Array Value} {below : List Frame} {meth : Method} {c : Code} {Γ : sw_C} {A : Nat → Prop} {ξ : sw_x} {μ : sw_m} {res : Int32 × sw_g} (S : CallFix p m c prog_1_method_38_code 3 s args (Cond.code ySx_back prog_1_method_38_code 3 (some .int) :: sw_tb) R_Sx) (hr : meth.sig.returnType = some .int) (hlk : meth.locks = false) (N : Nat) : ∀ (g : sw_g)  (H : Heap) (locs : List Loc) (ls : Array Slot), fSx_back_9 N ξ.2.2.1  g = some res → sw_S Γ A ξ g μ s H locs → sw_wf ξ g.2.2 → lv_has ls 3 [(0, .ref (ξ.2.2.2.1 0))] → W p l e (headSpec (Cond.code ySx_back prog_1_method_38_code 3 (some .int) :: sw_tb) rmSx_back).room s m args below meth c H locs 0 0 (MQ below (sw_Qi Γ A ξ res.2 μ res.1 (sw_wf ξ res.2.2.2)) args s 0 0 A) (F0 m 9 ls []) := by
  intro g H locs ls hm hw hf hl
  unfold fSx_back_9 at hm
  refine lv_aload_n S.1 S.2.1 dSx_back_9 rfl (lv_at hl 0 rfl) ?_
  refine lv_iconst (v := (-1 : Int32)) S.1 S.2.1 dSx_back_10 (by decide) ?_
  obtain ⟨⟨v3, g2⟩, h1, hm⟩ := ob hm
  refine sw_Vi (q := 0) (rest := []) S hw (cSx_refuse l N hf (-1 : Int32) h1) kSx_refuse wm_Sx_85 (is_0 hf).1 (e_Sx (is_0 hf)) rfl rfl rfl rfl hl.1 (Nat.le_of_ble_eq_true rfl) ⟨rfl, rfl, Nat.le_of_ble_eq_true rfl, Nat.le_of_ble_eq_true rfl⟩ ⟨Nat.le_of_ble_eq_true rfl, Nat.le_of_ble_eq_true rfl⟩ dSx_back_11 (fun H locs hw hf => ?_)
  obtain rfl := Option.some.inj hm
  exact sw_iret S hr hlk hw hf dSx_back_14
set_option maxHeartbeats 4000000 in
set_option maxRecDepth 100000 in
theorem cSx_back (l : Launch) (N : Nat) {Γ : sw_C} {A : Nat → Prop} {ξ : sw_x} {g : sw_g} {μ : sw_m} (hf : sw_wf ξ g.2.2) (a1 : Int32) {res : Int32 × sw_g} (hm : fSx_back N ξ.2.2.1 g a1 = some res) : Met l ySx_back (Cond.code ySx_back prog_1_method_38_code 3 (some .int) :: sw_tb) rmSx_back (va_Pc [.ref (ξ.2.2.2.1 0), .int a1] (sw_V Γ A ξ g μ)) (sw_Qi Γ A ξ res.2 μ res.1 (sw_wf ξ res.2.2.2)) 0 0 A := by
  refine Met.ofW (cc := prog_1_method_38_code) (maxL := 3) (ret := some .int) (by decide) rfl ?_
  intro p e s m args below meth c s₁ B hml hv
  obtain ⟨rfl, hv⟩ := hv
  have S : CallFix p m c prog_1_method_38_code 3 s _ (Cond.code ySx_back prog_1_method_38_code 3 (some .int) :: sw_tb) R_Sx := ⟨B.exec, B.bytes, hml, findClass_of_methodNamed B.named, atoms_spec (ws := (Cond.code ySx_back prog_1_method_38_code 3 (some .int) :: sw_tb)) B.pre⟩
  have hr := B.returns
  have hlk := B.notSynchronized
  have hw := sw_begin hv
  have hl := lv_entry [.ref (ξ.2.2.2.1 0), .int a1] (n := 3) (Nat.le_of_ble_eq_true rfl)
  rw [lg_entry_eq]
  generalize (lg_sl [.ref (ξ.2.2.2.1 0), .int a1] ++ List.replicate (3 - (lg_sl [.ref (ξ.2.2.2.1 0), .int a1]).length) Slot.unset).toArray = ls at hl ⊢
  have hl : lv_has ls 3 [(0, .ref (ξ.2.2.2.1 0)), (1, .int a1)] := hl
  unfold fSx_back at hm
  refine lv_iload_n S.1 S.2.1 dSx_back_0 rfl (lv_at hl 1 rfl) ?_
  refine bif_lt (tgt := 9) S.1 S.2.1 hm dSx_back_1 (by decide) (fun hm => ?_) (fun hm => ?_)
  · exact wSx_back_9 S hr hlk N  g _ _ _ hm hw hf (lv_sub hl [0] rfl)
  · refine lv_iload_n S.1 S.2.1 dSx_back_4 rfl (lv_at hl 1 rfl) ?_
    refine lv_iconst (v := (2 : Int32)) S.1 S.2.1 dSx_back_5 (by decide) ?_
    refine bicmp_lt (tgt := 15) S.1 S.2.1 hm dSx_back_6 (by decide) (fun hm => ?_) (fun hm => ?_)
    · refine lv_aload_n S.1 S.2.1 dSx_back_15 rfl (lv_at hl 0 rfl) ?_
      refine get_Sx (v := .ref (ξ.2.2.2.1 28)) S hw (is_0 hf) 3 (by decide) rfl wf_Sx_22 dSx_back_16 ?_
      refine lv_iload_n S.1 S.2.1 dSx_back_19 rfl (lv_at hl 1 rfl) ?_
      refine sx_pald S hw (is_28 hf) hm dSx_back_20 (fun jt4 t4 et4 hm => ?_)
      cases t4 with
      | none =>
        refine W.eq (g2 := F0 m 21 ls [.null]) rfl ?_
        refine lv_astore_nN (lv' := [(2, .null), (0, .ref (ξ.2.2.2.1 0)), (1, .int a1)]) S.1 S.2.1 dSx_back_21 rfl hl (by decide) rfl (fun ls hl => ?_)
        refine lv_aload_nN S.1 S.2.1 dSx_back_22 rfl (lv_at hl 0 rfl) ?_
        refine lv_ifnonnullN S.1 S.2.1 dSx_back_23 ?_
        refine lv_aload_n S.1 S.2.1 dSx_back_26 rfl (lv_at hl 1 rfl) ?_
        refine lv_bipush (v := (-2 : Int32)) S.1 S.2.1 dSx_back_27 (by decide) ?_
        obtain ⟨⟨v8, g7⟩, h6, hm⟩ := ob hm
        refine sw_Vi (q := 0) (rest := []) S hw (cSx_refuse l N hf (-2 : Int32) h6) kSx_refuse wm_Sx_85 (is_0 hf).1 (e_Sx (is_0 hf)) rfl rfl rfl rfl hl.1 (Nat.le_of_ble_eq_true rfl) ⟨rfl, rfl, Nat.le_of_ble_eq_true rfl, Nat.le_of_ble_eq_true rfl⟩ ⟨Nat.le_of_ble_eq_true rfl, Nat.le_of_ble_eq_true rfl⟩ dSx_back_29 (fun H locs hw hf => ?_)
        obtain rfl := Option.some.inj hm
        exact sw_iret S hr hlk hw hf dSx_back_32
      | some p5 =>
        have hp5 : sw_ik ξ p5 3 := hf.2.2.2.2.2 _ _ _ ⟨(is_28 hf).1, (is_28 hf).2.1⟩ et4
        refine W.eq (g2 := F0 m 21 ls [.ref (ξ.2.2.2.1 p5)]) rfl ?_
        refine lv_astore_n (lv' := [(2, .ref (ξ.2.2.2.1 p5)), (0, .ref (ξ.2.2.2.1 0)), (1, .int a1)]) S.1 S.2.1 dSx_back_21 rfl hl (by decide) rfl (fun ls hl => ?_)
        refine lv_aload_n S.1 S.2.1 dSx_back_22 rfl (lv_at hl 0 rfl) ?_
        refine lv_ifnonnull (tgt := 33) S.1 S.2.1 dSx_back_23 (by decide) ?_
        refine lv_aload_n S.1 S.2.1 dSx_back_33 rfl (lv_at hl 1 rfl) ?_
        refine get_Sx (v := .ref (ξ.2.2.2.1 1)) S hw (is_0 hf) 0 (by decide) rfl wf_Sx_12 dSx_back_34 ?_
        refine lv_aload_n S.1 S.2.1 dSx_back_37 rfl (lv_at hl 0 rfl) ?_
        obtain ⟨g10, h9, hm⟩ := ob hm
        refine sw_Vv (q := 1) (rest := []) S hw (cPl_become l N hf 1 p5 (is_1 hf) hp5 h9) kPl_become wm_Sx_190 (is_1 hf).1 (e_Pl (is_1 hf)) rfl rfl rfl rfl hl.1 (Nat.le_of_ble_eq_true rfl) ⟨rfl, rfl, Nat.le_of_ble_eq_true rfl, Nat.le_of_ble_eq_true rfl⟩ ⟨Nat.le_of_ble_eq_true rfl, Nat.le_of_ble_eq_true rfl⟩ dSx_back_38 (fun H locs hw hf => ?_)
        refine lv_aload_n S.1 S.2.1 dSx_back_41 rfl (lv_at hl 1 rfl) ?_
        refine get_Sx (v := .ref (ξ.2.2.2.1 29)) S hw (is_0 hf) 4 (by decide) rfl wf_Sx_29 dSx_back_42 ?_
        obtain ⟨g12, h11, hm⟩ := ob hm
        refine sw_Vv (q := 29) (rest := []) S hw (cHi_clear l  hf 29 (is_29 hf) (is_30 hf) h11) kHi_clear wm_Sx_92 (is_29 hf).1 (e_Hi (is_29 hf)) rfl rfl rfl rfl hl.1 (Nat.le_of_ble_eq_true rfl) ⟨rfl, rfl, Nat.le_of_ble_eq_true rfl, Nat.le_of_ble_eq_true rfl⟩ ⟨Nat.le_of_ble_eq_true rfl, Nat.le_of_ble_eq_true rfl⟩ dSx_back_45 (fun H locs hw hf => ?_)
        refine lv_aload_n S.1 S.2.1 dSx_back_48 rfl (lv_at hl 1 rfl) ?_
        refine lv_iconst (v := (0 : Int32)) S.1 S.2.1 dSx_back_49 (by decide) ?_
        obtain ⟨⟨v15, g14⟩, h13, hm⟩ := ob hm
        refine sw_Vi (q := 0) (rest := []) S hw (cSx_told l  hf (0 : Int32) h13) kSx_told wm_Sx_99 (is_0 hf).1 (e_Sx (is_0 hf)) rfl rfl rfl rfl hl.1 (Nat.le_of_ble_eq_true rfl) ⟨rfl, rfl, Nat.le_of_ble_eq_true rfl, Nat.le_of_ble_eq_true rfl⟩ ⟨Nat.le_of_ble_eq_true rfl, Nat.le_of_ble_eq_true rfl⟩ dSx_back_50 (fun H locs hw hf => ?_)
        obtain rfl := Option.some.inj hm
        exact sw_iret S hr hlk hw hf dSx_back_53
    · exact wSx_back_9 S hr hlk N  g _ _ _ hm hw hf (lv_sub hl [0] rfl)
set_option maxHeartbeats 4000000 in
set_option maxRecDepth 100000 in
theorem cSx_canBeClaim (l : Launch) {Γ : sw_C} {A : Nat → Prop} {ξ : sw_x} {g : sw_g} {μ : sw_m} (hf : sw_wf ξ g.2.2) (a1 : Int32) (a2 : Int32) {res : Int32} (hm : fSx_canBeClaim a1 a2 = some res) : Met l ySx_canBeClaim (Cond.code ySx_canBeClaim prog_1_method_43_code 2 (some .boolean) :: sw_tb) rmSx_canBeClaim (va_Pc [.int a1, .int a2] (sw_V Γ A ξ g μ)) (sw_Qi Γ A ξ g μ res (True)) 0 0 A := by
  refine Met.ofW (cc := prog_1_method_43_code) (maxL := 2) (ret := some .boolean) (by decide) rfl ?_
  intro p e s m args below meth c s₁ B hml hv
  obtain ⟨rfl, hv⟩ := hv
  have S : CallFix p m c prog_1_method_43_code 2 s _ (Cond.code ySx_canBeClaim prog_1_method_43_code 2 (some .boolean) :: sw_tb) R_Sx := ⟨B.exec, B.bytes, hml, findClass_of_methodNamed B.named, atoms_spec (ws := (Cond.code ySx_canBeClaim prog_1_method_43_code 2 (some .boolean) :: sw_tb)) B.pre⟩
  have hr := B.returns
  have hlk := B.notSynchronized
  have hw := sw_begin hv
  have hl := lv_entry [.int a1, .int a2] (n := 2) (Nat.le_of_ble_eq_true rfl)
  rw [lg_entry_eq]
  generalize (lg_sl [.int a1, .int a2] ++ List.replicate (2 - (lg_sl [.int a1, .int a2]).length) Slot.unset).toArray = ls at hl ⊢
  have hl : lv_has ls 2 [(0, .int a1), (1, .int a2)] := hl
  unfold fSx_canBeClaim at hm
  refine lv_iload_n S.1 S.2.1 dSx_canBeClaim_0 rfl (lv_at hl 0 rfl) ?_
  obtain ⟨v2, h1, hm⟩ := ob hm
  refine sw_Si (rest := []) S hw (cSx_canBeHeavy l  hf a1 h1) kSx_canBeHeavy wm_Sx_336 rfl rfl hl.1 (Nat.le_of_ble_eq_true rfl) ⟨rfl, rfl, Nat.le_of_ble_eq_true rfl, Nat.le_of_ble_eq_true rfl⟩ ⟨Nat.le_of_ble_eq_true rfl, Nat.le_of_ble_eq_true rfl⟩ dSx_canBeClaim_1 (fun H locs hw _ => ?_)
  refine bif_eq (tgt := 20) S.1 S.2.1 hm dSx_canBeClaim_4 (by decide) (fun hm => ?_) (fun hm => ?_)
  · refine lv_iconst (v := (0 : Int32)) S.1 S.2.1 dSx_canBeClaim_20 (by decide) ?_
    obtain rfl := Option.some.inj hm
    exact sw_zret S hr hlk (Or.inl rfl) hw trivial dSx_canBeClaim_21
  · refine lv_iload_n S.1 S.2.1 dSx_canBeClaim_7 rfl (lv_at hl 1 rfl) ?_
    refine bif_lt (tgt := 20) S.1 S.2.1 hm dSx_canBeClaim_8 (by decide) (fun hm => ?_) (fun hm => ?_)
    · refine lv_iconst (v := (0 : Int32)) S.1 S.2.1 dSx_canBeClaim_20 (by decide) ?_
      obtain rfl := Option.some.inj hm
      exact sw_zret S hr hlk (Or.inl rfl) hw trivial dSx_canBeClaim_21
    · refine lv_iload_n S.1 S.2.1 dSx_canBeClaim_11 rfl (lv_at hl 1 rfl) ?_
      refine lv_iconst (v := (4 : Int32)) S.1 S.2.1 dSx_canBeClaim_12 (by decide) ?_
      refine bicmp_ge (tgt := 20) S.1 S.2.1 hm dSx_canBeClaim_13 (by decide) (fun hm => ?_) (fun hm => ?_)
      · refine lv_iconst (v := (0 : Int32)) S.1 S.2.1 dSx_canBeClaim_20 (by decide) ?_
        obtain rfl := Option.some.inj hm
        exact sw_zret S hr hlk (Or.inl rfl) hw trivial dSx_canBeClaim_21
      · refine lv_iconst (v := (1 : Int32)) S.1 S.2.1 dSx_canBeClaim_16 (by decide) ?_
        refine lv_goto (tgt := 21) S.1 S.2.1 dSx_canBeClaim_17 (by decide) ?_
        obtain rfl := Option.some.inj hm
        exact sw_zret S hr hlk (Or.inr rfl) hw trivial dSx_canBeClaim_21
set_option maxHeartbeats 4000000 in
set_option maxRecDepth 100000 in
theorem wSx_sumHeavies_34 {l : Launch} {p : Program} {e : Env} {s : State} {m : MethodId} {args : Array Value} {below : List Frame} {meth : Method} {c : Code} {Γ : sw_C} {A : Nat → Prop} {ξ : sw_x} {μ : sw_m} {res : sw_g} (S : CallFix p m c prog_1_method_62_code 2 s args (Cond.code ySx_sumHeavies prog_1_method_62_code 2 (none) :: sw_tb) R_Sx) (hr : meth.sig.returnType = none) (hlk : meth.locks = false) (N : Nat) (k2 : sw_g → Int32 → Option (sw_g)) (hk2 : ∀ (g : sw_g) (u1 : Int32) (H : Heap) (locs : List Loc) (ls : Array Slot), k2 g u1 = some res → sw_S Γ A ξ g μ s H locs → sw_wf ξ g.2.2 → lv_has ls 2 [(0, .ref (ξ.2.2.2.1 0)), (1, .int u1)] → W p l e (headSpec (Cond.code ySx_sumHeavies prog_1_method_62_code 2 (none) :: sw_tb) rmSx_sumHeavies).room s m args below meth c H locs 0 0 (MQ below (sw_Qv Γ A ξ res μ (sw_wf ξ res.2.2)) args s 0 0 A) (F0 m 2 ls [])) : ∀ (g : sw_g) (u1 : Int32) (s0 : Int32) (s1 : Int32) (H : Heap) (locs : List Loc) (ls : Array Slot), fSx_sumHeavies_34 N ξ.2.2.1 k2 g u1 s0 s1 = some res → sw_S Γ A ξ g μ s H locs → sw_wf ξ g.2.2 → lv_has ls 2 [(0, .ref (ξ.2.2.2.1 0)), (1, .int u1)] → W p l e (headSpec (Cond.code ySx_sumHeavies prog_1_method_62_code 2 (none) :: sw_tb) rmSx_sumHeavies).room s m args below meth c H locs 0 0 (MQ below (sw_Qv Γ A ξ res μ (sw_wf ξ res.2.2)) args s 0 0 A) (F0 m 34 ls [.int s0, .int s1, .ref (ξ.2.2.2.1 0)]) := by
  intro g u1 s0 s1 H locs ls hm hw hf hl
  unfold fSx_sumHeavies_34 at hm
  obtain ⟨g5, h4, hm⟩ := ob hm
  refine sw_Vv (q := 0) (rest := []) S hw (cSx_sumWith l N hf s1 s0 h4) kSx_sumWith wm_Sx_374 (is_0 hf).1 (e_Sx (is_0 hf)) rfl rfl rfl rfl hl.1 (Nat.le_of_ble_eq_true rfl) ⟨rfl, rfl, Nat.le_of_ble_eq_true rfl, Nat.le_of_ble_eq_true rfl⟩ ⟨Nat.le_of_ble_eq_true rfl, Nat.le_of_ble_eq_true rfl⟩ dSx_sumHeavies_34 (fun H locs hw hf => ?_)
  obtain ⟨x6, ex6, hm⟩ := nm_x hm
  refine lv_iinc (v := x6) (lv' := [(1, .int x6), (0, .ref (ξ.2.2.2.1 0))]) S.1 S.2.1 dSx_sumHeavies_37 hl (k := 1) rfl (by rw [ex6]; rfl) (by decide) rfl (fun ls hl => ?_)
  refine lv_goto (tgt := 2) S.1 S.2.1 dSx_sumHeavies_40 (by decide) ?_
  exact hk2 g5 x6 _ _ _ hm hw hf (lv_sub hl [1, 0] rfl)
set_option maxHeartbeats 4000000 in
set_option maxRecDepth 100000 in
theorem wSx_sumHeavies_2 {l : Launch} {p : Program} {e : Env} {s : State} {m : MethodId} {args : Array Value} {below : List Frame} {meth : Method} {c : Code} {Γ : sw_C} {A : Nat → Prop} {ξ : sw_x} {μ : sw_m} {res : sw_g} (S : CallFix p m c prog_1_method_62_code 2 s args (Cond.code ySx_sumHeavies prog_1_method_62_code 2 (none) :: sw_tb) R_Sx) (hr : meth.sig.returnType = none) (hlk : meth.locks = false) (N : Nat) : ∀ (fu : Nat) (g : sw_g) (u1 : Int32) (H : Heap) (locs : List Loc) (ls : Array Slot), fSx_sumHeavies_2 N ξ.2.2.1  fu g u1 = some res → sw_S Γ A ξ g μ s H locs → sw_wf ξ g.2.2 → lv_has ls 2 [(0, .ref (ξ.2.2.2.1 0)), (1, .int u1)] → W p l e (headSpec (Cond.code ySx_sumHeavies prog_1_method_62_code 2 (none) :: sw_tb) rmSx_sumHeavies).room s m args below meth c H locs 0 0 (MQ below (sw_Qv Γ A ξ res μ (sw_wf ξ res.2.2)) args s 0 0 A) (F0 m 2 ls []) := by
  intro fu
  induction fu with
  | zero => intro g u1 H locs ls hm; rw [fSx_sumHeavies_2.eq_1] at hm; cases hm
  | succ fu ih =>
    intro g u1 H locs ls hm hw hf hl
    rw [fSx_sumHeavies_2.eq_2] at hm
    refine lv_iload_n S.1 S.2.1 dSx_sumHeavies_2 rfl (lv_at hl 1 rfl) ?_
    refine lv_bipush (v := (7 : Int32)) S.1 S.2.1 dSx_sumHeavies_3 (by decide) ?_
    refine bicmp_ge (tgt := 43) S.1 S.2.1 hm dSx_sumHeavies_5 (by decide) (fun hm => ?_) (fun hm => ?_)
    · obtain rfl := Option.some.inj hm
      exact sw_vret S hr hlk hw hf dSx_sumHeavies_43
    · refine lv_aload_n S.1 S.2.1 dSx_sumHeavies_8 rfl (lv_at hl 0 rfl) ?_
      refine lv_iload_n S.1 S.2.1 dSx_sumHeavies_9 rfl (lv_at hl 1 rfl) ?_
      refine lv_aload_n S.1 S.2.1 dSx_sumHeavies_10 rfl (lv_at hl 0 rfl) ?_
      refine get_Sx (v := .ref (ξ.2.2.2.1 1)) S hw (is_0 hf) 0 (by decide) rfl wf_Sx_12 dSx_sumHeavies_11 ?_
      refine lv_iload_n S.1 S.2.1 dSx_sumHeavies_14 rfl (lv_at hl 1 rfl) ?_
      obtain ⟨⟨v3, g2⟩, h1, hm⟩ := ob hm
      refine sw_Vi (q := 1) (rest := [.int u1, .ref (ξ.2.2.2.1 0)]) S hw (cPl_hasClaim l  hf 1 (is_1 hf) u1 h1) kPl_hasClaim wm_Sx_102 (is_1 hf).1 (e_Pl (is_1 hf)) rfl rfl rfl rfl hl.1 (Nat.le_of_ble_eq_true rfl) ⟨rfl, rfl, Nat.le_of_ble_eq_true rfl, Nat.le_of_ble_eq_true rfl⟩ ⟨Nat.le_of_ble_eq_true rfl, Nat.le_of_ble_eq_true rfl⟩ dSx_sumHeavies_15 (fun H locs hw hf => ?_)
      refine bif_eq (tgt := 33) S.1 S.2.1 hm dSx_sumHeavies_18 (by decide) (fun hm => ?_) (fun hm => ?_)
      · refine lv_iconst (v := (0 : Int32)) S.1 S.2.1 dSx_sumHeavies_33 (by decide) ?_
        exact wSx_sumHeavies_34 S hr hlk N (fSx_sumHeavies_2 N ξ.2.2.1  fu) ih g2 u1 (0 : Int32) u1 _ _ _ hm hw hf (lv_sub hl [0, 1] rfl)
      · refine lv_aload_n S.1 S.2.1 dSx_sumHeavies_21 rfl (lv_at hl 0 rfl) ?_
        refine get_Sx (v := .ref (ξ.2.2.2.1 1)) S hw (is_0 hf) 0 (by decide) rfl wf_Sx_12 dSx_sumHeavies_22 ?_
        refine get_Pl (v := .ref (ξ.2.2.2.1 2)) S hw (is_1 hf) 1 (by decide) rfl wf_Sx_109 dSx_sumHeavies_25 ?_
        refine lv_iload_n S.1 S.2.1 dSx_sumHeavies_28 rfl (lv_at hl 1 rfl) ?_
        refine sx_iald S hw (is_2 hf) hm dSx_sumHeavies_29 (fun v7 hm => ?_)
        refine lv_goto (tgt := 34) S.1 S.2.1 dSx_sumHeavies_30 (by decide) ?_
        exact wSx_sumHeavies_34 S hr hlk N (fSx_sumHeavies_2 N ξ.2.2.1  fu) ih g2 u1 v7 u1 _ _ _ hm hw hf (lv_sub hl [0, 1] rfl)
set_option maxHeartbeats 4000000 in
set_option maxRecDepth 100000 in
theorem cSx_sumHeavies (l : Launch) (N : Nat) {Γ : sw_C} {A : Nat → Prop} {ξ : sw_x} {g : sw_g} {μ : sw_m} (hf : sw_wf ξ g.2.2) {res : sw_g} (hm : fSx_sumHeavies N ξ.2.2.1 g = some res) : Met l ySx_sumHeavies (Cond.code ySx_sumHeavies prog_1_method_62_code 2 (none) :: sw_tb) rmSx_sumHeavies (va_Pc [.ref (ξ.2.2.2.1 0)] (sw_V Γ A ξ g μ)) (sw_Qv Γ A ξ res μ (sw_wf ξ res.2.2)) 0 0 A := by
  refine Met.ofW (cc := prog_1_method_62_code) (maxL := 2) (ret := none) (by decide) rfl ?_
  intro p e s m args below meth c s₁ B hml hv
  obtain ⟨rfl, hv⟩ := hv
  have S : CallFix p m c prog_1_method_62_code 2 s _ (Cond.code ySx_sumHeavies prog_1_method_62_code 2 (none) :: sw_tb) R_Sx := ⟨B.exec, B.bytes, hml, findClass_of_methodNamed B.named, atoms_spec (ws := (Cond.code ySx_sumHeavies prog_1_method_62_code 2 (none) :: sw_tb)) B.pre⟩
  have hr := B.returns
  have hlk := B.notSynchronized
  have hw := sw_begin hv
  have hl := lv_entry [.ref (ξ.2.2.2.1 0)] (n := 2) (Nat.le_of_ble_eq_true rfl)
  rw [lg_entry_eq]
  generalize (lg_sl [.ref (ξ.2.2.2.1 0)] ++ List.replicate (2 - (lg_sl [.ref (ξ.2.2.2.1 0)]).length) Slot.unset).toArray = ls at hl ⊢
  have hl : lv_has ls 2 [(0, .ref (ξ.2.2.2.1 0))] := hl
  unfold fSx_sumHeavies at hm
  refine lv_iconst (v := (0 : Int32)) S.1 S.2.1 dSx_sumHeavies_0 (by decide) ?_
  refine lv_istore_n (lv' := [(1, .int (0 : Int32)), (0, .ref (ξ.2.2.2.1 0))]) S.1 S.2.1 dSx_sumHeavies_1 rfl hl (by decide) rfl (fun ls hl => ?_)
  exact wSx_sumHeavies_2 S hr hlk N  N g (0 : Int32) _ _ _ hm hw hf (lv_sub hl [1, 0] rfl)
set_option maxHeartbeats 4000000 in
set_option maxRecDepth 100000 in
theorem wSx_findWins_9 {l : Launch} {p : Program} {e : Env} {s : State} {m : MethodId} {args : Array Value} {below : List Frame} {meth : Method} {c : Code} {Γ : sw_C} {A : Nat → Prop} {ξ : sw_x} {μ : sw_m} {res : sw_g} (S : CallFix p m c prog_1_method_68_code 3 s args (Cond.code ySx_findWins prog_1_method_68_code 3 (none) :: sw_tb) R_Sx) (hr : meth.sig.returnType = none) (hlk : meth.locks = false) (N : Nat) : ∀ (fu : Nat) (g : sw_g) (u1 : Int32) (u2 : Int32) (H : Heap) (locs : List Loc) (ls : Array Slot), fSx_findWins_9 N ξ.2.2.1  fu g u1 u2 = some res → sw_S Γ A ξ g μ s H locs → sw_wf ξ g.2.2 → lv_has ls 3 [(0, .ref (ξ.2.2.2.1 0)), (1, .int u1), (2, .int u2)] → W p l e (headSpec (Cond.code ySx_findWins prog_1_method_68_code 3 (none) :: sw_tb) rmSx_findWins).room s m args below meth c H locs 0 0 (MQ below (sw_Qv Γ A ξ res μ (sw_wf ξ res.2.2)) args s 0 0 A) (F0 m 9 ls []) := by
  intro fu
  induction fu with
  | zero => intro g u1 u2 H locs ls hm; rw [fSx_findWins_9.eq_1] at hm; cases hm
  | succ fu ih =>
    intro g u1 u2 H locs ls hm hw hf hl
    rw [fSx_findWins_9.eq_2] at hm
    refine lv_iload_n S.1 S.2.1 dSx_findWins_9 rfl (lv_at hl 2 rfl) ?_
    refine lv_iload_n S.1 S.2.1 dSx_findWins_10 rfl (lv_at hl 1 rfl) ?_
    refine bicmp_gt (tgt := 40) S.1 S.2.1 hm dSx_findWins_11 (by decide) (fun hm => ?_) (fun hm => ?_)
    · obtain rfl := Option.some.inj hm
      exact sw_vret S hr hlk hw hf dSx_findWins_40
    · refine lv_aload_n S.1 S.2.1 dSx_findWins_14 rfl (lv_at hl 0 rfl) ?_
      refine get_Sx (v := .ref (ξ.2.2.2.1 82)) S hw (is_0 hf) 12 (by decide) rfl wf_Sx_71 dSx_findWins_15 ?_
      refine lv_iload_n S.1 S.2.1 dSx_findWins_18 rfl (lv_at hl 2 rfl) ?_
      refine lv_aload_n S.1 S.2.1 dSx_findWins_19 rfl (lv_at hl 0 rfl) ?_
      refine lv_iload_n S.1 S.2.1 dSx_findWins_20 rfl (lv_at hl 2 rfl) ?_
      obtain ⟨⟨v4, g3⟩, h2, hm⟩ := ob hm
      refine sw_Vi (q := 0) (rest := [.int u2, .ref (ξ.2.2.2.1 82)]) S hw (cSx_winningClaim l N hf u2 h2) kSx_winningClaim wm_Sx_283 (is_0 hf).1 (e_Sx (is_0 hf)) rfl rfl rfl rfl hl.1 (Nat.le_of_ble_eq_true rfl) ⟨rfl, rfl, Nat.le_of_ble_eq_true rfl, Nat.le_of_ble_eq_true rfl⟩ ⟨Nat.le_of_ble_eq_true rfl, Nat.le_of_ble_eq_true rfl⟩ dSx_findWins_21 (fun H locs hw hf => ?_)
      refine lv_iconst (v := (-1 : Int32)) S.1 S.2.1 dSx_findWins_24 (by decide) ?_
      refine bicmp_ne (tgt := 32) S.1 S.2.1 hm dSx_findWins_25 (by decide) (fun hm => ?_) (fun hm => ?_)
      · refine lv_iconst (v := (1 : Int32)) S.1 S.2.1 dSx_findWins_32 (by decide) ?_
        refine sx_iast S hw hf (is_82 hf) hm dSx_findWins_33 (fun g5 H locs hf hm hw => ?_)
        obtain ⟨x6, ex6, hm⟩ := nm_x hm
        refine lv_iinc (v := x6) (lv' := [(2, .int x6), (0, .ref (ξ.2.2.2.1 0)), (1, .int u1)]) S.1 S.2.1 dSx_findWins_34 hl (k := 2) rfl (by rw [ex6]; rfl) (by decide) rfl (fun ls hl => ?_)
        refine lv_goto (tgt := 9) S.1 S.2.1 dSx_findWins_37 (by decide) ?_
        exact ih g5 u1 x6 _ _ _ hm hw hf (lv_sub hl [1, 2, 0] rfl)
      · refine lv_iconst (v := (0 : Int32)) S.1 S.2.1 dSx_findWins_28 (by decide) ?_
        refine lv_goto (tgt := 33) S.1 S.2.1 dSx_findWins_29 (by decide) ?_
        refine sx_iast S hw hf (is_82 hf) hm dSx_findWins_33 (fun g7 H locs hf hm hw => ?_)
        obtain ⟨x8, ex8, hm⟩ := nm_x hm
        refine lv_iinc (v := x8) (lv' := [(2, .int x8), (0, .ref (ξ.2.2.2.1 0)), (1, .int u1)]) S.1 S.2.1 dSx_findWins_34 hl (k := 2) rfl (by rw [ex8]; rfl) (by decide) rfl (fun ls hl => ?_)
        refine lv_goto (tgt := 9) S.1 S.2.1 dSx_findWins_37 (by decide) ?_
        exact ih g7 u1 x8 _ _ _ hm hw hf (lv_sub hl [1, 2, 0] rfl)
set_option maxHeartbeats 4000000 in
set_option maxRecDepth 100000 in
theorem cSx_findWins (l : Launch) (N : Nat) {Γ : sw_C} {A : Nat → Prop} {ξ : sw_x} {g : sw_g} {μ : sw_m} (hf : sw_wf ξ g.2.2) (a1 : Int32) {res : sw_g} (hm : fSx_findWins N ξ.2.2.1 g a1 = some res) : Met l ySx_findWins (Cond.code ySx_findWins prog_1_method_68_code 3 (none) :: sw_tb) rmSx_findWins (va_Pc [.ref (ξ.2.2.2.1 0), .int a1] (sw_V Γ A ξ g μ)) (sw_Qv Γ A ξ res μ (sw_wf ξ res.2.2)) 0 0 A := by
  refine Met.ofW (cc := prog_1_method_68_code) (maxL := 3) (ret := none) (by decide) rfl ?_
  intro p e s m args below meth c s₁ B hml hv
  obtain ⟨rfl, hv⟩ := hv
  have S : CallFix p m c prog_1_method_68_code 3 s _ (Cond.code ySx_findWins prog_1_method_68_code 3 (none) :: sw_tb) R_Sx := ⟨B.exec, B.bytes, hml, findClass_of_methodNamed B.named, atoms_spec (ws := (Cond.code ySx_findWins prog_1_method_68_code 3 (none) :: sw_tb)) B.pre⟩
  have hr := B.returns
  have hlk := B.notSynchronized
  have hw := sw_begin hv
  have hl := lv_entry [.ref (ξ.2.2.2.1 0), .int a1] (n := 3) (Nat.le_of_ble_eq_true rfl)
  rw [lg_entry_eq]
  generalize (lg_sl [.ref (ξ.2.2.2.1 0), .int a1] ++ List.replicate (3 - (lg_sl [.ref (ξ.2.2.2.1 0), .int a1]).length) Slot.unset).toArray = ls at hl ⊢
  have hl : lv_has ls 3 [(0, .ref (ξ.2.2.2.1 0)), (1, .int a1)] := hl
  unfold fSx_findWins at hm
  refine lv_aload_n S.1 S.2.1 dSx_findWins_0 rfl (lv_at hl 0 rfl) ?_
  refine get_Sx (v := .ref (ξ.2.2.2.1 82)) S hw (is_0 hf) 12 (by decide) rfl wf_Sx_71 dSx_findWins_1 ?_
  refine lv_iconst (v := (0 : Int32)) S.1 S.2.1 dSx_findWins_4 (by decide) ?_
  refine lv_iconst (v := (0 : Int32)) S.1 S.2.1 dSx_findWins_5 (by decide) ?_
  refine sx_iast S hw hf (is_82 hf) hm dSx_findWins_6 (fun g1 H locs hf hm hw => ?_)
  refine lv_iconst (v := (1 : Int32)) S.1 S.2.1 dSx_findWins_7 (by decide) ?_
  refine lv_istore_n (lv' := [(2, .int (1 : Int32)), (0, .ref (ξ.2.2.2.1 0)), (1, .int a1)]) S.1 S.2.1 dSx_findWins_8 rfl hl (by decide) rfl (fun ls hl => ?_)
  exact wSx_findWins_9 S hr hlk N  N g1 a1 (1 : Int32) _ _ _ hm hw hf (lv_sub hl [1, 2, 0] rfl)
set_option maxHeartbeats 4000000 in
set_option maxRecDepth 100000 in
theorem wSx_bestWeighing_85 {l : Launch} {p : Program} {e : Env} {s : State} {m : MethodId} {args : Array Value} {below : List Frame} {meth : Method} {c : Code} {Γ : sw_C} {A : Nat → Prop} {ξ : sw_x} {μ : sw_m} {res : Int32 × sw_g} (S : CallFix p m c prog_1_method_71_code 12 s args (Cond.code ySx_bestWeighing prog_1_method_71_code 12 (some .int) :: sw_tb) R_Sx) (hr : meth.sig.returnType = some .int) (hlk : meth.locks = false) (N : Nat) (k75 : sw_g → Int32 → Int32 → Int32 → Int32 → Int32 → Int32 → Option (Int32 × sw_g)) (hk75 : ∀ (g : sw_g) (u2 : Int32) (u3 : Int32) (u4 : Int32) (u5 : Int32) (u6 : Int32) (u7 : Int32) (H : Heap) (locs : List Loc) (ls : Array Slot), k75 g u2 u3 u4 u5 u6 u7 = some res → sw_S Γ A ξ g μ s H locs → sw_wf ξ g.2.2 → lv_has ls 12 [(0, .ref (ξ.2.2.2.1 0)), (2, .int u2), (3, .int u3), (4, .int u4), (5, .int u5), (6, .int u6), (7, .int u7)] → W p l e (headSpec (Cond.code ySx_bestWeighing prog_1_method_71_code 12 (some .int) :: sw_tb) rmSx_bestWeighing).room s m args below meth c H locs 0 0 (MQ below (sw_Qi Γ A ξ res.2 μ res.1 (sw_wf ξ res.2.2.2)) args s 0 0 A) (F0 m 75 ls [])) : ∀ (fu : Nat) (g : sw_g) (u2 : Int32) (u3 : Int32) (u4 : Int32) (u5 : Int32) (u6 : Int32) (u7 : Int32) (u8 : Int32) (H : Heap) (locs : List Loc) (ls : Array Slot), fSx_bestWeighing_85 N ξ.2.2.1 k75 fu g u2 u3 u4 u5 u6 u7 u8 = some res → sw_S Γ A ξ g μ s H locs → sw_wf ξ g.2.2 → lv_has ls 12 [(0, .ref (ξ.2.2.2.1 0)), (2, .int u2), (3, .int u3), (4, .int u4), (5, .int u5), (6, .int u6), (7, .int u7), (8, .int u8)] → W p l e (headSpec (Cond.code ySx_bestWeighing prog_1_method_71_code 12 (some .int) :: sw_tb) rmSx_bestWeighing).room s m args below meth c H locs 0 0 (MQ below (sw_Qi Γ A ξ res.2 μ res.1 (sw_wf ξ res.2.2.2)) args s 0 0 A) (F0 m 85 ls []) := by
  intro fu
  induction fu with
  | zero => intro g u2 u3 u4 u5 u6 u7 u8 H locs ls hm; rw [fSx_bestWeighing_85.eq_1] at hm; cases hm
  | succ fu ih =>
    intro g u2 u3 u4 u5 u6 u7 u8 H locs ls hm hw hf hl
    rw [fSx_bestWeighing_85.eq_2] at hm
    refine lv_iload S.1 S.2.1 dSx_bestWeighing_85 (lv_at hl 7 rfl) ?_
    refine lv_iload S.1 S.2.1 dSx_bestWeighing_87 (lv_at hl 4 rfl) ?_
    refine bicmp_ge (tgt := 195) S.1 S.2.1 hm dSx_bestWeighing_89 (by decide) (fun hm => ?_) (fun hm => ?_)
    · obtain ⟨x4, ex4, hm⟩ := nm_x hm
      refine lv_iinc (v := x4) (lv' := [(7, .int x4), (0, .ref (ξ.2.2.2.1 0)), (2, .int u2), (3, .int u3), (4, .int u4), (5, .int u5), (6, .int u6), (8, .int u8)]) S.1 S.2.1 dSx_bestWeighing_195 hl (k := 6) rfl (by rw [ex4]; rfl) (by decide) rfl (fun ls hl => ?_)
      refine lv_goto (tgt := 75) S.1 S.2.1 dSx_bestWeighing_198 (by decide) ?_
      exact hk75 g u2 u3 u4 u5 u6 x4 _ _ _ hm hw hf (lv_sub hl [1, 2, 3, 4, 5, 6, 0] rfl)
    · refine lv_iload S.1 S.2.1 dSx_bestWeighing_92 (lv_at hl 6 rfl) ?_
      refine lv_iload S.1 S.2.1 dSx_bestWeighing_94 (lv_at hl 7 rfl) ?_
      refine lv_iand S.1 S.2.1 dSx_bestWeighing_96 ?_
      refine bif_ne (tgt := 189) S.1 S.2.1 hm dSx_bestWeighing_97 (by decide) (fun hm => ?_) (fun hm => ?_)
      · obtain ⟨x5, ex5, hm⟩ := nm_x hm
        refine lv_iinc (v := x5) (lv' := [(8, .int x5), (0, .ref (ξ.2.2.2.1 0)), (2, .int u2), (3, .int u3), (4, .int u4), (5, .int u5), (6, .int u6), (7, .int u7)]) S.1 S.2.1 dSx_bestWeighing_189 hl (k := 7) rfl (by rw [ex5]; rfl) (by decide) rfl (fun ls hl => ?_)
        refine lv_goto (tgt := 85) S.1 S.2.1 dSx_bestWeighing_192 (by decide) ?_
        exact ih g u2 u3 u4 u5 u6 u7 x5 _ _ _ hm hw hf (lv_sub hl [1, 2, 3, 4, 5, 6, 7, 0] rfl)
      · refine lv_iload_n S.1 S.2.1 dSx_bestWeighing_100 rfl (lv_at hl 1 rfl) ?_
        refine lv_iload S.1 S.2.1 dSx_bestWeighing_101 (lv_at hl 6 rfl) ?_
        refine lv_iand S.1 S.2.1 dSx_bestWeighing_103 ?_
        obtain ⟨v7, h6, hm⟩ := ob hm
        refine sw_Si (rest := []) S hw (cIn_bitCount l  hf (u2 &&& u7) h6) kIn_bitCount wm_Sx_272 rfl rfl hl.1 (Nat.le_of_ble_eq_true rfl) ⟨rfl, rfl, Nat.le_of_ble_eq_true rfl, Nat.le_of_ble_eq_true rfl⟩ ⟨Nat.le_of_ble_eq_true rfl, Nat.le_of_ble_eq_true rfl⟩ dSx_bestWeighing_104 (fun H locs hw _ => ?_)
        refine lv_iload_n S.1 S.2.1 dSx_bestWeighing_107 rfl (lv_at hl 2 rfl) ?_
        refine lv_iload S.1 S.2.1 dSx_bestWeighing_108 (lv_at hl 7 rfl) ?_
        refine lv_iand S.1 S.2.1 dSx_bestWeighing_110 ?_
        obtain ⟨v9, h8, hm⟩ := ob hm
        refine sw_Si (rest := [.int v7]) S hw (cIn_bitCount l  hf (u3 &&& u8) h8) kIn_bitCount wm_Sx_272 rfl rfl hl.1 (Nat.le_of_ble_eq_true rfl) ⟨rfl, rfl, Nat.le_of_ble_eq_true rfl, Nat.le_of_ble_eq_true rfl⟩ ⟨Nat.le_of_ble_eq_true rfl, Nat.le_of_ble_eq_true rfl⟩ dSx_bestWeighing_111 (fun H locs hw _ => ?_)
        refine lv_iadd S.1 S.2.1 dSx_bestWeighing_114 ?_
        refine nm_i hm (fun x10 hm => ?_)
        refine lv_istore (lv' := [(9, .int x10), (0, .ref (ξ.2.2.2.1 0)), (2, .int u2), (3, .int u3), (4, .int u4), (5, .int u5), (6, .int u6), (7, .int u7), (8, .int u8)]) S.1 S.2.1 dSx_bestWeighing_115 hl (by decide) rfl (fun ls hl => ?_)
        refine lv_iload_n S.1 S.2.1 dSx_bestWeighing_117 rfl (lv_at hl 3 rfl) ?_
        refine lv_iload S.1 S.2.1 dSx_bestWeighing_118 (lv_at hl 7 rfl) ?_
        refine lv_iand S.1 S.2.1 dSx_bestWeighing_120 ?_
        obtain ⟨v12, h11, hm⟩ := ob hm
        refine sw_Si (rest := []) S hw (cIn_bitCount l  hf (u3 &&& u7) h11) kIn_bitCount wm_Sx_272 rfl rfl hl.1 (Nat.le_of_ble_eq_true rfl) ⟨rfl, rfl, Nat.le_of_ble_eq_true rfl, Nat.le_of_ble_eq_true rfl⟩ ⟨Nat.le_of_ble_eq_true rfl, Nat.le_of_ble_eq_true rfl⟩ dSx_bestWeighing_121 (fun H locs hw _ => ?_)
        refine lv_iload_n S.1 S.2.1 dSx_bestWeighing_124 rfl (lv_at hl 2 rfl) ?_
        refine lv_iload S.1 S.2.1 dSx_bestWeighing_125 (lv_at hl 8 rfl) ?_
        refine lv_iand S.1 S.2.1 dSx_bestWeighing_127 ?_
        obtain ⟨v14, h13, hm⟩ := ob hm
        refine sw_Si (rest := [.int v12]) S hw (cIn_bitCount l  hf (u2 &&& u8) h13) kIn_bitCount wm_Sx_272 rfl rfl hl.1 (Nat.le_of_ble_eq_true rfl) ⟨rfl, rfl, Nat.le_of_ble_eq_true rfl, Nat.le_of_ble_eq_true rfl⟩ ⟨Nat.le_of_ble_eq_true rfl, Nat.le_of_ble_eq_true rfl⟩ dSx_bestWeighing_128 (fun H locs hw _ => ?_)
        refine lv_iadd S.1 S.2.1 dSx_bestWeighing_131 ?_
        refine nm_i hm (fun x15 hm => ?_)
        refine lv_istore (lv' := [(10, .int x15), (9, .int x10), (0, .ref (ξ.2.2.2.1 0)), (2, .int u2), (3, .int u3), (4, .int u4), (5, .int u5), (6, .int u6), (7, .int u7), (8, .int u8)]) S.1 S.2.1 dSx_bestWeighing_132 hl (by decide) rfl (fun ls hl => ?_)
        refine lv_aload_n S.1 S.2.1 dSx_bestWeighing_134 rfl (lv_at hl 2 rfl) ?_
        refine get_Sx (v := .ref (ξ.2.2.2.1 81)) S hw (is_0 hf) 11 (by decide) rfl wf_Sx_68 dSx_bestWeighing_135 ?_
        refine lv_iload S.1 S.2.1 dSx_bestWeighing_138 (lv_at hl 8 rfl) ?_
        refine sx_iald S hw (is_81 hf) hm dSx_bestWeighing_140 (fun v16 hm => ?_)
        refine lv_aload_n S.1 S.2.1 dSx_bestWeighing_141 rfl (lv_at hl 2 rfl) ?_
        refine get_Sx (v := .ref (ξ.2.2.2.1 81)) S hw (is_0 hf) 11 (by decide) rfl wf_Sx_68 dSx_bestWeighing_142 ?_
        refine lv_iload S.1 S.2.1 dSx_bestWeighing_145 (lv_at hl 9 rfl) ?_
        refine sx_iald S hw (is_81 hf) hm dSx_bestWeighing_147 (fun v17 hm => ?_)
        refine lv_isub S.1 S.2.1 dSx_bestWeighing_148 ?_
        refine lv_iload S.1 S.2.1 dSx_bestWeighing_149 (lv_at hl 1 rfl) ?_
        refine lv_iload S.1 S.2.1 dSx_bestWeighing_151 (lv_at hl 0 rfl) ?_
        refine lv_iload S.1 S.2.1 dSx_bestWeighing_153 (lv_at hl 5 rfl) ?_
        refine lv_iload S.1 S.2.1 dSx_bestWeighing_155 (lv_at hl 1 rfl) ?_
        refine lv_isub S.1 S.2.1 dSx_bestWeighing_157 ?_
        refine lv_iload S.1 S.2.1 dSx_bestWeighing_158 (lv_at hl 0 rfl) ?_
        refine lv_isub S.1 S.2.1 dSx_bestWeighing_160 ?_
        obtain ⟨v19, h18, hm⟩ := ob hm
        refine sw_Si (rest := []) S hw (cSx_mostAlike l  hf (v16 - v17) x10 x15 ((u4 - x10) - x15) h18) kSx_mostAlike wm_Sx_391 rfl rfl hl.1 (Nat.le_of_ble_eq_true rfl) ⟨rfl, rfl, Nat.le_of_ble_eq_true rfl, Nat.le_of_ble_eq_true rfl⟩ ⟨Nat.le_of_ble_eq_true rfl, Nat.le_of_ble_eq_true rfl⟩ dSx_bestWeighing_161 (fun H locs hw _ => ?_)
        refine lv_istore (lv' := [(11, .int v19), (10, .int x15), (9, .int x10), (0, .ref (ξ.2.2.2.1 0)), (2, .int u2), (3, .int u3), (4, .int u4), (5, .int u5), (6, .int u6), (7, .int u7), (8, .int u8)]) S.1 S.2.1 dSx_bestWeighing_164 hl (by decide) rfl (fun ls hl => ?_)
        refine lv_iload S.1 S.2.1 dSx_bestWeighing_166 (lv_at hl 8 rfl) ?_
        refine lv_iload S.1 S.2.1 dSx_bestWeighing_168 (lv_at hl 0 rfl) ?_
        refine lv_sipush (v := (128 : Int32)) S.1 S.2.1 dSx_bestWeighing_170 (by decide) ?_
        refine lv_imul S.1 S.2.1 dSx_bestWeighing_173 ?_
        refine lv_iload S.1 S.2.1 dSx_bestWeighing_174 (lv_at hl 9 rfl) ?_
        refine lv_iadd S.1 S.2.1 dSx_bestWeighing_176 ?_
        refine lv_sipush (v := (128 : Int32)) S.1 S.2.1 dSx_bestWeighing_177 (by decide) ?_
        refine lv_imul S.1 S.2.1 dSx_bestWeighing_180 ?_
        refine lv_iload S.1 S.2.1 dSx_bestWeighing_181 (lv_at hl 10 rfl) ?_
        refine lv_iadd S.1 S.2.1 dSx_bestWeighing_183 ?_
        refine sw_min (rest := []) S hl.1 wm_Sx_395 (Nat.le_of_ble_eq_true rfl) (Nat.le_of_ble_eq_true rfl) (Nat.le_of_ble_eq_true rfl) (Nat.le_of_ble_eq_true rfl) dSx_bestWeighing_184 ?_
        refine nm_i hm (fun x20 hm => ?_)
        refine lv_istore (lv' := [(6, .int x20), (11, .int v19), (10, .int x15), (9, .int x10), (0, .ref (ξ.2.2.2.1 0)), (2, .int u2), (3, .int u3), (4, .int u4), (5, .int u5), (7, .int u7), (8, .int u8)]) S.1 S.2.1 dSx_bestWeighing_187 hl (by decide) rfl (fun ls hl => ?_)
        obtain ⟨x21, ex21, hm⟩ := nm_x hm
        refine lv_iinc (v := x21) (lv' := [(8, .int x21), (6, .int x20), (11, .int v19), (10, .int x15), (9, .int x10), (0, .ref (ξ.2.2.2.1 0)), (2, .int u2), (3, .int u3), (4, .int u4), (5, .int u5), (7, .int u7)]) S.1 S.2.1 dSx_bestWeighing_189 hl (k := 10) rfl (by rw [ex21]; rfl) (by decide) rfl (fun ls hl => ?_)
        refine lv_goto (tgt := 85) S.1 S.2.1 dSx_bestWeighing_192 (by decide) ?_
        exact ih g u2 u3 u4 u5 x20 u7 x21 _ _ _ hm hw hf (lv_sub hl [5, 6, 7, 8, 9, 1, 10, 0] rfl)
set_option maxHeartbeats 4000000 in
set_option maxRecDepth 100000 in
theorem wSx_bestWeighing_75 {l : Launch} {p : Program} {e : Env} {s : State} {m : MethodId} {args : Array Value} {below : List Frame} {meth : Method} {c : Code} {Γ : sw_C} {A : Nat → Prop} {ξ : sw_x} {μ : sw_m} {res : Int32 × sw_g} (S : CallFix p m c prog_1_method_71_code 12 s args (Cond.code ySx_bestWeighing prog_1_method_71_code 12 (some .int) :: sw_tb) R_Sx) (hr : meth.sig.returnType = some .int) (hlk : meth.locks = false) (N : Nat) : ∀ (fu : Nat) (g : sw_g) (u2 : Int32) (u3 : Int32) (u4 : Int32) (u5 : Int32) (u6 : Int32) (u7 : Int32) (H : Heap) (locs : List Loc) (ls : Array Slot), fSx_bestWeighing_75 N ξ.2.2.1  fu g u2 u3 u4 u5 u6 u7 = some res → sw_S Γ A ξ g μ s H locs → sw_wf ξ g.2.2 → lv_has ls 12 [(0, .ref (ξ.2.2.2.1 0)), (2, .int u2), (3, .int u3), (4, .int u4), (5, .int u5), (6, .int u6), (7, .int u7)] → W p l e (headSpec (Cond.code ySx_bestWeighing prog_1_method_71_code 12 (some .int) :: sw_tb) rmSx_bestWeighing).room s m args below meth c H locs 0 0 (MQ below (sw_Qi Γ A ξ res.2 μ res.1 (sw_wf ξ res.2.2.2)) args s 0 0 A) (F0 m 75 ls []) := by
  intro fu
  induction fu with
  | zero => intro g u2 u3 u4 u5 u6 u7 H locs ls hm; rw [fSx_bestWeighing_75.eq_1] at hm; cases hm
  | succ fu ih =>
    intro g u2 u3 u4 u5 u6 u7 H locs ls hm hw hf hl
    rw [fSx_bestWeighing_75.eq_2] at hm
    refine lv_iload S.1 S.2.1 dSx_bestWeighing_75 (lv_at hl 6 rfl) ?_
    refine lv_iload S.1 S.2.1 dSx_bestWeighing_77 (lv_at hl 4 rfl) ?_
    refine bicmp_ge (tgt := 201) S.1 S.2.1 hm dSx_bestWeighing_79 (by decide) (fun hm => ?_) (fun hm => ?_)
    · refine lv_iload S.1 S.2.1 dSx_bestWeighing_201 (lv_at hl 5 rfl) ?_
      obtain rfl := Option.some.inj hm
      exact sw_iret S hr hlk hw hf dSx_bestWeighing_203
    · refine lv_iconst (v := (0 : Int32)) S.1 S.2.1 dSx_bestWeighing_82 (by decide) ?_
      refine lv_istore (lv' := [(8, .int (0 : Int32)), (0, .ref (ξ.2.2.2.1 0)), (2, .int u2), (3, .int u3), (4, .int u4), (5, .int u5), (6, .int u6), (7, .int u7)]) S.1 S.2.1 dSx_bestWeighing_83 hl (by decide) rfl (fun ls hl => ?_)
      exact wSx_bestWeighing_85 S hr hlk N (fSx_bestWeighing_75 N ξ.2.2.1  fu) ih N g u2 u3 u4 u5 u6 u7 (0 : Int32) _ _ _ hm hw hf (lv_sub hl [1, 2, 3, 4, 5, 6, 7, 0] rfl)
set_option maxHeartbeats 4000000 in
set_option maxRecDepth 100000 in
theorem wSx_bestWeighing_7 {l : Launch} {p : Program} {e : Env} {s : State} {m : MethodId} {args : Array Value} {below : List Frame} {meth : Method} {c : Code} {Γ : sw_C} {A : Nat → Prop} {ξ : sw_x} {μ : sw_m} {res : Int32 × sw_g} (S : CallFix p m c prog_1_method_71_code 12 s args (Cond.code ySx_bestWeighing prog_1_method_71_code 12 (some .int) :: sw_tb) R_Sx) (hr : meth.sig.returnType = some .int) (hlk : meth.locks = false) (N : Nat) : ∀ (fu : Nat) (g : sw_g) (u1 : Int32) (u2 : Int32) (u3 : Int32) (u4 : Int32) (H : Heap) (locs : List Loc) (ls : Array Slot), fSx_bestWeighing_7 N ξ.2.2.1  fu g u1 u2 u3 u4 = some res → sw_S Γ A ξ g μ s H locs → sw_wf ξ g.2.2 → lv_has ls 12 [(0, .ref (ξ.2.2.2.1 0)), (1, .int u1), (2, .int u2), (3, .int u3), (4, .int u4)] → W p l e (headSpec (Cond.code ySx_bestWeighing prog_1_method_71_code 12 (some .int) :: sw_tb) rmSx_bestWeighing).room s m args below meth c H locs 0 0 (MQ below (sw_Qi Γ A ξ res.2 μ res.1 (sw_wf ξ res.2.2.2)) args s 0 0 A) (F0 m 7 ls []) := by
  intro fu
  induction fu with
  | zero => intro g u1 u2 u3 u4 H locs ls hm; rw [fSx_bestWeighing_7.eq_1] at hm; cases hm
  | succ fu ih =>
    intro g u1 u2 u3 u4 H locs ls hm hw hf hl
    rw [fSx_bestWeighing_7.eq_2] at hm
    refine lv_iload S.1 S.2.1 dSx_bestWeighing_7 (lv_at hl 4 rfl) ?_
    refine lv_bipush (v := (7 : Int32)) S.1 S.2.1 dSx_bestWeighing_9 (by decide) ?_
    refine bicmp_ge (tgt := 50) S.1 S.2.1 hm dSx_bestWeighing_11 (by decide) (fun hm => ?_) (fun hm => ?_)
    · refine lv_iload_n S.1 S.2.1 dSx_bestWeighing_50 rfl (lv_at hl 1 rfl) ?_
      obtain ⟨v2, h1, hm⟩ := ob hm
      refine sw_Si (rest := []) S hw (cIn_bitCount l  hf u1 h1) kIn_bitCount wm_Sx_272 rfl rfl hl.1 (Nat.le_of_ble_eq_true rfl) ⟨rfl, rfl, Nat.le_of_ble_eq_true rfl, Nat.le_of_ble_eq_true rfl⟩ ⟨Nat.le_of_ble_eq_true rfl, Nat.le_of_ble_eq_true rfl⟩ dSx_bestWeighing_51 (fun H locs hw _ => ?_)
      refine lv_istore (lv' := [(4, .int v2), (0, .ref (ξ.2.2.2.1 0)), (1, .int u1), (2, .int u2), (3, .int u3)]) S.1 S.2.1 dSx_bestWeighing_54 hl (by decide) rfl (fun ls hl => ?_)
      refine lv_iconst (v := (1 : Int32)) S.1 S.2.1 dSx_bestWeighing_56 (by decide) ?_
      refine lv_aload_n S.1 S.2.1 dSx_bestWeighing_57 rfl (lv_at hl 1 rfl) ?_
      refine get_Sx (v := .ref (ξ.2.2.2.1 1)) S hw (is_0 hf) 0 (by decide) rfl wf_Sx_12 dSx_bestWeighing_58 ?_
      refine get_Pl (v := .int (g.1 1 0)) S hw (is_1 hf) 0 (by decide) rfl wf_Sx_89 dSx_bestWeighing_61 ?_
      refine lv_ishl S.1 S.2.1 dSx_bestWeighing_64 ?_
      refine nm_i hm (fun x3 hm => ?_)
      refine lv_istore (lv' := [(5, .int x3), (4, .int v2), (0, .ref (ξ.2.2.2.1 0)), (1, .int u1), (2, .int u2), (3, .int u3)]) S.1 S.2.1 dSx_bestWeighing_65 hl (by decide) rfl (fun ls hl => ?_)
      refine lv_ldcw S.1 S.2.1 S.2.2.2.1 (sw_word S wc_Sx_390) dSx_bestWeighing_67 ?_
      refine lv_istore (lv' := [(6, .int (2097152 : Int32)), (5, .int x3), (4, .int v2), (0, .ref (ξ.2.2.2.1 0)), (1, .int u1), (2, .int u2), (3, .int u3)]) S.1 S.2.1 dSx_bestWeighing_70 hl (by decide) rfl (fun ls hl => ?_)
      refine lv_iconst (v := (0 : Int32)) S.1 S.2.1 dSx_bestWeighing_72 (by decide) ?_
      refine lv_istore (lv' := [(7, .int (0 : Int32)), (6, .int (2097152 : Int32)), (5, .int x3), (4, .int v2), (0, .ref (ξ.2.2.2.1 0)), (1, .int u1), (2, .int u2), (3, .int u3)]) S.1 S.2.1 dSx_bestWeighing_73 hl (by decide) rfl (fun ls hl => ?_)
      exact wSx_bestWeighing_75 S hr hlk N  N g u2 u3 v2 x3 (2097152 : Int32) (0 : Int32) _ _ _ hm hw hf (lv_sub hl [4, 6, 7, 3, 2, 1, 0] rfl)
    · refine lv_iload_n S.1 S.2.1 dSx_bestWeighing_14 rfl (lv_at hl 2 rfl) ?_
      refine lv_iload_n S.1 S.2.1 dSx_bestWeighing_15 rfl (lv_at hl 1 rfl) ?_
      refine lv_iconst (v := (2 : Int32)) S.1 S.2.1 dSx_bestWeighing_16 (by decide) ?_
      refine lv_iload S.1 S.2.1 dSx_bestWeighing_17 (lv_at hl 4 rfl) ?_
      refine lv_imul S.1 S.2.1 dSx_bestWeighing_19 ?_
      refine lv_ishr S.1 S.2.1 dSx_bestWeighing_20 ?_
      refine lv_iconst (v := (1 : Int32)) S.1 S.2.1 dSx_bestWeighing_21 (by decide) ?_
      refine lv_iand S.1 S.2.1 dSx_bestWeighing_22 ?_
      refine lv_iload S.1 S.2.1 dSx_bestWeighing_23 (lv_at hl 4 rfl) ?_
      refine lv_ishl S.1 S.2.1 dSx_bestWeighing_25 ?_
      refine lv_ior S.1 S.2.1 dSx_bestWeighing_26 ?_
      refine nm_i hm (fun x22 hm => ?_)
      refine lv_istore_n (lv' := [(2, .int x22), (0, .ref (ξ.2.2.2.1 0)), (1, .int u1), (3, .int u3), (4, .int u4)]) S.1 S.2.1 dSx_bestWeighing_27 rfl hl (by decide) rfl (fun ls hl => ?_)
      refine lv_iload_n S.1 S.2.1 dSx_bestWeighing_28 rfl (lv_at hl 3 rfl) ?_
      refine lv_iload_n S.1 S.2.1 dSx_bestWeighing_29 rfl (lv_at hl 2 rfl) ?_
      refine lv_iconst (v := (2 : Int32)) S.1 S.2.1 dSx_bestWeighing_30 (by decide) ?_
      refine lv_iload S.1 S.2.1 dSx_bestWeighing_31 (lv_at hl 4 rfl) ?_
      refine lv_imul S.1 S.2.1 dSx_bestWeighing_33 ?_
      refine lv_iconst (v := (1 : Int32)) S.1 S.2.1 dSx_bestWeighing_34 (by decide) ?_
      refine lv_iadd S.1 S.2.1 dSx_bestWeighing_35 ?_
      refine lv_ishr S.1 S.2.1 dSx_bestWeighing_36 ?_
      refine lv_iconst (v := (1 : Int32)) S.1 S.2.1 dSx_bestWeighing_37 (by decide) ?_
      refine lv_iand S.1 S.2.1 dSx_bestWeighing_38 ?_
      refine lv_iload S.1 S.2.1 dSx_bestWeighing_39 (lv_at hl 4 rfl) ?_
      refine lv_ishl S.1 S.2.1 dSx_bestWeighing_41 ?_
      refine lv_ior S.1 S.2.1 dSx_bestWeighing_42 ?_
      refine nm_i hm (fun x23 hm => ?_)
      refine lv_istore_n (lv' := [(3, .int x23), (2, .int x22), (0, .ref (ξ.2.2.2.1 0)), (1, .int u1), (4, .int u4)]) S.1 S.2.1 dSx_bestWeighing_43 rfl hl (by decide) rfl (fun ls hl => ?_)
      obtain ⟨x24, ex24, hm⟩ := nm_x hm
      refine lv_iinc (v := x24) (lv' := [(4, .int x24), (3, .int x23), (2, .int x22), (0, .ref (ξ.2.2.2.1 0)), (1, .int u1)]) S.1 S.2.1 dSx_bestWeighing_44 hl (k := 4) rfl (by rw [ex24]; rfl) (by decide) rfl (fun ls hl => ?_)
      refine lv_goto (tgt := 7) S.1 S.2.1 dSx_bestWeighing_47 (by decide) ?_
      exact ih g u1 x22 x23 x24 _ _ _ hm hw hf (lv_sub hl [3, 4, 2, 1, 0] rfl)
set_option maxHeartbeats 4000000 in
set_option maxRecDepth 100000 in
theorem cSx_bestWeighing (l : Launch) (N : Nat) {Γ : sw_C} {A : Nat → Prop} {ξ : sw_x} {g : sw_g} {μ : sw_m} (hf : sw_wf ξ g.2.2) (a1 : Int32) {res : Int32 × sw_g} (hm : fSx_bestWeighing N ξ.2.2.1 g a1 = some res) : Met l ySx_bestWeighing (Cond.code ySx_bestWeighing prog_1_method_71_code 12 (some .int) :: sw_tb) rmSx_bestWeighing (va_Pc [.ref (ξ.2.2.2.1 0), .int a1] (sw_V Γ A ξ g μ)) (sw_Qi Γ A ξ res.2 μ res.1 (sw_wf ξ res.2.2.2)) 0 0 A := by
  refine Met.ofW (cc := prog_1_method_71_code) (maxL := 12) (ret := some .int) (by decide) rfl ?_
  intro p e s m args below meth c s₁ B hml hv
  obtain ⟨rfl, hv⟩ := hv
  have S : CallFix p m c prog_1_method_71_code 12 s _ (Cond.code ySx_bestWeighing prog_1_method_71_code 12 (some .int) :: sw_tb) R_Sx := ⟨B.exec, B.bytes, hml, findClass_of_methodNamed B.named, atoms_spec (ws := (Cond.code ySx_bestWeighing prog_1_method_71_code 12 (some .int) :: sw_tb)) B.pre⟩
  have hr := B.returns
  have hlk := B.notSynchronized
  have hw := sw_begin hv
  have hl := lv_entry [.ref (ξ.2.2.2.1 0), .int a1] (n := 12) (Nat.le_of_ble_eq_true rfl)
  rw [lg_entry_eq]
  generalize (lg_sl [.ref (ξ.2.2.2.1 0), .int a1] ++ List.replicate (12 - (lg_sl [.ref (ξ.2.2.2.1 0), .int a1]).length) Slot.unset).toArray = ls at hl ⊢
  have hl : lv_has ls 12 [(0, .ref (ξ.2.2.2.1 0)), (1, .int a1)] := hl
  unfold fSx_bestWeighing at hm
  refine lv_iconst (v := (0 : Int32)) S.1 S.2.1 dSx_bestWeighing_0 (by decide) ?_
  refine lv_istore_n (lv' := [(2, .int (0 : Int32)), (0, .ref (ξ.2.2.2.1 0)), (1, .int a1)]) S.1 S.2.1 dSx_bestWeighing_1 rfl hl (by decide) rfl (fun ls hl => ?_)
  refine lv_iconst (v := (0 : Int32)) S.1 S.2.1 dSx_bestWeighing_2 (by decide) ?_
  refine lv_istore_n (lv' := [(3, .int (0 : Int32)), (2, .int (0 : Int32)), (0, .ref (ξ.2.2.2.1 0)), (1, .int a1)]) S.1 S.2.1 dSx_bestWeighing_3 rfl hl (by decide) rfl (fun ls hl => ?_)
  refine lv_iconst (v := (0 : Int32)) S.1 S.2.1 dSx_bestWeighing_4 (by decide) ?_
  refine lv_istore (lv' := [(4, .int (0 : Int32)), (3, .int (0 : Int32)), (2, .int (0 : Int32)), (0, .ref (ξ.2.2.2.1 0)), (1, .int a1)]) S.1 S.2.1 dSx_bestWeighing_5 hl (by decide) rfl (fun ls hl => ?_)
  exact wSx_bestWeighing_7 S hr hlk N  N g a1 (0 : Int32) (0 : Int32) (0 : Int32) _ _ _ hm hw hf (lv_sub hl [3, 4, 2, 1, 0] rfl)
set_option maxHeartbeats 4000000 in
set_option maxRecDepth 100000 in
theorem wJu_barsAt_27 {l : Launch} {p : Program} {e : Env} {s : State} {m : MethodId} {args : Array Value} {below : List Frame} {meth : Method} {c : Code} {Γ : sw_C} {A : Nat → Prop} {ξ : sw_x} {μ : sw_m} {res : Int32 × sw_g} (S : CallFix p m c prog_3_method_4_code 6 s args (Cond.code yJu_barsAt prog_3_method_4_code 6 (some .boolean) :: sw_tb) R_Ju) (hr : meth.sig.returnType = some .boolean) (hlk : meth.locks = false) (q1 : Nat) (hq1 : sw_ik ξ q1 3) (N : Nat) : ∀ (fu : Nat) (g : sw_g) (u4 : Nat) (u5 : Int32) (H : Heap) (locs : List Loc) (ls : Array Slot), fJu_barsAt_27 N ξ.2.2.1 q1  fu g u4 u5 = some res → sw_S Γ A ξ g μ s H locs → sw_wf ξ g.2.2 → sw_ik ξ u4 7 → lv_has ls 6 [(0, .ref (ξ.2.2.2.1 42)), (4, .ref (ξ.2.2.2.1 u4)), (5, .int u5)] → W p l e (headSpec (Cond.code yJu_barsAt prog_3_method_4_code 6 (some .boolean) :: sw_tb) rmJu_barsAt).room s m args below meth c H locs 0 0 (MQ below (sw_Qi Γ A ξ res.2 μ res.1 (sw_wf ξ res.2.2.2)) args s 0 0 A) (F0 m 27 ls []) := by
  intro fu
  induction fu with
  | zero => intro g u4 u5 H locs ls hm; rw [fJu_barsAt_27.eq_1] at hm; cases hm
  | succ fu ih =>
    intro g u4 u5 H locs ls hm hw hf hu4 hl
    rw [fJu_barsAt_27.eq_2] at hm
    refine lv_iload S.1 S.2.1 dJu_barsAt_27 (lv_at hl 2 rfl) ?_
    refine lv_aload S.1 S.2.1 dJu_barsAt_29 (lv_at hl 1 rfl) ?_
    refine get_Te (v := .int (g.1 u4 0)) S hw hu4 0 (by decide) rfl wf_Ju_43 dJu_barsAt_31 ?_
    refine bicmp_ge (tgt := 75) S.1 S.2.1 hm dJu_barsAt_34 (by decide) (fun hm => ?_) (fun hm => ?_)
    · refine lv_iconst (v := (0 : Int32)) S.1 S.2.1 dJu_barsAt_75 (by decide) ?_
      obtain rfl := Option.some.inj hm
      exact sw_zret S hr hlk (Or.inl rfl) hw hf dJu_barsAt_76
    · refine lv_iload S.1 S.2.1 dJu_barsAt_37 (lv_at hl 2 rfl) ?_
      refine lv_bipush (v := (12 : Int32)) S.1 S.2.1 dJu_barsAt_39 (by decide) ?_
      refine bicmp_ge (tgt := 75) S.1 S.2.1 hm dJu_barsAt_41 (by decide) (fun hm => ?_) (fun hm => ?_)
      · refine lv_iconst (v := (0 : Int32)) S.1 S.2.1 dJu_barsAt_75 (by decide) ?_
        obtain rfl := Option.some.inj hm
        exact sw_zret S hr hlk (Or.inl rfl) hw hf dJu_barsAt_76
      · refine lv_aload S.1 S.2.1 dJu_barsAt_44 (lv_at hl 1 rfl) ?_
        refine get_Te (v := .ref (ξ.2.2.2.1 (u4 + 1))) S hw hu4 1 (by decide) rfl wf_Ju_48 dJu_barsAt_46 ?_
        refine lv_iload S.1 S.2.1 dJu_barsAt_49 (lv_at hl 2 rfl) ?_
        refine sx_iald S hw (is_Te_verb hf hu4) hm dJu_barsAt_51 (fun v7 hm => ?_)
        refine lv_iconst (v := (2 : Int32)) S.1 S.2.1 dJu_barsAt_52 (by decide) ?_
        refine bicmp_ne (tgt := 69) S.1 S.2.1 hm dJu_barsAt_53 (by decide) (fun hm => ?_) (fun hm => ?_)
        · obtain ⟨x8, ex8, hm⟩ := nm_x hm
          refine lv_iinc (v := x8) (lv' := [(5, .int x8), (0, .ref (ξ.2.2.2.1 42)), (4, .ref (ξ.2.2.2.1 u4))]) S.1 S.2.1 dJu_barsAt_69 hl (k := 2) rfl (by rw [ex8]; rfl) (by decide) rfl (fun ls hl => ?_)
          refine lv_goto (tgt := 27) S.1 S.2.1 dJu_barsAt_72 (by decide) ?_
          exact ih g u4 x8 _ _ _ hm hw hf hu4 (lv_sub hl [1, 2, 0] rfl)
        · refine lv_aload_n S.1 S.2.1 dJu_barsAt_56 rfl (lv_at hl 0 rfl) ?_
          refine lv_aload S.1 S.2.1 dJu_barsAt_57 (lv_at hl 1 rfl) ?_
          refine lv_iload S.1 S.2.1 dJu_barsAt_59 (lv_at hl 2 rfl) ?_
          obtain ⟨⟨v11, g10⟩, h9, hm⟩ := ob hm
          refine sw_Vi (q := 42) (rest := []) S hw (cJu_holds l N hf u4 hu4 u5 h9) kJu_holds wm_Ju_51 (is_42 hf).1 (e_Ju (is_42 hf)) rfl rfl rfl rfl hl.1 (Nat.le_of_ble_eq_true rfl) ⟨rfl, rfl, Nat.le_of_ble_eq_true rfl, Nat.le_of_ble_eq_true rfl⟩ ⟨Nat.le_of_ble_eq_true rfl, Nat.le_of_ble_eq_true rfl⟩ dJu_barsAt_61 (fun H locs hw hf => ?_)
          refine bif_eq (tgt := 69) S.1 S.2.1 hm dJu_barsAt_64 (by decide) (fun hm => ?_) (fun hm => ?_)
          · obtain ⟨x12, ex12, hm⟩ := nm_x hm
            refine lv_iinc (v := x12) (lv' := [(5, .int x12), (0, .ref (ξ.2.2.2.1 42)), (4, .ref (ξ.2.2.2.1 u4))]) S.1 S.2.1 dJu_barsAt_69 hl (k := 2) rfl (by rw [ex12]; rfl) (by decide) rfl (fun ls hl => ?_)
            refine lv_goto (tgt := 27) S.1 S.2.1 dJu_barsAt_72 (by decide) ?_
            exact ih g10 u4 x12 _ _ _ hm hw hf hu4 (lv_sub hl [1, 2, 0] rfl)
          · refine lv_iconst (v := (1 : Int32)) S.1 S.2.1 dJu_barsAt_67 (by decide) ?_
            obtain rfl := Option.some.inj hm
            exact sw_zret S hr hlk (Or.inr rfl) hw hf dJu_barsAt_68
set_option maxHeartbeats 4000000 in
set_option maxRecDepth 100000 in
theorem cJu_barsAt (l : Launch) (N : Nat) {Γ : sw_C} {A : Nat → Prop} {ξ : sw_x} {g : sw_g} {μ : sw_m} (hf : sw_wf ξ g.2.2) (q1 : Nat) (hq1 : sw_ik ξ q1 3) (a2 : Int32) (a3 : Int32) {res : Int32 × sw_g} (hm : fJu_barsAt N ξ.2.2.1 g q1 a2 a3 = some res) : Met l yJu_barsAt (Cond.code yJu_barsAt prog_3_method_4_code 6 (some .boolean) :: sw_tb) rmJu_barsAt (va_Pc [.ref (ξ.2.2.2.1 42), .ref (ξ.2.2.2.1 q1), .int a2, .int a3] (sw_V Γ A ξ g μ)) (sw_Qi Γ A ξ res.2 μ res.1 (sw_wf ξ res.2.2.2)) 0 0 A := by
  refine Met.ofW (cc := prog_3_method_4_code) (maxL := 6) (ret := some .boolean) (by decide) rfl ?_
  intro p e s m args below meth c s₁ B hml hv
  obtain ⟨rfl, hv⟩ := hv
  have S : CallFix p m c prog_3_method_4_code 6 s _ (Cond.code yJu_barsAt prog_3_method_4_code 6 (some .boolean) :: sw_tb) R_Ju := ⟨B.exec, B.bytes, hml, findClass_of_methodNamed B.named, atoms_spec (ws := (Cond.code yJu_barsAt prog_3_method_4_code 6 (some .boolean) :: sw_tb)) B.pre⟩
  have hr := B.returns
  have hlk := B.notSynchronized
  have hw := sw_begin hv
  have hl := lv_entry [.ref (ξ.2.2.2.1 42), .ref (ξ.2.2.2.1 q1), .int a2, .int a3] (n := 6) (Nat.le_of_ble_eq_true rfl)
  rw [lg_entry_eq]
  generalize (lg_sl [.ref (ξ.2.2.2.1 42), .ref (ξ.2.2.2.1 q1), .int a2, .int a3] ++ List.replicate (6 - (lg_sl [.ref (ξ.2.2.2.1 42), .ref (ξ.2.2.2.1 q1), .int a2, .int a3]).length) Slot.unset).toArray = ls at hl ⊢
  have hl : lv_has ls 6 [(0, .ref (ξ.2.2.2.1 42)), (1, .ref (ξ.2.2.2.1 q1)), (2, .int a2), (3, .int a3)] := hl
  unfold fJu_barsAt at hm
  refine lv_aload_n S.1 S.2.1 dJu_barsAt_0 rfl (lv_at hl 1 rfl) ?_
  refine lv_aload_n S.1 S.2.1 dJu_barsAt_1 rfl (lv_at hl 1 rfl) ?_
  refine get_Pl (v := .int (g.1 q1 11)) S hw hq1 11 (by decide) rfl wf_Ju_26 dJu_barsAt_2 ?_
  obtain ⟨⟨v3, g2⟩, h1, hm⟩ := ob hm
  refine sw_Vq (q := q1) (rest := []) S hw (cPl_textOf l  hf q1 hq1 (g.1 q1 11) h1) kPl_textOf wm_Ju_32 hq1.1 (e_Pl hq1) rfl rfl rfl rfl hl.1 (Nat.le_of_ble_eq_true rfl) ⟨rfl, rfl, Nat.le_of_ble_eq_true rfl, Nat.le_of_ble_eq_true rfl⟩ ⟨Nat.le_of_ble_eq_true rfl, Nat.le_of_ble_eq_true rfl⟩ dJu_barsAt_5 (fun H locs hw hΛ => ?_)
  have hf := hΛ.1
  cases v3 with
  | none =>
    refine W.eq (g2 := F0 m 8 ls [.null]) rfl ?_
    refine lv_astoreN (lv' := [(4, .null), (0, .ref (ξ.2.2.2.1 42)), (1, .ref (ξ.2.2.2.1 q1)), (2, .int a2), (3, .int a3)]) S.1 S.2.1 dJu_barsAt_8 hl (by decide) rfl (fun ls hl => ?_)
    refine lv_aloadN S.1 S.2.1 dJu_barsAt_10 (lv_at hl 0 rfl) ?_
    refine lv_ifnonnullN S.1 S.2.1 dJu_barsAt_12 ?_
    refine lv_iconst (v := (0 : Int32)) S.1 S.2.1 dJu_barsAt_15 (by decide) ?_
    obtain rfl := Option.some.inj hm
    exact sw_zret S hr hlk (Or.inl rfl) hw hf dJu_barsAt_16
  | some p4 =>
    have hp4 : sw_ik ξ p4 7 := hΛ.2 _ rfl
    refine W.eq (g2 := F0 m 8 ls [.ref (ξ.2.2.2.1 p4)]) rfl ?_
    refine lv_astore (lv' := [(4, .ref (ξ.2.2.2.1 p4)), (0, .ref (ξ.2.2.2.1 42)), (1, .ref (ξ.2.2.2.1 q1)), (2, .int a2), (3, .int a3)]) S.1 S.2.1 dJu_barsAt_8 hl (by decide) rfl (fun ls hl => ?_)
    refine lv_aload S.1 S.2.1 dJu_barsAt_10 (lv_at hl 0 rfl) ?_
    refine lv_ifnonnull (tgt := 17) S.1 S.2.1 dJu_barsAt_12 (by decide) ?_
    refine lv_aload_n S.1 S.2.1 dJu_barsAt_17 rfl (lv_at hl 1 rfl) ?_
    refine lv_aload_n S.1 S.2.1 dJu_barsAt_18 rfl (lv_at hl 2 rfl) ?_
    refine lv_iload_n S.1 S.2.1 dJu_barsAt_19 rfl (lv_at hl 3 rfl) ?_
    refine lv_iload_n S.1 S.2.1 dJu_barsAt_20 rfl (lv_at hl 4 rfl) ?_
    obtain ⟨g6, h5, hm⟩ := ob hm
    refine sw_Vv (q := 42) (rest := []) S hw (cJu_ask l  hf q1 hq1 a2 a3 h5) kJu_ask wm_Ju_22 (is_42 hf).1 (e_Ju (is_42 hf)) rfl rfl rfl rfl hl.1 (Nat.le_of_ble_eq_true rfl) ⟨rfl, rfl, Nat.le_of_ble_eq_true rfl, Nat.le_of_ble_eq_true rfl⟩ ⟨Nat.le_of_ble_eq_true rfl, Nat.le_of_ble_eq_true rfl⟩ dJu_barsAt_21 (fun H locs hw hf => ?_)
    refine lv_iconst (v := (0 : Int32)) S.1 S.2.1 dJu_barsAt_24 (by decide) ?_
    refine lv_istore (lv' := [(5, .int (0 : Int32)), (4, .ref (ξ.2.2.2.1 p4)), (0, .ref (ξ.2.2.2.1 42)), (1, .ref (ξ.2.2.2.1 q1)), (2, .int a2), (3, .int a3)]) S.1 S.2.1 dJu_barsAt_25 hl (by decide) rfl (fun ls hl => ?_)
    exact wJu_barsAt_27 S hr hlk q1 hq1 N  N g6 p4 (0 : Int32) _ _ _ hm hw hf hp4 (lv_sub hl [2, 1, 0] rfl)
set_option maxHeartbeats 4000000 in
set_option maxRecDepth 100000 in
theorem wJu_lastTold_20 {l : Launch} {p : Program} {e : Env} {s : State} {m : MethodId} {args : Array Value} {below : List Frame} {meth : Method} {c : Code} {Γ : sw_C} {A : Nat → Prop} {ξ : sw_x} {μ : sw_m} {res : Int32 × sw_g} (S : CallFix p m c prog_3_method_8_code 6 s args (Cond.code yJu_lastTold prog_3_method_8_code 6 (some .int) :: sw_tb) R_Ju) (hr : meth.sig.returnType = some .int) (hlk : meth.locks = false) (N : Nat) : ∀ (fu : Nat) (g : sw_g) (u1 : Nat) (u2 : Int32) (u3 : Int32) (u4 : Int32) (u5 : Int32) (H : Heap) (locs : List Loc) (ls : Array Slot), fJu_lastTold_20 N ξ.2.2.1  fu g u1 u2 u3 u4 u5 = some res → sw_S Γ A ξ g μ s H locs → sw_wf ξ g.2.2 → sw_ik ξ u1 7 → lv_has ls 6 [(0, .ref (ξ.2.2.2.1 42)), (1, .ref (ξ.2.2.2.1 u1)), (2, .int u2), (3, .int u3), (4, .int u4), (5, .int u5)] → W p l e (headSpec (Cond.code yJu_lastTold prog_3_method_8_code 6 (some .int) :: sw_tb) rmJu_lastTold).room s m args below meth c H locs 0 0 (MQ below (sw_Qi Γ A ξ res.2 μ res.1 (sw_wf ξ res.2.2.2)) args s 0 0 A) (F0 m 20 ls []) := by
  intro fu
  induction fu with
  | zero => intro g u1 u2 u3 u4 u5 H locs ls hm; rw [fJu_lastTold_20.eq_1] at hm; cases hm
  | succ fu ih =>
    intro g u1 u2 u3 u4 u5 H locs ls hm hw hf hu1 hl
    rw [fJu_lastTold_20.eq_2] at hm
    refine lv_iload S.1 S.2.1 dJu_lastTold_20 (lv_at hl 5 rfl) ?_
    refine bif_lt (tgt := 90) S.1 S.2.1 hm dJu_lastTold_22 (by decide) (fun hm => ?_) (fun hm => ?_)
    · refine lv_iload S.1 S.2.1 dJu_lastTold_90 (lv_at hl 4 rfl) ?_
      obtain rfl := Option.some.inj hm
      exact sw_iret S hr hlk hw hf dJu_lastTold_92
    · refine lv_aload_n S.1 S.2.1 dJu_lastTold_25 rfl (lv_at hl 1 rfl) ?_
      refine get_Te (v := .ref (ξ.2.2.2.1 (u1 + 1))) S hw hu1 1 (by decide) rfl wf_Ju_48 dJu_lastTold_26 ?_
      refine lv_iload S.1 S.2.1 dJu_lastTold_29 (lv_at hl 5 rfl) ?_
      refine sx_iald S hw (is_Te_verb hf hu1) hm dJu_lastTold_31 (fun v2 hm => ?_)
      refine lv_iload_n S.1 S.2.1 dJu_lastTold_32 rfl (lv_at hl 2 rfl) ?_
      refine bicmp_ne (tgt := 84) S.1 S.2.1 hm dJu_lastTold_33 (by decide) (fun hm => ?_) (fun hm => ?_)
      · obtain ⟨x3, ex3, hm⟩ := nm_x hm
        refine lv_iinc (v := x3) (lv' := [(5, .int x3), (0, .ref (ξ.2.2.2.1 42)), (1, .ref (ξ.2.2.2.1 u1)), (2, .int u2), (3, .int u3), (4, .int u4)]) S.1 S.2.1 dJu_lastTold_84 hl (k := 5) rfl (by rw [ex3]; rfl) (by decide) rfl (fun ls hl => ?_)
        refine lv_goto (tgt := 20) S.1 S.2.1 dJu_lastTold_87 (by decide) ?_
        exact ih g u1 u2 u3 u4 x3 _ _ _ hm hw hf hu1 (lv_sub hl [1, 2, 3, 4, 5, 0] rfl)
      · refine lv_aload_n S.1 S.2.1 dJu_lastTold_36 rfl (lv_at hl 0 rfl) ?_
        refine lv_aload_n S.1 S.2.1 dJu_lastTold_37 rfl (lv_at hl 1 rfl) ?_
        refine lv_iload S.1 S.2.1 dJu_lastTold_38 (lv_at hl 5 rfl) ?_
        obtain ⟨⟨v6, g5⟩, h4, hm⟩ := ob hm
        refine sw_Vi (q := 42) (rest := []) S hw (cJu_holds l N hf u1 hu1 u5 h4) kJu_holds wm_Ju_51 (is_42 hf).1 (e_Ju (is_42 hf)) rfl rfl rfl rfl hl.1 (Nat.le_of_ble_eq_true rfl) ⟨rfl, rfl, Nat.le_of_ble_eq_true rfl, Nat.le_of_ble_eq_true rfl⟩ ⟨Nat.le_of_ble_eq_true rfl, Nat.le_of_ble_eq_true rfl⟩ dJu_lastTold_40 (fun H locs hw hf => ?_)
        refine bif_eq (tgt := 84) S.1 S.2.1 hm dJu_lastTold_43 (by decide) (fun hm => ?_) (fun hm => ?_)
        · obtain ⟨x7, ex7, hm⟩ := nm_x hm
          refine lv_iinc (v := x7) (lv' := [(5, .int x7), (0, .ref (ξ.2.2.2.1 42)), (1, .ref (ξ.2.2.2.1 u1)), (2, .int u2), (3, .int u3), (4, .int u4)]) S.1 S.2.1 dJu_lastTold_84 hl (k := 5) rfl (by rw [ex7]; rfl) (by decide) rfl (fun ls hl => ?_)
          refine lv_goto (tgt := 20) S.1 S.2.1 dJu_lastTold_87 (by decide) ?_
          exact ih g5 u1 u2 u3 u4 x7 _ _ _ hm hw hf hu1 (lv_sub hl [1, 2, 3, 4, 5, 0] rfl)
        · refine lv_aload_n S.1 S.2.1 dJu_lastTold_46 rfl (lv_at hl 0 rfl) ?_
          refine get_Ju (v := .ref (ξ.2.2.2.1 43)) S hw (is_42 hf) 0 (by decide) rfl wf_Ju_12 dJu_lastTold_47 ?_
          refine lv_aload_n S.1 S.2.1 dJu_lastTold_50 rfl (lv_at hl 1 rfl) ?_
          refine lv_aload_n S.1 S.2.1 dJu_lastTold_51 rfl (lv_at hl 1 rfl) ?_
          refine get_Te (v := .ref (ξ.2.2.2.1 (u1 + 2))) S hw hu1 2 (by decide) rfl wf_Ju_77 dJu_lastTold_52 ?_
          refine lv_iload S.1 S.2.1 dJu_lastTold_55 (lv_at hl 5 rfl) ?_
          refine sx_iald S hw (is_Te_first hf hu1) hm dJu_lastTold_57 (fun v8 hm => ?_)
          refine lv_aload_n S.1 S.2.1 dJu_lastTold_58 rfl (lv_at hl 0 rfl) ?_
          refine get_Ju (v := .ref (ξ.2.2.2.1 45)) S hw (is_42 hf) 1 (by decide) rfl wf_Ju_18 dJu_lastTold_59 ?_
          obtain ⟨⟨v11, g10⟩, h9, hm⟩ := ob hm
          refine sw_Vi (q := 43) (rest := []) S hw (cRk_works l N hf 43 u1 45 8 (is_43 hf) (is_44 hf) hu1 (is_45 hf) v8 h9) kRk_works wm_Ju_80 (is_43 hf).1 (e_Rk (is_43 hf)) rfl rfl rfl rfl hl.1 (Nat.le_of_ble_eq_true rfl) ⟨rfl, rfl, Nat.le_of_ble_eq_true rfl, Nat.le_of_ble_eq_true rfl⟩ ⟨Nat.le_of_ble_eq_true rfl, Nat.le_of_ble_eq_true rfl⟩ dJu_lastTold_62 (fun H locs hw hf => ?_)
          refine bif_eq (tgt := 84) S.1 S.2.1 hm dJu_lastTold_65 (by decide) (fun hm => ?_) (fun hm => ?_)
          · obtain ⟨x12, ex12, hm⟩ := nm_x hm
            refine lv_iinc (v := x12) (lv' := [(5, .int x12), (0, .ref (ξ.2.2.2.1 42)), (1, .ref (ξ.2.2.2.1 u1)), (2, .int u2), (3, .int u3), (4, .int u4)]) S.1 S.2.1 dJu_lastTold_84 hl (k := 5) rfl (by rw [ex12]; rfl) (by decide) rfl (fun ls hl => ?_)
            refine lv_goto (tgt := 20) S.1 S.2.1 dJu_lastTold_87 (by decide) ?_
            exact ih g10 u1 u2 u3 u4 x12 _ _ _ hm hw hf hu1 (lv_sub hl [1, 2, 3, 4, 5, 0] rfl)
          · refine lv_iconst (v := (0 : Int32)) S.1 S.2.1 dJu_lastTold_68 (by decide) ?_
            refine lv_iload_n S.1 S.2.1 dJu_lastTold_69 rfl (lv_at hl 3 rfl) ?_
            refine lv_aload_n S.1 S.2.1 dJu_lastTold_70 rfl (lv_at hl 0 rfl) ?_
            refine get_Ju (v := .ref (ξ.2.2.2.1 43)) S hw (is_42 hf) 0 (by decide) rfl wf_Ju_12 dJu_lastTold_71 ?_
            refine get_Rk (v := .int (g10.1 43 0)) S hw (is_43 hf) 0 (by decide) rfl wf_Ju_84 dJu_lastTold_74 ?_
            refine sw_min (rest := [.int (0 : Int32)]) S hl.1 wm_Ju_74 (Nat.le_of_ble_eq_true rfl) (Nat.le_of_ble_eq_true rfl) (Nat.le_of_ble_eq_true rfl) (Nat.le_of_ble_eq_true rfl) dJu_lastTold_77 ?_
            refine sw_max (rest := []) S hl.1 wm_Ju_62 (Nat.le_of_ble_eq_true rfl) (Nat.le_of_ble_eq_true rfl) (Nat.le_of_ble_eq_true rfl) (Nat.le_of_ble_eq_true rfl) dJu_lastTold_80 ?_
            obtain rfl := Option.some.inj hm
            exact sw_iret S hr hlk hw hf dJu_lastTold_83
set_option maxHeartbeats 4000000 in
set_option maxRecDepth 100000 in
theorem cJu_lastTold (l : Launch) (N : Nat) {Γ : sw_C} {A : Nat → Prop} {ξ : sw_x} {g : sw_g} {μ : sw_m} (hf : sw_wf ξ g.2.2) (t1 : Option Nat) (ht1 : ∀ q, t1 = some q → sw_ik ξ q 7) (a2 : Int32) (a3 : Int32) (a4 : Int32) {res : Int32 × sw_g} (hm : fJu_lastTold N ξ.2.2.1 g t1 a2 a3 a4 = some res) : Met l yJu_lastTold (Cond.code yJu_lastTold prog_3_method_8_code 6 (some .int) :: sw_tb) rmJu_lastTold (va_Pc [.ref (ξ.2.2.2.1 42), va_rf (Option.map ξ.2.2.2.1 t1), .int a2, .int a3, .int a4] (sw_V Γ A ξ g μ)) (sw_Qi Γ A ξ res.2 μ res.1 (sw_wf ξ res.2.2.2)) 0 0 A := by
  refine Met.ofW (cc := prog_3_method_8_code) (maxL := 6) (ret := some .int) (by decide) rfl ?_
  intro p e s m args below meth c s₁ B hml hv
  obtain ⟨rfl, hv⟩ := hv
  have S : CallFix p m c prog_3_method_8_code 6 s _ (Cond.code yJu_lastTold prog_3_method_8_code 6 (some .int) :: sw_tb) R_Ju := ⟨B.exec, B.bytes, hml, findClass_of_methodNamed B.named, atoms_spec (ws := (Cond.code yJu_lastTold prog_3_method_8_code 6 (some .int) :: sw_tb)) B.pre⟩
  have hr := B.returns
  have hlk := B.notSynchronized
  have hw := sw_begin hv
  cases t1 with
  | none =>
    have hl := lv_entry [.ref (ξ.2.2.2.1 42), va_rf (Option.map ξ.2.2.2.1 none), .int a2, .int a3, .int a4] (n := 6) (Nat.le_of_ble_eq_true rfl)
    rw [lg_entry_eq]
    generalize (lg_sl [.ref (ξ.2.2.2.1 42), va_rf (Option.map ξ.2.2.2.1 none), .int a2, .int a3, .int a4] ++ List.replicate (6 - (lg_sl [.ref (ξ.2.2.2.1 42), va_rf (Option.map ξ.2.2.2.1 none), .int a2, .int a3, .int a4]).length) Slot.unset).toArray = ls at hl ⊢
    have hl : lv_has ls 6 [(0, .ref (ξ.2.2.2.1 42)), (1, .null), (2, .int a2), (3, .int a3), (4, .int a4)] := hl
    unfold fJu_lastTold at hm
    refine lv_aload_nN S.1 S.2.1 dJu_lastTold_0 rfl (lv_at hl 1 rfl) ?_
    refine lv_ifnonnullN S.1 S.2.1 dJu_lastTold_1 ?_
    refine lv_iload S.1 S.2.1 dJu_lastTold_4 (lv_at hl 4 rfl) ?_
    obtain rfl := Option.some.inj hm
    exact sw_iret S hr hlk hw hf dJu_lastTold_6
  | some q1 =>
    have hq1 : sw_ik ξ q1 7 := ht1 q1 rfl
    have hl := lv_entry [.ref (ξ.2.2.2.1 42), va_rf (Option.map ξ.2.2.2.1 (some q1)), .int a2, .int a3, .int a4] (n := 6) (Nat.le_of_ble_eq_true rfl)
    rw [lg_entry_eq]
    generalize (lg_sl [.ref (ξ.2.2.2.1 42), va_rf (Option.map ξ.2.2.2.1 (some q1)), .int a2, .int a3, .int a4] ++ List.replicate (6 - (lg_sl [.ref (ξ.2.2.2.1 42), va_rf (Option.map ξ.2.2.2.1 (some q1)), .int a2, .int a3, .int a4]).length) Slot.unset).toArray = ls at hl ⊢
    have hl : lv_has ls 6 [(0, .ref (ξ.2.2.2.1 42)), (1, .ref (ξ.2.2.2.1 q1)), (2, .int a2), (3, .int a3), (4, .int a4)] := hl
    unfold fJu_lastTold at hm
    refine lv_aload_n S.1 S.2.1 dJu_lastTold_0 rfl (lv_at hl 1 rfl) ?_
    refine lv_ifnonnull (tgt := 7) S.1 S.2.1 dJu_lastTold_1 (by decide) ?_
    refine lv_aload_n S.1 S.2.1 dJu_lastTold_7 rfl (lv_at hl 1 rfl) ?_
    refine get_Te (v := .int (g.1 q1 0)) S hw hq1 0 (by decide) rfl wf_Ju_43 dJu_lastTold_8 ?_
    refine lv_bipush (v := (12 : Int32)) S.1 S.2.1 dJu_lastTold_11 (by decide) ?_
    refine sw_min (rest := []) S hl.1 wm_Ju_74 (Nat.le_of_ble_eq_true rfl) (Nat.le_of_ble_eq_true rfl) (Nat.le_of_ble_eq_true rfl) (Nat.le_of_ble_eq_true rfl) dJu_lastTold_13 ?_
    refine lv_iconst (v := (1 : Int32)) S.1 S.2.1 dJu_lastTold_16 (by decide) ?_
    refine lv_isub S.1 S.2.1 dJu_lastTold_17 ?_
    refine nm_i hm (fun x1 hm => ?_)
    refine lv_istore (lv' := [(5, .int x1), (0, .ref (ξ.2.2.2.1 42)), (1, .ref (ξ.2.2.2.1 q1)), (2, .int a2), (3, .int a3), (4, .int a4)]) S.1 S.2.1 dJu_lastTold_18 hl (by decide) rfl (fun ls hl => ?_)
    exact wJu_lastTold_20 S hr hlk N  N g q1 a2 a3 a4 x1 _ _ _ hm hw hf hq1 (lv_sub hl [1, 2, 3, 4, 5, 0] rfl)
set_option maxHeartbeats 4000000 in
set_option maxRecDepth 100000 in
theorem wRe_readPart_74 {l : Launch} {p : Program} {e : Env} {s : State} {m : MethodId} {args : Array Value} {below : List Frame} {meth : Method} {c : Code} {Γ : sw_C} {A : Nat → Prop} {ξ : sw_x} {μ : sw_m} {res : sw_g} (S : CallFix p m c prog_5_method_23_code 3 s args (Cond.code yRe_readPart prog_5_method_23_code 3 (none) :: sw_tb) R_Re) (hr : meth.sig.returnType = none) (hlk : meth.locks = false) (rc : sw_g → Option (sw_g)) (rr : Room) (hr0 : rr.cells = 0 ∧ rr.slots = 0) (hrc : ∀ {g : sw_g} {μ : sw_m} (hf : sw_wf ξ g.2.2) {res : sw_g}, rc g  = some res → Met l yRe_readSum (Cond.code yRe_readSum prog_5_method_21_code 3 (none) :: sw_tb) rr (va_Pc [.ref (ξ.2.2.2.1 33)] (sw_V Γ A ξ g μ)) (sw_Qv Γ A ξ res μ (sw_wf ξ res.2.2)) 0 0 A) (N : Nat) : ∀ (g : sw_g)  (H : Heap) (locs : List Loc) (ls : Array Slot), fRe_readPart_74 N rc ξ.2.2.1  g = some res → sw_S Γ A ξ g μ s H locs → sw_wf ξ g.2.2 → lv_has ls 3 [(0, .ref (ξ.2.2.2.1 33))] → W p l e (headSpec (Cond.code yRe_readPart prog_5_method_23_code 3 (none) :: sw_tb) (rgRe_readPart rr)).room s m args below meth c H locs 0 0 (MQ below (sw_Qv Γ A ξ res μ (sw_wf ξ res.2.2)) args s 0 0 A) (F0 m 74 ls []) := by
  intro g H locs ls hm hw hf hl
  unfold fRe_readPart_74 at hm
  refine lv_aload_n S.1 S.2.1 dRe_readPart_74 rfl (lv_at hl 0 rfl) ?_
  obtain ⟨g23, h22, hm⟩ := ob hm
  refine sw_Vv (q := 33) (rest := []) S hw (cRe_fail l N hf  h22) kRe_fail wm_Re_74 (is_33 hf).1 (e_Re (is_33 hf)) rfl rfl rfl rfl hl.1 (Nat.le_of_ble_eq_true rfl) ⟨rfl, rfl, by show 0 + 1 ≤ rr.frames + _; omega, by show 8 + (1 + 11) + 0 ≤ rr.locals + _; omega⟩ ⟨Nat.le_of_ble_eq_true rfl, Nat.le_of_ble_eq_true rfl⟩ dRe_readPart_75 (fun H locs hw hf => ?_)
  obtain rfl := Option.some.inj hm
  exact sw_vret S hr hlk hw hf dRe_readPart_78
set_option maxHeartbeats 4000000 in
set_option maxRecDepth 100000 in
theorem wRe_readPart_125 {l : Launch} {p : Program} {e : Env} {s : State} {m : MethodId} {args : Array Value} {below : List Frame} {meth : Method} {c : Code} {Γ : sw_C} {A : Nat → Prop} {ξ : sw_x} {μ : sw_m} {res : sw_g} (S : CallFix p m c prog_5_method_23_code 3 s args (Cond.code yRe_readPart prog_5_method_23_code 3 (none) :: sw_tb) R_Re) (hr : meth.sig.returnType = none) (hlk : meth.locks = false) (rc : sw_g → Option (sw_g)) (rr : Room) (hr0 : rr.cells = 0 ∧ rr.slots = 0) (hrc : ∀ {g : sw_g} {μ : sw_m} (hf : sw_wf ξ g.2.2) {res : sw_g}, rc g  = some res → Met l yRe_readSum (Cond.code yRe_readSum prog_5_method_21_code 3 (none) :: sw_tb) rr (va_Pc [.ref (ξ.2.2.2.1 33)] (sw_V Γ A ξ g μ)) (sw_Qv Γ A ξ res μ (sw_wf ξ res.2.2)) 0 0 A) (N : Nat) : ∀ (g : sw_g) (u2 : Int32) (H : Heap) (locs : List Loc) (ls : Array Slot), fRe_readPart_125 N rc ξ.2.2.1  g u2 = some res → sw_S Γ A ξ g μ s H locs → sw_wf ξ g.2.2 → lv_has ls 3 [(0, .ref (ξ.2.2.2.1 33)), (2, .int u2)] → W p l e (headSpec (Cond.code yRe_readPart prog_5_method_23_code 3 (none) :: sw_tb) (rgRe_readPart rr)).room s m args below meth c H locs 0 0 (MQ below (sw_Qv Γ A ξ res μ (sw_wf ξ res.2.2)) args s 0 0 A) (F0 m 125 ls []) := by
  intro g u2 H locs ls hm hw hf hl
  unfold fRe_readPart_125 at hm
  refine lv_aload_n S.1 S.2.1 dRe_readPart_125 rfl (lv_at hl 0 rfl) ?_
  refine lv_iconst (v := (2 : Int32)) S.1 S.2.1 dRe_readPart_126 (by decide) ?_
  refine lv_iload_n S.1 S.2.1 dRe_readPart_127 rfl (lv_at hl 1 rfl) ?_
  refine lv_iconst (v := (0 : Int32)) S.1 S.2.1 dRe_readPart_128 (by decide) ?_
  refine lv_aload_n S.1 S.2.1 dRe_readPart_129 rfl (lv_at hl 0 rfl) ?_
  refine lv_iconst (v := (0 : Int32)) S.1 S.2.1 dRe_readPart_130 (by decide) ?_
  refine lv_bipush (v := (6 : Int32)) S.1 S.2.1 dRe_readPart_131 (by decide) ?_
  obtain ⟨⟨v17, g16⟩, h15, hm⟩ := ob hm
  refine sw_Vi (q := 33) (rest := [.int (0 : Int32), .int u2, .int (2 : Int32), .ref (ξ.2.2.2.1 33)]) S hw (cRe_expectNumber l N hf (0 : Int32) (6 : Int32) h15) kRe_expectNumber wm_Re_140 (is_33 hf).1 (e_Re (is_33 hf)) rfl rfl rfl rfl hl.1 (Nat.le_of_ble_eq_true rfl) ⟨rfl, rfl, by show 2 + 1 ≤ rr.frames + _; omega, by show 8 + (4 + 11) + 45 ≤ rr.locals + _; omega⟩ ⟨Nat.le_of_ble_eq_true rfl, Nat.le_of_ble_eq_true rfl⟩ dRe_readPart_133 (fun H locs hw hf => ?_)
  refine sw_max (rest := [.int u2, .int (2 : Int32), .ref (ξ.2.2.2.1 33)]) S hl.1 wm_Re_216 (by show 1 ≤ rr.frames + _; omega) (by show 3 + 13 ≤ rr.locals + _; omega) (Nat.le_of_ble_eq_true rfl) (Nat.le_of_ble_eq_true rfl) dRe_readPart_136 ?_
  refine lv_iadd S.1 S.2.1 dRe_readPart_139 ?_
  obtain ⟨g19, h18, hm⟩ := ob hm
  refine sw_Vv (q := 33) (rest := []) S hw (cRe_emit l N hf (2 : Int32) (u2 + (jmax (0 : Int32) v17)) h18) kRe_emit wm_Re_146 (is_33 hf).1 (e_Re (is_33 hf)) rfl rfl rfl rfl hl.1 (Nat.le_of_ble_eq_true rfl) ⟨rfl, rfl, by show 1 + 1 ≤ rr.frames + _; omega, by show 8 + (3 + 11) + 20 ≤ rr.locals + _; omega⟩ ⟨Nat.le_of_ble_eq_true rfl, Nat.le_of_ble_eq_true rfl⟩ dRe_readPart_140 (fun H locs hw hf => ?_)
  refine lv_goto (tgt := 152) S.1 S.2.1 dRe_readPart_143 (by decide) ?_
  obtain rfl := Option.some.inj hm
  exact sw_vret S hr hlk hw hf dRe_readPart_152
set_option maxHeartbeats 4000000 in
set_option maxRecDepth 100000 in
theorem wRe_readPart_146 {l : Launch} {p : Program} {e : Env} {s : State} {m : MethodId} {args : Array Value} {below : List Frame} {meth : Method} {c : Code} {Γ : sw_C} {A : Nat → Prop} {ξ : sw_x} {μ : sw_m} {res : sw_g} (S : CallFix p m c prog_5_method_23_code 3 s args (Cond.code yRe_readPart prog_5_method_23_code 3 (none) :: sw_tb) R_Re) (hr : meth.sig.returnType = none) (hlk : meth.locks = false) (rc : sw_g → Option (sw_g)) (rr : Room) (hr0 : rr.cells = 0 ∧ rr.slots = 0) (hrc : ∀ {g : sw_g} {μ : sw_m} (hf : sw_wf ξ g.2.2) {res : sw_g}, rc g  = some res → Met l yRe_readSum (Cond.code yRe_readSum prog_5_method_21_code 3 (none) :: sw_tb) rr (va_Pc [.ref (ξ.2.2.2.1 33)] (sw_V Γ A ξ g μ)) (sw_Qv Γ A ξ res μ (sw_wf ξ res.2.2)) 0 0 A) (N : Nat) : ∀ (g : sw_g) (u2 : Int32) (H : Heap) (locs : List Loc) (ls : Array Slot), fRe_readPart_146 N rc ξ.2.2.1  g u2 = some res → sw_S Γ A ξ g μ s H locs → sw_wf ξ g.2.2 → lv_has ls 3 [(0, .ref (ξ.2.2.2.1 33)), (2, .int u2)] → W p l e (headSpec (Cond.code yRe_readPart prog_5_method_23_code 3 (none) :: sw_tb) (rgRe_readPart rr)).room s m args below meth c H locs 0 0 (MQ below (sw_Qv Γ A ξ res μ (sw_wf ξ res.2.2)) args s 0 0 A) (F0 m 146 ls []) := by
  intro g u2 H locs ls hm hw hf hl
  unfold fRe_readPart_146 at hm
  refine lv_aload_n S.1 S.2.1 dRe_readPart_146 rfl (lv_at hl 0 rfl) ?_
  refine lv_iconst (v := (2 : Int32)) S.1 S.2.1 dRe_readPart_147 (by decide) ?_
  refine lv_iload_n S.1 S.2.1 dRe_readPart_148 rfl (lv_at hl 1 rfl) ?_
  obtain ⟨g14, h13, hm⟩ := ob hm
  refine sw_Vv (q := 33) (rest := []) S hw (cRe_emit l N hf (2 : Int32) u2 h13) kRe_emit wm_Re_146 (is_33 hf).1 (e_Re (is_33 hf)) rfl rfl rfl rfl hl.1 (Nat.le_of_ble_eq_true rfl) ⟨rfl, rfl, by show 1 + 1 ≤ rr.frames + _; omega, by show 8 + (3 + 11) + 20 ≤ rr.locals + _; omega⟩ ⟨Nat.le_of_ble_eq_true rfl, Nat.le_of_ble_eq_true rfl⟩ dRe_readPart_149 (fun H locs hw hf => ?_)
  obtain rfl := Option.some.inj hm
  exact sw_vret S hr hlk hw hf dRe_readPart_152
set_option maxHeartbeats 4000000 in
set_option maxRecDepth 100000 in
theorem wRe_readPart_65 {l : Launch} {p : Program} {e : Env} {s : State} {m : MethodId} {args : Array Value} {below : List Frame} {meth : Method} {c : Code} {Γ : sw_C} {A : Nat → Prop} {ξ : sw_x} {μ : sw_m} {res : sw_g} (S : CallFix p m c prog_5_method_23_code 3 s args (Cond.code yRe_readPart prog_5_method_23_code 3 (none) :: sw_tb) R_Re) (hr : meth.sig.returnType = none) (hlk : meth.locks = false) (rc : sw_g → Option (sw_g)) (rr : Room) (hr0 : rr.cells = 0 ∧ rr.slots = 0) (hrc : ∀ {g : sw_g} {μ : sw_m} (hf : sw_wf ξ g.2.2) {res : sw_g}, rc g  = some res → Met l yRe_readSum (Cond.code yRe_readSum prog_5_method_21_code 3 (none) :: sw_tb) rr (va_Pc [.ref (ξ.2.2.2.1 33)] (sw_V Γ A ξ g μ)) (sw_Qv Γ A ξ res μ (sw_wf ξ res.2.2)) 0 0 A) (N : Nat) : ∀ (g : sw_g) (u1 : Int32) (u2 : Int32) (H : Heap) (locs : List Loc) (ls : Array Slot), fRe_readPart_65 N rc ξ.2.2.1  g u1 u2 = some res → sw_S Γ A ξ g μ s H locs → sw_wf ξ g.2.2 → lv_has ls 3 [(0, .ref (ξ.2.2.2.1 33)), (1, .int u1), (2, .int u2)] → W p l e (headSpec (Cond.code yRe_readPart prog_5_method_23_code 3 (none) :: sw_tb) (rgRe_readPart rr)).room s m args below meth c H locs 0 0 (MQ below (sw_Qv Γ A ξ res μ (sw_wf ξ res.2.2)) args s 0 0 A) (F0 m 65 ls []) := by
  intro g u1 u2 H locs ls hm hw hf hl
  unfold fRe_readPart_65 at hm
  refine lv_aload_n S.1 S.2.1 dRe_readPart_65 rfl (lv_at hl 0 rfl) ?_
  refine get_Re (v := .int (g.1 33 7)) S hw (is_33 hf) 7 (by decide) rfl wf_Re_38 dRe_readPart_66 ?_
  refine lv_bipush (v := (50 : Int32)) S.1 S.2.1 dRe_readPart_69 (by decide) ?_
  refine bicmp_lt (tgt := 79) S.1 S.2.1 hm dRe_readPart_71 (by decide) (fun hm => ?_) (fun hm => ?_)
  · refine lv_aload_n S.1 S.2.1 dRe_readPart_79 rfl (lv_at hl 0 rfl) ?_
    refine lv_dup S.1 S.2.1 dRe_readPart_80 rfl ?_
    refine get_Re (v := .int (g.1 33 7)) S hw (is_33 hf) 7 (by decide) rfl wf_Re_38 dRe_readPart_81 ?_
    refine lv_iconst (v := (1 : Int32)) S.1 S.2.1 dRe_readPart_84 (by decide) ?_
    refine lv_iadd S.1 S.2.1 dRe_readPart_85 ?_
    refine put_Re S hw hf (is_33 hf) 7 (by decide) ps_Re_7 rfl rfl rfl wf_Re_38 hm dRe_readPart_86 (fun g10 H locs hf hm hw => ?_)
    refine lv_aload_n S.1 S.2.1 dRe_readPart_89 rfl (lv_at hl 0 rfl) ?_
    obtain ⟨g12, h11, hm⟩ := ob hm
    refine sw_Vv (q := 33) (rest := []) S hw (cRe_advance l N hf  h11) kRe_advance wm_Re_47 (is_33 hf).1 (e_Re (is_33 hf)) rfl rfl rfl rfl hl.1 (Nat.le_of_ble_eq_true rfl) ⟨rfl, rfl, by show 1 + 1 ≤ rr.frames + _; omega, by show 8 + (3 + 11) + 20 ≤ rr.locals + _; omega⟩ ⟨Nat.le_of_ble_eq_true rfl, Nat.le_of_ble_eq_true rfl⟩ dRe_readPart_90 (fun H locs hw hf => ?_)
    refine lv_iload_n S.1 S.2.1 dRe_readPart_93 rfl (lv_at hl 1 rfl) ?_
    refine lv_iconst (v := (-1 : Int32)) S.1 S.2.1 dRe_readPart_94 (by decide) ?_
    refine bicmp_eq (tgt := 107) S.1 S.2.1 hm dRe_readPart_95 (by decide) (fun hm => ?_) (fun hm => ?_)
    · refine lv_aload_n S.1 S.2.1 dRe_readPart_107 rfl (lv_at hl 0 rfl) ?_
      refine get_Re (v := .int (g12.1 33 4)) S hw (is_33 hf) 4 (by decide) rfl wf_Re_31 dRe_readPart_108 ?_
      refine bif_ne (tgt := 146) S.1 S.2.1 hm dRe_readPart_111 (by decide) (fun hm => ?_) (fun hm => ?_)
      · exact wRe_readPart_146 S hr hlk rc rr hr0 hrc N  g12 u2 _ _ _ hm hw hf (lv_sub hl [0, 2] rfl)
      · refine lv_iload_n S.1 S.2.1 dRe_readPart_114 rfl (lv_at hl 2 rfl) ?_
        refine lv_iconst (v := (5 : Int32)) S.1 S.2.1 dRe_readPart_115 (by decide) ?_
        refine bicmp_eq (tgt := 125) S.1 S.2.1 hm dRe_readPart_116 (by decide) (fun hm => ?_) (fun hm => ?_)
        · exact wRe_readPart_125 S hr hlk rc rr hr0 hrc N  g12 u2 _ _ _ hm hw hf (lv_sub hl [0, 2] rfl)
        · refine lv_iload_n S.1 S.2.1 dRe_readPart_119 rfl (lv_at hl 2 rfl) ?_
          refine lv_bipush (v := (12 : Int32)) S.1 S.2.1 dRe_readPart_120 (by decide) ?_
          refine bicmp_ne (tgt := 146) S.1 S.2.1 hm dRe_readPart_122 (by decide) (fun hm => ?_) (fun hm => ?_)
          · exact wRe_readPart_146 S hr hlk rc rr hr0 hrc N  g12 u2 _ _ _ hm hw hf (lv_sub hl [0, 2] rfl)
          · exact wRe_readPart_125 S hr hlk rc rr hr0 hrc N  g12 u2 _ _ _ hm hw hf (lv_sub hl [0, 2] rfl)
    · refine lv_aload_n S.1 S.2.1 dRe_readPart_98 rfl (lv_at hl 0 rfl) ?_
      refine lv_iconst (v := (1 : Int32)) S.1 S.2.1 dRe_readPart_99 (by decide) ?_
      refine lv_iload_n S.1 S.2.1 dRe_readPart_100 rfl (lv_at hl 1 rfl) ?_
      obtain ⟨g21, h20, hm⟩ := ob hm
      refine sw_Vv (q := 33) (rest := []) S hw (cRe_emit l N hf (1 : Int32) u1 h20) kRe_emit wm_Re_146 (is_33 hf).1 (e_Re (is_33 hf)) rfl rfl rfl rfl hl.1 (Nat.le_of_ble_eq_true rfl) ⟨rfl, rfl, by show 1 + 1 ≤ rr.frames + _; omega, by show 8 + (3 + 11) + 20 ≤ rr.locals + _; omega⟩ ⟨Nat.le_of_ble_eq_true rfl, Nat.le_of_ble_eq_true rfl⟩ dRe_readPart_101 (fun H locs hw hf => ?_)
      refine lv_goto (tgt := 152) S.1 S.2.1 dRe_readPart_104 (by decide) ?_
      obtain rfl := Option.some.inj hm
      exact sw_vret S hr hlk hw hf dRe_readPart_152
  · exact wRe_readPart_74 S hr hlk rc rr hr0 hrc N  g _ _ _ hm hw hf (lv_sub hl [0] rfl)
set_option maxHeartbeats 4000000 in
set_option maxRecDepth 100000 in
theorem wRe_readPart_54 {l : Launch} {p : Program} {e : Env} {s : State} {m : MethodId} {args : Array Value} {below : List Frame} {meth : Method} {c : Code} {Γ : sw_C} {A : Nat → Prop} {ξ : sw_x} {μ : sw_m} {res : sw_g} (S : CallFix p m c prog_5_method_23_code 3 s args (Cond.code yRe_readPart prog_5_method_23_code 3 (none) :: sw_tb) R_Re) (hr : meth.sig.returnType = none) (hlk : meth.locks = false) (rc : sw_g → Option (sw_g)) (rr : Room) (hr0 : rr.cells = 0 ∧ rr.slots = 0) (hrc : ∀ {g : sw_g} {μ : sw_m} (hf : sw_wf ξ g.2.2) {res : sw_g}, rc g  = some res → Met l yRe_readSum (Cond.code yRe_readSum prog_5_method_21_code 3 (none) :: sw_tb) rr (va_Pc [.ref (ξ.2.2.2.1 33)] (sw_V Γ A ξ g μ)) (sw_Qv Γ A ξ res μ (sw_wf ξ res.2.2)) 0 0 A) (N : Nat) : ∀ (g : sw_g) (u1 : Int32) (s0 : Int32) (H : Heap) (locs : List Loc) (ls : Array Slot), fRe_readPart_54 N rc ξ.2.2.1  g u1 s0 = some res → sw_S Γ A ξ g μ s H locs → sw_wf ξ g.2.2 → lv_has ls 3 [(0, .ref (ξ.2.2.2.1 33)), (1, .int u1)] → W p l e (headSpec (Cond.code yRe_readPart prog_5_method_23_code 3 (none) :: sw_tb) (rgRe_readPart rr)).room s m args below meth c H locs 0 0 (MQ below (sw_Qv Γ A ξ res μ (sw_wf ξ res.2.2)) args s 0 0 A) (F0 m 54 ls [.int s0]) := by
  intro g u1 s0 H locs ls hm hw hf hl
  unfold fRe_readPart_54 at hm
  refine lv_istore_n (lv' := [(2, .int s0), (0, .ref (ξ.2.2.2.1 33)), (1, .int u1)]) S.1 S.2.1 dRe_readPart_54 rfl hl (by decide) rfl (fun ls hl => ?_)
  refine lv_iload_n S.1 S.2.1 dRe_readPart_55 rfl (lv_at hl 2 rfl) ?_
  refine lv_iconst (v := (-1 : Int32)) S.1 S.2.1 dRe_readPart_56 (by decide) ?_
  refine bicmp_ne (tgt := 65) S.1 S.2.1 hm dRe_readPart_57 (by decide) (fun hm => ?_) (fun hm => ?_)
  · exact wRe_readPart_65 S hr hlk rc rr hr0 hrc N  g u1 s0 _ _ _ hm hw hf (lv_sub hl [1, 2, 0] rfl)
  · refine lv_iload_n S.1 S.2.1 dRe_readPart_60 rfl (lv_at hl 0 rfl) ?_
    refine lv_iconst (v := (-1 : Int32)) S.1 S.2.1 dRe_readPart_61 (by decide) ?_
    refine bicmp_eq (tgt := 74) S.1 S.2.1 hm dRe_readPart_62 (by decide) (fun hm => ?_) (fun hm => ?_)
    · exact wRe_readPart_74 S hr hlk rc rr hr0 hrc N  g _ _ _ hm hw hf (lv_sub hl [1] rfl)
    · exact wRe_readPart_65 S hr hlk rc rr hr0 hrc N  g u1 s0 _ _ _ hm hw hf (lv_sub hl [1, 2, 0] rfl)
set_option maxHeartbeats 4000000 in
set_option maxRecDepth 100000 in
theorem cRe_readPart (l : Launch) (N : Nat) {Γ : sw_C} {A : Nat → Prop} {ξ : sw_x} (rc : sw_g → Option (sw_g)) (rr : Room) (hr0 : rr.cells = 0 ∧ rr.slots = 0) (hrc : ∀ {g : sw_g} {μ : sw_m} (hf : sw_wf ξ g.2.2) {res : sw_g}, rc g  = some res → Met l yRe_readSum (Cond.code yRe_readSum prog_5_method_21_code 3 (none) :: sw_tb) rr (va_Pc [.ref (ξ.2.2.2.1 33)] (sw_V Γ A ξ g μ)) (sw_Qv Γ A ξ res μ (sw_wf ξ res.2.2)) 0 0 A) {g : sw_g} {μ : sw_m} (hf : sw_wf ξ g.2.2) {res : sw_g} (hm : fRe_readPart N rc ξ.2.2.1 g = some res) : Met l yRe_readPart (Cond.code yRe_readPart prog_5_method_23_code 3 (none) :: sw_tb) (rgRe_readPart rr) (va_Pc [.ref (ξ.2.2.2.1 33)] (sw_V Γ A ξ g μ)) (sw_Qv Γ A ξ res μ (sw_wf ξ res.2.2)) 0 0 A := by
  refine Met.ofW (cc := prog_5_method_23_code) (maxL := 3) (ret := none) (by decide) rfl ?_
  intro p e s m args below meth c s₁ B hml hv
  obtain ⟨rfl, hv⟩ := hv
  have S : CallFix p m c prog_5_method_23_code 3 s _ (Cond.code yRe_readPart prog_5_method_23_code 3 (none) :: sw_tb) R_Re := ⟨B.exec, B.bytes, hml, findClass_of_methodNamed B.named, atoms_spec (ws := (Cond.code yRe_readPart prog_5_method_23_code 3 (none) :: sw_tb)) B.pre⟩
  have hr := B.returns
  have hlk := B.notSynchronized
  have hw := sw_begin hv
  have hl := lv_entry [.ref (ξ.2.2.2.1 33)] (n := 3) (Nat.le_of_ble_eq_true rfl)
  rw [lg_entry_eq]
  generalize (lg_sl [.ref (ξ.2.2.2.1 33)] ++ List.replicate (3 - (lg_sl [.ref (ξ.2.2.2.1 33)]).length) Slot.unset).toArray = ls at hl ⊢
  have hl : lv_has ls 3 [(0, .ref (ξ.2.2.2.1 33))] := hl
  unfold fRe_readPart at hm
  refine lv_aload_n S.1 S.2.1 dRe_readPart_0 rfl (lv_at hl 0 rfl) ?_
  refine va_ldcS S.1 S.2.1 S.2.2.2.1 (hw.2.2.2.2.2.2.1 1 (by decide)) dRe_readPart_1 ?_
  obtain ⟨⟨v3, g2⟩, h1, hm⟩ := ob hm
  refine sw_Vi (q := 33) (rest := []) S hw (cRe_isToken l N hf 1 (by decide) h1) kRe_isToken wm_Re_90 (is_33 hf).1 (e_Re (is_33 hf)) rfl rfl rfl rfl hl.1 (Nat.le_of_ble_eq_true rfl) ⟨rfl, rfl, by show 4 + 1 ≤ rr.frames + _; omega, by show 8 + (3 + 11) + 120 ≤ rr.locals + _; omega⟩ ⟨Nat.le_of_ble_eq_true rfl, Nat.le_of_ble_eq_true rfl⟩ dRe_readPart_3 (fun H locs hw hf => ?_)
  refine bif_eq (tgt := 27) S.1 S.2.1 hm dRe_readPart_6 (by decide) (fun hm => ?_) (fun hm => ?_)
  · refine lv_aload_n S.1 S.2.1 dRe_readPart_27 rfl (lv_at hl 0 rfl) ?_
    refine lv_iconst (v := (0 : Int32)) S.1 S.2.1 dRe_readPart_28 (by decide) ?_
    refine lv_sipush (v := (1000 : Int32)) S.1 S.2.1 dRe_readPart_29 (by decide) ?_
    obtain ⟨⟨v6, g5⟩, h4, hm⟩ := ob hm
    refine sw_Vi (q := 33) (rest := []) S hw (cRe_numberFrom l N hf (0 : Int32) (1000 : Int32) h4) kRe_numberFrom wm_Re_99 (is_33 hf).1 (e_Re (is_33 hf)) rfl rfl rfl rfl hl.1 (Nat.le_of_ble_eq_true rfl) ⟨rfl, rfl, by show 1 + 1 ≤ rr.frames + _; omega, by show 8 + (5 + 11) + 21 ≤ rr.locals + _; omega⟩ ⟨Nat.le_of_ble_eq_true rfl, Nat.le_of_ble_eq_true rfl⟩ dRe_readPart_32 (fun H locs hw hf => ?_)
    refine lv_istore_n (lv' := [(1, .int v6), (0, .ref (ξ.2.2.2.1 33))]) S.1 S.2.1 dRe_readPart_35 rfl hl (by decide) rfl (fun ls hl => ?_)
    refine lv_aload_n S.1 S.2.1 dRe_readPart_36 rfl (lv_at hl 1 rfl) ?_
    refine get_Re (v := .int (g5.1 33 4)) S hw (is_33 hf) 4 (by decide) rfl wf_Re_31 dRe_readPart_37 ?_
    refine bif_eq (tgt := 50) S.1 S.2.1 hm dRe_readPart_40 (by decide) (fun hm => ?_) (fun hm => ?_)
    · refine lv_aload_n S.1 S.2.1 dRe_readPart_50 rfl (lv_at hl 1 rfl) ?_
      obtain ⟨⟨v9, g8⟩, h7, hm⟩ := ob hm
      refine sw_Vi (q := 33) (rest := []) S hw (cRe_orderWord l N hf  h7) kRe_orderWord wm_Re_213 (is_33 hf).1 (e_Re (is_33 hf)) rfl rfl rfl rfl hl.1 (Nat.le_of_ble_eq_true rfl) ⟨rfl, rfl, by show 5 + 1 ≤ rr.frames + _; omega, by show 8 + (1 + 11) + 142 ≤ rr.locals + _; omega⟩ ⟨Nat.le_of_ble_eq_true rfl, Nat.le_of_ble_eq_true rfl⟩ dRe_readPart_51 (fun H locs hw hf => ?_)
      exact wRe_readPart_54 S hr hlk rc rr hr0 hrc N  g8 v6 v9 _ _ _ hm hw hf (lv_sub hl [1, 0] rfl)
    · refine lv_aload_n S.1 S.2.1 dRe_readPart_43 rfl (lv_at hl 1 rfl) ?_
      obtain ⟨⟨v26, g25⟩, h24, hm⟩ := ob hm
      refine sw_Vi (q := 33) (rest := []) S hw (cRe_lawWord l N hf  h24) kRe_lawWord wm_Re_210 (is_33 hf).1 (e_Re (is_33 hf)) rfl rfl rfl rfl hl.1 (Nat.le_of_ble_eq_true rfl) ⟨rfl, rfl, by show 5 + 1 ≤ rr.frames + _; omega, by show 8 + (1 + 11) + 142 ≤ rr.locals + _; omega⟩ ⟨Nat.le_of_ble_eq_true rfl, Nat.le_of_ble_eq_true rfl⟩ dRe_readPart_44 (fun H locs hw hf => ?_)
      refine lv_goto (tgt := 54) S.1 S.2.1 dRe_readPart_47 (by decide) ?_
      exact wRe_readPart_54 S hr hlk rc rr hr0 hrc N  g25 v6 v26 _ _ _ hm hw hf (lv_sub hl [1, 0] rfl)
  · refine lv_aload_n S.1 S.2.1 dRe_readPart_9 rfl (lv_at hl 0 rfl) ?_
    obtain ⟨⟨v29, g28⟩, h27, hm⟩ := ob hm
    refine sw_Vi (q := 33) (rest := []) S hw (cRe_opens l N hf  h27) kRe_opens wm_Re_175 (is_33 hf).1 (e_Re (is_33 hf)) rfl rfl rfl rfl hl.1 (Nat.le_of_ble_eq_true rfl) ⟨rfl, rfl, by show 2 + 1 ≤ rr.frames + _; omega, by show 8 + (1 + 11) + 42 ≤ rr.locals + _; omega⟩ ⟨Nat.le_of_ble_eq_true rfl, Nat.le_of_ble_eq_true rfl⟩ dRe_readPart_10 (fun H locs hw hf => ?_)
    refine bif_eq (tgt := 26) S.1 S.2.1 hm dRe_readPart_13 (by decide) (fun hm => ?_) (fun hm => ?_)
    · obtain rfl := Option.some.inj hm
      exact sw_vret S hr hlk hw hf dRe_readPart_26
    · refine lv_aload_n S.1 S.2.1 dRe_readPart_16 rfl (lv_at hl 0 rfl) ?_
      obtain ⟨g31, h30, hm⟩ := ob hm
      refine sw_Vv (q := 33) (rest := []) S hw (hrc hf  h30) kRe_readSum wm_Re_143 (is_33 hf).1 (e_Re (is_33 hf)) rfl rfl rfl rfl hl.1 (Nat.le_of_ble_eq_true rfl) ⟨hr0.1, hr0.2, by show rr.frames + 1 ≤ rr.frames + _; omega, by show 8 + (3 + 11) + rr.locals ≤ rr.locals + _; omega⟩ ⟨Nat.le_of_ble_eq_true rfl, Nat.le_of_ble_eq_true rfl⟩ dRe_readPart_17 (fun H locs hw hf => ?_)
      refine lv_aload_n S.1 S.2.1 dRe_readPart_20 rfl (lv_at hl 0 rfl) ?_
      refine va_ldcS S.1 S.2.1 S.2.2.2.1 (hw.2.2.2.2.2.2.1 2 (by decide)) dRe_readPart_21 ?_
      obtain ⟨g33, h32, hm⟩ := ob hm
      refine sw_Vv (q := 33) (rest := []) S hw (cRe_closes l N hf 2 (by decide) h32) kRe_closes wm_Re_181 (is_33 hf).1 (e_Re (is_33 hf)) rfl rfl rfl rfl hl.1 (Nat.le_of_ble_eq_true rfl) ⟨rfl, rfl, by show 5 + 1 ≤ rr.frames + _; omega, by show 8 + (2 + 11) + 142 ≤ rr.locals + _; omega⟩ ⟨Nat.le_of_ble_eq_true rfl, Nat.le_of_ble_eq_true rfl⟩ dRe_readPart_23 (fun H locs hw hf => ?_)
      obtain rfl := Option.some.inj hm
      exact sw_vret S hr hlk hw hf dRe_readPart_26
set_option maxHeartbeats 4000000 in
set_option maxRecDepth 100000 in
theorem cRo_howMany (l : Launch) (N : Nat) {Γ : sw_C} {A : Nat → Prop} {ξ : sw_x} {g : sw_g} {μ : sw_m} (hf : sw_wf ξ g.2.2) (a1 : Int32) (a2 : Int32) {res : Int32 × sw_g} (hm : fRo_howMany N ξ.2.2.1 g a1 a2 = some res) : Met l yRo_howMany (Cond.code yRo_howMany prog_7_method_6_code 3 (some .int) :: sw_tb) rmRo_howMany (va_Pc [.ref (ξ.2.2.2.1 49), .int a1, .int a2] (sw_V Γ A ξ g μ)) (sw_Qi Γ A ξ res.2 μ res.1 (sw_wf ξ res.2.2.2)) 0 0 A := by
  refine Met.ofW (cc := prog_7_method_6_code) (maxL := 3) (ret := some .int) (by decide) rfl ?_
  intro p e s m args below meth c s₁ B hml hv
  obtain ⟨rfl, hv⟩ := hv
  have S : CallFix p m c prog_7_method_6_code 3 s _ (Cond.code yRo_howMany prog_7_method_6_code 3 (some .int) :: sw_tb) R_Ro := ⟨B.exec, B.bytes, hml, findClass_of_methodNamed B.named, atoms_spec (ws := (Cond.code yRo_howMany prog_7_method_6_code 3 (some .int) :: sw_tb)) B.pre⟩
  have hr := B.returns
  have hlk := B.notSynchronized
  have hw := sw_begin hv
  have hl := lv_entry [.ref (ξ.2.2.2.1 49), .int a1, .int a2] (n := 3) (Nat.le_of_ble_eq_true rfl)
  rw [lg_entry_eq]
  generalize (lg_sl [.ref (ξ.2.2.2.1 49), .int a1, .int a2] ++ List.replicate (3 - (lg_sl [.ref (ξ.2.2.2.1 49), .int a1, .int a2]).length) Slot.unset).toArray = ls at hl ⊢
  have hl : lv_has ls 3 [(0, .ref (ξ.2.2.2.1 49)), (1, .int a1), (2, .int a2)] := hl
  unfold fRo_howMany at hm
  refine lv_aload_n S.1 S.2.1 dRo_howMany_0 rfl (lv_at hl 0 rfl) ?_
  refine lv_iload_n S.1 S.2.1 dRo_howMany_1 rfl (lv_at hl 1 rfl) ?_
  refine put_Ro S hw hf (is_49 hf) 6 (by decide) ps_Ro_6 rfl rfl rfl wf_Ro_42 hm dRo_howMany_2 (fun g1 H locs hf hm hw => ?_)
  refine lv_aload_n S.1 S.2.1 dRo_howMany_5 rfl (lv_at hl 0 rfl) ?_
  refine lv_iload_n S.1 S.2.1 dRo_howMany_6 rfl (lv_at hl 2 rfl) ?_
  refine put_Ro S hw hf (is_49 hf) 7 (by decide) ps_Ro_7 rfl rfl rfl wf_Ro_46 hm dRo_howMany_7 (fun g2 H locs hf hm hw => ?_)
  refine lv_aload_n S.1 S.2.1 dRo_howMany_10 rfl (lv_at hl 0 rfl) ?_
  refine lv_iconst (v := (0 : Int32)) S.1 S.2.1 dRo_howMany_11 (by decide) ?_
  refine lv_iconst (v := (0 : Int32)) S.1 S.2.1 dRo_howMany_12 (by decide) ?_
  refine lv_iconst (v := (0 : Int32)) S.1 S.2.1 dRo_howMany_13 (by decide) ?_
  obtain ⟨⟨v5, g4⟩, h3, hm⟩ := ob hm
  refine sw_Vi (q := 49) (rest := []) S hw (cRo_manyFrom l N 10 hf (0 : Int32) (0 : Int32) (0 : Int32) h3) kRo_manyFrom wm_Ro_49 (is_49 hf).1 (e_Ro (is_49 hf)) rfl rfl rfl rfl hl.1 (Nat.le_of_ble_eq_true rfl) ⟨rfl, rfl, Nat.le_of_ble_eq_true rfl, Nat.le_of_ble_eq_true rfl⟩ ⟨Nat.le_of_ble_eq_true rfl, Nat.le_of_ble_eq_true rfl⟩ dRo_howMany_14 (fun H locs hw hf => ?_)
  obtain rfl := Option.some.inj hm
  exact sw_iret S hr hlk hw hf dRo_howMany_17
set_option maxHeartbeats 4000000 in
set_option maxRecDepth 100000 in
theorem cSx_claim (l : Launch) (N : Nat) {Γ : sw_C} {A : Nat → Prop} {ξ : sw_x} {g : sw_g} {μ : sw_m} (hf : sw_wf ξ g.2.2) (a1 : Int32) (a2 : Int32) {res : Int32 × sw_g} (hm : fSx_claim N ξ.2.2.1 g a1 a2 = some res) : Met l ySx_claim (Cond.code ySx_claim prog_1_method_2_code 3 (some .int) :: sw_tb) rmSx_claim (va_Pc [.ref (ξ.2.2.2.1 0), .int a1, .int a2] (sw_V Γ A ξ g μ)) (sw_Qi Γ A ξ res.2 μ res.1 (sw_wf ξ res.2.2.2)) 0 0 A := by
  refine Met.ofW (cc := prog_1_method_2_code) (maxL := 3) (ret := some .int) (by decide) rfl ?_
  intro p e s m args below meth c s₁ B hml hv
  obtain ⟨rfl, hv⟩ := hv
  have S : CallFix p m c prog_1_method_2_code 3 s _ (Cond.code ySx_claim prog_1_method_2_code 3 (some .int) :: sw_tb) R_Sx := ⟨B.exec, B.bytes, hml, findClass_of_methodNamed B.named, atoms_spec (ws := (Cond.code ySx_claim prog_1_method_2_code 3 (some .int) :: sw_tb)) B.pre⟩
  have hr := B.returns
  have hlk := B.notSynchronized
  have hw := sw_begin hv
  have hl := lv_entry [.ref (ξ.2.2.2.1 0), .int a1, .int a2] (n := 3) (Nat.le_of_ble_eq_true rfl)
  rw [lg_entry_eq]
  generalize (lg_sl [.ref (ξ.2.2.2.1 0), .int a1, .int a2] ++ List.replicate (3 - (lg_sl [.ref (ξ.2.2.2.1 0), .int a1, .int a2]).length) Slot.unset).toArray = ls at hl ⊢
  have hl : lv_has ls 3 [(0, .ref (ξ.2.2.2.1 0)), (1, .int a1), (2, .int a2)] := hl
  unfold fSx_claim at hm
  refine lv_iload_n S.1 S.2.1 dSx_claim_0 rfl (lv_at hl 1 rfl) ?_
  refine lv_iload_n S.1 S.2.1 dSx_claim_1 rfl (lv_at hl 2 rfl) ?_
  obtain ⟨v2, h1, hm⟩ := ob hm
  refine sw_Si (rest := []) S hw (cSx_canBeClaim l  hf a1 a2 h1) kSx_canBeClaim wm_Sx_81 rfl rfl hl.1 (Nat.le_of_ble_eq_true rfl) ⟨rfl, rfl, Nat.le_of_ble_eq_true rfl, Nat.le_of_ble_eq_true rfl⟩ ⟨Nat.le_of_ble_eq_true rfl, Nat.le_of_ble_eq_true rfl⟩ dSx_claim_2 (fun H locs hw _ => ?_)
  refine bif_ne (tgt := 14) S.1 S.2.1 hm dSx_claim_5 (by decide) (fun hm => ?_) (fun hm => ?_)
  · refine lv_aload_n S.1 S.2.1 dSx_claim_14 rfl (lv_at hl 0 rfl) ?_
    refine get_Sx (v := .ref (ξ.2.2.2.1 1)) S hw (is_0 hf) 0 (by decide) rfl wf_Sx_12 dSx_claim_15 ?_
    refine get_Pl (v := .int (g.1 1 0)) S hw (is_1 hf) 0 (by decide) rfl wf_Sx_89 dSx_claim_18 ?_
    refine lv_bipush (v := (7 : Int32)) S.1 S.2.1 dSx_claim_21 (by decide) ?_
    refine bicmp_lt (tgt := 33) S.1 S.2.1 hm dSx_claim_23 (by decide) (fun hm => ?_) (fun hm => ?_)
    · refine lv_aload_n S.1 S.2.1 dSx_claim_33 rfl (lv_at hl 0 rfl) ?_
      refine get_Sx (v := .ref (ξ.2.2.2.1 29)) S hw (is_0 hf) 4 (by decide) rfl wf_Sx_29 dSx_claim_34 ?_
      obtain ⟨g4, h3, hm⟩ := ob hm
      refine sw_Vv (q := 29) (rest := []) S hw (cHi_clear l  hf 29 (is_29 hf) (is_30 hf) h3) kHi_clear wm_Sx_92 (is_29 hf).1 (e_Hi (is_29 hf)) rfl rfl rfl rfl hl.1 (Nat.le_of_ble_eq_true rfl) ⟨rfl, rfl, Nat.le_of_ble_eq_true rfl, Nat.le_of_ble_eq_true rfl⟩ ⟨Nat.le_of_ble_eq_true rfl, Nat.le_of_ble_eq_true rfl⟩ dSx_claim_37 (fun H locs hw hf => ?_)
      refine lv_aload_n S.1 S.2.1 dSx_claim_40 rfl (lv_at hl 0 rfl) ?_
      refine lv_aload_n S.1 S.2.1 dSx_claim_41 rfl (lv_at hl 0 rfl) ?_
      refine get_Sx (v := .ref (ξ.2.2.2.1 1)) S hw (is_0 hf) 0 (by decide) rfl wf_Sx_12 dSx_claim_42 ?_
      refine lv_iload_n S.1 S.2.1 dSx_claim_45 rfl (lv_at hl 1 rfl) ?_
      refine lv_iload_n S.1 S.2.1 dSx_claim_46 rfl (lv_at hl 2 rfl) ?_
      obtain ⟨⟨v7, g6⟩, h5, hm⟩ := ob hm
      refine sw_Vi (q := 1) (rest := [.ref (ξ.2.2.2.1 0)]) S hw (cPl_addClaim l  hf 1 (is_1 hf) a1 a2 h5) kPl_addClaim wm_Sx_95 (is_1 hf).1 (e_Pl (is_1 hf)) rfl rfl rfl rfl hl.1 (Nat.le_of_ble_eq_true rfl) ⟨rfl, rfl, Nat.le_of_ble_eq_true rfl, Nat.le_of_ble_eq_true rfl⟩ ⟨Nat.le_of_ble_eq_true rfl, Nat.le_of_ble_eq_true rfl⟩ dSx_claim_47 (fun H locs hw hf => ?_)
      obtain ⟨⟨v10, g9⟩, h8, hm⟩ := ob hm
      refine sw_Vi (q := 0) (rest := []) S hw (cSx_told l  hf v7 h8) kSx_told wm_Sx_99 (is_0 hf).1 (e_Sx (is_0 hf)) rfl rfl rfl rfl hl.1 (Nat.le_of_ble_eq_true rfl) ⟨rfl, rfl, Nat.le_of_ble_eq_true rfl, Nat.le_of_ble_eq_true rfl⟩ ⟨Nat.le_of_ble_eq_true rfl, Nat.le_of_ble_eq_true rfl⟩ dSx_claim_50 (fun H locs hw hf => ?_)
      obtain rfl := Option.some.inj hm
      exact sw_iret S hr hlk hw hf dSx_claim_53
    · refine lv_aload_n S.1 S.2.1 dSx_claim_26 rfl (lv_at hl 0 rfl) ?_
      refine lv_bipush (v := (-5 : Int32)) S.1 S.2.1 dSx_claim_27 (by decide) ?_
      obtain ⟨⟨v13, g12⟩, h11, hm⟩ := ob hm
      refine sw_Vi (q := 0) (rest := []) S hw (cSx_refuse l N hf (-5 : Int32) h11) kSx_refuse wm_Sx_85 (is_0 hf).1 (e_Sx (is_0 hf)) rfl rfl rfl rfl hl.1 (Nat.le_of_ble_eq_true rfl) ⟨rfl, rfl, Nat.le_of_ble_eq_true rfl, Nat.le_of_ble_eq_true rfl⟩ ⟨Nat.le_of_ble_eq_true rfl, Nat.le_of_ble_eq_true rfl⟩ dSx_claim_29 (fun H locs hw hf => ?_)
      obtain rfl := Option.some.inj hm
      exact sw_iret S hr hlk hw hf dSx_claim_32
  · refine lv_aload_n S.1 S.2.1 dSx_claim_8 rfl (lv_at hl 0 rfl) ?_
    refine lv_iconst (v := (-1 : Int32)) S.1 S.2.1 dSx_claim_9 (by decide) ?_
    obtain ⟨⟨v16, g15⟩, h14, hm⟩ := ob hm
    refine sw_Vi (q := 0) (rest := []) S hw (cSx_refuse l N hf (-1 : Int32) h14) kSx_refuse wm_Sx_85 (is_0 hf).1 (e_Sx (is_0 hf)) rfl rfl rfl rfl hl.1 (Nat.le_of_ble_eq_true rfl) ⟨rfl, rfl, Nat.le_of_ble_eq_true rfl, Nat.le_of_ble_eq_true rfl⟩ ⟨Nat.le_of_ble_eq_true rfl, Nat.le_of_ble_eq_true rfl⟩ dSx_claim_10 (fun H locs hw hf => ?_)
    obtain rfl := Option.some.inj hm
    exact sw_iret S hr hlk hw hf dSx_claim_13
set_option maxHeartbeats 4000000 in
set_option maxRecDepth 100000 in
theorem wSx_row_71 {l : Launch} {p : Program} {e : Env} {s : State} {m : MethodId} {args : Array Value} {below : List Frame} {meth : Method} {c : Code} {Γ : sw_C} {A : Nat → Prop} {ξ : sw_x} {μ : sw_m} {res : Int32 × sw_g} (S : CallFix p m c prog_1_method_9_code 4 s args (Cond.code ySx_row prog_1_method_9_code 4 (some .int) :: sw_tb) R_Sx) (hr : meth.sig.returnType = some .int) (hlk : meth.locks = false) (N : Nat) (k26 : sw_g → Int32 → Int32 → Option (Int32 × sw_g)) (hk26 : ∀ (g : sw_g) (u1 : Int32) (u2 : Int32) (H : Heap) (locs : List Loc) (ls : Array Slot), k26 g u1 u2 = some res → sw_S Γ A ξ g μ s H locs → sw_wf ξ g.2.2 → lv_has ls 4 [(0, .ref (ξ.2.2.2.1 0)), (1, .int u1), (2, .int u2)] → W p l e (headSpec (Cond.code ySx_row prog_1_method_9_code 4 (some .int) :: sw_tb) rmSx_row).room s m args below meth c H locs 0 0 (MQ below (sw_Qi Γ A ξ res.2 μ res.1 (sw_wf ξ res.2.2.2)) args s 0 0 A) (F0 m 26 ls [])) : ∀ (g : sw_g) (u1 : Int32) (u2 : Int32) (s0 : Int32) (H : Heap) (locs : List Loc) (ls : Array Slot), fSx_row_71 N ξ.2.2.1 k26 g u1 u2 s0 = some res → sw_S Γ A ξ g μ s H locs → sw_wf ξ g.2.2 → lv_has ls 4 [(0, .ref (ξ.2.2.2.1 0)), (1, .int u1), (2, .int u2)] → W p l e (headSpec (Cond.code ySx_row prog_1_method_9_code 4 (some .int) :: sw_tb) rmSx_row).room s m args below meth c H locs 0 0 (MQ below (sw_Qi Γ A ξ res.2 μ res.1 (sw_wf ξ res.2.2.2)) args s 0 0 A) (F0 m 71 ls [.int s0]) := by
  intro g u1 u2 s0 H locs ls hm hw hf hl
  unfold fSx_row_71 at hm
  refine lv_istore_n (lv' := [(3, .int s0), (0, .ref (ξ.2.2.2.1 0)), (1, .int u1), (2, .int u2)]) S.1 S.2.1 dSx_row_71 rfl hl (by decide) rfl (fun ls hl => ?_)
  refine lv_iload_n S.1 S.2.1 dSx_row_72 rfl (lv_at hl 0 rfl) ?_
  refine bif_eq (tgt := 148) S.1 S.2.1 hm dSx_row_73 (by decide) (fun hm => ?_) (fun hm => ?_)
  · refine lv_aload_n S.1 S.2.1 dSx_row_148 rfl (lv_at hl 1 rfl) ?_
    refine lv_dup S.1 S.2.1 dSx_row_149 rfl ?_
    refine get_Sx (v := .int (g.1 0 15)) S hw (is_0 hf) 15 (by decide) rfl wf_Sx_163 dSx_row_150 ?_
    refine lv_iconst (v := (1 : Int32)) S.1 S.2.1 dSx_row_153 (by decide) ?_
    refine lv_iadd S.1 S.2.1 dSx_row_154 ?_
    refine put_Sx S hw hf (is_0 hf) 15 (by decide) ps_Sx_15 rfl rfl rfl wf_Sx_163 hm dSx_row_155 (fun g8 H locs hf hm hw => ?_)
    obtain ⟨x9, ex9, hm⟩ := nm_x hm
    refine lv_iinc (v := x9) (lv' := [(2, .int x9), (3, .int s0), (0, .ref (ξ.2.2.2.1 0)), (1, .int u1)]) S.1 S.2.1 dSx_row_158 hl (k := 3) rfl (by rw [ex9]; rfl) (by decide) rfl (fun ls hl => ?_)
    refine lv_goto (tgt := 26) S.1 S.2.1 dSx_row_161 (by decide) ?_
    exact hk26 g8 u1 x9 _ _ _ hm hw hf (lv_sub hl [2, 3, 0] rfl)
  · refine lv_aload_n S.1 S.2.1 dSx_row_76 rfl (lv_at hl 1 rfl) ?_
    refine get_Sx (v := .ref (ξ.2.2.2.1 1)) S hw (is_0 hf) 0 (by decide) rfl wf_Sx_12 dSx_row_77 ?_
    refine get_Pl (v := .int (g.1 1 0)) S hw (is_1 hf) 0 (by decide) rfl wf_Sx_89 dSx_row_80 ?_
    refine lv_bipush (v := (7 : Int32)) S.1 S.2.1 dSx_row_83 (by decide) ?_
    refine bicmp_ge (tgt := 148) S.1 S.2.1 hm dSx_row_85 (by decide) (fun hm => ?_) (fun hm => ?_)
    · refine lv_aload_n S.1 S.2.1 dSx_row_148 rfl (lv_at hl 1 rfl) ?_
      refine lv_dup S.1 S.2.1 dSx_row_149 rfl ?_
      refine get_Sx (v := .int (g.1 0 15)) S hw (is_0 hf) 15 (by decide) rfl wf_Sx_163 dSx_row_150 ?_
      refine lv_iconst (v := (1 : Int32)) S.1 S.2.1 dSx_row_153 (by decide) ?_
      refine lv_iadd S.1 S.2.1 dSx_row_154 ?_
      refine put_Sx S hw hf (is_0 hf) 15 (by decide) ps_Sx_15 rfl rfl rfl wf_Sx_163 hm dSx_row_155 (fun g10 H locs hf hm hw => ?_)
      obtain ⟨x11, ex11, hm⟩ := nm_x hm
      refine lv_iinc (v := x11) (lv' := [(2, .int x11), (3, .int s0), (0, .ref (ξ.2.2.2.1 0)), (1, .int u1)]) S.1 S.2.1 dSx_row_158 hl (k := 3) rfl (by rw [ex11]; rfl) (by decide) rfl (fun ls hl => ?_)
      refine lv_goto (tgt := 26) S.1 S.2.1 dSx_row_161 (by decide) ?_
      exact hk26 g10 u1 x11 _ _ _ hm hw hf (lv_sub hl [2, 3, 0] rfl)
    · refine lv_aload_n S.1 S.2.1 dSx_row_88 rfl (lv_at hl 1 rfl) ?_
      refine get_Sx (v := .ref (ξ.2.2.2.1 33)) S hw (is_0 hf) 6 (by decide) rfl wf_Sx_39 dSx_row_89 ?_
      refine get_Re (v := .ref (ξ.2.2.2.1 34)) S hw (is_33 hf) 1 (by decide) rfl wf_Sx_166 dSx_row_92 ?_
      refine lv_iload_n S.1 S.2.1 dSx_row_95 rfl (lv_at hl 3 rfl) ?_
      refine sx_iald S hw (is_34 hf) hm dSx_row_96 (fun v12 hm => ?_)
      refine lv_aload_n S.1 S.2.1 dSx_row_97 rfl (lv_at hl 1 rfl) ?_
      refine get_Sx (v := .ref (ξ.2.2.2.1 33)) S hw (is_0 hf) 6 (by decide) rfl wf_Sx_39 dSx_row_98 ?_
      refine get_Re (v := .ref (ξ.2.2.2.1 34)) S hw (is_33 hf) 1 (by decide) rfl wf_Sx_166 dSx_row_101 ?_
      refine lv_iload_n S.1 S.2.1 dSx_row_104 rfl (lv_at hl 3 rfl) ?_
      refine lv_iconst (v := (1 : Int32)) S.1 S.2.1 dSx_row_105 (by decide) ?_
      refine lv_iadd S.1 S.2.1 dSx_row_106 ?_
      refine sx_iald S hw (is_34 hf) hm dSx_row_107 (fun v13 hm => ?_)
      obtain ⟨v15, h14, hm⟩ := ob hm
      refine sw_Si (rest := []) S hw (cSx_canBeClaim l  hf v12 v13 h14) kSx_canBeClaim wm_Sx_81 rfl rfl hl.1 (Nat.le_of_ble_eq_true rfl) ⟨rfl, rfl, Nat.le_of_ble_eq_true rfl, Nat.le_of_ble_eq_true rfl⟩ ⟨Nat.le_of_ble_eq_true rfl, Nat.le_of_ble_eq_true rfl⟩ dSx_row_108 (fun H locs hw _ => ?_)
      refine bif_eq (tgt := 148) S.1 S.2.1 hm dSx_row_111 (by decide) (fun hm => ?_) (fun hm => ?_)
      · refine lv_aload_n S.1 S.2.1 dSx_row_148 rfl (lv_at hl 1 rfl) ?_
        refine lv_dup S.1 S.2.1 dSx_row_149 rfl ?_
        refine get_Sx (v := .int (g.1 0 15)) S hw (is_0 hf) 15 (by decide) rfl wf_Sx_163 dSx_row_150 ?_
        refine lv_iconst (v := (1 : Int32)) S.1 S.2.1 dSx_row_153 (by decide) ?_
        refine lv_iadd S.1 S.2.1 dSx_row_154 ?_
        refine put_Sx S hw hf (is_0 hf) 15 (by decide) ps_Sx_15 rfl rfl rfl wf_Sx_163 hm dSx_row_155 (fun g16 H locs hf hm hw => ?_)
        obtain ⟨x17, ex17, hm⟩ := nm_x hm
        refine lv_iinc (v := x17) (lv' := [(2, .int x17), (3, .int s0), (0, .ref (ξ.2.2.2.1 0)), (1, .int u1)]) S.1 S.2.1 dSx_row_158 hl (k := 3) rfl (by rw [ex17]; rfl) (by decide) rfl (fun ls hl => ?_)
        refine lv_goto (tgt := 26) S.1 S.2.1 dSx_row_161 (by decide) ?_
        exact hk26 g16 u1 x17 _ _ _ hm hw hf (lv_sub hl [2, 3, 0] rfl)
      · refine lv_aload_n S.1 S.2.1 dSx_row_114 rfl (lv_at hl 1 rfl) ?_
        refine get_Sx (v := .ref (ξ.2.2.2.1 1)) S hw (is_0 hf) 0 (by decide) rfl wf_Sx_12 dSx_row_115 ?_
        refine lv_aload_n S.1 S.2.1 dSx_row_118 rfl (lv_at hl 1 rfl) ?_
        refine get_Sx (v := .ref (ξ.2.2.2.1 33)) S hw (is_0 hf) 6 (by decide) rfl wf_Sx_39 dSx_row_119 ?_
        refine get_Re (v := .ref (ξ.2.2.2.1 34)) S hw (is_33 hf) 1 (by decide) rfl wf_Sx_166 dSx_row_122 ?_
        refine lv_iload_n S.1 S.2.1 dSx_row_125 rfl (lv_at hl 3 rfl) ?_
        refine sx_iald S hw (is_34 hf) hm dSx_row_126 (fun v18 hm => ?_)
        refine lv_aload_n S.1 S.2.1 dSx_row_127 rfl (lv_at hl 1 rfl) ?_
        refine get_Sx (v := .ref (ξ.2.2.2.1 33)) S hw (is_0 hf) 6 (by decide) rfl wf_Sx_39 dSx_row_128 ?_
        refine get_Re (v := .ref (ξ.2.2.2.1 34)) S hw (is_33 hf) 1 (by decide) rfl wf_Sx_166 dSx_row_131 ?_
        refine lv_iload_n S.1 S.2.1 dSx_row_134 rfl (lv_at hl 3 rfl) ?_
        refine lv_iconst (v := (1 : Int32)) S.1 S.2.1 dSx_row_135 (by decide) ?_
        refine lv_iadd S.1 S.2.1 dSx_row_136 ?_
        refine sx_iald S hw (is_34 hf) hm dSx_row_137 (fun v19 hm => ?_)
        obtain ⟨⟨v22, g21⟩, h20, hm⟩ := ob hm
        refine sw_Vi (q := 1) (rest := []) S hw (cPl_addClaim l  hf 1 (is_1 hf) v18 v19 h20) kPl_addClaim wm_Sx_95 (is_1 hf).1 (e_Pl (is_1 hf)) rfl rfl rfl rfl hl.1 (Nat.le_of_ble_eq_true rfl) ⟨rfl, rfl, Nat.le_of_ble_eq_true rfl, Nat.le_of_ble_eq_true rfl⟩ ⟨Nat.le_of_ble_eq_true rfl, Nat.le_of_ble_eq_true rfl⟩ dSx_row_138 (fun H locs hw hf => ?_)
        refine lv_pop S.1 S.2.1 dSx_row_141 rfl ?_
        obtain ⟨x23, ex23, hm⟩ := nm_x hm
        refine lv_iinc (v := x23) (lv' := [(1, .int x23), (3, .int s0), (0, .ref (ξ.2.2.2.1 0)), (2, .int u2)]) S.1 S.2.1 dSx_row_142 hl (k := 2) rfl (by rw [ex23]; rfl) (by decide) rfl (fun ls hl => ?_)
        refine lv_goto (tgt := 158) S.1 S.2.1 dSx_row_145 (by decide) ?_
        obtain ⟨x24, ex24, hm⟩ := nm_x hm
        refine lv_iinc (v := x24) (lv' := [(2, .int x24), (1, .int x23), (3, .int s0), (0, .ref (ξ.2.2.2.1 0))]) S.1 S.2.1 dSx_row_158 hl (k := 3) rfl (by rw [ex24]; rfl) (by decide) rfl (fun ls hl => ?_)
        refine lv_goto (tgt := 26) S.1 S.2.1 dSx_row_161 (by decide) ?_
        exact hk26 g21 x23 x24 _ _ _ hm hw hf (lv_sub hl [3, 1, 0] rfl)
set_option maxHeartbeats 4000000 in
set_option maxRecDepth 100000 in
theorem wSx_row_164 {l : Launch} {p : Program} {e : Env} {s : State} {m : MethodId} {args : Array Value} {below : List Frame} {meth : Method} {c : Code} {Γ : sw_C} {A : Nat → Prop} {ξ : sw_x} {μ : sw_m} {res : Int32 × sw_g} (S : CallFix p m c prog_1_method_9_code 4 s args (Cond.code ySx_row prog_1_method_9_code 4 (some .int) :: sw_tb) R_Sx) (hr : meth.sig.returnType = some .int) (hlk : meth.locks = false) (N : Nat) : ∀ (g : sw_g) (u1 : Int32) (H : Heap) (locs : List Loc) (ls : Array Slot), fSx_row_164 N ξ.2.2.1  g u1 = some res → sw_S Γ A ξ g μ s H locs → sw_wf ξ g.2.2 → lv_has ls 4 [(0, .ref (ξ.2.2.2.1 0)), (1, .int u1)] → W p l e (headSpec (Cond.code ySx_row prog_1_method_9_code 4 (some .int) :: sw_tb) rmSx_row).room s m args below meth c H locs 0 0 (MQ below (sw_Qi Γ A ξ res.2 μ res.1 (sw_wf ξ res.2.2.2)) args s 0 0 A) (F0 m 164 ls []) := by
  intro g u1 H locs ls hm hw hf hl
  unfold fSx_row_164 at hm
  refine lv_aload_n S.1 S.2.1 dSx_row_164 rfl (lv_at hl 0 rfl) ?_
  refine get_Sx (v := .ref (ξ.2.2.2.1 33)) S hw (is_0 hf) 6 (by decide) rfl wf_Sx_39 dSx_row_165 ?_
  refine lv_iconst (v := (0 : Int32)) S.1 S.2.1 dSx_row_168 (by decide) ?_
  refine put_Re S hw hf (is_33 hf) 0 (by decide) ps_Re_0 rfl rfl rfl wf_Sx_156 hm dSx_row_169 (fun g2 H locs hf hm hw => ?_)
  refine lv_aload_n S.1 S.2.1 dSx_row_172 rfl (lv_at hl 0 rfl) ?_
  refine get_Sx (v := .ref (ξ.2.2.2.1 29)) S hw (is_0 hf) 4 (by decide) rfl wf_Sx_29 dSx_row_173 ?_
  obtain ⟨g4, h3, hm⟩ := ob hm
  refine sw_Vv (q := 29) (rest := []) S hw (cHi_clear l  hf 29 (is_29 hf) (is_30 hf) h3) kHi_clear wm_Sx_92 (is_29 hf).1 (e_Hi (is_29 hf)) rfl rfl rfl rfl hl.1 (Nat.le_of_ble_eq_true rfl) ⟨rfl, rfl, Nat.le_of_ble_eq_true rfl, Nat.le_of_ble_eq_true rfl⟩ ⟨Nat.le_of_ble_eq_true rfl, Nat.le_of_ble_eq_true rfl⟩ dSx_row_176 (fun H locs hw hf => ?_)
  refine lv_aload_n S.1 S.2.1 dSx_row_179 rfl (lv_at hl 0 rfl) ?_
  refine lv_iload_n S.1 S.2.1 dSx_row_180 rfl (lv_at hl 1 rfl) ?_
  obtain ⟨⟨v7, g6⟩, h5, hm⟩ := ob hm
  refine sw_Vi (q := 0) (rest := []) S hw (cSx_told l  hf u1 h5) kSx_told wm_Sx_99 (is_0 hf).1 (e_Sx (is_0 hf)) rfl rfl rfl rfl hl.1 (Nat.le_of_ble_eq_true rfl) ⟨rfl, rfl, Nat.le_of_ble_eq_true rfl, Nat.le_of_ble_eq_true rfl⟩ ⟨Nat.le_of_ble_eq_true rfl, Nat.le_of_ble_eq_true rfl⟩ dSx_row_181 (fun H locs hw hf => ?_)
  obtain rfl := Option.some.inj hm
  exact sw_iret S hr hlk hw hf dSx_row_184
set_option maxHeartbeats 4000000 in
set_option maxRecDepth 100000 in
theorem wSx_row_26 {l : Launch} {p : Program} {e : Env} {s : State} {m : MethodId} {args : Array Value} {below : List Frame} {meth : Method} {c : Code} {Γ : sw_C} {A : Nat → Prop} {ξ : sw_x} {μ : sw_m} {res : Int32 × sw_g} (S : CallFix p m c prog_1_method_9_code 4 s args (Cond.code ySx_row prog_1_method_9_code 4 (some .int) :: sw_tb) R_Sx) (hr : meth.sig.returnType = some .int) (hlk : meth.locks = false) (N : Nat) : ∀ (fu : Nat) (g : sw_g) (u1 : Int32) (u2 : Int32) (H : Heap) (locs : List Loc) (ls : Array Slot), fSx_row_26 N ξ.2.2.1  fu g u1 u2 = some res → sw_S Γ A ξ g μ s H locs → sw_wf ξ g.2.2 → lv_has ls 4 [(0, .ref (ξ.2.2.2.1 0)), (1, .int u1), (2, .int u2)] → W p l e (headSpec (Cond.code ySx_row prog_1_method_9_code 4 (some .int) :: sw_tb) rmSx_row).room s m args below meth c H locs 0 0 (MQ below (sw_Qi Γ A ξ res.2 μ res.1 (sw_wf ξ res.2.2.2)) args s 0 0 A) (F0 m 26 ls []) := by
  intro fu
  induction fu with
  | zero => intro g u1 u2 H locs ls hm; rw [fSx_row_26.eq_1] at hm; cases hm
  | succ fu ih =>
    intro g u1 u2 H locs ls hm hw hf hl
    rw [fSx_row_26.eq_2] at hm
    refine lv_iload_n S.1 S.2.1 dSx_row_26 rfl (lv_at hl 2 rfl) ?_
    refine lv_aload_n S.1 S.2.1 dSx_row_27 rfl (lv_at hl 0 rfl) ?_
    refine get_Sx (v := .ref (ξ.2.2.2.1 33)) S hw (is_0 hf) 6 (by decide) rfl wf_Sx_39 dSx_row_28 ?_
    refine get_Re (v := .int (g.1 33 0)) S hw (is_33 hf) 0 (by decide) rfl wf_Sx_156 dSx_row_31 ?_
    refine bicmp_ge (tgt := 164) S.1 S.2.1 hm dSx_row_34 (by decide) (fun hm => ?_) (fun hm => ?_)
    · exact wSx_row_164 S hr hlk N  g u1 _ _ _ hm hw hf (lv_sub hl [0, 1] rfl)
    · refine lv_iload_n S.1 S.2.1 dSx_row_37 rfl (lv_at hl 2 rfl) ?_
      refine lv_sipush (v := (400 : Int32)) S.1 S.2.1 dSx_row_38 (by decide) ?_
      refine bicmp_ge (tgt := 164) S.1 S.2.1 hm dSx_row_41 (by decide) (fun hm => ?_) (fun hm => ?_)
      · exact wSx_row_164 S hr hlk N  g u1 _ _ _ hm hw hf (lv_sub hl [0, 1] rfl)
      · refine lv_iload_n S.1 S.2.1 dSx_row_44 rfl (lv_at hl 2 rfl) ?_
        refine lv_iconst (v := (1 : Int32)) S.1 S.2.1 dSx_row_45 (by decide) ?_
        refine lv_iadd S.1 S.2.1 dSx_row_46 ?_
        refine lv_aload_n S.1 S.2.1 dSx_row_47 rfl (lv_at hl 0 rfl) ?_
        refine get_Sx (v := .ref (ξ.2.2.2.1 33)) S hw (is_0 hf) 6 (by decide) rfl wf_Sx_39 dSx_row_48 ?_
        refine get_Re (v := .int (g.1 33 0)) S hw (is_33 hf) 0 (by decide) rfl wf_Sx_156 dSx_row_51 ?_
        refine bicmp_ge (tgt := 70) S.1 S.2.1 hm dSx_row_54 (by decide) (fun hm => ?_) (fun hm => ?_)
        · refine lv_iconst (v := (0 : Int32)) S.1 S.2.1 dSx_row_70 (by decide) ?_
          exact wSx_row_71 S hr hlk N (fSx_row_26 N ξ.2.2.1  fu) ih g u1 u2 (0 : Int32) _ _ _ hm hw hf (lv_sub hl [0, 1, 2] rfl)
        · refine lv_iload_n S.1 S.2.1 dSx_row_57 rfl (lv_at hl 2 rfl) ?_
          refine lv_iconst (v := (1 : Int32)) S.1 S.2.1 dSx_row_58 (by decide) ?_
          refine lv_iadd S.1 S.2.1 dSx_row_59 ?_
          refine lv_sipush (v := (400 : Int32)) S.1 S.2.1 dSx_row_60 (by decide) ?_
          refine bicmp_ge (tgt := 70) S.1 S.2.1 hm dSx_row_63 (by decide) (fun hm => ?_) (fun hm => ?_)
          · refine lv_iconst (v := (0 : Int32)) S.1 S.2.1 dSx_row_70 (by decide) ?_
            exact wSx_row_71 S hr hlk N (fSx_row_26 N ξ.2.2.1  fu) ih g u1 u2 (0 : Int32) _ _ _ hm hw hf (lv_sub hl [0, 1, 2] rfl)
          · refine lv_iconst (v := (1 : Int32)) S.1 S.2.1 dSx_row_66 (by decide) ?_
            refine lv_goto (tgt := 71) S.1 S.2.1 dSx_row_67 (by decide) ?_
            exact wSx_row_71 S hr hlk N (fSx_row_26 N ξ.2.2.1  fu) ih g u1 u2 (1 : Int32) _ _ _ hm hw hf (lv_sub hl [0, 1, 2] rfl)
set_option maxHeartbeats 4000000 in
set_option maxRecDepth 100000 in
theorem cSx_row (l : Launch) (N : Nat) {Γ : sw_C} {A : Nat → Prop} {ξ : sw_x} {g : sw_g} {μ : sw_m} (hf : sw_wf ξ g.2.2) {res : Int32 × sw_g} (hm : fSx_row N ξ.2.2.1 g = some res) : Met l ySx_row (Cond.code ySx_row prog_1_method_9_code 4 (some .int) :: sw_tb) rmSx_row (va_Pc [.ref (ξ.2.2.2.1 0)] (sw_V Γ A ξ g μ)) (sw_Qi Γ A ξ res.2 μ res.1 (sw_wf ξ res.2.2.2)) 0 0 A := by
  refine Met.ofW (cc := prog_1_method_9_code) (maxL := 4) (ret := some .int) (by decide) rfl ?_
  intro p e s m args below meth c s₁ B hml hv
  obtain ⟨rfl, hv⟩ := hv
  have S : CallFix p m c prog_1_method_9_code 4 s _ (Cond.code ySx_row prog_1_method_9_code 4 (some .int) :: sw_tb) R_Sx := ⟨B.exec, B.bytes, hml, findClass_of_methodNamed B.named, atoms_spec (ws := (Cond.code ySx_row prog_1_method_9_code 4 (some .int) :: sw_tb)) B.pre⟩
  have hr := B.returns
  have hlk := B.notSynchronized
  have hw := sw_begin hv
  have hl := lv_entry [.ref (ξ.2.2.2.1 0)] (n := 4) (Nat.le_of_ble_eq_true rfl)
  rw [lg_entry_eq]
  generalize (lg_sl [.ref (ξ.2.2.2.1 0)] ++ List.replicate (4 - (lg_sl [.ref (ξ.2.2.2.1 0)]).length) Slot.unset).toArray = ls at hl ⊢
  have hl : lv_has ls 4 [(0, .ref (ξ.2.2.2.1 0))] := hl
  unfold fSx_row at hm
  refine lv_aload_n S.1 S.2.1 dSx_row_0 rfl (lv_at hl 0 rfl) ?_
  refine get_Sx (v := .ref (ξ.2.2.2.1 33)) S hw (is_0 hf) 6 (by decide) rfl wf_Sx_39 dSx_row_1 ?_
  refine get_Re (v := .int (g.1 33 0)) S hw (is_33 hf) 0 (by decide) rfl wf_Sx_156 dSx_row_4 ?_
  refine bif_ne (tgt := 17) S.1 S.2.1 hm dSx_row_7 (by decide) (fun hm => ?_) (fun hm => ?_)
  · refine lv_iconst (v := (0 : Int32)) S.1 S.2.1 dSx_row_17 (by decide) ?_
    refine lv_istore_n (lv' := [(1, .int (0 : Int32)), (0, .ref (ξ.2.2.2.1 0))]) S.1 S.2.1 dSx_row_18 rfl hl (by decide) rfl (fun ls hl => ?_)
    refine lv_aload_n S.1 S.2.1 dSx_row_19 rfl (lv_at hl 1 rfl) ?_
    refine lv_iconst (v := (0 : Int32)) S.1 S.2.1 dSx_row_20 (by decide) ?_
    refine put_Sx S hw hf (is_0 hf) 15 (by decide) ps_Sx_15 rfl rfl rfl wf_Sx_163 hm dSx_row_21 (fun g1 H locs hf hm hw => ?_)
    refine lv_iconst (v := (0 : Int32)) S.1 S.2.1 dSx_row_24 (by decide) ?_
    refine lv_istore_n (lv' := [(2, .int (0 : Int32)), (1, .int (0 : Int32)), (0, .ref (ξ.2.2.2.1 0))]) S.1 S.2.1 dSx_row_25 rfl hl (by decide) rfl (fun ls hl => ?_)
    exact wSx_row_26 S hr hlk N  N g1 (0 : Int32) (0 : Int32) _ _ _ hm hw hf (lv_sub hl [2, 1, 0] rfl)
  · refine lv_aload_n S.1 S.2.1 dSx_row_10 rfl (lv_at hl 0 rfl) ?_
    refine lv_bipush (v := (-6 : Int32)) S.1 S.2.1 dSx_row_11 (by decide) ?_
    obtain ⟨⟨v27, g26⟩, h25, hm⟩ := ob hm
    refine sw_Vi (q := 0) (rest := []) S hw (cSx_refuse l N hf (-6 : Int32) h25) kSx_refuse wm_Sx_85 (is_0 hf).1 (e_Sx (is_0 hf)) rfl rfl rfl rfl hl.1 (Nat.le_of_ble_eq_true rfl) ⟨rfl, rfl, Nat.le_of_ble_eq_true rfl, Nat.le_of_ble_eq_true rfl⟩ ⟨Nat.le_of_ble_eq_true rfl, Nat.le_of_ble_eq_true rfl⟩ dSx_row_13 (fun H locs hw hf => ?_)
    obtain rfl := Option.some.inj hm
    exact sw_iret S hr hlk hw hf dSx_row_16
set_option maxHeartbeats 4000000 in
set_option maxRecDepth 100000 in
theorem wSx_shares_85 {l : Launch} {p : Program} {e : Env} {s : State} {m : MethodId} {args : Array Value} {below : List Frame} {meth : Method} {c : Code} {Γ : sw_C} {A : Nat → Prop} {ξ : sw_x} {μ : sw_m} {res : Int32 × sw_g} (S : CallFix p m c prog_1_method_26_code 8 s args (Cond.code ySx_shares prog_1_method_26_code 8 (some .int) :: sw_tb) R_Sx) (hr : meth.sig.returnType = some .int) (hlk : meth.locks = false) (N : Nat) (k41 : sw_g → Int32 → Int32 → Int32 → Int32 → Int32 → Int32 → Option (Int32 × sw_g)) (hk41 : ∀ (g : sw_g) (u1 : Int32) (u2 : Int32) (u3 : Int32) (u4 : Int32) (u5 : Int32) (u6 : Int32) (H : Heap) (locs : List Loc) (ls : Array Slot), k41 g u1 u2 u3 u4 u5 u6 = some res → sw_S Γ A ξ g μ s H locs → sw_wf ξ g.2.2 → lv_has ls 8 [(0, .ref (ξ.2.2.2.1 0)), (1, .int u1), (2, .int u2), (3, .int u3), (4, .int u4), (5, .int u5), (6, .int u6)] → W p l e (headSpec (Cond.code ySx_shares prog_1_method_26_code 8 (some .int) :: sw_tb) rmSx_shares).room s m args below meth c H locs 0 0 (MQ below (sw_Qi Γ A ξ res.2 μ res.1 (sw_wf ξ res.2.2.2)) args s 0 0 A) (F0 m 41 ls [])) : ∀ (g : sw_g) (u1 : Int32) (u2 : Int32) (u3 : Int32) (u4 : Int32) (u5 : Int32) (u6 : Int32) (u7 : Int32) (H : Heap) (locs : List Loc) (ls : Array Slot), fSx_shares_85 N ξ.2.2.1 k41 g u1 u2 u3 u4 u5 u6 u7 = some res → sw_S Γ A ξ g μ s H locs → sw_wf ξ g.2.2 → lv_has ls 8 [(0, .ref (ξ.2.2.2.1 0)), (1, .int u1), (2, .int u2), (3, .int u3), (4, .int u4), (5, .int u5), (6, .int u6), (7, .int u7)] → W p l e (headSpec (Cond.code ySx_shares prog_1_method_26_code 8 (some .int) :: sw_tb) rmSx_shares).room s m args below meth c H locs 0 0 (MQ below (sw_Qi Γ A ξ res.2 μ res.1 (sw_wf ξ res.2.2.2)) args s 0 0 A) (F0 m 85 ls []) := by
  intro g u1 u2 u3 u4 u5 u6 u7 H locs ls hm hw hf hl
  unfold fSx_shares_85 at hm
  refine lv_iload S.1 S.2.1 dSx_shares_85 (lv_at hl 7 rfl) ?_
  refine lv_iload_n S.1 S.2.1 dSx_shares_87 rfl (lv_at hl 3 rfl) ?_
  refine bicmp_ne (tgt := 94) S.1 S.2.1 hm dSx_shares_88 (by decide) (fun hm => ?_) (fun hm => ?_)
  · obtain ⟨x7, ex7, hm⟩ := nm_x hm
    refine lv_iinc (v := x7) (lv' := [(6, .int x7), (0, .ref (ξ.2.2.2.1 0)), (1, .int u1), (2, .int u2), (3, .int u3), (4, .int u4), (5, .int u5), (7, .int u7)]) S.1 S.2.1 dSx_shares_94 hl (k := 6) rfl (by rw [ex7]; rfl) (by decide) rfl (fun ls hl => ?_)
    refine lv_goto (tgt := 41) S.1 S.2.1 dSx_shares_97 (by decide) ?_
    exact hk41 g u1 u2 u3 u4 u5 x7 _ _ _ hm hw hf (lv_sub hl [1, 2, 3, 4, 5, 6, 0] rfl)
  · obtain ⟨x8, ex8, hm⟩ := nm_x hm
    refine lv_iinc (v := x8) (lv' := [(5, .int x8), (0, .ref (ξ.2.2.2.1 0)), (1, .int u1), (2, .int u2), (3, .int u3), (4, .int u4), (6, .int u6), (7, .int u7)]) S.1 S.2.1 dSx_shares_91 hl (k := 5) rfl (by rw [ex8]; rfl) (by decide) rfl (fun ls hl => ?_)
    obtain ⟨x9, ex9, hm⟩ := nm_x hm
    refine lv_iinc (v := x9) (lv' := [(6, .int x9), (5, .int x8), (0, .ref (ξ.2.2.2.1 0)), (1, .int u1), (2, .int u2), (3, .int u3), (4, .int u4), (7, .int u7)]) S.1 S.2.1 dSx_shares_94 hl (k := 6) rfl (by rw [ex9]; rfl) (by decide) rfl (fun ls hl => ?_)
    refine lv_goto (tgt := 41) S.1 S.2.1 dSx_shares_97 (by decide) ?_
    exact hk41 g u1 u2 u3 u4 x8 x9 _ _ _ hm hw hf (lv_sub hl [2, 3, 4, 5, 6, 1, 0] rfl)
set_option maxHeartbeats 4000000 in
set_option maxRecDepth 100000 in
theorem wSx_shares_41 {l : Launch} {p : Program} {e : Env} {s : State} {m : MethodId} {args : Array Value} {below : List Frame} {meth : Method} {c : Code} {Γ : sw_C} {A : Nat → Prop} {ξ : sw_x} {μ : sw_m} {res : Int32 × sw_g} (S : CallFix p m c prog_1_method_26_code 8 s args (Cond.code ySx_shares prog_1_method_26_code 8 (some .int) :: sw_tb) R_Sx) (hr : meth.sig.returnType = some .int) (hlk : meth.locks = false) (N : Nat) : ∀ (fu : Nat) (g : sw_g) (u1 : Int32) (u2 : Int32) (u3 : Int32) (u4 : Int32) (u5 : Int32) (u6 : Int32) (H : Heap) (locs : List Loc) (ls : Array Slot), fSx_shares_41 N ξ.2.2.1  fu g u1 u2 u3 u4 u5 u6 = some res → sw_S Γ A ξ g μ s H locs → sw_wf ξ g.2.2 → lv_has ls 8 [(0, .ref (ξ.2.2.2.1 0)), (1, .int u1), (2, .int u2), (3, .int u3), (4, .int u4), (5, .int u5), (6, .int u6)] → W p l e (headSpec (Cond.code ySx_shares prog_1_method_26_code 8 (some .int) :: sw_tb) rmSx_shares).room s m args below meth c H locs 0 0 (MQ below (sw_Qi Γ A ξ res.2 μ res.1 (sw_wf ξ res.2.2.2)) args s 0 0 A) (F0 m 41 ls []) := by
  intro fu
  induction fu with
  | zero => intro g u1 u2 u3 u4 u5 u6 H locs ls hm; rw [fSx_shares_41.eq_1] at hm; cases hm
  | succ fu ih =>
    intro g u1 u2 u3 u4 u5 u6 H locs ls hm hw hf hl
    rw [fSx_shares_41.eq_2] at hm
    refine lv_iload S.1 S.2.1 dSx_shares_41 (lv_at hl 6 rfl) ?_
    refine lv_iload_n S.1 S.2.1 dSx_shares_43 rfl (lv_at hl 2 rfl) ?_
    refine bicmp_gt (tgt := 100) S.1 S.2.1 hm dSx_shares_44 (by decide) (fun hm => ?_) (fun hm => ?_)
    · refine lv_iload_n S.1 S.2.1 dSx_shares_100 rfl (lv_at hl 1 rfl) ?_
      by_cases c0 : u1 = (0 : Int32)
      · have hm := sw_it c0 hm
        refine lv_tableIn (off := 27) (tgt := 128) S.1 S.2.1 dSx_shares_101 (by rw [c0]; decide) (by rw [c0]; decide) (by rw [c0]; decide) (by decide) ?_
        refine lv_iload_n S.1 S.2.1 dSx_shares_128 rfl (lv_at hl 3 rfl) ?_
        obtain rfl := Option.some.inj hm
        exact sw_iret S hr hlk hw hf dSx_shares_129
      · have hm := sw_if c0 hm
        by_cases c1 : u1 = (1 : Int32)
        · have hm := sw_it c1 hm
          refine lv_tableIn (off := 29) (tgt := 130) S.1 S.2.1 dSx_shares_101 (by rw [c1]; decide) (by rw [c1]; decide) (by rw [c1]; decide) (by decide) ?_
          refine lv_iload S.1 S.2.1 dSx_shares_130 (lv_at hl 4 rfl) ?_
          obtain rfl := Option.some.inj hm
          exact sw_iret S hr hlk hw hf dSx_shares_132
        · have hm := sw_if c1 hm
          by_cases c2 : u1 = (2 : Int32)
          · have hm := sw_it c2 hm
            refine lv_tableIn (off := 32) (tgt := 133) S.1 S.2.1 dSx_shares_101 (by rw [c2]; decide) (by rw [c2]; decide) (by rw [c2]; decide) (by decide) ?_
            refine lv_iload S.1 S.2.1 dSx_shares_133 (lv_at hl 5 rfl) ?_
            obtain rfl := Option.some.inj hm
            exact sw_iret S hr hlk hw hf dSx_shares_135
          · have hm := sw_if c2 hm
            refine lv_tableOut (tgt := 136) S.1 S.2.1 dSx_shares_101 (by have := lv_neT c0 (show ((0 : Int32)).toInt = 0 from rfl); have := lv_neT c1 (show ((1 : Int32)).toInt = 1 from rfl); have := lv_neT c2 (show ((2 : Int32)).toInt = 2 from rfl); omega) (by decide) ?_
            refine lv_iconst (v := (-1 : Int32)) S.1 S.2.1 dSx_shares_136 (by decide) ?_
            obtain rfl := Option.some.inj hm
            exact sw_iret S hr hlk hw hf dSx_shares_137
    · refine lv_aload_n S.1 S.2.1 dSx_shares_47 rfl (lv_at hl 0 rfl) ?_
      refine get_Sx (v := .ref (ξ.2.2.2.1 81)) S hw (is_0 hf) 11 (by decide) rfl wf_Sx_68 dSx_shares_48 ?_
      refine lv_iload S.1 S.2.1 dSx_shares_51 (lv_at hl 6 rfl) ?_
      refine sx_iald S hw (is_81 hf) hm dSx_shares_53 (fun v4 hm => ?_)
      refine lv_aload_n S.1 S.2.1 dSx_shares_54 rfl (lv_at hl 0 rfl) ?_
      refine get_Sx (v := .ref (ξ.2.2.2.1 81)) S hw (is_0 hf) 11 (by decide) rfl wf_Sx_68 dSx_shares_55 ?_
      refine lv_iload_n S.1 S.2.1 dSx_shares_58 rfl (lv_at hl 2 rfl) ?_
      refine lv_iload S.1 S.2.1 dSx_shares_59 (lv_at hl 6 rfl) ?_
      refine lv_isub S.1 S.2.1 dSx_shares_61 ?_
      refine sx_iald S hw (is_81 hf) hm dSx_shares_62 (fun v5 hm => ?_)
      refine lv_isub S.1 S.2.1 dSx_shares_63 ?_
      refine sw_abs (rest := []) S hl.1 wm_Sx_138 (Nat.le_of_ble_eq_true rfl) (Nat.le_of_ble_eq_true rfl) (Nat.le_of_ble_eq_true rfl) (Nat.le_of_ble_eq_true rfl) dSx_shares_64 ?_
      refine nm_i hm (fun x6 hm => ?_)
      refine lv_istore (lv' := [(7, .int x6), (0, .ref (ξ.2.2.2.1 0)), (1, .int u1), (2, .int u2), (3, .int u3), (4, .int u4), (5, .int u5), (6, .int u6)]) S.1 S.2.1 dSx_shares_67 hl (by decide) rfl (fun ls hl => ?_)
      refine lv_iload S.1 S.2.1 dSx_shares_69 (lv_at hl 0 rfl) ?_
      refine lv_iload_n S.1 S.2.1 dSx_shares_71 rfl (lv_at hl 4 rfl) ?_
      refine bicmp_ge (tgt := 85) S.1 S.2.1 hm dSx_shares_72 (by decide) (fun hm => ?_) (fun hm => ?_)
      · exact wSx_shares_85 S hr hlk N (fSx_shares_41 N ξ.2.2.1  fu) ih g u1 u2 u3 u4 u5 u6 x6 _ _ _ hm hw hf (lv_sub hl [1, 2, 3, 4, 5, 6, 7, 0] rfl)
      · refine lv_iload S.1 S.2.1 dSx_shares_75 (lv_at hl 0 rfl) ?_
        refine lv_istore_n (lv' := [(3, .int x6), (7, .int x6), (0, .ref (ξ.2.2.2.1 0)), (1, .int u1), (2, .int u2), (4, .int u4), (5, .int u5), (6, .int u6)]) S.1 S.2.1 dSx_shares_77 rfl hl (by decide) rfl (fun ls hl => ?_)
        refine lv_iload S.1 S.2.1 dSx_shares_78 (lv_at hl 7 rfl) ?_
        refine lv_istore (lv' := [(4, .int u6), (3, .int x6), (7, .int x6), (0, .ref (ξ.2.2.2.1 0)), (1, .int u1), (2, .int u2), (5, .int u5), (6, .int u6)]) S.1 S.2.1 dSx_shares_80 hl (by decide) rfl (fun ls hl => ?_)
        refine lv_iconst (v := (0 : Int32)) S.1 S.2.1 dSx_shares_82 (by decide) ?_
        refine lv_istore (lv' := [(5, .int (0 : Int32)), (4, .int u6), (3, .int x6), (7, .int x6), (0, .ref (ξ.2.2.2.1 0)), (1, .int u1), (2, .int u2), (6, .int u6)]) S.1 S.2.1 dSx_shares_83 hl (by decide) rfl (fun ls hl => ?_)
        exact wSx_shares_85 S hr hlk N (fSx_shares_41 N ξ.2.2.1  fu) ih g u1 u2 x6 u6 (0 : Int32) u6 x6 _ _ _ hm hw hf (lv_sub hl [4, 5, 6, 2, 1, 0, 7, 3] rfl)
set_option maxHeartbeats 4000000 in
set_option maxRecDepth 100000 in
theorem cSx_shares (l : Launch) (N : Nat) {Γ : sw_C} {A : Nat → Prop} {ξ : sw_x} {g : sw_g} {μ : sw_m} (hf : sw_wf ξ g.2.2) (a1 : Int32) {res : Int32 × sw_g} (hm : fSx_shares N ξ.2.2.1 g a1 = some res) : Met l ySx_shares (Cond.code ySx_shares prog_1_method_26_code 8 (some .int) :: sw_tb) rmSx_shares (va_Pc [.ref (ξ.2.2.2.1 0), .int a1] (sw_V Γ A ξ g μ)) (sw_Qi Γ A ξ res.2 μ res.1 (sw_wf ξ res.2.2.2)) 0 0 A := by
  refine Met.ofW (cc := prog_1_method_26_code) (maxL := 8) (ret := some .int) (by decide) rfl ?_
  intro p e s m args below meth c s₁ B hml hv
  obtain ⟨rfl, hv⟩ := hv
  have S : CallFix p m c prog_1_method_26_code 8 s _ (Cond.code ySx_shares prog_1_method_26_code 8 (some .int) :: sw_tb) R_Sx := ⟨B.exec, B.bytes, hml, findClass_of_methodNamed B.named, atoms_spec (ws := (Cond.code ySx_shares prog_1_method_26_code 8 (some .int) :: sw_tb)) B.pre⟩
  have hr := B.returns
  have hlk := B.notSynchronized
  have hw := sw_begin hv
  have hl := lv_entry [.ref (ξ.2.2.2.1 0), .int a1] (n := 8) (Nat.le_of_ble_eq_true rfl)
  rw [lg_entry_eq]
  generalize (lg_sl [.ref (ξ.2.2.2.1 0), .int a1] ++ List.replicate (8 - (lg_sl [.ref (ξ.2.2.2.1 0), .int a1]).length) Slot.unset).toArray = ls at hl ⊢
  have hl : lv_has ls 8 [(0, .ref (ξ.2.2.2.1 0)), (1, .int a1)] := hl
  unfold fSx_shares at hm
  refine lv_aload_n S.1 S.2.1 dSx_shares_0 rfl (lv_at hl 0 rfl) ?_
  refine get_Sx (v := .ref (ξ.2.2.2.1 1)) S hw (is_0 hf) 0 (by decide) rfl wf_Sx_12 dSx_shares_1 ?_
  refine get_Pl (v := .int (g.1 1 0)) S hw (is_1 hf) 0 (by decide) rfl wf_Sx_89 dSx_shares_4 ?_
  refine bif_ne (tgt := 12) S.1 S.2.1 hm dSx_shares_7 (by decide) (fun hm => ?_) (fun hm => ?_)
  · refine lv_aload_n S.1 S.2.1 dSx_shares_12 rfl (lv_at hl 0 rfl) ?_
    obtain ⟨g2, h1, hm⟩ := ob hm
    refine sw_Vv (q := 0) (rest := []) S hw (cSx_sumHeavies l N hf  h1) kSx_sumHeavies wm_Sx_260 (is_0 hf).1 (e_Sx (is_0 hf)) rfl rfl rfl rfl hl.1 (Nat.le_of_ble_eq_true rfl) ⟨rfl, rfl, Nat.le_of_ble_eq_true rfl, Nat.le_of_ble_eq_true rfl⟩ ⟨Nat.le_of_ble_eq_true rfl, Nat.le_of_ble_eq_true rfl⟩ dSx_shares_13 (fun H locs hw hf => ?_)
    refine lv_iconst (v := (1 : Int32)) S.1 S.2.1 dSx_shares_16 (by decide) ?_
    refine lv_aload_n S.1 S.2.1 dSx_shares_17 rfl (lv_at hl 0 rfl) ?_
    refine get_Sx (v := .ref (ξ.2.2.2.1 1)) S hw (is_0 hf) 0 (by decide) rfl wf_Sx_12 dSx_shares_18 ?_
    refine get_Pl (v := .int (g2.1 1 0)) S hw (is_1 hf) 0 (by decide) rfl wf_Sx_89 dSx_shares_21 ?_
    refine lv_ishl S.1 S.2.1 dSx_shares_24 ?_
    refine lv_iconst (v := (1 : Int32)) S.1 S.2.1 dSx_shares_25 (by decide) ?_
    refine lv_isub S.1 S.2.1 dSx_shares_26 ?_
    refine nm_i hm (fun x3 hm => ?_)
    refine lv_istore_n (lv' := [(2, .int x3), (0, .ref (ξ.2.2.2.1 0)), (1, .int a1)]) S.1 S.2.1 dSx_shares_27 rfl hl (by decide) rfl (fun ls hl => ?_)
    refine lv_sipush (v := (211 : Int32)) S.1 S.2.1 dSx_shares_28 (by decide) ?_
    refine lv_istore_n (lv' := [(3, .int (211 : Int32)), (2, .int x3), (0, .ref (ξ.2.2.2.1 0)), (1, .int a1)]) S.1 S.2.1 dSx_shares_31 rfl hl (by decide) rfl (fun ls hl => ?_)
    refine lv_iconst (v := (-1 : Int32)) S.1 S.2.1 dSx_shares_32 (by decide) ?_
    refine lv_istore (lv' := [(4, .int (-1 : Int32)), (3, .int (211 : Int32)), (2, .int x3), (0, .ref (ξ.2.2.2.1 0)), (1, .int a1)]) S.1 S.2.1 dSx_shares_33 hl (by decide) rfl (fun ls hl => ?_)
    refine lv_iconst (v := (0 : Int32)) S.1 S.2.1 dSx_shares_35 (by decide) ?_
    refine lv_istore (lv' := [(5, .int (0 : Int32)), (4, .int (-1 : Int32)), (3, .int (211 : Int32)), (2, .int x3), (0, .ref (ξ.2.2.2.1 0)), (1, .int a1)]) S.1 S.2.1 dSx_shares_36 hl (by decide) rfl (fun ls hl => ?_)
    refine lv_iconst (v := (1 : Int32)) S.1 S.2.1 dSx_shares_38 (by decide) ?_
    refine lv_istore (lv' := [(6, .int (1 : Int32)), (5, .int (0 : Int32)), (4, .int (-1 : Int32)), (3, .int (211 : Int32)), (2, .int x3), (0, .ref (ξ.2.2.2.1 0)), (1, .int a1)]) S.1 S.2.1 dSx_shares_39 hl (by decide) rfl (fun ls hl => ?_)
    exact wSx_shares_41 S hr hlk N  N g2 a1 x3 (211 : Int32) (-1 : Int32) (0 : Int32) (1 : Int32) _ _ _ hm hw hf (lv_sub hl [5, 6, 4, 3, 2, 1, 0] rfl)
  · refine lv_iconst (v := (-1 : Int32)) S.1 S.2.1 dSx_shares_10 (by decide) ?_
    obtain rfl := Option.some.inj hm
    exact sw_iret S hr hlk hw hf dSx_shares_11
set_option maxHeartbeats 4000000 in
set_option maxRecDepth 100000 in
theorem wSx_canBe_53 {l : Launch} {p : Program} {e : Env} {s : State} {m : MethodId} {args : Array Value} {below : List Frame} {meth : Method} {c : Code} {Γ : sw_C} {A : Nat → Prop} {ξ : sw_x} {μ : sw_m} {res : Int32 × sw_g} (S : CallFix p m c prog_1_method_31_code 3 s args (Cond.code ySx_canBe prog_1_method_31_code 3 (some .int) :: sw_tb) R_Sx) (hr : meth.sig.returnType = some .int) (hlk : meth.locks = false) (N : Nat) (k23 : sw_g → Int32 → Int32 → Option (Int32 × sw_g)) (hk23 : ∀ (g : sw_g) (u1 : Int32) (u2 : Int32) (H : Heap) (locs : List Loc) (ls : Array Slot), k23 g u1 u2 = some res → sw_S Γ A ξ g μ s H locs → sw_wf ξ g.2.2 → lv_has ls 3 [(0, .ref (ξ.2.2.2.1 0)), (1, .int u1), (2, .int u2)] → W p l e (headSpec (Cond.code ySx_canBe prog_1_method_31_code 3 (some .int) :: sw_tb) rmSx_canBe).room s m args below meth c H locs 0 0 (MQ below (sw_Qi Γ A ξ res.2 μ res.1 (sw_wf ξ res.2.2.2)) args s 0 0 A) (F0 m 23 ls [])) : ∀ (g : sw_g) (u1 : Int32) (u2 : Int32) (H : Heap) (locs : List Loc) (ls : Array Slot), fSx_canBe_53 N ξ.2.2.1 k23 g u1 u2 = some res → sw_S Γ A ξ g μ s H locs → sw_wf ξ g.2.2 → lv_has ls 3 [(0, .ref (ξ.2.2.2.1 0)), (1, .int u1), (2, .int u2)] → W p l e (headSpec (Cond.code ySx_canBe prog_1_method_31_code 3 (some .int) :: sw_tb) rmSx_canBe).room s m args below meth c H locs 0 0 (MQ below (sw_Qi Γ A ξ res.2 μ res.1 (sw_wf ξ res.2.2.2)) args s 0 0 A) (F0 m 53 ls []) := by
  intro g u1 u2 H locs ls hm hw hf hl
  unfold fSx_canBe_53 at hm
  refine lv_aload_n S.1 S.2.1 dSx_canBe_53 rfl (lv_at hl 0 rfl) ?_
  refine lv_iconst (v := (1 : Int32)) S.1 S.2.1 dSx_canBe_54 (by decide) ?_
  refine lv_iload_n S.1 S.2.1 dSx_canBe_55 rfl (lv_at hl 2 rfl) ?_
  refine lv_ishl S.1 S.2.1 dSx_canBe_56 ?_
  refine lv_iconst (v := (-1 : Int32)) S.1 S.2.1 dSx_canBe_57 (by decide) ?_
  obtain ⟨⟨v11, g10⟩, h9, hm⟩ := ob hm
  refine sw_Vi (q := 0) (rest := []) S hw (cSx_fits l N hf ((1 : Int32) <<< (u2 &&& 31)) (-1 : Int32) h9) kSx_fits wm_Sx_296 (is_0 hf).1 (e_Sx (is_0 hf)) rfl rfl rfl rfl hl.1 (Nat.le_of_ble_eq_true rfl) ⟨rfl, rfl, Nat.le_of_ble_eq_true rfl, Nat.le_of_ble_eq_true rfl⟩ ⟨Nat.le_of_ble_eq_true rfl, Nat.le_of_ble_eq_true rfl⟩ dSx_canBe_58 (fun H locs hw hf => ?_)
  refine bif_eq (tgt := 74) S.1 S.2.1 hm dSx_canBe_61 (by decide) (fun hm => ?_) (fun hm => ?_)
  · obtain ⟨x12, ex12, hm⟩ := nm_x hm
    refine lv_iinc (v := x12) (lv' := [(2, .int x12), (0, .ref (ξ.2.2.2.1 0)), (1, .int u1)]) S.1 S.2.1 dSx_canBe_74 hl (k := 2) rfl (by rw [ex12]; rfl) (by decide) rfl (fun ls hl => ?_)
    refine lv_goto (tgt := 23) S.1 S.2.1 dSx_canBe_77 (by decide) ?_
    exact hk23 g10 u1 x12 _ _ _ hm hw hf (lv_sub hl [1, 2, 0] rfl)
  · refine lv_iload_n S.1 S.2.1 dSx_canBe_64 rfl (lv_at hl 1 rfl) ?_
    refine lv_iconst (v := (1 : Int32)) S.1 S.2.1 dSx_canBe_65 (by decide) ?_
    refine lv_iconst (v := (2 : Int32)) S.1 S.2.1 dSx_canBe_66 (by decide) ?_
    refine lv_iload_n S.1 S.2.1 dSx_canBe_67 rfl (lv_at hl 2 rfl) ?_
    refine lv_imul S.1 S.2.1 dSx_canBe_68 ?_
    refine lv_iconst (v := (1 : Int32)) S.1 S.2.1 dSx_canBe_69 (by decide) ?_
    refine lv_iadd S.1 S.2.1 dSx_canBe_70 ?_
    refine lv_ishl S.1 S.2.1 dSx_canBe_71 ?_
    refine lv_ior S.1 S.2.1 dSx_canBe_72 ?_
    refine nm_i hm (fun x13 hm => ?_)
    refine lv_istore_n (lv' := [(1, .int x13), (0, .ref (ξ.2.2.2.1 0)), (2, .int u2)]) S.1 S.2.1 dSx_canBe_73 rfl hl (by decide) rfl (fun ls hl => ?_)
    obtain ⟨x14, ex14, hm⟩ := nm_x hm
    refine lv_iinc (v := x14) (lv' := [(2, .int x14), (1, .int x13), (0, .ref (ξ.2.2.2.1 0))]) S.1 S.2.1 dSx_canBe_74 hl (k := 2) rfl (by rw [ex14]; rfl) (by decide) rfl (fun ls hl => ?_)
    refine lv_goto (tgt := 23) S.1 S.2.1 dSx_canBe_77 (by decide) ?_
    exact hk23 g10 x13 x14 _ _ _ hm hw hf (lv_sub hl [2, 1, 0] rfl)
set_option maxHeartbeats 4000000 in
set_option maxRecDepth 100000 in
theorem wSx_canBe_23 {l : Launch} {p : Program} {e : Env} {s : State} {m : MethodId} {args : Array Value} {below : List Frame} {meth : Method} {c : Code} {Γ : sw_C} {A : Nat → Prop} {ξ : sw_x} {μ : sw_m} {res : Int32 × sw_g} (S : CallFix p m c prog_1_method_31_code 3 s args (Cond.code ySx_canBe prog_1_method_31_code 3 (some .int) :: sw_tb) R_Sx) (hr : meth.sig.returnType = some .int) (hlk : meth.locks = false) (N : Nat) : ∀ (fu : Nat) (g : sw_g) (u1 : Int32) (u2 : Int32) (H : Heap) (locs : List Loc) (ls : Array Slot), fSx_canBe_23 N ξ.2.2.1  fu g u1 u2 = some res → sw_S Γ A ξ g μ s H locs → sw_wf ξ g.2.2 → lv_has ls 3 [(0, .ref (ξ.2.2.2.1 0)), (1, .int u1), (2, .int u2)] → W p l e (headSpec (Cond.code ySx_canBe prog_1_method_31_code 3 (some .int) :: sw_tb) rmSx_canBe).room s m args below meth c H locs 0 0 (MQ below (sw_Qi Γ A ξ res.2 μ res.1 (sw_wf ξ res.2.2.2)) args s 0 0 A) (F0 m 23 ls []) := by
  intro fu
  induction fu with
  | zero => intro g u1 u2 H locs ls hm; rw [fSx_canBe_23.eq_1] at hm; cases hm
  | succ fu ih =>
    intro g u1 u2 H locs ls hm hw hf hl
    rw [fSx_canBe_23.eq_2] at hm
    refine lv_iload_n S.1 S.2.1 dSx_canBe_23 rfl (lv_at hl 2 rfl) ?_
    refine lv_aload_n S.1 S.2.1 dSx_canBe_24 rfl (lv_at hl 0 rfl) ?_
    refine get_Sx (v := .ref (ξ.2.2.2.1 1)) S hw (is_0 hf) 0 (by decide) rfl wf_Sx_12 dSx_canBe_25 ?_
    refine get_Pl (v := .int (g.1 1 0)) S hw (is_1 hf) 0 (by decide) rfl wf_Sx_89 dSx_canBe_28 ?_
    refine bicmp_ge (tgt := 80) S.1 S.2.1 hm dSx_canBe_31 (by decide) (fun hm => ?_) (fun hm => ?_)
    · refine lv_iload_n S.1 S.2.1 dSx_canBe_80 rfl (lv_at hl 1 rfl) ?_
      obtain rfl := Option.some.inj hm
      exact sw_iret S hr hlk hw hf dSx_canBe_81
    · refine lv_aload_n S.1 S.2.1 dSx_canBe_34 rfl (lv_at hl 0 rfl) ?_
      refine lv_iconst (v := (1 : Int32)) S.1 S.2.1 dSx_canBe_35 (by decide) ?_
      refine lv_iload_n S.1 S.2.1 dSx_canBe_36 rfl (lv_at hl 2 rfl) ?_
      refine lv_ishl S.1 S.2.1 dSx_canBe_37 ?_
      refine lv_iconst (v := (1 : Int32)) S.1 S.2.1 dSx_canBe_38 (by decide) ?_
      obtain ⟨⟨v8, g7⟩, h6, hm⟩ := ob hm
      refine sw_Vi (q := 0) (rest := []) S hw (cSx_fits l N hf ((1 : Int32) <<< (u2 &&& 31)) (1 : Int32) h6) kSx_fits wm_Sx_296 (is_0 hf).1 (e_Sx (is_0 hf)) rfl rfl rfl rfl hl.1 (Nat.le_of_ble_eq_true rfl) ⟨rfl, rfl, Nat.le_of_ble_eq_true rfl, Nat.le_of_ble_eq_true rfl⟩ ⟨Nat.le_of_ble_eq_true rfl, Nat.le_of_ble_eq_true rfl⟩ dSx_canBe_39 (fun H locs hw hf => ?_)
      refine bif_eq (tgt := 53) S.1 S.2.1 hm dSx_canBe_42 (by decide) (fun hm => ?_) (fun hm => ?_)
      · exact wSx_canBe_53 S hr hlk N (fSx_canBe_23 N ξ.2.2.1  fu) ih g7 u1 u2 _ _ _ hm hw hf (lv_sub hl [0, 1, 2] rfl)
      · refine lv_iload_n S.1 S.2.1 dSx_canBe_45 rfl (lv_at hl 1 rfl) ?_
        refine lv_iconst (v := (1 : Int32)) S.1 S.2.1 dSx_canBe_46 (by decide) ?_
        refine lv_iconst (v := (2 : Int32)) S.1 S.2.1 dSx_canBe_47 (by decide) ?_
        refine lv_iload_n S.1 S.2.1 dSx_canBe_48 rfl (lv_at hl 2 rfl) ?_
        refine lv_imul S.1 S.2.1 dSx_canBe_49 ?_
        refine lv_ishl S.1 S.2.1 dSx_canBe_50 ?_
        refine lv_ior S.1 S.2.1 dSx_canBe_51 ?_
        refine nm_i hm (fun x15 hm => ?_)
        refine lv_istore_n (lv' := [(1, .int x15), (0, .ref (ξ.2.2.2.1 0)), (2, .int u2)]) S.1 S.2.1 dSx_canBe_52 rfl hl (by decide) rfl (fun ls hl => ?_)
        exact wSx_canBe_53 S hr hlk N (fSx_canBe_23 N ξ.2.2.1  fu) ih g7 x15 u2 _ _ _ hm hw hf (lv_sub hl [1, 0, 2] rfl)
set_option maxHeartbeats 4000000 in
set_option maxRecDepth 100000 in
theorem cSx_canBe (l : Launch) (N : Nat) {Γ : sw_C} {A : Nat → Prop} {ξ : sw_x} {g : sw_g} {μ : sw_m} (hf : sw_wf ξ g.2.2) {res : Int32 × sw_g} (hm : fSx_canBe N ξ.2.2.1 g = some res) : Met l ySx_canBe (Cond.code ySx_canBe prog_1_method_31_code 3 (some .int) :: sw_tb) rmSx_canBe (va_Pc [.ref (ξ.2.2.2.1 0)] (sw_V Γ A ξ g μ)) (sw_Qi Γ A ξ res.2 μ res.1 (sw_wf ξ res.2.2.2)) 0 0 A := by
  refine Met.ofW (cc := prog_1_method_31_code) (maxL := 3) (ret := some .int) (by decide) rfl ?_
  intro p e s m args below meth c s₁ B hml hv
  obtain ⟨rfl, hv⟩ := hv
  have S : CallFix p m c prog_1_method_31_code 3 s _ (Cond.code ySx_canBe prog_1_method_31_code 3 (some .int) :: sw_tb) R_Sx := ⟨B.exec, B.bytes, hml, findClass_of_methodNamed B.named, atoms_spec (ws := (Cond.code ySx_canBe prog_1_method_31_code 3 (some .int) :: sw_tb)) B.pre⟩
  have hr := B.returns
  have hlk := B.notSynchronized
  have hw := sw_begin hv
  have hl := lv_entry [.ref (ξ.2.2.2.1 0)] (n := 3) (Nat.le_of_ble_eq_true rfl)
  rw [lg_entry_eq]
  generalize (lg_sl [.ref (ξ.2.2.2.1 0)] ++ List.replicate (3 - (lg_sl [.ref (ξ.2.2.2.1 0)]).length) Slot.unset).toArray = ls at hl ⊢
  have hl : lv_has ls 3 [(0, .ref (ξ.2.2.2.1 0))] := hl
  unfold fSx_canBe at hm
  refine lv_aload_n S.1 S.2.1 dSx_canBe_0 rfl (lv_at hl 0 rfl) ?_
  obtain ⟨g2, h1, hm⟩ := ob hm
  refine sw_Vv (q := 0) (rest := []) S hw (cSx_sumHeavies l N hf  h1) kSx_sumHeavies wm_Sx_260 (is_0 hf).1 (e_Sx (is_0 hf)) rfl rfl rfl rfl hl.1 (Nat.le_of_ble_eq_true rfl) ⟨rfl, rfl, Nat.le_of_ble_eq_true rfl, Nat.le_of_ble_eq_true rfl⟩ ⟨Nat.le_of_ble_eq_true rfl, Nat.le_of_ble_eq_true rfl⟩ dSx_canBe_1 (fun H locs hw hf => ?_)
  refine lv_aload_n S.1 S.2.1 dSx_canBe_4 rfl (lv_at hl 0 rfl) ?_
  refine lv_iconst (v := (0 : Int32)) S.1 S.2.1 dSx_canBe_5 (by decide) ?_
  refine lv_iconst (v := (0 : Int32)) S.1 S.2.1 dSx_canBe_6 (by decide) ?_
  obtain ⟨⟨v5, g4⟩, h3, hm⟩ := ob hm
  refine sw_Vi (q := 0) (rest := []) S hw (cSx_fits l N hf (0 : Int32) (0 : Int32) h3) kSx_fits wm_Sx_296 (is_0 hf).1 (e_Sx (is_0 hf)) rfl rfl rfl rfl hl.1 (Nat.le_of_ble_eq_true rfl) ⟨rfl, rfl, Nat.le_of_ble_eq_true rfl, Nat.le_of_ble_eq_true rfl⟩ ⟨Nat.le_of_ble_eq_true rfl, Nat.le_of_ble_eq_true rfl⟩ dSx_canBe_7 (fun H locs hw hf => ?_)
  refine bif_eq (tgt := 19) S.1 S.2.1 hm dSx_canBe_10 (by decide) (fun hm => ?_) (fun hm => ?_)
  · refine lv_iconst (v := (0 : Int32)) S.1 S.2.1 dSx_canBe_19 (by decide) ?_
    refine lv_istore_n (lv' := [(1, .int (0 : Int32)), (0, .ref (ξ.2.2.2.1 0))]) S.1 S.2.1 dSx_canBe_20 rfl hl (by decide) rfl (fun ls hl => ?_)
    refine lv_iconst (v := (0 : Int32)) S.1 S.2.1 dSx_canBe_21 (by decide) ?_
    refine lv_istore_n (lv' := [(2, .int (0 : Int32)), (1, .int (0 : Int32)), (0, .ref (ξ.2.2.2.1 0))]) S.1 S.2.1 dSx_canBe_22 rfl hl (by decide) rfl (fun ls hl => ?_)
    exact wSx_canBe_23 S hr hlk N  N g4 (0 : Int32) (0 : Int32) _ _ _ hm hw hf (lv_sub hl [2, 1, 0] rfl)
  · refine lv_sipush (v := (16384 : Int32)) S.1 S.2.1 dSx_canBe_13 (by decide) ?_
    refine lv_goto (tgt := 20) S.1 S.2.1 dSx_canBe_16 (by decide) ?_
    refine lv_istore_n (lv' := [(1, .int (16384 : Int32)), (0, .ref (ξ.2.2.2.1 0))]) S.1 S.2.1 dSx_canBe_20 rfl hl (by decide) rfl (fun ls hl => ?_)
    refine lv_iconst (v := (0 : Int32)) S.1 S.2.1 dSx_canBe_21 (by decide) ?_
    refine lv_istore_n (lv' := [(2, .int (0 : Int32)), (1, .int (16384 : Int32)), (0, .ref (ξ.2.2.2.1 0))]) S.1 S.2.1 dSx_canBe_22 rfl hl (by decide) rfl (fun ls hl => ?_)
    exact wSx_canBe_23 S hr hlk N  N g4 (16384 : Int32) (0 : Int32) _ _ _ hm hw hf (lv_sub hl [2, 1, 0] rfl)
set_option maxHeartbeats 4000000 in
set_option maxRecDepth 100000 in
theorem cSx_weigh (l : Launch) (N : Nat) {Γ : sw_C} {A : Nat → Prop} {ξ : sw_x} {g : sw_g} {μ : sw_m} (hf : sw_wf ξ g.2.2) (a1 : Int32) {res : Int32 × sw_g} (hm : fSx_weigh N ξ.2.2.1 g a1 = some res) : Met l ySx_weigh (Cond.code ySx_weigh prog_1_method_32_code 4 (some .int) :: sw_tb) rmSx_weigh (va_Pc [.ref (ξ.2.2.2.1 0), .int a1] (sw_V Γ A ξ g μ)) (sw_Qi Γ A ξ res.2 μ res.1 (sw_wf ξ res.2.2.2)) 0 0 A := by
  refine Met.ofW (cc := prog_1_method_32_code) (maxL := 4) (ret := some .int) (by decide) rfl ?_
  intro p e s m args below meth c s₁ B hml hv
  obtain ⟨rfl, hv⟩ := hv
  have S : CallFix p m c prog_1_method_32_code 4 s _ (Cond.code ySx_weigh prog_1_method_32_code 4 (some .int) :: sw_tb) R_Sx := ⟨B.exec, B.bytes, hml, findClass_of_methodNamed B.named, atoms_spec (ws := (Cond.code ySx_weigh prog_1_method_32_code 4 (some .int) :: sw_tb)) B.pre⟩
  have hr := B.returns
  have hlk := B.notSynchronized
  have hw := sw_begin hv
  have hl := lv_entry [.ref (ξ.2.2.2.1 0), .int a1] (n := 4) (Nat.le_of_ble_eq_true rfl)
  rw [lg_entry_eq]
  generalize (lg_sl [.ref (ξ.2.2.2.1 0), .int a1] ++ List.replicate (4 - (lg_sl [.ref (ξ.2.2.2.1 0), .int a1]).length) Slot.unset).toArray = ls at hl ⊢
  have hl : lv_has ls 4 [(0, .ref (ξ.2.2.2.1 0)), (1, .int a1)] := hl
  unfold fSx_weigh at hm
  refine lv_aload_n S.1 S.2.1 dSx_weigh_0 rfl (lv_at hl 0 rfl) ?_
  obtain ⟨⟨v3, g2⟩, h1, hm⟩ := ob hm
  refine sw_Vi (q := 0) (rest := []) S hw (cSx_canBe l N hf  h1) kSx_canBe wm_Sx_299 (is_0 hf).1 (e_Sx (is_0 hf)) rfl rfl rfl rfl hl.1 (Nat.le_of_ble_eq_true rfl) ⟨rfl, rfl, Nat.le_of_ble_eq_true rfl, Nat.le_of_ble_eq_true rfl⟩ ⟨Nat.le_of_ble_eq_true rfl, Nat.le_of_ble_eq_true rfl⟩ dSx_weigh_1 (fun H locs hw hf => ?_)
  refine lv_istore_n (lv' := [(2, .int v3), (0, .ref (ξ.2.2.2.1 0)), (1, .int a1)]) S.1 S.2.1 dSx_weigh_4 rfl hl (by decide) rfl (fun ls hl => ?_)
  refine lv_iload_n S.1 S.2.1 dSx_weigh_5 rfl (lv_at hl 0 rfl) ?_
  refine bif_ne (tgt := 11) S.1 S.2.1 hm dSx_weigh_6 (by decide) (fun hm => ?_) (fun hm => ?_)
  · refine lv_aload_n S.1 S.2.1 dSx_weigh_11 rfl (lv_at hl 1 rfl) ?_
    refine lv_iload_n S.1 S.2.1 dSx_weigh_12 rfl (lv_at hl 0 rfl) ?_
    obtain ⟨⟨v6, g5⟩, h4, hm⟩ := ob hm
    refine sw_Vi (q := 0) (rest := []) S hw (cSx_bestWeighing l N hf v3 h4) kSx_bestWeighing wm_Sx_302 (is_0 hf).1 (e_Sx (is_0 hf)) rfl rfl rfl rfl hl.1 (Nat.le_of_ble_eq_true rfl) ⟨rfl, rfl, Nat.le_of_ble_eq_true rfl, Nat.le_of_ble_eq_true rfl⟩ ⟨Nat.le_of_ble_eq_true rfl, Nat.le_of_ble_eq_true rfl⟩ dSx_weigh_13 (fun H locs hw hf => ?_)
    refine lv_istore_n (lv' := [(3, .int v6), (2, .int v3), (0, .ref (ξ.2.2.2.1 0)), (1, .int a1)]) S.1 S.2.1 dSx_weigh_16 rfl hl (by decide) rfl (fun ls hl => ?_)
    refine lv_iload_n S.1 S.2.1 dSx_weigh_17 rfl (lv_at hl 3 rfl) ?_
    by_cases c0 : a1 = (0 : Int32)
    · have hm := sw_it c0 hm
      refine lv_tableIn (off := 26) (tgt := 44) S.1 S.2.1 dSx_weigh_18 (by rw [c0]; decide) (by rw [c0]; decide) (by rw [c0]; decide) (by decide) ?_
      refine lv_iload_n S.1 S.2.1 dSx_weigh_44 rfl (lv_at hl 0 rfl) ?_
      refine lv_sipush (v := (128 : Int32)) S.1 S.2.1 dSx_weigh_45 (by decide) ?_
      refine lv_idiv S.1 S.2.1 dSx_weigh_48 (by decide) ?_
      refine lv_sipush (v := (128 : Int32)) S.1 S.2.1 dSx_weigh_49 (by decide) ?_
      refine lv_irem S.1 S.2.1 dSx_weigh_52 (by decide) ?_
      obtain rfl := Option.some.inj hm
      exact sw_iret S hr hlk hw hf dSx_weigh_53
    · have hm := sw_if c0 hm
      by_cases c1 : a1 = (1 : Int32)
      · have hm := sw_it c1 hm
        refine lv_tableIn (off := 36) (tgt := 54) S.1 S.2.1 dSx_weigh_18 (by rw [c1]; decide) (by rw [c1]; decide) (by rw [c1]; decide) (by decide) ?_
        refine lv_iload_n S.1 S.2.1 dSx_weigh_54 rfl (lv_at hl 0 rfl) ?_
        refine lv_sipush (v := (128 : Int32)) S.1 S.2.1 dSx_weigh_55 (by decide) ?_
        refine lv_irem S.1 S.2.1 dSx_weigh_58 (by decide) ?_
        obtain rfl := Option.some.inj hm
        exact sw_iret S hr hlk hw hf dSx_weigh_59
      · have hm := sw_if c1 hm
        by_cases c2 : a1 = (2 : Int32)
        · have hm := sw_it c2 hm
          refine lv_tableIn (off := 42) (tgt := 60) S.1 S.2.1 dSx_weigh_18 (by rw [c2]; decide) (by rw [c2]; decide) (by rw [c2]; decide) (by decide) ?_
          refine lv_iload_n S.1 S.2.1 dSx_weigh_60 rfl (lv_at hl 0 rfl) ?_
          refine lv_sipush (v := (128 : Int32)) S.1 S.2.1 dSx_weigh_61 (by decide) ?_
          refine lv_idiv S.1 S.2.1 dSx_weigh_64 (by decide) ?_
          refine lv_sipush (v := (128 : Int32)) S.1 S.2.1 dSx_weigh_65 (by decide) ?_
          refine lv_idiv S.1 S.2.1 dSx_weigh_68 (by decide) ?_
          obtain rfl := Option.some.inj hm
          exact sw_iret S hr hlk hw hf dSx_weigh_69
        · have hm := sw_if c2 hm
          refine lv_tableOut (tgt := 70) S.1 S.2.1 dSx_weigh_18 (by have := lv_neT c0 (show ((0 : Int32)).toInt = 0 from rfl); have := lv_neT c1 (show ((1 : Int32)).toInt = 1 from rfl); have := lv_neT c2 (show ((2 : Int32)).toInt = 2 from rfl); omega) (by decide) ?_
          refine lv_iconst (v := (-1 : Int32)) S.1 S.2.1 dSx_weigh_70 (by decide) ?_
          obtain rfl := Option.some.inj hm
          exact sw_iret S hr hlk hw hf dSx_weigh_71
  · refine lv_iconst (v := (-1 : Int32)) S.1 S.2.1 dSx_weigh_9 (by decide) ?_
    obtain rfl := Option.some.inj hm
    exact sw_iret S hr hlk hw hf dSx_weigh_10
set_option maxHeartbeats 4000000 in
set_option maxRecDepth 100000 in
theorem cSx_canPut (l : Launch) (N : Nat) {Γ : sw_C} {A : Nat → Prop} {ξ : sw_x} {g : sw_g} {μ : sw_m} (hf : sw_wf ξ g.2.2) (q1 : Nat) (hq1 : sw_ik ξ q1 3) (a2 : Int32) (a3 : Int32) {res : Int32 × sw_g} (hm : fSx_canPut N ξ.2.2.1 g q1 a2 a3 = some res) : Met l ySx_canPut (Cond.code ySx_canPut prog_1_method_51_code 4 (some .boolean) :: sw_tb) rmSx_canPut (va_Pc [.ref (ξ.2.2.2.1 0), .ref (ξ.2.2.2.1 q1), .int a2, .int a3] (sw_V Γ A ξ g μ)) (sw_Qi Γ A ξ res.2 μ res.1 (sw_wf ξ res.2.2.2)) 0 0 A := by
  refine Met.ofW (cc := prog_1_method_51_code) (maxL := 4) (ret := some .boolean) (by decide) rfl ?_
  intro p e s m args below meth c s₁ B hml hv
  obtain ⟨rfl, hv⟩ := hv
  have S : CallFix p m c prog_1_method_51_code 4 s _ (Cond.code ySx_canPut prog_1_method_51_code 4 (some .boolean) :: sw_tb) R_Sx := ⟨B.exec, B.bytes, hml, findClass_of_methodNamed B.named, atoms_spec (ws := (Cond.code ySx_canPut prog_1_method_51_code 4 (some .boolean) :: sw_tb)) B.pre⟩
  have hr := B.returns
  have hlk := B.notSynchronized
  have hw := sw_begin hv
  have hl := lv_entry [.ref (ξ.2.2.2.1 0), .ref (ξ.2.2.2.1 q1), .int a2, .int a3] (n := 4) (Nat.le_of_ble_eq_true rfl)
  rw [lg_entry_eq]
  generalize (lg_sl [.ref (ξ.2.2.2.1 0), .ref (ξ.2.2.2.1 q1), .int a2, .int a3] ++ List.replicate (4 - (lg_sl [.ref (ξ.2.2.2.1 0), .ref (ξ.2.2.2.1 q1), .int a2, .int a3]).length) Slot.unset).toArray = ls at hl ⊢
  have hl : lv_has ls 4 [(0, .ref (ξ.2.2.2.1 0)), (1, .ref (ξ.2.2.2.1 q1)), (2, .int a2), (3, .int a3)] := hl
  unfold fSx_canPut at hm
  refine lv_aload_n S.1 S.2.1 dSx_canPut_0 rfl (lv_at hl 1 rfl) ?_
  refine get_Pl (v := .ref (ξ.2.2.2.1 (q1 + 3))) S hw hq1 3 (by decide) rfl wf_Sx_106 dSx_canPut_1 ?_
  refine lv_iload_n S.1 S.2.1 dSx_canPut_4 rfl (lv_at hl 2 rfl) ?_
  refine sx_iald S hw (is_Pl_place hf hq1) hm dSx_canPut_5 (fun v1 hm => ?_)
  refine lv_iload_n S.1 S.2.1 dSx_canPut_6 rfl (lv_at hl 3 rfl) ?_
  refine bicmp_eq (tgt := 27) S.1 S.2.1 hm dSx_canPut_7 (by decide) (fun hm => ?_) (fun hm => ?_)
  · refine lv_iconst (v := (0 : Int32)) S.1 S.2.1 dSx_canPut_27 (by decide) ?_
    obtain rfl := Option.some.inj hm
    exact sw_zret S hr hlk (Or.inl rfl) hw hf dSx_canPut_28
  · refine lv_aload_n S.1 S.2.1 dSx_canPut_10 rfl (lv_at hl 0 rfl) ?_
    refine get_Sx (v := .ref (ξ.2.2.2.1 42)) S hw (is_0 hf) 7 (by decide) rfl wf_Sx_46 dSx_canPut_11 ?_
    refine lv_aload_n S.1 S.2.1 dSx_canPut_14 rfl (lv_at hl 1 rfl) ?_
    refine lv_iload_n S.1 S.2.1 dSx_canPut_15 rfl (lv_at hl 2 rfl) ?_
    refine lv_iload_n S.1 S.2.1 dSx_canPut_16 rfl (lv_at hl 3 rfl) ?_
    obtain ⟨⟨v4, g3⟩, h2, hm⟩ := ob hm
    refine sw_Vi (q := 42) (rest := []) S hw (cJu_barsAt l N hf q1 hq1 a2 a3 h2) kJu_barsAt wm_Sx_128 (is_42 hf).1 (e_Ju (is_42 hf)) rfl rfl rfl rfl hl.1 (Nat.le_of_ble_eq_true rfl) ⟨rfl, rfl, Nat.le_of_ble_eq_true rfl, Nat.le_of_ble_eq_true rfl⟩ ⟨Nat.le_of_ble_eq_true rfl, Nat.le_of_ble_eq_true rfl⟩ dSx_canPut_17 (fun H locs hw hf => ?_)
    refine bif_ne (tgt := 27) S.1 S.2.1 hm dSx_canPut_20 (by decide) (fun hm => ?_) (fun hm => ?_)
    · refine lv_iconst (v := (0 : Int32)) S.1 S.2.1 dSx_canPut_27 (by decide) ?_
      obtain rfl := Option.some.inj hm
      exact sw_zret S hr hlk (Or.inl rfl) hw hf dSx_canPut_28
    · refine lv_iconst (v := (1 : Int32)) S.1 S.2.1 dSx_canPut_23 (by decide) ?_
      refine lv_goto (tgt := 28) S.1 S.2.1 dSx_canPut_24 (by decide) ?_
      obtain rfl := Option.some.inj hm
      exact sw_zret S hr hlk (Or.inr rfl) hw hf dSx_canPut_28
set_option maxHeartbeats 4000000 in
set_option maxRecDepth 100000 in
theorem cSx_canExchange (l : Launch) (N : Nat) {Γ : sw_C} {A : Nat → Prop} {ξ : sw_x} {g : sw_g} {μ : sw_m} (hf : sw_wf ξ g.2.2) (a1 : Int32) (a2 : Int32) {res : Int32 × sw_g} (hm : fSx_canExchange N ξ.2.2.1 g a1 a2 = some res) : Met l ySx_canExchange (Cond.code ySx_canExchange prog_1_method_59_code 3 (some .boolean) :: sw_tb) rmSx_canExchange (va_Pc [.ref (ξ.2.2.2.1 0), .int a1, .int a2] (sw_V Γ A ξ g μ)) (sw_Qi Γ A ξ res.2 μ res.1 (sw_wf ξ res.2.2.2)) 0 0 A := by
  refine Met.ofW (cc := prog_1_method_59_code) (maxL := 3) (ret := some .boolean) (by decide) rfl ?_
  intro p e s m args below meth c s₁ B hml hv
  obtain ⟨rfl, hv⟩ := hv
  have S : CallFix p m c prog_1_method_59_code 3 s _ (Cond.code ySx_canExchange prog_1_method_59_code 3 (some .boolean) :: sw_tb) R_Sx := ⟨B.exec, B.bytes, hml, findClass_of_methodNamed B.named, atoms_spec (ws := (Cond.code ySx_canExchange prog_1_method_59_code 3 (some .boolean) :: sw_tb)) B.pre⟩
  have hr := B.returns
  have hlk := B.notSynchronized
  have hw := sw_begin hv
  have hl := lv_entry [.ref (ξ.2.2.2.1 0), .int a1, .int a2] (n := 3) (Nat.le_of_ble_eq_true rfl)
  rw [lg_entry_eq]
  generalize (lg_sl [.ref (ξ.2.2.2.1 0), .int a1, .int a2] ++ List.replicate (3 - (lg_sl [.ref (ξ.2.2.2.1 0), .int a1, .int a2]).length) Slot.unset).toArray = ls at hl ⊢
  have hl : lv_has ls 3 [(0, .ref (ξ.2.2.2.1 0)), (1, .int a1), (2, .int a2)] := hl
  unfold fSx_canExchange at hm
  refine lv_aload_n S.1 S.2.1 dSx_canExchange_0 rfl (lv_at hl 0 rfl) ?_
  refine get_Sx (v := .ref (ξ.2.2.2.1 1)) S hw (is_0 hf) 0 (by decide) rfl wf_Sx_12 dSx_canExchange_1 ?_
  refine lv_iload_n S.1 S.2.1 dSx_canExchange_4 rfl (lv_at hl 1 rfl) ?_
  obtain ⟨⟨v3, g2⟩, h1, hm⟩ := ob hm
  refine sw_Vi (q := 1) (rest := []) S hw (cPl_isOn l  hf 1 (is_1 hf) a1 h1) kPl_isOn wm_Sx_115 (is_1 hf).1 (e_Pl (is_1 hf)) rfl rfl rfl rfl hl.1 (Nat.le_of_ble_eq_true rfl) ⟨rfl, rfl, Nat.le_of_ble_eq_true rfl, Nat.le_of_ble_eq_true rfl⟩ ⟨Nat.le_of_ble_eq_true rfl, Nat.le_of_ble_eq_true rfl⟩ dSx_canExchange_5 (fun H locs hw hf => ?_)
  refine bif_eq (tgt := 74) S.1 S.2.1 hm dSx_canExchange_8 (by decide) (fun hm => ?_) (fun hm => ?_)
  · refine lv_iconst (v := (0 : Int32)) S.1 S.2.1 dSx_canExchange_74 (by decide) ?_
    obtain rfl := Option.some.inj hm
    exact sw_zret S hr hlk (Or.inl rfl) hw hf dSx_canExchange_75
  · refine lv_aload_n S.1 S.2.1 dSx_canExchange_11 rfl (lv_at hl 0 rfl) ?_
    refine get_Sx (v := .ref (ξ.2.2.2.1 1)) S hw (is_0 hf) 0 (by decide) rfl wf_Sx_12 dSx_canExchange_12 ?_
    refine lv_iload_n S.1 S.2.1 dSx_canExchange_15 rfl (lv_at hl 2 rfl) ?_
    obtain ⟨⟨v6, g5⟩, h4, hm⟩ := ob hm
    refine sw_Vi (q := 1) (rest := []) S hw (cPl_isOn l  hf 1 (is_1 hf) a2 h4) kPl_isOn wm_Sx_115 (is_1 hf).1 (e_Pl (is_1 hf)) rfl rfl rfl rfl hl.1 (Nat.le_of_ble_eq_true rfl) ⟨rfl, rfl, Nat.le_of_ble_eq_true rfl, Nat.le_of_ble_eq_true rfl⟩ ⟨Nat.le_of_ble_eq_true rfl, Nat.le_of_ble_eq_true rfl⟩ dSx_canExchange_16 (fun H locs hw hf => ?_)
    refine bif_eq (tgt := 74) S.1 S.2.1 hm dSx_canExchange_19 (by decide) (fun hm => ?_) (fun hm => ?_)
    · refine lv_iconst (v := (0 : Int32)) S.1 S.2.1 dSx_canExchange_74 (by decide) ?_
      obtain rfl := Option.some.inj hm
      exact sw_zret S hr hlk (Or.inl rfl) hw hf dSx_canExchange_75
    · refine lv_aload_n S.1 S.2.1 dSx_canExchange_22 rfl (lv_at hl 0 rfl) ?_
      refine get_Sx (v := .ref (ξ.2.2.2.1 42)) S hw (is_0 hf) 7 (by decide) rfl wf_Sx_46 dSx_canExchange_23 ?_
      refine lv_aload_n S.1 S.2.1 dSx_canExchange_26 rfl (lv_at hl 0 rfl) ?_
      refine get_Sx (v := .ref (ξ.2.2.2.1 1)) S hw (is_0 hf) 0 (by decide) rfl wf_Sx_12 dSx_canExchange_27 ?_
      refine lv_iload_n S.1 S.2.1 dSx_canExchange_30 rfl (lv_at hl 1 rfl) ?_
      refine lv_aload_n S.1 S.2.1 dSx_canExchange_31 rfl (lv_at hl 0 rfl) ?_
      refine get_Sx (v := .ref (ξ.2.2.2.1 1)) S hw (is_0 hf) 0 (by decide) rfl wf_Sx_12 dSx_canExchange_32 ?_
      refine get_Pl (v := .ref (ξ.2.2.2.1 4)) S hw (is_1 hf) 3 (by decide) rfl wf_Sx_106 dSx_canExchange_35 ?_
      refine lv_iload_n S.1 S.2.1 dSx_canExchange_38 rfl (lv_at hl 2 rfl) ?_
      refine sx_iald S hw (is_4 hf) hm dSx_canExchange_39 (fun v7 hm => ?_)
      obtain ⟨⟨v10, g9⟩, h8, hm⟩ := ob hm
      refine sw_Vi (q := 42) (rest := []) S hw (cJu_barsAt l N hf 1 (is_1 hf) a1 v7 h8) kJu_barsAt wm_Sx_128 (is_42 hf).1 (e_Ju (is_42 hf)) rfl rfl rfl rfl hl.1 (Nat.le_of_ble_eq_true rfl) ⟨rfl, rfl, Nat.le_of_ble_eq_true rfl, Nat.le_of_ble_eq_true rfl⟩ ⟨Nat.le_of_ble_eq_true rfl, Nat.le_of_ble_eq_true rfl⟩ dSx_canExchange_40 (fun H locs hw hf => ?_)
      refine bif_ne (tgt := 74) S.1 S.2.1 hm dSx_canExchange_43 (by decide) (fun hm => ?_) (fun hm => ?_)
      · refine lv_iconst (v := (0 : Int32)) S.1 S.2.1 dSx_canExchange_74 (by decide) ?_
        obtain rfl := Option.some.inj hm
        exact sw_zret S hr hlk (Or.inl rfl) hw hf dSx_canExchange_75
      · refine lv_aload_n S.1 S.2.1 dSx_canExchange_46 rfl (lv_at hl 0 rfl) ?_
        refine get_Sx (v := .ref (ξ.2.2.2.1 42)) S hw (is_0 hf) 7 (by decide) rfl wf_Sx_46 dSx_canExchange_47 ?_
        refine lv_aload_n S.1 S.2.1 dSx_canExchange_50 rfl (lv_at hl 0 rfl) ?_
        refine get_Sx (v := .ref (ξ.2.2.2.1 1)) S hw (is_0 hf) 0 (by decide) rfl wf_Sx_12 dSx_canExchange_51 ?_
        refine lv_iload_n S.1 S.2.1 dSx_canExchange_54 rfl (lv_at hl 2 rfl) ?_
        refine lv_aload_n S.1 S.2.1 dSx_canExchange_55 rfl (lv_at hl 0 rfl) ?_
        refine get_Sx (v := .ref (ξ.2.2.2.1 1)) S hw (is_0 hf) 0 (by decide) rfl wf_Sx_12 dSx_canExchange_56 ?_
        refine get_Pl (v := .ref (ξ.2.2.2.1 4)) S hw (is_1 hf) 3 (by decide) rfl wf_Sx_106 dSx_canExchange_59 ?_
        refine lv_iload_n S.1 S.2.1 dSx_canExchange_62 rfl (lv_at hl 1 rfl) ?_
        refine sx_iald S hw (is_4 hf) hm dSx_canExchange_63 (fun v11 hm => ?_)
        obtain ⟨⟨v14, g13⟩, h12, hm⟩ := ob hm
        refine sw_Vi (q := 42) (rest := []) S hw (cJu_barsAt l N hf 1 (is_1 hf) a2 v11 h12) kJu_barsAt wm_Sx_128 (is_42 hf).1 (e_Ju (is_42 hf)) rfl rfl rfl rfl hl.1 (Nat.le_of_ble_eq_true rfl) ⟨rfl, rfl, Nat.le_of_ble_eq_true rfl, Nat.le_of_ble_eq_true rfl⟩ ⟨Nat.le_of_ble_eq_true rfl, Nat.le_of_ble_eq_true rfl⟩ dSx_canExchange_64 (fun H locs hw hf => ?_)
        refine bif_ne (tgt := 74) S.1 S.2.1 hm dSx_canExchange_67 (by decide) (fun hm => ?_) (fun hm => ?_)
        · refine lv_iconst (v := (0 : Int32)) S.1 S.2.1 dSx_canExchange_74 (by decide) ?_
          obtain rfl := Option.some.inj hm
          exact sw_zret S hr hlk (Or.inl rfl) hw hf dSx_canExchange_75
        · refine lv_iconst (v := (1 : Int32)) S.1 S.2.1 dSx_canExchange_70 (by decide) ?_
          refine lv_goto (tgt := 75) S.1 S.2.1 dSx_canExchange_71 (by decide) ?_
          obtain rfl := Option.some.inj hm
          exact sw_zret S hr hlk (Or.inr rfl) hw hf dSx_canExchange_75
set_option maxHeartbeats 4000000 in
set_option maxRecDepth 100000 in
theorem cSx_drawOnPaper (l : Launch) (N : Nat) {Γ : sw_C} {A : Nat → Prop} {ξ : sw_x} {g : sw_g} {μ : sw_m} (hf : sw_wf ξ g.2.2) (a1 : Int32) (a2 : Int32) (a3 : Int32) {res : sw_g} (hm : fSx_drawOnPaper N ξ.2.2.1 g a1 a2 a3 = some res) : Met l ySx_drawOnPaper (Cond.code ySx_drawOnPaper prog_1_method_74_code 4 (none) :: sw_tb) rmSx_drawOnPaper (va_Pc [.ref (ξ.2.2.2.1 0), .int a1, .int a2, .int a3] (sw_V Γ A ξ g μ)) (sw_Qv Γ A ξ res μ (sw_wf ξ res.2.2)) 0 0 A := by
  refine Met.ofW (cc := prog_1_method_74_code) (maxL := 4) (ret := none) (by decide) rfl ?_
  intro p e s m args below meth c s₁ B hml hv
  obtain ⟨rfl, hv⟩ := hv
  have S : CallFix p m c prog_1_method_74_code 4 s _ (Cond.code ySx_drawOnPaper prog_1_method_74_code 4 (none) :: sw_tb) R_Sx := ⟨B.exec, B.bytes, hml, findClass_of_methodNamed B.named, atoms_spec (ws := (Cond.code ySx_drawOnPaper prog_1_method_74_code 4 (none) :: sw_tb)) B.pre⟩
  have hr := B.returns
  have hlk := B.notSynchronized
  have hw := sw_begin hv
  have hl := lv_entry [.ref (ξ.2.2.2.1 0), .int a1, .int a2, .int a3] (n := 4) (Nat.le_of_ble_eq_true rfl)
  rw [lg_entry_eq]
  generalize (lg_sl [.ref (ξ.2.2.2.1 0), .int a1, .int a2, .int a3] ++ List.replicate (4 - (lg_sl [.ref (ξ.2.2.2.1 0), .int a1, .int a2, .int a3]).length) Slot.unset).toArray = ls at hl ⊢
  have hl : lv_has ls 4 [(0, .ref (ξ.2.2.2.1 0)), (1, .int a1), (2, .int a2), (3, .int a3)] := hl
  unfold fSx_drawOnPaper at hm
  refine lv_iload_n S.1 S.2.1 dSx_drawOnPaper_0 rfl (lv_at hl 3 rfl) ?_
  refine lv_iconst (v := (2 : Int32)) S.1 S.2.1 dSx_drawOnPaper_1 (by decide) ?_
  refine bicmp_ne (tgt := 18) S.1 S.2.1 hm dSx_drawOnPaper_2 (by decide) (fun hm => ?_) (fun hm => ?_)
  · refine lv_aload_n S.1 S.2.1 dSx_drawOnPaper_18 rfl (lv_at hl 0 rfl) ?_
    refine lv_aload_n S.1 S.2.1 dSx_drawOnPaper_19 rfl (lv_at hl 0 rfl) ?_
    refine get_Sx (v := .ref (ξ.2.2.2.1 19)) S hw (is_0 hf) 2 (by decide) rfl wf_Sx_19 dSx_drawOnPaper_20 ?_
    refine lv_iload_n S.1 S.2.1 dSx_drawOnPaper_23 rfl (lv_at hl 1 rfl) ?_
    refine lv_iload_n S.1 S.2.1 dSx_drawOnPaper_24 rfl (lv_at hl 2 rfl) ?_
    obtain ⟨⟨v3, g2⟩, h1, hm⟩ := ob hm
    refine sw_Vi (q := 0) (rest := []) S hw (cSx_canPut l N hf 19 (is_19 hf) a1 a2 h1) kSx_canPut wm_Sx_339 (is_0 hf).1 (e_Sx (is_0 hf)) rfl rfl rfl rfl hl.1 (Nat.le_of_ble_eq_true rfl) ⟨rfl, rfl, Nat.le_of_ble_eq_true rfl, Nat.le_of_ble_eq_true rfl⟩ ⟨Nat.le_of_ble_eq_true rfl, Nat.le_of_ble_eq_true rfl⟩ dSx_drawOnPaper_25 (fun H locs hw hf => ?_)
    refine bif_eq (tgt := 41) S.1 S.2.1 hm dSx_drawOnPaper_28 (by decide) (fun hm => ?_) (fun hm => ?_)
    · obtain rfl := Option.some.inj hm
      exact sw_vret S hr hlk hw hf dSx_drawOnPaper_41
    · refine lv_aload_n S.1 S.2.1 dSx_drawOnPaper_31 rfl (lv_at hl 0 rfl) ?_
      refine get_Sx (v := .ref (ξ.2.2.2.1 19)) S hw (is_0 hf) 2 (by decide) rfl wf_Sx_19 dSx_drawOnPaper_32 ?_
      refine get_Pl (v := .ref (ξ.2.2.2.1 22)) S hw (is_19 hf) 3 (by decide) rfl wf_Sx_106 dSx_drawOnPaper_35 ?_
      refine lv_iload_n S.1 S.2.1 dSx_drawOnPaper_38 rfl (lv_at hl 1 rfl) ?_
      refine lv_iload_n S.1 S.2.1 dSx_drawOnPaper_39 rfl (lv_at hl 2 rfl) ?_
      refine sx_iast S hw hf (is_22 hf) hm dSx_drawOnPaper_40 (fun g4 H locs hf hm hw => ?_)
      obtain rfl := Option.some.inj hm
      exact sw_vret S hr hlk hw hf dSx_drawOnPaper_41
  · refine lv_aload_n S.1 S.2.1 dSx_drawOnPaper_5 rfl (lv_at hl 0 rfl) ?_
    refine get_Sx (v := .ref (ξ.2.2.2.1 19)) S hw (is_0 hf) 2 (by decide) rfl wf_Sx_19 dSx_drawOnPaper_6 ?_
    refine get_Pl (v := .ref (ξ.2.2.2.1 22)) S hw (is_19 hf) 3 (by decide) rfl wf_Sx_106 dSx_drawOnPaper_9 ?_
    refine lv_iload_n S.1 S.2.1 dSx_drawOnPaper_12 rfl (lv_at hl 1 rfl) ?_
    refine lv_iconst (v := (-1 : Int32)) S.1 S.2.1 dSx_drawOnPaper_13 (by decide) ?_
    refine sx_iast S hw hf (is_22 hf) hm dSx_drawOnPaper_14 (fun g5 H locs hf hm hw => ?_)
    refine lv_goto (tgt := 41) S.1 S.2.1 dSx_drawOnPaper_15 (by decide) ?_
    obtain rfl := Option.some.inj hm
    exact sw_vret S hr hlk hw hf dSx_drawOnPaper_41
set_option maxHeartbeats 4000000 in
set_option maxRecDepth 100000 in
theorem cJu_countAt (l : Launch) (N : Nat) {Γ : sw_C} {A : Nat → Prop} {ξ : sw_x} {g : sw_g} {μ : sw_m} (hf : sw_wf ξ g.2.2) (q1 : Nat) (hq1 : sw_ik ξ q1 3) (a2 : Int32) (a3 : Int32) {res : Int32 × sw_g} (hm : fJu_countAt N ξ.2.2.1 g q1 a2 a3 = some res) : Met l yJu_countAt (Cond.code yJu_countAt prog_3_method_2_code 4 (some .int) :: sw_tb) rmJu_countAt (va_Pc [.ref (ξ.2.2.2.1 42), .ref (ξ.2.2.2.1 q1), .int a2, .int a3] (sw_V Γ A ξ g μ)) (sw_Qi Γ A ξ res.2 μ res.1 (sw_wf ξ res.2.2.2)) 0 0 A := by
  refine Met.ofW (cc := prog_3_method_2_code) (maxL := 4) (ret := some .int) (by decide) rfl ?_
  intro p e s m args below meth c s₁ B hml hv
  obtain ⟨rfl, hv⟩ := hv
  have S : CallFix p m c prog_3_method_2_code 4 s _ (Cond.code yJu_countAt prog_3_method_2_code 4 (some .int) :: sw_tb) R_Ju := ⟨B.exec, B.bytes, hml, findClass_of_methodNamed B.named, atoms_spec (ws := (Cond.code yJu_countAt prog_3_method_2_code 4 (some .int) :: sw_tb)) B.pre⟩
  have hr := B.returns
  have hlk := B.notSynchronized
  have hw := sw_begin hv
  have hl := lv_entry [.ref (ξ.2.2.2.1 42), .ref (ξ.2.2.2.1 q1), .int a2, .int a3] (n := 4) (Nat.le_of_ble_eq_true rfl)
  rw [lg_entry_eq]
  generalize (lg_sl [.ref (ξ.2.2.2.1 42), .ref (ξ.2.2.2.1 q1), .int a2, .int a3] ++ List.replicate (4 - (lg_sl [.ref (ξ.2.2.2.1 42), .ref (ξ.2.2.2.1 q1), .int a2, .int a3]).length) Slot.unset).toArray = ls at hl ⊢
  have hl : lv_has ls 4 [(0, .ref (ξ.2.2.2.1 42)), (1, .ref (ξ.2.2.2.1 q1)), (2, .int a2), (3, .int a3)] := hl
  unfold fJu_countAt at hm
  refine lv_aload_n S.1 S.2.1 dJu_countAt_0 rfl (lv_at hl 0 rfl) ?_
  refine lv_aload_n S.1 S.2.1 dJu_countAt_1 rfl (lv_at hl 1 rfl) ?_
  refine lv_iload_n S.1 S.2.1 dJu_countAt_2 rfl (lv_at hl 2 rfl) ?_
  refine lv_iload_n S.1 S.2.1 dJu_countAt_3 rfl (lv_at hl 3 rfl) ?_
  obtain ⟨g2, h1, hm⟩ := ob hm
  refine sw_Vv (q := 42) (rest := []) S hw (cJu_ask l  hf q1 hq1 a2 a3 h1) kJu_ask wm_Ju_22 (is_42 hf).1 (e_Ju (is_42 hf)) rfl rfl rfl rfl hl.1 (Nat.le_of_ble_eq_true rfl) ⟨rfl, rfl, Nat.le_of_ble_eq_true rfl, Nat.le_of_ble_eq_true rfl⟩ ⟨Nat.le_of_ble_eq_true rfl, Nat.le_of_ble_eq_true rfl⟩ dJu_countAt_4 (fun H locs hw hf => ?_)
  refine lv_aload_n S.1 S.2.1 dJu_countAt_7 rfl (lv_at hl 0 rfl) ?_
  refine lv_aload_n S.1 S.2.1 dJu_countAt_8 rfl (lv_at hl 1 rfl) ?_
  refine lv_aload_n S.1 S.2.1 dJu_countAt_9 rfl (lv_at hl 1 rfl) ?_
  refine get_Pl (v := .int (g2.1 q1 11)) S hw hq1 11 (by decide) rfl wf_Ju_26 dJu_countAt_10 ?_
  obtain ⟨⟨v5, g4⟩, h3, hm⟩ := ob hm
  refine sw_Vq (q := q1) (rest := [.ref (ξ.2.2.2.1 42)]) S hw (cPl_textOf l  hf q1 hq1 (g2.1 q1 11) h3) kPl_textOf wm_Ju_32 hq1.1 (e_Pl hq1) rfl rfl rfl rfl hl.1 (Nat.le_of_ble_eq_true rfl) ⟨rfl, rfl, Nat.le_of_ble_eq_true rfl, Nat.le_of_ble_eq_true rfl⟩ ⟨Nat.le_of_ble_eq_true rfl, Nat.le_of_ble_eq_true rfl⟩ dJu_countAt_13 (fun H locs hw hΛ => ?_)
  have hf := hΛ.1
  cases v5 with
  | none =>
    refine W.eq (g2 := F0 m 16 ls [.null, .ref (ξ.2.2.2.1 42)]) rfl ?_
    refine lv_iconst (v := (0 : Int32)) S.1 S.2.1 dJu_countAt_16 (by decide) ?_
    refine lv_bipush (v := (99 : Int32)) S.1 S.2.1 dJu_countAt_17 (by decide) ?_
    refine lv_aload_n S.1 S.2.1 dJu_countAt_19 rfl (lv_at hl 1 rfl) ?_
    refine get_Pl (v := .ref (ξ.2.2.2.1 (q1 + 1))) S hw hq1 1 (by decide) rfl wf_Ju_36 dJu_countAt_20 ?_
    refine lv_iload_n S.1 S.2.1 dJu_countAt_23 rfl (lv_at hl 2 rfl) ?_
    refine sx_iald S hw (is_Pl_heavy hf hq1) hm dJu_countAt_24 (fun v7 hm => ?_)
    obtain ⟨⟨v10, g9⟩, h8, hm⟩ := ob hm
    refine sw_Vi (q := 42) (rest := []) S hw (cJu_lastTold l N hf none (fun _ h => by cases h) (0 : Int32) (99 : Int32) v7 h8) kJu_lastTold wm_Ju_39 (is_42 hf).1 (e_Ju (is_42 hf)) rfl rfl rfl rfl hl.1 (Nat.le_of_ble_eq_true rfl) ⟨rfl, rfl, Nat.le_of_ble_eq_true rfl, Nat.le_of_ble_eq_true rfl⟩ ⟨Nat.le_of_ble_eq_true rfl, Nat.le_of_ble_eq_true rfl⟩ dJu_countAt_25 (fun H locs hw hf => ?_)
    obtain rfl := Option.some.inj hm
    exact sw_iret S hr hlk hw hf dJu_countAt_28
  | some p6 =>
    have hp6 : sw_ik ξ p6 7 := hΛ.2 _ rfl
    refine W.eq (g2 := F0 m 16 ls [.ref (ξ.2.2.2.1 p6), .ref (ξ.2.2.2.1 42)]) rfl ?_
    refine lv_iconst (v := (0 : Int32)) S.1 S.2.1 dJu_countAt_16 (by decide) ?_
    refine lv_bipush (v := (99 : Int32)) S.1 S.2.1 dJu_countAt_17 (by decide) ?_
    refine lv_aload_n S.1 S.2.1 dJu_countAt_19 rfl (lv_at hl 1 rfl) ?_
    refine get_Pl (v := .ref (ξ.2.2.2.1 (q1 + 1))) S hw hq1 1 (by decide) rfl wf_Ju_36 dJu_countAt_20 ?_
    refine lv_iload_n S.1 S.2.1 dJu_countAt_23 rfl (lv_at hl 2 rfl) ?_
    refine sx_iald S hw (is_Pl_heavy hf hq1) hm dJu_countAt_24 (fun v11 hm => ?_)
    obtain ⟨⟨v14, g13⟩, h12, hm⟩ := ob hm
    refine sw_Vi (q := 42) (rest := []) S hw (cJu_lastTold l N hf (some p6) (fun _ h => by cases h; exact hp6) (0 : Int32) (99 : Int32) v11 h12) kJu_lastTold wm_Ju_39 (is_42 hf).1 (e_Ju (is_42 hf)) rfl rfl rfl rfl hl.1 (Nat.le_of_ble_eq_true rfl) ⟨rfl, rfl, Nat.le_of_ble_eq_true rfl, Nat.le_of_ble_eq_true rfl⟩ ⟨Nat.le_of_ble_eq_true rfl, Nat.le_of_ble_eq_true rfl⟩ dJu_countAt_25 (fun H locs hw hf => ?_)
    obtain rfl := Option.some.inj hm
    exact sw_iret S hr hlk hw hf dJu_countAt_28
set_option maxHeartbeats 4000000 in
set_option maxRecDepth 100000 in
theorem cJu_shedAt (l : Launch) (N : Nat) {Γ : sw_C} {A : Nat → Prop} {ξ : sw_x} {g : sw_g} {μ : sw_m} (hf : sw_wf ξ g.2.2) (q1 : Nat) (hq1 : sw_ik ξ q1 3) (a2 : Int32) (a3 : Int32) {res : Int32 × sw_g} (hm : fJu_shedAt N ξ.2.2.1 g q1 a2 a3 = some res) : Met l yJu_shedAt (Cond.code yJu_shedAt prog_3_method_3_code 4 (some .int) :: sw_tb) rmJu_shedAt (va_Pc [.ref (ξ.2.2.2.1 42), .ref (ξ.2.2.2.1 q1), .int a2, .int a3] (sw_V Γ A ξ g μ)) (sw_Qi Γ A ξ res.2 μ res.1 (sw_wf ξ res.2.2.2)) 0 0 A := by
  refine Met.ofW (cc := prog_3_method_3_code) (maxL := 4) (ret := some .int) (by decide) rfl ?_
  intro p e s m args below meth c s₁ B hml hv
  obtain ⟨rfl, hv⟩ := hv
  have S : CallFix p m c prog_3_method_3_code 4 s _ (Cond.code yJu_shedAt prog_3_method_3_code 4 (some .int) :: sw_tb) R_Ju := ⟨B.exec, B.bytes, hml, findClass_of_methodNamed B.named, atoms_spec (ws := (Cond.code yJu_shedAt prog_3_method_3_code 4 (some .int) :: sw_tb)) B.pre⟩
  have hr := B.returns
  have hlk := B.notSynchronized
  have hw := sw_begin hv
  have hl := lv_entry [.ref (ξ.2.2.2.1 42), .ref (ξ.2.2.2.1 q1), .int a2, .int a3] (n := 4) (Nat.le_of_ble_eq_true rfl)
  rw [lg_entry_eq]
  generalize (lg_sl [.ref (ξ.2.2.2.1 42), .ref (ξ.2.2.2.1 q1), .int a2, .int a3] ++ List.replicate (4 - (lg_sl [.ref (ξ.2.2.2.1 42), .ref (ξ.2.2.2.1 q1), .int a2, .int a3]).length) Slot.unset).toArray = ls at hl ⊢
  have hl : lv_has ls 4 [(0, .ref (ξ.2.2.2.1 42)), (1, .ref (ξ.2.2.2.1 q1)), (2, .int a2), (3, .int a3)] := hl
  unfold fJu_shedAt at hm
  refine lv_aload_n S.1 S.2.1 dJu_shedAt_0 rfl (lv_at hl 0 rfl) ?_
  refine lv_aload_n S.1 S.2.1 dJu_shedAt_1 rfl (lv_at hl 1 rfl) ?_
  refine lv_iload_n S.1 S.2.1 dJu_shedAt_2 rfl (lv_at hl 2 rfl) ?_
  refine lv_iload_n S.1 S.2.1 dJu_shedAt_3 rfl (lv_at hl 3 rfl) ?_
  obtain ⟨g2, h1, hm⟩ := ob hm
  refine sw_Vv (q := 42) (rest := []) S hw (cJu_ask l  hf q1 hq1 a2 a3 h1) kJu_ask wm_Ju_22 (is_42 hf).1 (e_Ju (is_42 hf)) rfl rfl rfl rfl hl.1 (Nat.le_of_ble_eq_true rfl) ⟨rfl, rfl, Nat.le_of_ble_eq_true rfl, Nat.le_of_ble_eq_true rfl⟩ ⟨Nat.le_of_ble_eq_true rfl, Nat.le_of_ble_eq_true rfl⟩ dJu_shedAt_4 (fun H locs hw hf => ?_)
  refine lv_aload_n S.1 S.2.1 dJu_shedAt_7 rfl (lv_at hl 0 rfl) ?_
  refine lv_aload_n S.1 S.2.1 dJu_shedAt_8 rfl (lv_at hl 1 rfl) ?_
  refine lv_aload_n S.1 S.2.1 dJu_shedAt_9 rfl (lv_at hl 1 rfl) ?_
  refine get_Pl (v := .int (g2.1 q1 11)) S hw hq1 11 (by decide) rfl wf_Ju_26 dJu_shedAt_10 ?_
  obtain ⟨⟨v5, g4⟩, h3, hm⟩ := ob hm
  refine sw_Vq (q := q1) (rest := [.ref (ξ.2.2.2.1 42)]) S hw (cPl_textOf l  hf q1 hq1 (g2.1 q1 11) h3) kPl_textOf wm_Ju_32 hq1.1 (e_Pl hq1) rfl rfl rfl rfl hl.1 (Nat.le_of_ble_eq_true rfl) ⟨rfl, rfl, Nat.le_of_ble_eq_true rfl, Nat.le_of_ble_eq_true rfl⟩ ⟨Nat.le_of_ble_eq_true rfl, Nat.le_of_ble_eq_true rfl⟩ dJu_shedAt_13 (fun H locs hw hΛ => ?_)
  have hf := hΛ.1
  cases v5 with
  | none =>
    refine W.eq (g2 := F0 m 16 ls [.null, .ref (ξ.2.2.2.1 42)]) rfl ?_
    refine lv_iconst (v := (1 : Int32)) S.1 S.2.1 dJu_shedAt_16 (by decide) ?_
    refine lv_bipush (v := (9 : Int32)) S.1 S.2.1 dJu_shedAt_17 (by decide) ?_
    refine lv_iconst (v := (0 : Int32)) S.1 S.2.1 dJu_shedAt_19 (by decide) ?_
    obtain ⟨⟨v9, g8⟩, h7, hm⟩ := ob hm
    refine sw_Vi (q := 42) (rest := []) S hw (cJu_lastTold l N hf none (fun _ h => by cases h) (1 : Int32) (9 : Int32) (0 : Int32) h7) kJu_lastTold wm_Ju_39 (is_42 hf).1 (e_Ju (is_42 hf)) rfl rfl rfl rfl hl.1 (Nat.le_of_ble_eq_true rfl) ⟨rfl, rfl, Nat.le_of_ble_eq_true rfl, Nat.le_of_ble_eq_true rfl⟩ ⟨Nat.le_of_ble_eq_true rfl, Nat.le_of_ble_eq_true rfl⟩ dJu_shedAt_20 (fun H locs hw hf => ?_)
    obtain rfl := Option.some.inj hm
    exact sw_iret S hr hlk hw hf dJu_shedAt_23
  | some p6 =>
    have hp6 : sw_ik ξ p6 7 := hΛ.2 _ rfl
    refine W.eq (g2 := F0 m 16 ls [.ref (ξ.2.2.2.1 p6), .ref (ξ.2.2.2.1 42)]) rfl ?_
    refine lv_iconst (v := (1 : Int32)) S.1 S.2.1 dJu_shedAt_16 (by decide) ?_
    refine lv_bipush (v := (9 : Int32)) S.1 S.2.1 dJu_shedAt_17 (by decide) ?_
    refine lv_iconst (v := (0 : Int32)) S.1 S.2.1 dJu_shedAt_19 (by decide) ?_
    obtain ⟨⟨v12, g11⟩, h10, hm⟩ := ob hm
    refine sw_Vi (q := 42) (rest := []) S hw (cJu_lastTold l N hf (some p6) (fun _ h => by cases h; exact hp6) (1 : Int32) (9 : Int32) (0 : Int32) h10) kJu_lastTold wm_Ju_39 (is_42 hf).1 (e_Ju (is_42 hf)) rfl rfl rfl rfl hl.1 (Nat.le_of_ble_eq_true rfl) ⟨rfl, rfl, Nat.le_of_ble_eq_true rfl, Nat.le_of_ble_eq_true rfl⟩ ⟨Nat.le_of_ble_eq_true rfl, Nat.le_of_ble_eq_true rfl⟩ dJu_shedAt_20 (fun H locs hw hf => ?_)
    obtain rfl := Option.some.inj hm
    exact sw_iret S hr hlk hw hf dJu_shedAt_23
set_option maxHeartbeats 4000000 in
set_option maxRecDepth 100000 in
theorem wJu_tiltBy_5n {l : Launch} {p : Program} {e : Env} {s : State} {m : MethodId} {args : Array Value} {below : List Frame} {meth : Method} {c : Code} {Γ : sw_C} {A : Nat → Prop} {ξ : sw_x} {μ : sw_m} {res : Int32 × sw_g} (S : CallFix p m c prog_3_method_5_code 6 s args (Cond.code yJu_tiltBy prog_3_method_5_code 6 (some .int) :: sw_tb) R_Ju) (hr : meth.sig.returnType = some .int) (hlk : meth.locks = false) (q1 : Nat) (hq1 : sw_ik ξ q1 3) (N : Nat) : ∀ (fu : Nat) (g : sw_g) (u3 : Int32) (u4 : Int32) (H : Heap) (locs : List Loc) (ls : Array Slot), fJu_tiltBy_5n N ξ.2.2.1 q1  fu g u3 u4 = some res → sw_S Γ A ξ g μ s H locs → sw_wf ξ g.2.2 → lv_has ls 6 [(0, .ref (ξ.2.2.2.1 42)), (1, .ref (ξ.2.2.2.1 q1)), (2, .null), (3, .int u3), (4, .int u4)] → W p l e (headSpec (Cond.code yJu_tiltBy prog_3_method_5_code 6 (some .int) :: sw_tb) rmJu_tiltBy).room s m args below meth c H locs 0 0 (MQ below (sw_Qi Γ A ξ res.2 μ res.1 (sw_wf ξ res.2.2.2)) args s 0 0 A) (F0 m 5 ls []) := by
  intro fu
  induction fu with
  | zero => intro g u3 u4 H locs ls hm; rw [fJu_tiltBy_5n.eq_1] at hm; cases hm
  | succ fu ih =>
    intro g u3 u4 H locs ls hm hw hf hl
    rw [fJu_tiltBy_5n.eq_2] at hm
    refine lv_iload S.1 S.2.1 dJu_tiltBy_5 (lv_at hl 4 rfl) ?_
    refine lv_bipush (v := (7 : Int32)) S.1 S.2.1 dJu_tiltBy_7 (by decide) ?_
    refine bicmp_ge (tgt := 68) S.1 S.2.1 hm dJu_tiltBy_9 (by decide) (fun hm => ?_) (fun hm => ?_)
    · refine lv_iload_n S.1 S.2.1 dJu_tiltBy_68 rfl (lv_at hl 3 rfl) ?_
      obtain rfl := Option.some.inj hm
      exact sw_iret S hr hlk hw hf dJu_tiltBy_69
    · refine lv_aload_n S.1 S.2.1 dJu_tiltBy_12 rfl (lv_at hl 1 rfl) ?_
      refine lv_iload S.1 S.2.1 dJu_tiltBy_13 (lv_at hl 4 rfl) ?_
      obtain ⟨⟨v3, g2⟩, h1, hm⟩ := ob hm
      refine sw_Vi (q := q1) (rest := []) S hw (cPl_isOn l  hf q1 hq1 u4 h1) kPl_isOn wm_Ju_55 hq1.1 (e_Pl hq1) rfl rfl rfl rfl hl.1 (Nat.le_of_ble_eq_true rfl) ⟨rfl, rfl, Nat.le_of_ble_eq_true rfl, Nat.le_of_ble_eq_true rfl⟩ ⟨Nat.le_of_ble_eq_true rfl, Nat.le_of_ble_eq_true rfl⟩ dJu_tiltBy_15 (fun H locs hw hf => ?_)
      refine bif_eq (tgt := 62) S.1 S.2.1 hm dJu_tiltBy_18 (by decide) (fun hm => ?_) (fun hm => ?_)
      · obtain ⟨x4, ex4, hm⟩ := nm_x hm
        refine lv_iinc (v := x4) (lv' := [(4, .int x4), (0, .ref (ξ.2.2.2.1 42)), (1, .ref (ξ.2.2.2.1 q1)), (2, .null), (3, .int u3)]) S.1 S.2.1 dJu_tiltBy_62 hl (k := 4) rfl (by rw [ex4]; rfl) (by decide) rfl (fun ls hl => ?_)
        refine lv_goto (tgt := 5) S.1 S.2.1 dJu_tiltBy_65 (by decide) ?_
        exact ih g2 u3 x4 _ _ _ hm hw hf (lv_sub hl [1, 2, 3, 4, 0] rfl)
      · refine lv_aload_n S.1 S.2.1 dJu_tiltBy_21 rfl (lv_at hl 1 rfl) ?_
        refine get_Pl (v := .ref (ξ.2.2.2.1 (q1 + 3))) S hw hq1 3 (by decide) rfl wf_Ju_59 dJu_tiltBy_22 ?_
        refine lv_iload S.1 S.2.1 dJu_tiltBy_25 (lv_at hl 4 rfl) ?_
        refine sx_iald S hw (is_Pl_place hf hq1) hm dJu_tiltBy_27 (fun v5 hm => ?_)
        refine lv_istore (lv' := [(5, .int v5), (0, .ref (ξ.2.2.2.1 42)), (1, .ref (ξ.2.2.2.1 q1)), (2, .null), (3, .int u3), (4, .int u4)]) S.1 S.2.1 dJu_tiltBy_28 hl (by decide) rfl (fun ls hl => ?_)
        refine lv_aload_n S.1 S.2.1 dJu_tiltBy_30 rfl (lv_at hl 1 rfl) ?_
        refine lv_aload_n S.1 S.2.1 dJu_tiltBy_31 rfl (lv_at hl 2 rfl) ?_
        refine lv_iload S.1 S.2.1 dJu_tiltBy_32 (lv_at hl 5 rfl) ?_
        refine lv_iload S.1 S.2.1 dJu_tiltBy_34 (lv_at hl 0 rfl) ?_
        obtain ⟨g7, h6, hm⟩ := ob hm
        refine sw_Vv (q := 42) (rest := []) S hw (cJu_ask l  hf q1 hq1 u4 v5 h6) kJu_ask wm_Ju_22 (is_42 hf).1 (e_Ju (is_42 hf)) rfl rfl rfl rfl hl.1 (Nat.le_of_ble_eq_true rfl) ⟨rfl, rfl, Nat.le_of_ble_eq_true rfl, Nat.le_of_ble_eq_true rfl⟩ ⟨Nat.le_of_ble_eq_true rfl, Nat.le_of_ble_eq_true rfl⟩ dJu_tiltBy_36 (fun H locs hw hf => ?_)
        refine lv_iload_n S.1 S.2.1 dJu_tiltBy_39 rfl (lv_at hl 4 rfl) ?_
        refine lv_iload S.1 S.2.1 dJu_tiltBy_40 (lv_at hl 0 rfl) ?_
        refine lv_iconst (v := (3 : Int32)) S.1 S.2.1 dJu_tiltBy_42 (by decide) ?_
        refine lv_isub S.1 S.2.1 dJu_tiltBy_43 ?_
        refine lv_aload_n S.1 S.2.1 dJu_tiltBy_44 rfl (lv_at hl 1 rfl) ?_
        refine lv_aload_nN S.1 S.2.1 dJu_tiltBy_45 rfl (lv_at hl 3 rfl) ?_
        refine lv_iconst (v := (0 : Int32)) S.1 S.2.1 dJu_tiltBy_46 (by decide) ?_
        refine lv_bipush (v := (99 : Int32)) S.1 S.2.1 dJu_tiltBy_47 (by decide) ?_
        refine lv_aload_n S.1 S.2.1 dJu_tiltBy_49 rfl (lv_at hl 2 rfl) ?_
        refine get_Pl (v := .ref (ξ.2.2.2.1 (q1 + 1))) S hw hq1 1 (by decide) rfl wf_Ju_36 dJu_tiltBy_50 ?_
        refine lv_iload S.1 S.2.1 dJu_tiltBy_53 (lv_at hl 5 rfl) ?_
        refine sx_iald S hw (is_Pl_heavy hf hq1) hm dJu_tiltBy_55 (fun v8 hm => ?_)
        obtain ⟨⟨v11, g10⟩, h9, hm⟩ := ob hm
        refine sw_Vi (q := 42) (rest := [.int (v5 - (3 : Int32)), .int u3]) S hw (cJu_lastTold l N hf none (fun _ h => by cases h) (0 : Int32) (99 : Int32) v8 h9) kJu_lastTold wm_Ju_39 (is_42 hf).1 (e_Ju (is_42 hf)) rfl rfl rfl rfl hl.1 (Nat.le_of_ble_eq_true rfl) ⟨rfl, rfl, Nat.le_of_ble_eq_true rfl, Nat.le_of_ble_eq_true rfl⟩ ⟨Nat.le_of_ble_eq_true rfl, Nat.le_of_ble_eq_true rfl⟩ dJu_tiltBy_56 (fun H locs hw hf => ?_)
        refine lv_imul S.1 S.2.1 dJu_tiltBy_59 ?_
        refine lv_iadd S.1 S.2.1 dJu_tiltBy_60 ?_
        refine nm_i hm (fun x12 hm => ?_)
        refine lv_istore_n (lv' := [(3, .int x12), (5, .int v5), (0, .ref (ξ.2.2.2.1 42)), (1, .ref (ξ.2.2.2.1 q1)), (2, .null), (4, .int u4)]) S.1 S.2.1 dJu_tiltBy_61 rfl hl (by decide) rfl (fun ls hl => ?_)
        obtain ⟨x13, ex13, hm⟩ := nm_x hm
        refine lv_iinc (v := x13) (lv' := [(4, .int x13), (3, .int x12), (5, .int v5), (0, .ref (ξ.2.2.2.1 42)), (1, .ref (ξ.2.2.2.1 q1)), (2, .null)]) S.1 S.2.1 dJu_tiltBy_62 hl (k := 5) rfl (by rw [ex13]; rfl) (by decide) rfl (fun ls hl => ?_)
        refine lv_goto (tgt := 5) S.1 S.2.1 dJu_tiltBy_65 (by decide) ?_
        exact ih g10 x12 x13 _ _ _ hm hw hf (lv_sub hl [3, 4, 5, 1, 0] rfl)
set_option maxHeartbeats 4000000 in
set_option maxRecDepth 100000 in
theorem wJu_tiltBy_5 {l : Launch} {p : Program} {e : Env} {s : State} {m : MethodId} {args : Array Value} {below : List Frame} {meth : Method} {c : Code} {Γ : sw_C} {A : Nat → Prop} {ξ : sw_x} {μ : sw_m} {res : Int32 × sw_g} (S : CallFix p m c prog_3_method_5_code 6 s args (Cond.code yJu_tiltBy prog_3_method_5_code 6 (some .int) :: sw_tb) R_Ju) (hr : meth.sig.returnType = some .int) (hlk : meth.locks = false) (q1 : Nat) (hq1 : sw_ik ξ q1 3) (N : Nat) : ∀ (fu : Nat) (g : sw_g) (u2 : Nat) (u3 : Int32) (u4 : Int32) (H : Heap) (locs : List Loc) (ls : Array Slot), fJu_tiltBy_5 N ξ.2.2.1 q1  fu g u2 u3 u4 = some res → sw_S Γ A ξ g μ s H locs → sw_wf ξ g.2.2 → sw_ik ξ u2 7 → lv_has ls 6 [(0, .ref (ξ.2.2.2.1 42)), (1, .ref (ξ.2.2.2.1 q1)), (2, .ref (ξ.2.2.2.1 u2)), (3, .int u3), (4, .int u4)] → W p l e (headSpec (Cond.code yJu_tiltBy prog_3_method_5_code 6 (some .int) :: sw_tb) rmJu_tiltBy).room s m args below meth c H locs 0 0 (MQ below (sw_Qi Γ A ξ res.2 μ res.1 (sw_wf ξ res.2.2.2)) args s 0 0 A) (F0 m 5 ls []) := by
  intro fu
  induction fu with
  | zero => intro g u2 u3 u4 H locs ls hm; rw [fJu_tiltBy_5.eq_1] at hm; cases hm
  | succ fu ih =>
    intro g u2 u3 u4 H locs ls hm hw hf hu2 hl
    rw [fJu_tiltBy_5.eq_2] at hm
    refine lv_iload S.1 S.2.1 dJu_tiltBy_5 (lv_at hl 4 rfl) ?_
    refine lv_bipush (v := (7 : Int32)) S.1 S.2.1 dJu_tiltBy_7 (by decide) ?_
    refine bicmp_ge (tgt := 68) S.1 S.2.1 hm dJu_tiltBy_9 (by decide) (fun hm => ?_) (fun hm => ?_)
    · refine lv_iload_n S.1 S.2.1 dJu_tiltBy_68 rfl (lv_at hl 3 rfl) ?_
      obtain rfl := Option.some.inj hm
      exact sw_iret S hr hlk hw hf dJu_tiltBy_69
    · refine lv_aload_n S.1 S.2.1 dJu_tiltBy_12 rfl (lv_at hl 1 rfl) ?_
      refine lv_iload S.1 S.2.1 dJu_tiltBy_13 (lv_at hl 4 rfl) ?_
      obtain ⟨⟨v16, g15⟩, h14, hm⟩ := ob hm
      refine sw_Vi (q := q1) (rest := []) S hw (cPl_isOn l  hf q1 hq1 u4 h14) kPl_isOn wm_Ju_55 hq1.1 (e_Pl hq1) rfl rfl rfl rfl hl.1 (Nat.le_of_ble_eq_true rfl) ⟨rfl, rfl, Nat.le_of_ble_eq_true rfl, Nat.le_of_ble_eq_true rfl⟩ ⟨Nat.le_of_ble_eq_true rfl, Nat.le_of_ble_eq_true rfl⟩ dJu_tiltBy_15 (fun H locs hw hf => ?_)
      refine bif_eq (tgt := 62) S.1 S.2.1 hm dJu_tiltBy_18 (by decide) (fun hm => ?_) (fun hm => ?_)
      · obtain ⟨x17, ex17, hm⟩ := nm_x hm
        refine lv_iinc (v := x17) (lv' := [(4, .int x17), (0, .ref (ξ.2.2.2.1 42)), (1, .ref (ξ.2.2.2.1 q1)), (2, .ref (ξ.2.2.2.1 u2)), (3, .int u3)]) S.1 S.2.1 dJu_tiltBy_62 hl (k := 4) rfl (by rw [ex17]; rfl) (by decide) rfl (fun ls hl => ?_)
        refine lv_goto (tgt := 5) S.1 S.2.1 dJu_tiltBy_65 (by decide) ?_
        exact ih g15 u2 u3 x17 _ _ _ hm hw hf hu2 (lv_sub hl [1, 2, 3, 4, 0] rfl)
      · refine lv_aload_n S.1 S.2.1 dJu_tiltBy_21 rfl (lv_at hl 1 rfl) ?_
        refine get_Pl (v := .ref (ξ.2.2.2.1 (q1 + 3))) S hw hq1 3 (by decide) rfl wf_Ju_59 dJu_tiltBy_22 ?_
        refine lv_iload S.1 S.2.1 dJu_tiltBy_25 (lv_at hl 4 rfl) ?_
        refine sx_iald S hw (is_Pl_place hf hq1) hm dJu_tiltBy_27 (fun v18 hm => ?_)
        refine lv_istore (lv' := [(5, .int v18), (0, .ref (ξ.2.2.2.1 42)), (1, .ref (ξ.2.2.2.1 q1)), (2, .ref (ξ.2.2.2.1 u2)), (3, .int u3), (4, .int u4)]) S.1 S.2.1 dJu_tiltBy_28 hl (by decide) rfl (fun ls hl => ?_)
        refine lv_aload_n S.1 S.2.1 dJu_tiltBy_30 rfl (lv_at hl 1 rfl) ?_
        refine lv_aload_n S.1 S.2.1 dJu_tiltBy_31 rfl (lv_at hl 2 rfl) ?_
        refine lv_iload S.1 S.2.1 dJu_tiltBy_32 (lv_at hl 5 rfl) ?_
        refine lv_iload S.1 S.2.1 dJu_tiltBy_34 (lv_at hl 0 rfl) ?_
        obtain ⟨g20, h19, hm⟩ := ob hm
        refine sw_Vv (q := 42) (rest := []) S hw (cJu_ask l  hf q1 hq1 u4 v18 h19) kJu_ask wm_Ju_22 (is_42 hf).1 (e_Ju (is_42 hf)) rfl rfl rfl rfl hl.1 (Nat.le_of_ble_eq_true rfl) ⟨rfl, rfl, Nat.le_of_ble_eq_true rfl, Nat.le_of_ble_eq_true rfl⟩ ⟨Nat.le_of_ble_eq_true rfl, Nat.le_of_ble_eq_true rfl⟩ dJu_tiltBy_36 (fun H locs hw hf => ?_)
        refine lv_iload_n S.1 S.2.1 dJu_tiltBy_39 rfl (lv_at hl 4 rfl) ?_
        refine lv_iload S.1 S.2.1 dJu_tiltBy_40 (lv_at hl 0 rfl) ?_
        refine lv_iconst (v := (3 : Int32)) S.1 S.2.1 dJu_tiltBy_42 (by decide) ?_
        refine lv_isub S.1 S.2.1 dJu_tiltBy_43 ?_
        refine lv_aload_n S.1 S.2.1 dJu_tiltBy_44 rfl (lv_at hl 1 rfl) ?_
        refine lv_aload_n S.1 S.2.1 dJu_tiltBy_45 rfl (lv_at hl 3 rfl) ?_
        refine lv_iconst (v := (0 : Int32)) S.1 S.2.1 dJu_tiltBy_46 (by decide) ?_
        refine lv_bipush (v := (99 : Int32)) S.1 S.2.1 dJu_tiltBy_47 (by decide) ?_
        refine lv_aload_n S.1 S.2.1 dJu_tiltBy_49 rfl (lv_at hl 2 rfl) ?_
        refine get_Pl (v := .ref (ξ.2.2.2.1 (q1 + 1))) S hw hq1 1 (by decide) rfl wf_Ju_36 dJu_tiltBy_50 ?_
        refine lv_iload S.1 S.2.1 dJu_tiltBy_53 (lv_at hl 5 rfl) ?_
        refine sx_iald S hw (is_Pl_heavy hf hq1) hm dJu_tiltBy_55 (fun v21 hm => ?_)
        obtain ⟨⟨v24, g23⟩, h22, hm⟩ := ob hm
        refine sw_Vi (q := 42) (rest := [.int (v18 - (3 : Int32)), .int u3]) S hw (cJu_lastTold l N hf (some u2) (fun _ h => by cases h; exact hu2) (0 : Int32) (99 : Int32) v21 h22) kJu_lastTold wm_Ju_39 (is_42 hf).1 (e_Ju (is_42 hf)) rfl rfl rfl rfl hl.1 (Nat.le_of_ble_eq_true rfl) ⟨rfl, rfl, Nat.le_of_ble_eq_true rfl, Nat.le_of_ble_eq_true rfl⟩ ⟨Nat.le_of_ble_eq_true rfl, Nat.le_of_ble_eq_true rfl⟩ dJu_tiltBy_56 (fun H locs hw hf => ?_)
        refine lv_imul S.1 S.2.1 dJu_tiltBy_59 ?_
        refine lv_iadd S.1 S.2.1 dJu_tiltBy_60 ?_
        refine nm_i hm (fun x25 hm => ?_)
        refine lv_istore_n (lv' := [(3, .int x25), (5, .int v18), (0, .ref (ξ.2.2.2.1 42)), (1, .ref (ξ.2.2.2.1 q1)), (2, .ref (ξ.2.2.2.1 u2)), (4, .int u4)]) S.1 S.2.1 dJu_tiltBy_61 rfl hl (by decide) rfl (fun ls hl => ?_)
        obtain ⟨x26, ex26, hm⟩ := nm_x hm
        refine lv_iinc (v := x26) (lv' := [(4, .int x26), (3, .int x25), (5, .int v18), (0, .ref (ξ.2.2.2.1 42)), (1, .ref (ξ.2.2.2.1 q1)), (2, .ref (ξ.2.2.2.1 u2))]) S.1 S.2.1 dJu_tiltBy_62 hl (k := 5) rfl (by rw [ex26]; rfl) (by decide) rfl (fun ls hl => ?_)
        refine lv_goto (tgt := 5) S.1 S.2.1 dJu_tiltBy_65 (by decide) ?_
        exact ih g23 u2 x25 x26 _ _ _ hm hw hf hu2 (lv_sub hl [3, 4, 5, 1, 0] rfl)
set_option maxHeartbeats 4000000 in
set_option maxRecDepth 100000 in
theorem cJu_tiltBy (l : Launch) (N : Nat) {Γ : sw_C} {A : Nat → Prop} {ξ : sw_x} {g : sw_g} {μ : sw_m} (hf : sw_wf ξ g.2.2) (q1 : Nat) (t2 : Option Nat) (hq1 : sw_ik ξ q1 3) (ht2 : ∀ q, t2 = some q → sw_ik ξ q 7) {res : Int32 × sw_g} (hm : fJu_tiltBy N ξ.2.2.1 g q1 t2 = some res) : Met l yJu_tiltBy (Cond.code yJu_tiltBy prog_3_method_5_code 6 (some .int) :: sw_tb) rmJu_tiltBy (va_Pc [.ref (ξ.2.2.2.1 42), .ref (ξ.2.2.2.1 q1), va_rf (Option.map ξ.2.2.2.1 t2)] (sw_V Γ A ξ g μ)) (sw_Qi Γ A ξ res.2 μ res.1 (sw_wf ξ res.2.2.2)) 0 0 A := by
  refine Met.ofW (cc := prog_3_method_5_code) (maxL := 6) (ret := some .int) (by decide) rfl ?_
  intro p e s m args below meth c s₁ B hml hv
  obtain ⟨rfl, hv⟩ := hv
  have S : CallFix p m c prog_3_method_5_code 6 s _ (Cond.code yJu_tiltBy prog_3_method_5_code 6 (some .int) :: sw_tb) R_Ju := ⟨B.exec, B.bytes, hml, findClass_of_methodNamed B.named, atoms_spec (ws := (Cond.code yJu_tiltBy prog_3_method_5_code 6 (some .int) :: sw_tb)) B.pre⟩
  have hr := B.returns
  have hlk := B.notSynchronized
  have hw := sw_begin hv
  cases t2 with
  | none =>
    have hl := lv_entry [.ref (ξ.2.2.2.1 42), .ref (ξ.2.2.2.1 q1), va_rf (Option.map ξ.2.2.2.1 none)] (n := 6) (Nat.le_of_ble_eq_true rfl)
    rw [lg_entry_eq]
    generalize (lg_sl [.ref (ξ.2.2.2.1 42), .ref (ξ.2.2.2.1 q1), va_rf (Option.map ξ.2.2.2.1 none)] ++ List.replicate (6 - (lg_sl [.ref (ξ.2.2.2.1 42), .ref (ξ.2.2.2.1 q1), va_rf (Option.map ξ.2.2.2.1 none)]).length) Slot.unset).toArray = ls at hl ⊢
    have hl : lv_has ls 6 [(0, .ref (ξ.2.2.2.1 42)), (1, .ref (ξ.2.2.2.1 q1)), (2, .null)] := hl
    unfold fJu_tiltBy at hm
    refine lv_iconst (v := (0 : Int32)) S.1 S.2.1 dJu_tiltBy_0 (by decide) ?_
    refine lv_istore_n (lv' := [(3, .int (0 : Int32)), (0, .ref (ξ.2.2.2.1 42)), (1, .ref (ξ.2.2.2.1 q1)), (2, .null)]) S.1 S.2.1 dJu_tiltBy_1 rfl hl (by decide) rfl (fun ls hl => ?_)
    refine lv_iconst (v := (0 : Int32)) S.1 S.2.1 dJu_tiltBy_2 (by decide) ?_
    refine lv_istore (lv' := [(4, .int (0 : Int32)), (3, .int (0 : Int32)), (0, .ref (ξ.2.2.2.1 42)), (1, .ref (ξ.2.2.2.1 q1)), (2, .null)]) S.1 S.2.1 dJu_tiltBy_3 hl (by decide) rfl (fun ls hl => ?_)
    exact wJu_tiltBy_5n S hr hlk q1 hq1 N  N g (0 : Int32) (0 : Int32) _ _ _ hm hw hf (lv_sub hl [2, 3, 4, 1, 0] rfl)
  | some q2 =>
    have hq2 : sw_ik ξ q2 7 := ht2 q2 rfl
    have hl := lv_entry [.ref (ξ.2.2.2.1 42), .ref (ξ.2.2.2.1 q1), va_rf (Option.map ξ.2.2.2.1 (some q2))] (n := 6) (Nat.le_of_ble_eq_true rfl)
    rw [lg_entry_eq]
    generalize (lg_sl [.ref (ξ.2.2.2.1 42), .ref (ξ.2.2.2.1 q1), va_rf (Option.map ξ.2.2.2.1 (some q2))] ++ List.replicate (6 - (lg_sl [.ref (ξ.2.2.2.1 42), .ref (ξ.2.2.2.1 q1), va_rf (Option.map ξ.2.2.2.1 (some q2))]).length) Slot.unset).toArray = ls at hl ⊢
    have hl : lv_has ls 6 [(0, .ref (ξ.2.2.2.1 42)), (1, .ref (ξ.2.2.2.1 q1)), (2, .ref (ξ.2.2.2.1 q2))] := hl
    unfold fJu_tiltBy at hm
    refine lv_iconst (v := (0 : Int32)) S.1 S.2.1 dJu_tiltBy_0 (by decide) ?_
    refine lv_istore_n (lv' := [(3, .int (0 : Int32)), (0, .ref (ξ.2.2.2.1 42)), (1, .ref (ξ.2.2.2.1 q1)), (2, .ref (ξ.2.2.2.1 q2))]) S.1 S.2.1 dJu_tiltBy_1 rfl hl (by decide) rfl (fun ls hl => ?_)
    refine lv_iconst (v := (0 : Int32)) S.1 S.2.1 dJu_tiltBy_2 (by decide) ?_
    refine lv_istore (lv' := [(4, .int (0 : Int32)), (3, .int (0 : Int32)), (0, .ref (ξ.2.2.2.1 42)), (1, .ref (ξ.2.2.2.1 q1)), (2, .ref (ξ.2.2.2.1 q2))]) S.1 S.2.1 dJu_tiltBy_3 hl (by decide) rfl (fun ls hl => ?_)
    exact wJu_tiltBy_5 S hr hlk q1 hq1 N  N g q2 (0 : Int32) (0 : Int32) _ _ _ hm hw hf hq2 (lv_sub hl [2, 3, 4, 1, 0] rfl)
