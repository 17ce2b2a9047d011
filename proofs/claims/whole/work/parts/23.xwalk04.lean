set_option maxHeartbeats 4000000 in
set_option maxRecDepth 100000 in
theorem wSx_alone_9 {l : Launch} {p : Program} {e : Env} {s : State} {m : MethodId} {args : Array Value} {below : List Frame} {meth : Method} {c : Code} {Γ : sw_C} {A : Nat → Prop} {ξ : sw_x} {μ : sw_m} {res : Int32 × sw_g} (S : CallFix p m c prog_1_method_24_code 4 s args (Cond.code ySx_alone prog_1_method_24_code 4 (some .int) :: sw_tb) R_Sx) (hr : meth.sig.returnType = some .int) (hlk : meth.locks = false) (N : Nat) : ∀ (fu : Nat) (g : sw_g) (u1 : Int32) (u2 : Int32) (u3 : Int32) (H : Heap) (locs : List Loc) (ls : Array Slot), fSx_alone_9 N ξ.2.2.1  fu g u1 u2 u3 = some res → sw_S Γ A ξ g μ s H locs → sw_wf ξ g.2.2 → lv_has ls 4 [(0, .ref (ξ.2.2.2.1 0)), (1, .int u1), (2, .int u2), (3, .int u3)] → W p l e (headSpec (Cond.code ySx_alone prog_1_method_24_code 4 (some .int) :: sw_tb) rmSx_alone).room s m args below meth c H locs 0 0 (MQ below (sw_Qi Γ A ξ res.2 μ res.1 (sw_wf ξ res.2.2.2)) args s 0 0 A) (F0 m 9 ls []) := by
  intro fu
  induction fu with
  | zero => intro g u1 u2 u3 H locs ls hm; rw [fSx_alone_9.eq_1] at hm; cases hm
  | succ fu ih =>
    intro g u1 u2 u3 H locs ls hm hw hf hl
    rw [fSx_alone_9.eq_2] at hm
    refine lv_iload_n S.1 S.2.1 dSx_alone_9 rfl (lv_at hl 3 rfl) ?_
    refine lv_aload_n S.1 S.2.1 dSx_alone_10 rfl (lv_at hl 0 rfl) ?_
    refine get_Sx (v := .ref (ξ.2.2.2.1 1)) S hw (is_0 hf) 0 (by decide) rfl wf_Sx_12 dSx_alone_11 ?_
    refine get_Pl (v := .int (g.1 1 0)) S hw (is_1 hf) 0 (by decide) rfl wf_Sx_89 dSx_alone_14 ?_
    refine bicmp_ge (tgt := 52) S.1 S.2.1 hm dSx_alone_17 (by decide) (fun hm => ?_) (fun hm => ?_)
    · refine lv_iload_n S.1 S.2.1 dSx_alone_52 rfl (lv_at hl 1 rfl) ?_
      obtain rfl := Option.some.inj hm
      exact sw_iret S hr hlk hw hf dSx_alone_53
    · refine lv_aload_n S.1 S.2.1 dSx_alone_20 rfl (lv_at hl 0 rfl) ?_
      refine get_Sx (v := .ref (ξ.2.2.2.1 1)) S hw (is_0 hf) 0 (by decide) rfl wf_Sx_12 dSx_alone_21 ?_
      refine lv_iload_n S.1 S.2.1 dSx_alone_24 rfl (lv_at hl 3 rfl) ?_
      obtain ⟨⟨v6, g5⟩, h4, hm⟩ := ob hm
      refine sw_Vi (q := 1) (rest := []) S hw (cPl_isOn l  hf 1 (is_1 hf) u3 h4) kPl_isOn wm_Sx_115 (is_1 hf).1 (e_Pl (is_1 hf)) rfl rfl rfl rfl hl.1 (Nat.le_of_ble_eq_true rfl) ⟨rfl, rfl, Nat.le_of_ble_eq_true rfl, Nat.le_of_ble_eq_true rfl⟩ ⟨Nat.le_of_ble_eq_true rfl, Nat.le_of_ble_eq_true rfl⟩ dSx_alone_25 (fun H locs hw hf => ?_)
      refine bif_ne (tgt := 46) S.1 S.2.1 hm dSx_alone_28 (by decide) (fun hm => ?_) (fun hm => ?_)
      · obtain ⟨x7, ex7, hm⟩ := nm_x hm
        refine lv_iinc (v := x7) (lv' := [(3, .int x7), (0, .ref (ξ.2.2.2.1 0)), (1, .int u1), (2, .int u2)]) S.1 S.2.1 dSx_alone_46 hl (k := 3) rfl (by rw [ex7]; rfl) (by decide) rfl (fun ls hl => ?_)
        refine lv_goto (tgt := 9) S.1 S.2.1 dSx_alone_49 (by decide) ?_
        exact ih g5 u1 u2 x7 _ _ _ hm hw hf (lv_sub hl [1, 2, 3, 0] rfl)
      · refine lv_aload_n S.1 S.2.1 dSx_alone_31 rfl (lv_at hl 0 rfl) ?_
        refine lv_iload_n S.1 S.2.1 dSx_alone_32 rfl (lv_at hl 3 rfl) ?_
        refine lv_iload_n S.1 S.2.1 dSx_alone_33 rfl (lv_at hl 2 rfl) ?_
        obtain ⟨⟨v10, g9⟩, h8, hm⟩ := ob hm
        refine sw_Vi (q := 0) (rest := []) S hw (cSx_levelsAlone l N hf u3 u2 h8) kSx_levelsAlone wm_Sx_251 (is_0 hf).1 (e_Sx (is_0 hf)) rfl rfl rfl rfl hl.1 (Nat.le_of_ble_eq_true rfl) ⟨rfl, rfl, Nat.le_of_ble_eq_true rfl, Nat.le_of_ble_eq_true rfl⟩ ⟨Nat.le_of_ble_eq_true rfl, Nat.le_of_ble_eq_true rfl⟩ dSx_alone_34 (fun H locs hw hf => ?_)
        refine bif_eq (tgt := 46) S.1 S.2.1 hm dSx_alone_37 (by decide) (fun hm => ?_) (fun hm => ?_)
        · obtain ⟨x11, ex11, hm⟩ := nm_x hm
          refine lv_iinc (v := x11) (lv' := [(3, .int x11), (0, .ref (ξ.2.2.2.1 0)), (1, .int u1), (2, .int u2)]) S.1 S.2.1 dSx_alone_46 hl (k := 3) rfl (by rw [ex11]; rfl) (by decide) rfl (fun ls hl => ?_)
          refine lv_goto (tgt := 9) S.1 S.2.1 dSx_alone_49 (by decide) ?_
          exact ih g9 u1 u2 x11 _ _ _ hm hw hf (lv_sub hl [1, 2, 3, 0] rfl)
        · refine lv_iload_n S.1 S.2.1 dSx_alone_40 rfl (lv_at hl 1 rfl) ?_
          refine lv_iconst (v := (1 : Int32)) S.1 S.2.1 dSx_alone_41 (by decide) ?_
          refine lv_iload_n S.1 S.2.1 dSx_alone_42 rfl (lv_at hl 3 rfl) ?_
          refine lv_ishl S.1 S.2.1 dSx_alone_43 ?_
          refine lv_ior S.1 S.2.1 dSx_alone_44 ?_
          refine nm_i hm (fun x12 hm => ?_)
          refine lv_istore_n (lv' := [(1, .int x12), (0, .ref (ξ.2.2.2.1 0)), (2, .int u2), (3, .int u3)]) S.1 S.2.1 dSx_alone_45 rfl hl (by decide) rfl (fun ls hl => ?_)
          obtain ⟨x13, ex13, hm⟩ := nm_x hm
          refine lv_iinc (v := x13) (lv' := [(3, .int x13), (1, .int x12), (0, .ref (ξ.2.2.2.1 0)), (2, .int u2)]) S.1 S.2.1 dSx_alone_46 hl (k := 3) rfl (by rw [ex13]; rfl) (by decide) rfl (fun ls hl => ?_)
          refine lv_goto (tgt := 9) S.1 S.2.1 dSx_alone_49 (by decide) ?_
          exact ih g9 x12 u2 x13 _ _ _ hm hw hf (lv_sub hl [2, 1, 3, 0] rfl)
set_option maxHeartbeats 4000000 in
set_option maxRecDepth 100000 in
theorem cSx_alone (l : Launch) (N : Nat) {Γ : sw_C} {A : Nat → Prop} {ξ : sw_x} {g : sw_g} {μ : sw_m} (hf : sw_wf ξ g.2.2) {res : Int32 × sw_g} (hm : fSx_alone N ξ.2.2.1 g = some res) : Met l ySx_alone (Cond.code ySx_alone prog_1_method_24_code 4 (some .int) :: sw_tb) rmSx_alone (va_Pc [.ref (ξ.2.2.2.1 0)] (sw_V Γ A ξ g μ)) (sw_Qi Γ A ξ res.2 μ res.1 (sw_wf ξ res.2.2.2)) 0 0 A := by
  refine Met.ofW (cc := prog_1_method_24_code) (maxL := 4) (ret := some .int) (by decide) rfl ?_
  intro p e s m args below meth c s₁ B hml hv
  obtain ⟨rfl, hv⟩ := hv
  have S : CallFix p m c prog_1_method_24_code 4 s _ (Cond.code ySx_alone prog_1_method_24_code 4 (some .int) :: sw_tb) R_Sx := ⟨B.exec, B.bytes, hml, findClass_of_methodNamed B.named, atoms_spec (ws := (Cond.code ySx_alone prog_1_method_24_code 4 (some .int) :: sw_tb)) B.pre⟩
  have hr := B.returns
  have hlk := B.notSynchronized
  have hw := sw_begin hv
  have hl := lv_entry [.ref (ξ.2.2.2.1 0)] (n := 4) (Nat.le_of_ble_eq_true rfl)
  rw [lg_entry_eq]
  generalize (lg_sl [.ref (ξ.2.2.2.1 0)] ++ List.replicate (4 - (lg_sl [.ref (ξ.2.2.2.1 0)]).length) Slot.unset).toArray = ls at hl ⊢
  have hl : lv_has ls 4 [(0, .ref (ξ.2.2.2.1 0))] := hl
  unfold fSx_alone at hm
  refine lv_iconst (v := (0 : Int32)) S.1 S.2.1 dSx_alone_0 (by decide) ?_
  refine lv_istore_n (lv' := [(1, .int (0 : Int32)), (0, .ref (ξ.2.2.2.1 0))]) S.1 S.2.1 dSx_alone_1 rfl hl (by decide) rfl (fun ls hl => ?_)
  refine lv_aload_n S.1 S.2.1 dSx_alone_2 rfl (lv_at hl 1 rfl) ?_
  obtain ⟨⟨v3, g2⟩, h1, hm⟩ := ob hm
  refine sw_Vi (q := 0) (rest := []) S hw (cSx_tiltNow l N hf  h1) kSx_tiltNow wm_Sx_143 (is_0 hf).1 (e_Sx (is_0 hf)) rfl rfl rfl rfl hl.1 (Nat.le_of_ble_eq_true rfl) ⟨rfl, rfl, Nat.le_of_ble_eq_true rfl, Nat.le_of_ble_eq_true rfl⟩ ⟨Nat.le_of_ble_eq_true rfl, Nat.le_of_ble_eq_true rfl⟩ dSx_alone_3 (fun H locs hw hf => ?_)
  refine lv_istore_n (lv' := [(2, .int v3), (1, .int (0 : Int32)), (0, .ref (ξ.2.2.2.1 0))]) S.1 S.2.1 dSx_alone_6 rfl hl (by decide) rfl (fun ls hl => ?_)
  refine lv_iconst (v := (0 : Int32)) S.1 S.2.1 dSx_alone_7 (by decide) ?_
  refine lv_istore_n (lv' := [(3, .int (0 : Int32)), (2, .int v3), (1, .int (0 : Int32)), (0, .ref (ξ.2.2.2.1 0))]) S.1 S.2.1 dSx_alone_8 rfl hl (by decide) rfl (fun ls hl => ?_)
  exact wSx_alone_9 S hr hlk N  N g2 (0 : Int32) v3 (0 : Int32) _ _ _ hm hw hf (lv_sub hl [3, 2, 1, 0] rfl)
set_option maxHeartbeats 4000000 in
set_option maxRecDepth 100000 in
theorem wSx_exchanged_34 {l : Launch} {p : Program} {e : Env} {s : State} {m : MethodId} {args : Array Value} {below : List Frame} {meth : Method} {c : Code} {Γ : sw_C} {A : Nat → Prop} {ξ : sw_x} {μ : sw_m} {res : Int32 × sw_g} (S : CallFix p m c prog_1_method_25_code 8 s args (Cond.code ySx_exchanged prog_1_method_25_code 8 (some .int) :: sw_tb) R_Sx) (hr : meth.sig.returnType = some .int) (hlk : meth.locks = false) (N : Nat) (k16 : sw_g → Int32 → Int32 → Int32 → Int32 → Int32 → Option (Int32 × sw_g)) (hk16 : ∀ (g : sw_g) (u1 : Int32) (u2 : Int32) (u3 : Int32) (u4 : Int32) (u5 : Int32) (H : Heap) (locs : List Loc) (ls : Array Slot), k16 g u1 u2 u3 u4 u5 = some res → sw_S Γ A ξ g μ s H locs → sw_wf ξ g.2.2 → lv_has ls 8 [(0, .ref (ξ.2.2.2.1 0)), (1, .int u1), (2, .int u2), (3, .int u3), (4, .int u4), (5, .int u5)] → W p l e (headSpec (Cond.code ySx_exchanged prog_1_method_25_code 8 (some .int) :: sw_tb) rmSx_exchanged).room s m args below meth c H locs 0 0 (MQ below (sw_Qi Γ A ξ res.2 μ res.1 (sw_wf ξ res.2.2.2)) args s 0 0 A) (F0 m 16 ls [])) : ∀ (fu : Nat) (g : sw_g) (u1 : Int32) (u2 : Int32) (u3 : Int32) (u4 : Int32) (u5 : Int32) (u6 : Int32) (H : Heap) (locs : List Loc) (ls : Array Slot), fSx_exchanged_34 N ξ.2.2.1 k16 fu g u1 u2 u3 u4 u5 u6 = some res → sw_S Γ A ξ g μ s H locs → sw_wf ξ g.2.2 → lv_has ls 8 [(0, .ref (ξ.2.2.2.1 0)), (1, .int u1), (2, .int u2), (3, .int u3), (4, .int u4), (5, .int u5), (6, .int u6)] → W p l e (headSpec (Cond.code ySx_exchanged prog_1_method_25_code 8 (some .int) :: sw_tb) rmSx_exchanged).room s m args below meth c H locs 0 0 (MQ below (sw_Qi Γ A ξ res.2 μ res.1 (sw_wf ξ res.2.2.2)) args s 0 0 A) (F0 m 34 ls []) := by
  intro fu
  induction fu with
  | zero => intro g u1 u2 u3 u4 u5 u6 H locs ls hm; rw [fSx_exchanged_34.eq_1] at hm; cases hm
  | succ fu ih =>
    intro g u1 u2 u3 u4 u5 u6 H locs ls hm hw hf hl
    rw [fSx_exchanged_34.eq_2] at hm
    refine lv_iload S.1 S.2.1 dSx_exchanged_34 (lv_at hl 6 rfl) ?_
    refine lv_aload_n S.1 S.2.1 dSx_exchanged_36 rfl (lv_at hl 0 rfl) ?_
    refine get_Sx (v := .ref (ξ.2.2.2.1 1)) S hw (is_0 hf) 0 (by decide) rfl wf_Sx_12 dSx_exchanged_37 ?_
    refine get_Pl (v := .int (g.1 1 0)) S hw (is_1 hf) 0 (by decide) rfl wf_Sx_89 dSx_exchanged_40 ?_
    refine bicmp_ge (tgt := 97) S.1 S.2.1 hm dSx_exchanged_43 (by decide) (fun hm => ?_) (fun hm => ?_)
    · obtain ⟨x6, ex6, hm⟩ := nm_x hm
      refine lv_iinc (v := x6) (lv' := [(5, .int x6), (0, .ref (ξ.2.2.2.1 0)), (1, .int u1), (2, .int u2), (3, .int u3), (4, .int u4), (6, .int u6)]) S.1 S.2.1 dSx_exchanged_97 hl (k := 5) rfl (by rw [ex6]; rfl) (by decide) rfl (fun ls hl => ?_)
      refine lv_goto (tgt := 16) S.1 S.2.1 dSx_exchanged_100 (by decide) ?_
      exact hk16 g u1 u2 u3 u4 x6 _ _ _ hm hw hf (lv_sub hl [1, 2, 3, 4, 5, 0] rfl)
    · refine lv_aload_n S.1 S.2.1 dSx_exchanged_46 rfl (lv_at hl 0 rfl) ?_
      refine lv_iload S.1 S.2.1 dSx_exchanged_47 (lv_at hl 5 rfl) ?_
      refine lv_iload S.1 S.2.1 dSx_exchanged_49 (lv_at hl 6 rfl) ?_
      obtain ⟨⟨v9, g8⟩, h7, hm⟩ := ob hm
      refine sw_Vi (q := 0) (rest := []) S hw (cSx_canExchange l N hf u5 u6 h7) kSx_canExchange wm_Sx_254 (is_0 hf).1 (e_Sx (is_0 hf)) rfl rfl rfl rfl hl.1 (Nat.le_of_ble_eq_true rfl) ⟨rfl, rfl, Nat.le_of_ble_eq_true rfl, Nat.le_of_ble_eq_true rfl⟩ ⟨Nat.le_of_ble_eq_true rfl, Nat.le_of_ble_eq_true rfl⟩ dSx_exchanged_51 (fun H locs hw hf => ?_)
      refine bif_eq (tgt := 91) S.1 S.2.1 hm dSx_exchanged_54 (by decide) (fun hm => ?_) (fun hm => ?_)
      · obtain ⟨x10, ex10, hm⟩ := nm_x hm
        refine lv_iinc (v := x10) (lv' := [(6, .int x10), (0, .ref (ξ.2.2.2.1 0)), (1, .int u1), (2, .int u2), (3, .int u3), (4, .int u4), (5, .int u5)]) S.1 S.2.1 dSx_exchanged_91 hl (k := 6) rfl (by rw [ex10]; rfl) (by decide) rfl (fun ls hl => ?_)
        refine lv_goto (tgt := 34) S.1 S.2.1 dSx_exchanged_94 (by decide) ?_
        exact ih g8 u1 u2 u3 u4 u5 x10 _ _ _ hm hw hf (lv_sub hl [1, 2, 3, 4, 5, 6, 0] rfl)
      · refine lv_iload_n S.1 S.2.1 dSx_exchanged_57 rfl (lv_at hl 2 rfl) ?_
        refine lv_aload_n S.1 S.2.1 dSx_exchanged_58 rfl (lv_at hl 0 rfl) ?_
        refine lv_iload S.1 S.2.1 dSx_exchanged_59 (lv_at hl 5 rfl) ?_
        refine lv_iload S.1 S.2.1 dSx_exchanged_61 (lv_at hl 6 rfl) ?_
        obtain ⟨⟨v13, g12⟩, h11, hm⟩ := ob hm
        refine sw_Vi (q := 0) (rest := [.int u2]) S hw (cSx_tiltByExchange l N hf u5 u6 h11) kSx_tiltByExchange wm_Sx_257 (is_0 hf).1 (e_Sx (is_0 hf)) rfl rfl rfl rfl hl.1 (Nat.le_of_ble_eq_true rfl) ⟨rfl, rfl, Nat.le_of_ble_eq_true rfl, Nat.le_of_ble_eq_true rfl⟩ ⟨Nat.le_of_ble_eq_true rfl, Nat.le_of_ble_eq_true rfl⟩ dSx_exchanged_63 (fun H locs hw hf => ?_)
        refine lv_iadd S.1 S.2.1 dSx_exchanged_66 ?_
        refine sw_abs (rest := []) S hl.1 wm_Sx_138 (Nat.le_of_ble_eq_true rfl) (Nat.le_of_ble_eq_true rfl) (Nat.le_of_ble_eq_true rfl) (Nat.le_of_ble_eq_true rfl) dSx_exchanged_67 ?_
        refine nm_i hm (fun x14 hm => ?_)
        refine lv_istore (lv' := [(7, .int x14), (0, .ref (ξ.2.2.2.1 0)), (1, .int u1), (2, .int u2), (3, .int u3), (4, .int u4), (5, .int u5), (6, .int u6)]) S.1 S.2.1 dSx_exchanged_70 hl (by decide) rfl (fun ls hl => ?_)
        refine lv_iload S.1 S.2.1 dSx_exchanged_72 (lv_at hl 0 rfl) ?_
        refine lv_iload_n S.1 S.2.1 dSx_exchanged_74 rfl (lv_at hl 4 rfl) ?_
        refine bicmp_ge (tgt := 91) S.1 S.2.1 hm dSx_exchanged_75 (by decide) (fun hm => ?_) (fun hm => ?_)
        · obtain ⟨x15, ex15, hm⟩ := nm_x hm
          refine lv_iinc (v := x15) (lv' := [(6, .int x15), (7, .int x14), (0, .ref (ξ.2.2.2.1 0)), (1, .int u1), (2, .int u2), (3, .int u3), (4, .int u4), (5, .int u5)]) S.1 S.2.1 dSx_exchanged_91 hl (k := 7) rfl (by rw [ex15]; rfl) (by decide) rfl (fun ls hl => ?_)
          refine lv_goto (tgt := 34) S.1 S.2.1 dSx_exchanged_94 (by decide) ?_
          exact ih g12 u1 u2 u3 u4 u5 x15 _ _ _ hm hw hf (lv_sub hl [2, 3, 4, 5, 6, 7, 0] rfl)
        · refine lv_iload S.1 S.2.1 dSx_exchanged_78 (lv_at hl 0 rfl) ?_
          refine lv_istore_n (lv' := [(3, .int x14), (7, .int x14), (0, .ref (ξ.2.2.2.1 0)), (1, .int u1), (2, .int u2), (4, .int u4), (5, .int u5), (6, .int u6)]) S.1 S.2.1 dSx_exchanged_80 rfl hl (by decide) rfl (fun ls hl => ?_)
          refine lv_bipush (v := (10 : Int32)) S.1 S.2.1 dSx_exchanged_81 (by decide) ?_
          refine lv_iload S.1 S.2.1 dSx_exchanged_83 (lv_at hl 6 rfl) ?_
          refine lv_imul S.1 S.2.1 dSx_exchanged_85 ?_
          refine lv_iload S.1 S.2.1 dSx_exchanged_86 (lv_at hl 7 rfl) ?_
          refine lv_iadd S.1 S.2.1 dSx_exchanged_88 ?_
          refine nm_i hm (fun x16 hm => ?_)
          refine lv_istore (lv' := [(4, .int x16), (3, .int x14), (7, .int x14), (0, .ref (ξ.2.2.2.1 0)), (1, .int u1), (2, .int u2), (5, .int u5), (6, .int u6)]) S.1 S.2.1 dSx_exchanged_89 hl (by decide) rfl (fun ls hl => ?_)
          obtain ⟨x17, ex17, hm⟩ := nm_x hm
          refine lv_iinc (v := x17) (lv' := [(6, .int x17), (4, .int x16), (3, .int x14), (7, .int x14), (0, .ref (ξ.2.2.2.1 0)), (1, .int u1), (2, .int u2), (5, .int u5)]) S.1 S.2.1 dSx_exchanged_91 hl (k := 7) rfl (by rw [ex17]; rfl) (by decide) rfl (fun ls hl => ?_)
          refine lv_goto (tgt := 34) S.1 S.2.1 dSx_exchanged_94 (by decide) ?_
          exact ih g12 u1 u2 x14 x16 u5 x17 _ _ _ hm hw hf (lv_sub hl [4, 5, 6, 2, 1, 7, 0] rfl)
set_option maxHeartbeats 4000000 in
set_option maxRecDepth 100000 in
theorem wSx_exchanged_16 {l : Launch} {p : Program} {e : Env} {s : State} {m : MethodId} {args : Array Value} {below : List Frame} {meth : Method} {c : Code} {Γ : sw_C} {A : Nat → Prop} {ξ : sw_x} {μ : sw_m} {res : Int32 × sw_g} (S : CallFix p m c prog_1_method_25_code 8 s args (Cond.code ySx_exchanged prog_1_method_25_code 8 (some .int) :: sw_tb) R_Sx) (hr : meth.sig.returnType = some .int) (hlk : meth.locks = false) (N : Nat) : ∀ (fu : Nat) (g : sw_g) (u1 : Int32) (u2 : Int32) (u3 : Int32) (u4 : Int32) (u5 : Int32) (H : Heap) (locs : List Loc) (ls : Array Slot), fSx_exchanged_16 N ξ.2.2.1  fu g u1 u2 u3 u4 u5 = some res → sw_S Γ A ξ g μ s H locs → sw_wf ξ g.2.2 → lv_has ls 8 [(0, .ref (ξ.2.2.2.1 0)), (1, .int u1), (2, .int u2), (3, .int u3), (4, .int u4), (5, .int u5)] → W p l e (headSpec (Cond.code ySx_exchanged prog_1_method_25_code 8 (some .int) :: sw_tb) rmSx_exchanged).room s m args below meth c H locs 0 0 (MQ below (sw_Qi Γ A ξ res.2 μ res.1 (sw_wf ξ res.2.2.2)) args s 0 0 A) (F0 m 16 ls []) := by
  intro fu
  induction fu with
  | zero => intro g u1 u2 u3 u4 u5 H locs ls hm; rw [fSx_exchanged_16.eq_1] at hm; cases hm
  | succ fu ih =>
    intro g u1 u2 u3 u4 u5 H locs ls hm hw hf hl
    rw [fSx_exchanged_16.eq_2] at hm
    refine lv_iload S.1 S.2.1 dSx_exchanged_16 (lv_at hl 5 rfl) ?_
    refine lv_aload_n S.1 S.2.1 dSx_exchanged_18 rfl (lv_at hl 0 rfl) ?_
    refine get_Sx (v := .ref (ξ.2.2.2.1 1)) S hw (is_0 hf) 0 (by decide) rfl wf_Sx_12 dSx_exchanged_19 ?_
    refine get_Pl (v := .int (g.1 1 0)) S hw (is_1 hf) 0 (by decide) rfl wf_Sx_89 dSx_exchanged_22 ?_
    refine bicmp_ge (tgt := 103) S.1 S.2.1 hm dSx_exchanged_25 (by decide) (fun hm => ?_) (fun hm => ?_)
    · refine lv_iload S.1 S.2.1 dSx_exchanged_103 (lv_at hl 4 rfl) ?_
      refine lv_iconst (v := (-1 : Int32)) S.1 S.2.1 dSx_exchanged_105 (by decide) ?_
      refine bicmp_eq (tgt := 118) S.1 S.2.1 hm dSx_exchanged_106 (by decide) (fun hm => ?_) (fun hm => ?_)
      · refine lv_iconst (v := (-1 : Int32)) S.1 S.2.1 dSx_exchanged_118 (by decide) ?_
        obtain rfl := Option.some.inj hm
        exact sw_iret S hr hlk hw hf dSx_exchanged_119
      · refine lv_iload_n S.1 S.2.1 dSx_exchanged_109 rfl (lv_at hl 1 rfl) ?_
        refine bif_lt (tgt := 118) S.1 S.2.1 hm dSx_exchanged_110 (by decide) (fun hm => ?_) (fun hm => ?_)
        · refine lv_iconst (v := (-1 : Int32)) S.1 S.2.1 dSx_exchanged_118 (by decide) ?_
          obtain rfl := Option.some.inj hm
          exact sw_iret S hr hlk hw hf dSx_exchanged_119
        · refine lv_iload_n S.1 S.2.1 dSx_exchanged_113 rfl (lv_at hl 1 rfl) ?_
          refine lv_iconst (v := (1 : Int32)) S.1 S.2.1 dSx_exchanged_114 (by decide) ?_
          refine bicmp_le (tgt := 120) S.1 S.2.1 hm dSx_exchanged_115 (by decide) (fun hm => ?_) (fun hm => ?_)
          · refine lv_iload_n S.1 S.2.1 dSx_exchanged_120 rfl (lv_at hl 1 rfl) ?_
            refine bif_ne (tgt := 129) S.1 S.2.1 hm dSx_exchanged_121 (by decide) (fun hm => ?_) (fun hm => ?_)
            · refine lv_iload_n S.1 S.2.1 dSx_exchanged_129 rfl (lv_at hl 3 rfl) ?_
              obtain rfl := Option.some.inj hm
              exact sw_iret S hr hlk hw hf dSx_exchanged_130
            · refine lv_iload S.1 S.2.1 dSx_exchanged_124 (lv_at hl 4 rfl) ?_
              refine lv_goto (tgt := 130) S.1 S.2.1 dSx_exchanged_126 (by decide) ?_
              obtain rfl := Option.some.inj hm
              exact sw_iret S hr hlk hw hf dSx_exchanged_130
          · refine lv_iconst (v := (-1 : Int32)) S.1 S.2.1 dSx_exchanged_118 (by decide) ?_
            obtain rfl := Option.some.inj hm
            exact sw_iret S hr hlk hw hf dSx_exchanged_119
    · refine lv_iload S.1 S.2.1 dSx_exchanged_28 (lv_at hl 5 rfl) ?_
      refine lv_iconst (v := (1 : Int32)) S.1 S.2.1 dSx_exchanged_30 (by decide) ?_
      refine lv_iadd S.1 S.2.1 dSx_exchanged_31 ?_
      refine nm_i hm (fun x5 hm => ?_)
      refine lv_istore (lv' := [(6, .int x5), (0, .ref (ξ.2.2.2.1 0)), (1, .int u1), (2, .int u2), (3, .int u3), (4, .int u4), (5, .int u5)]) S.1 S.2.1 dSx_exchanged_32 hl (by decide) rfl (fun ls hl => ?_)
      exact wSx_exchanged_34 S hr hlk N (fSx_exchanged_16 N ξ.2.2.1  fu) ih N g u1 u2 u3 u4 u5 x5 _ _ _ hm hw hf (lv_sub hl [1, 2, 3, 4, 5, 6, 0] rfl)
set_option maxHeartbeats 4000000 in
set_option maxRecDepth 100000 in
theorem cSx_exchanged (l : Launch) (N : Nat) {Γ : sw_C} {A : Nat → Prop} {ξ : sw_x} {g : sw_g} {μ : sw_m} (hf : sw_wf ξ g.2.2) (a1 : Int32) {res : Int32 × sw_g} (hm : fSx_exchanged N ξ.2.2.1 g a1 = some res) : Met l ySx_exchanged (Cond.code ySx_exchanged prog_1_method_25_code 8 (some .int) :: sw_tb) rmSx_exchanged (va_Pc [.ref (ξ.2.2.2.1 0), .int a1] (sw_V Γ A ξ g μ)) (sw_Qi Γ A ξ res.2 μ res.1 (sw_wf ξ res.2.2.2)) 0 0 A := by
  refine Met.ofW (cc := prog_1_method_25_code) (maxL := 8) (ret := some .int) (by decide) rfl ?_
  intro p e s m args below meth c s₁ B hml hv
  obtain ⟨rfl, hv⟩ := hv
  have S : CallFix p m c prog_1_method_25_code 8 s _ (Cond.code ySx_exchanged prog_1_method_25_code 8 (some .int) :: sw_tb) R_Sx := ⟨B.exec, B.bytes, hml, findClass_of_methodNamed B.named, atoms_spec (ws := (Cond.code ySx_exchanged prog_1_method_25_code 8 (some .int) :: sw_tb)) B.pre⟩
  have hr := B.returns
  have hlk := B.notSynchronized
  have hw := sw_begin hv
  have hl := lv_entry [.ref (ξ.2.2.2.1 0), .int a1] (n := 8) (Nat.le_of_ble_eq_true rfl)
  rw [lg_entry_eq]
  generalize (lg_sl [.ref (ξ.2.2.2.1 0), .int a1] ++ List.replicate (8 - (lg_sl [.ref (ξ.2.2.2.1 0), .int a1]).length) Slot.unset).toArray = ls at hl ⊢
  have hl : lv_has ls 8 [(0, .ref (ξ.2.2.2.1 0)), (1, .int a1)] := hl
  unfold fSx_exchanged at hm
  refine lv_aload_n S.1 S.2.1 dSx_exchanged_0 rfl (lv_at hl 0 rfl) ?_
  obtain ⟨⟨v3, g2⟩, h1, hm⟩ := ob hm
  refine sw_Vi (q := 0) (rest := []) S hw (cSx_tiltNow l N hf  h1) kSx_tiltNow wm_Sx_143 (is_0 hf).1 (e_Sx (is_0 hf)) rfl rfl rfl rfl hl.1 (Nat.le_of_ble_eq_true rfl) ⟨rfl, rfl, Nat.le_of_ble_eq_true rfl, Nat.le_of_ble_eq_true rfl⟩ ⟨Nat.le_of_ble_eq_true rfl, Nat.le_of_ble_eq_true rfl⟩ dSx_exchanged_1 (fun H locs hw hf => ?_)
  refine lv_istore_n (lv' := [(2, .int v3), (0, .ref (ξ.2.2.2.1 0)), (1, .int a1)]) S.1 S.2.1 dSx_exchanged_4 rfl hl (by decide) rfl (fun ls hl => ?_)
  refine lv_iload_n S.1 S.2.1 dSx_exchanged_5 rfl (lv_at hl 0 rfl) ?_
  refine sw_abs (rest := []) S hl.1 wm_Sx_138 (Nat.le_of_ble_eq_true rfl) (Nat.le_of_ble_eq_true rfl) (Nat.le_of_ble_eq_true rfl) (Nat.le_of_ble_eq_true rfl) dSx_exchanged_6 ?_
  refine nm_i hm (fun x4 hm => ?_)
  refine lv_istore_n (lv' := [(3, .int x4), (2, .int v3), (0, .ref (ξ.2.2.2.1 0)), (1, .int a1)]) S.1 S.2.1 dSx_exchanged_9 rfl hl (by decide) rfl (fun ls hl => ?_)
  refine lv_iconst (v := (-1 : Int32)) S.1 S.2.1 dSx_exchanged_10 (by decide) ?_
  refine lv_istore (lv' := [(4, .int (-1 : Int32)), (3, .int x4), (2, .int v3), (0, .ref (ξ.2.2.2.1 0)), (1, .int a1)]) S.1 S.2.1 dSx_exchanged_11 hl (by decide) rfl (fun ls hl => ?_)
  refine lv_iconst (v := (0 : Int32)) S.1 S.2.1 dSx_exchanged_13 (by decide) ?_
  refine lv_istore (lv' := [(5, .int (0 : Int32)), (4, .int (-1 : Int32)), (3, .int x4), (2, .int v3), (0, .ref (ξ.2.2.2.1 0)), (1, .int a1)]) S.1 S.2.1 dSx_exchanged_14 hl (by decide) rfl (fun ls hl => ?_)
  exact wSx_exchanged_16 S hr hlk N  N g2 a1 v3 x4 (-1 : Int32) (0 : Int32) _ _ _ hm hw hf (lv_sub hl [4, 5, 3, 2, 1, 0] rfl)
set_option maxHeartbeats 4000000 in
set_option maxRecDepth 100000 in
theorem wSx_off_57 {l : Launch} {p : Program} {e : Env} {s : State} {m : MethodId} {args : Array Value} {below : List Frame} {meth : Method} {c : Code} {Γ : sw_C} {A : Nat → Prop} {ξ : sw_x} {μ : sw_m} {res : Int32 × sw_g} (S : CallFix p m c prog_1_method_27_code 5 s args (Cond.code ySx_off prog_1_method_27_code 5 (some .int) :: sw_tb) R_Sx) (hr : meth.sig.returnType = some .int) (hlk : meth.locks = false) (N : Nat) : ∀ (fu : Nat) (g : sw_g) (u1 : Int32) (u2 : Int32) (u3 : Int32) (u4 : Int32) (H : Heap) (locs : List Loc) (ls : Array Slot), fSx_off_57 N ξ.2.2.1  fu g u1 u2 u3 u4 = some res → sw_S Γ A ξ g μ s H locs → sw_wf ξ g.2.2 → lv_has ls 5 [(0, .ref (ξ.2.2.2.1 0)), (1, .int u1), (2, .int u2), (3, .int u3), (4, .int u4)] → W p l e (headSpec (Cond.code ySx_off prog_1_method_27_code 5 (some .int) :: sw_tb) rmSx_off).room s m args below meth c H locs 0 0 (MQ below (sw_Qi Γ A ξ res.2 μ res.1 (sw_wf ξ res.2.2.2)) args s 0 0 A) (F0 m 57 ls []) := by
  intro fu
  induction fu with
  | zero => intro g u1 u2 u3 u4 H locs ls hm; rw [fSx_off_57.eq_1] at hm; cases hm
  | succ fu ih =>
    intro g u1 u2 u3 u4 H locs ls hm hw hf hl
    rw [fSx_off_57.eq_2] at hm
    refine lv_iload S.1 S.2.1 dSx_off_57 (lv_at hl 4 rfl) ?_
    refine lv_iload_n S.1 S.2.1 dSx_off_59 rfl (lv_at hl 1 rfl) ?_
    refine bicmp_gt (tgt := 90) S.1 S.2.1 hm dSx_off_60 (by decide) (fun hm => ?_) (fun hm => ?_)
    · refine lv_iload_n S.1 S.2.1 dSx_off_90 rfl (lv_at hl 3 rfl) ?_
      obtain rfl := Option.some.inj hm
      exact sw_iret S hr hlk hw hf dSx_off_91
    · refine lv_aload_n S.1 S.2.1 dSx_off_63 rfl (lv_at hl 0 rfl) ?_
      refine lv_iload_n S.1 S.2.1 dSx_off_64 rfl (lv_at hl 2 rfl) ?_
      obtain ⟨⟨v13, g12⟩, h11, hm⟩ := ob hm
      refine sw_Vi (q := 0) (rest := []) S hw (cSx_firstWithOrders l N hf u2 h11) kSx_firstWithOrders wm_Sx_277 (is_0 hf).1 (e_Sx (is_0 hf)) rfl rfl rfl rfl hl.1 (Nat.le_of_ble_eq_true rfl) ⟨rfl, rfl, Nat.le_of_ble_eq_true rfl, Nat.le_of_ble_eq_true rfl⟩ ⟨Nat.le_of_ble_eq_true rfl, Nat.le_of_ble_eq_true rfl⟩ dSx_off_65 (fun H locs hw hf => ?_)
      refine lv_istore_n (lv' := [(3, .int v13), (0, .ref (ξ.2.2.2.1 0)), (1, .int u1), (2, .int u2), (4, .int u4)]) S.1 S.2.1 dSx_off_68 rfl hl (by decide) rfl (fun ls hl => ?_)
      refine lv_iload_n S.1 S.2.1 dSx_off_69 rfl (lv_at hl 0 rfl) ?_
      refine lv_iconst (v := (-1 : Int32)) S.1 S.2.1 dSx_off_70 (by decide) ?_
      refine bicmp_ne (tgt := 76) S.1 S.2.1 hm dSx_off_71 (by decide) (fun hm => ?_) (fun hm => ?_)
      · refine lv_iload_n S.1 S.2.1 dSx_off_76 rfl (lv_at hl 3 rfl) ?_
        refine lv_iconst (v := (1 : Int32)) S.1 S.2.1 dSx_off_77 (by decide) ?_
        refine lv_iload_n S.1 S.2.1 dSx_off_78 rfl (lv_at hl 0 rfl) ?_
        refine lv_ishl S.1 S.2.1 dSx_off_79 ?_
        refine lv_iconst (v := (-1 : Int32)) S.1 S.2.1 dSx_off_80 (by decide) ?_
        refine lv_ixor S.1 S.2.1 dSx_off_81 ?_
        refine lv_iand S.1 S.2.1 dSx_off_82 ?_
        refine nm_i hm (fun x14 hm => ?_)
        refine lv_istore_n (lv' := [(2, .int x14), (3, .int v13), (0, .ref (ξ.2.2.2.1 0)), (1, .int u1), (4, .int u4)]) S.1 S.2.1 dSx_off_83 rfl hl (by decide) rfl (fun ls hl => ?_)
        obtain ⟨x15, ex15, hm⟩ := nm_x hm
        refine lv_iinc (v := x15) (lv' := [(4, .int x15), (2, .int x14), (3, .int v13), (0, .ref (ξ.2.2.2.1 0)), (1, .int u1)]) S.1 S.2.1 dSx_off_84 hl (k := 4) rfl (by rw [ex15]; rfl) (by decide) rfl (fun ls hl => ?_)
        refine lv_goto (tgt := 57) S.1 S.2.1 dSx_off_87 (by decide) ?_
        exact ih g12 u1 x14 v13 x15 _ _ _ hm hw hf (lv_sub hl [3, 4, 1, 2, 0] rfl)
      · refine lv_iconst (v := (-1 : Int32)) S.1 S.2.1 dSx_off_74 (by decide) ?_
        obtain rfl := Option.some.inj hm
        exact sw_iret S hr hlk hw hf dSx_off_75
set_option maxHeartbeats 4000000 in
set_option maxRecDepth 100000 in
theorem cSx_off (l : Launch) (N : Nat) {Γ : sw_C} {A : Nat → Prop} {ξ : sw_x} {g : sw_g} {μ : sw_m} (hf : sw_wf ξ g.2.2) (a1 : Int32) {res : Int32 × sw_g} (hm : fSx_off N ξ.2.2.1 g a1 = some res) : Met l ySx_off (Cond.code ySx_off prog_1_method_27_code 5 (some .int) :: sw_tb) rmSx_off (va_Pc [.ref (ξ.2.2.2.1 0), .int a1] (sw_V Γ A ξ g μ)) (sw_Qi Γ A ξ res.2 μ res.1 (sw_wf ξ res.2.2.2)) 0 0 A := by
  refine Met.ofW (cc := prog_1_method_27_code) (maxL := 5) (ret := some .int) (by decide) rfl ?_
  intro p e s m args below meth c s₁ B hml hv
  obtain ⟨rfl, hv⟩ := hv
  have S : CallFix p m c prog_1_method_27_code 5 s _ (Cond.code ySx_off prog_1_method_27_code 5 (some .int) :: sw_tb) R_Sx := ⟨B.exec, B.bytes, hml, findClass_of_methodNamed B.named, atoms_spec (ws := (Cond.code ySx_off prog_1_method_27_code 5 (some .int) :: sw_tb)) B.pre⟩
  have hr := B.returns
  have hlk := B.notSynchronized
  have hw := sw_begin hv
  have hl := lv_entry [.ref (ξ.2.2.2.1 0), .int a1] (n := 5) (Nat.le_of_ble_eq_true rfl)
  rw [lg_entry_eq]
  generalize (lg_sl [.ref (ξ.2.2.2.1 0), .int a1] ++ List.replicate (5 - (lg_sl [.ref (ξ.2.2.2.1 0), .int a1]).length) Slot.unset).toArray = ls at hl ⊢
  have hl : lv_has ls 5 [(0, .ref (ξ.2.2.2.1 0)), (1, .int a1)] := hl
  unfold fSx_off at hm
  refine lv_aload_n S.1 S.2.1 dSx_off_0 rfl (lv_at hl 0 rfl) ?_
  refine get_Sx (v := .ref (ξ.2.2.2.1 1)) S hw (is_0 hf) 0 (by decide) rfl wf_Sx_12 dSx_off_1 ?_
  obtain ⟨⟨v3, g2⟩, h1, hm⟩ := ob hm
  refine sw_Vi (q := 1) (rest := []) S hw (cPl_onBits l N hf 1 (is_1 hf) h1) kPl_onBits wm_Sx_263 (is_1 hf).1 (e_Pl (is_1 hf)) rfl rfl rfl rfl hl.1 (Nat.le_of_ble_eq_true rfl) ⟨rfl, rfl, Nat.le_of_ble_eq_true rfl, Nat.le_of_ble_eq_true rfl⟩ ⟨Nat.le_of_ble_eq_true rfl, Nat.le_of_ble_eq_true rfl⟩ dSx_off_4 (fun H locs hw hf => ?_)
  refine lv_istore_n (lv' := [(2, .int v3), (0, .ref (ξ.2.2.2.1 0)), (1, .int a1)]) S.1 S.2.1 dSx_off_7 rfl hl (by decide) rfl (fun ls hl => ?_)
  refine lv_aload_n S.1 S.2.1 dSx_off_8 rfl (lv_at hl 1 rfl) ?_
  obtain ⟨g5, h4, hm⟩ := ob hm
  refine sw_Vv (q := 0) (rest := []) S hw (cSx_sumTilts l N hf  h4) kSx_sumTilts wm_Sx_266 (is_0 hf).1 (e_Sx (is_0 hf)) rfl rfl rfl rfl hl.1 (Nat.le_of_ble_eq_true rfl) ⟨rfl, rfl, Nat.le_of_ble_eq_true rfl, Nat.le_of_ble_eq_true rfl⟩ ⟨Nat.le_of_ble_eq_true rfl, Nat.le_of_ble_eq_true rfl⟩ dSx_off_9 (fun H locs hw hf => ?_)
  refine lv_aload_n S.1 S.2.1 dSx_off_12 rfl (lv_at hl 1 rfl) ?_
  refine lv_iload_n S.1 S.2.1 dSx_off_13 rfl (lv_at hl 0 rfl) ?_
  obtain ⟨g7, h6, hm⟩ := ob hm
  refine sw_Vv (q := 0) (rest := []) S hw (cSx_findOrders l N hf v3 h6) kSx_findOrders wm_Sx_269 (is_0 hf).1 (e_Sx (is_0 hf)) rfl rfl rfl rfl hl.1 (Nat.le_of_ble_eq_true rfl) ⟨rfl, rfl, Nat.le_of_ble_eq_true rfl, Nat.le_of_ble_eq_true rfl⟩ ⟨Nat.le_of_ble_eq_true rfl, Nat.le_of_ble_eq_true rfl⟩ dSx_off_14 (fun H locs hw hf => ?_)
  refine lv_iload_n S.1 S.2.1 dSx_off_17 rfl (lv_at hl 2 rfl) ?_
  refine lv_iconst (v := (-1 : Int32)) S.1 S.2.1 dSx_off_18 (by decide) ?_
  refine bicmp_ne (tgt := 29) S.1 S.2.1 hm dSx_off_19 (by decide) (fun hm => ?_) (fun hm => ?_)
  · refine lv_iload_n S.1 S.2.1 dSx_off_29 rfl (lv_at hl 2 rfl) ?_
    refine bif_lt (tgt := 50) S.1 S.2.1 hm dSx_off_30 (by decide) (fun hm => ?_) (fun hm => ?_)
    · refine lv_iconst (v := (-1 : Int32)) S.1 S.2.1 dSx_off_50 (by decide) ?_
      obtain rfl := Option.some.inj hm
      exact sw_iret S hr hlk hw hf dSx_off_51
    · refine lv_iload_n S.1 S.2.1 dSx_off_33 rfl (lv_at hl 2 rfl) ?_
      refine lv_iload_n S.1 S.2.1 dSx_off_34 rfl (lv_at hl 0 rfl) ?_
      obtain ⟨v9, h8, hm⟩ := ob hm
      refine sw_Si (rest := [.int a1]) S hw (cIn_bitCount l  hf v3 h8) kIn_bitCount wm_Sx_272 rfl rfl hl.1 (Nat.le_of_ble_eq_true rfl) ⟨rfl, rfl, Nat.le_of_ble_eq_true rfl, Nat.le_of_ble_eq_true rfl⟩ ⟨Nat.le_of_ble_eq_true rfl, Nat.le_of_ble_eq_true rfl⟩ dSx_off_35 (fun H locs hw _ => ?_)
      refine bicmp_ge (tgt := 50) S.1 S.2.1 hm dSx_off_38 (by decide) (fun hm => ?_) (fun hm => ?_)
      · refine lv_iconst (v := (-1 : Int32)) S.1 S.2.1 dSx_off_50 (by decide) ?_
        obtain rfl := Option.some.inj hm
        exact sw_iret S hr hlk hw hf dSx_off_51
      · refine lv_aload_n S.1 S.2.1 dSx_off_41 rfl (lv_at hl 1 rfl) ?_
        refine get_Sx (v := .ref (ξ.2.2.2.1 82)) S hw (is_0 hf) 12 (by decide) rfl wf_Sx_71 dSx_off_42 ?_
        refine lv_iload_n S.1 S.2.1 dSx_off_45 rfl (lv_at hl 0 rfl) ?_
        refine sx_iald S hw (is_82 hf) hm dSx_off_46 (fun v10 hm => ?_)
        refine bif_ne (tgt := 52) S.1 S.2.1 hm dSx_off_47 (by decide) (fun hm => ?_) (fun hm => ?_)
        · refine lv_iconst (v := (-1 : Int32)) S.1 S.2.1 dSx_off_52 (by decide) ?_
          refine lv_istore_n (lv' := [(3, .int (-1 : Int32)), (2, .int v3), (0, .ref (ξ.2.2.2.1 0)), (1, .int a1)]) S.1 S.2.1 dSx_off_53 rfl hl (by decide) rfl (fun ls hl => ?_)
          refine lv_iconst (v := (0 : Int32)) S.1 S.2.1 dSx_off_54 (by decide) ?_
          refine lv_istore (lv' := [(4, .int (0 : Int32)), (3, .int (-1 : Int32)), (2, .int v3), (0, .ref (ξ.2.2.2.1 0)), (1, .int a1)]) S.1 S.2.1 dSx_off_55 hl (by decide) rfl (fun ls hl => ?_)
          exact wSx_off_57 S hr hlk N  N g7 a1 v3 (-1 : Int32) (0 : Int32) _ _ _ hm hw hf (lv_sub hl [3, 4, 2, 1, 0] rfl)
        · refine lv_iconst (v := (-1 : Int32)) S.1 S.2.1 dSx_off_50 (by decide) ?_
          obtain rfl := Option.some.inj hm
          exact sw_iret S hr hlk hw hf dSx_off_51
  · refine lv_aload_n S.1 S.2.1 dSx_off_22 rfl (lv_at hl 1 rfl) ?_
    refine get_Sx (v := .ref (ξ.2.2.2.1 82)) S hw (is_0 hf) 12 (by decide) rfl wf_Sx_71 dSx_off_23 ?_
    refine lv_iload_n S.1 S.2.1 dSx_off_26 rfl (lv_at hl 0 rfl) ?_
    refine sx_iald S hw (is_82 hf) hm dSx_off_27 (fun v16 hm => ?_)
    obtain rfl := Option.some.inj hm
    exact sw_iret S hr hlk hw hf dSx_off_28
set_option maxHeartbeats 4000000 in
set_option maxRecDepth 100000 in
theorem cSx_byTurns (l : Launch) (N : Nat) {Γ : sw_C} {A : Nat → Prop} {ξ : sw_x} {g : sw_g} {μ : sw_m} (hf : sw_wf ξ g.2.2) (a1 : Int32) {res : Int32 × sw_g} (hm : fSx_byTurns N ξ.2.2.1 g a1 = some res) : Met l ySx_byTurns (Cond.code ySx_byTurns prog_1_method_28_code 3 (some .int) :: sw_tb) rmSx_byTurns (va_Pc [.ref (ξ.2.2.2.1 0), .int a1] (sw_V Γ A ξ g μ)) (sw_Qi Γ A ξ res.2 μ res.1 (sw_wf ξ res.2.2.2)) 0 0 A := by
  refine Met.ofW (cc := prog_1_method_28_code) (maxL := 3) (ret := some .int) (by decide) rfl ?_
  intro p e s m args below meth c s₁ B hml hv
  obtain ⟨rfl, hv⟩ := hv
  have S : CallFix p m c prog_1_method_28_code 3 s _ (Cond.code ySx_byTurns prog_1_method_28_code 3 (some .int) :: sw_tb) R_Sx := ⟨B.exec, B.bytes, hml, findClass_of_methodNamed B.named, atoms_spec (ws := (Cond.code ySx_byTurns prog_1_method_28_code 3 (some .int) :: sw_tb)) B.pre⟩
  have hr := B.returns
  have hlk := B.notSynchronized
  have hw := sw_begin hv
  have hl := lv_entry [.ref (ξ.2.2.2.1 0), .int a1] (n := 3) (Nat.le_of_ble_eq_true rfl)
  rw [lg_entry_eq]
  generalize (lg_sl [.ref (ξ.2.2.2.1 0), .int a1] ++ List.replicate (3 - (lg_sl [.ref (ξ.2.2.2.1 0), .int a1]).length) Slot.unset).toArray = ls at hl ⊢
  have hl : lv_has ls 3 [(0, .ref (ξ.2.2.2.1 0)), (1, .int a1)] := hl
  unfold fSx_byTurns at hm
  refine lv_aload_n S.1 S.2.1 dSx_byTurns_0 rfl (lv_at hl 0 rfl) ?_
  refine get_Sx (v := .ref (ξ.2.2.2.1 1)) S hw (is_0 hf) 0 (by decide) rfl wf_Sx_12 dSx_byTurns_1 ?_
  obtain ⟨⟨v3, g2⟩, h1, hm⟩ := ob hm
  refine sw_Vi (q := 1) (rest := []) S hw (cPl_onBits l N hf 1 (is_1 hf) h1) kPl_onBits wm_Sx_263 (is_1 hf).1 (e_Pl (is_1 hf)) rfl rfl rfl rfl hl.1 (Nat.le_of_ble_eq_true rfl) ⟨rfl, rfl, Nat.le_of_ble_eq_true rfl, Nat.le_of_ble_eq_true rfl⟩ ⟨Nat.le_of_ble_eq_true rfl, Nat.le_of_ble_eq_true rfl⟩ dSx_byTurns_4 (fun H locs hw hf => ?_)
  refine lv_istore_n (lv' := [(2, .int v3), (0, .ref (ξ.2.2.2.1 0)), (1, .int a1)]) S.1 S.2.1 dSx_byTurns_7 rfl hl (by decide) rfl (fun ls hl => ?_)
  refine lv_aload_n S.1 S.2.1 dSx_byTurns_8 rfl (lv_at hl 1 rfl) ?_
  obtain ⟨g5, h4, hm⟩ := ob hm
  refine sw_Vv (q := 0) (rest := []) S hw (cSx_sumTilts l N hf  h4) kSx_sumTilts wm_Sx_266 (is_0 hf).1 (e_Sx (is_0 hf)) rfl rfl rfl rfl hl.1 (Nat.le_of_ble_eq_true rfl) ⟨rfl, rfl, Nat.le_of_ble_eq_true rfl, Nat.le_of_ble_eq_true rfl⟩ ⟨Nat.le_of_ble_eq_true rfl, Nat.le_of_ble_eq_true rfl⟩ dSx_byTurns_9 (fun H locs hw hf => ?_)
  refine lv_aload_n S.1 S.2.1 dSx_byTurns_12 rfl (lv_at hl 1 rfl) ?_
  refine lv_iload_n S.1 S.2.1 dSx_byTurns_13 rfl (lv_at hl 0 rfl) ?_
  obtain ⟨g7, h6, hm⟩ := ob hm
  refine sw_Vv (q := 0) (rest := []) S hw (cSx_findWins l N hf v3 h6) kSx_findWins wm_Sx_280 (is_0 hf).1 (e_Sx (is_0 hf)) rfl rfl rfl rfl hl.1 (Nat.le_of_ble_eq_true rfl) ⟨rfl, rfl, Nat.le_of_ble_eq_true rfl, Nat.le_of_ble_eq_true rfl⟩ ⟨Nat.le_of_ble_eq_true rfl, Nat.le_of_ble_eq_true rfl⟩ dSx_byTurns_14 (fun H locs hw hf => ?_)
  refine lv_iload_n S.1 S.2.1 dSx_byTurns_17 rfl (lv_at hl 2 rfl) ?_
  refine bif_ne (tgt := 28) S.1 S.2.1 hm dSx_byTurns_18 (by decide) (fun hm => ?_) (fun hm => ?_)
  · refine lv_iload_n S.1 S.2.1 dSx_byTurns_28 rfl (lv_at hl 2 rfl) ?_
    refine lv_iconst (v := (1 : Int32)) S.1 S.2.1 dSx_byTurns_29 (by decide) ?_
    refine bicmp_ne (tgt := 41) S.1 S.2.1 hm dSx_byTurns_30 (by decide) (fun hm => ?_) (fun hm => ?_)
    · refine lv_iconst (v := (-1 : Int32)) S.1 S.2.1 dSx_byTurns_41 (by decide) ?_
      obtain rfl := Option.some.inj hm
      exact sw_iret S hr hlk hw hf dSx_byTurns_42
    · refine lv_aload_n S.1 S.2.1 dSx_byTurns_33 rfl (lv_at hl 1 rfl) ?_
      refine lv_iload_n S.1 S.2.1 dSx_byTurns_34 rfl (lv_at hl 0 rfl) ?_
      obtain ⟨⟨v10, g9⟩, h8, hm⟩ := ob hm
      refine sw_Vi (q := 0) (rest := []) S hw (cSx_winningClaim l N hf v3 h8) kSx_winningClaim wm_Sx_283 (is_0 hf).1 (e_Sx (is_0 hf)) rfl rfl rfl rfl hl.1 (Nat.le_of_ble_eq_true rfl) ⟨rfl, rfl, Nat.le_of_ble_eq_true rfl, Nat.le_of_ble_eq_true rfl⟩ ⟨Nat.le_of_ble_eq_true rfl, Nat.le_of_ble_eq_true rfl⟩ dSx_byTurns_35 (fun H locs hw hf => ?_)
      refine lv_goto (tgt := 42) S.1 S.2.1 dSx_byTurns_38 (by decide) ?_
      obtain rfl := Option.some.inj hm
      exact sw_iret S hr hlk hw hf dSx_byTurns_42
  · refine lv_aload_n S.1 S.2.1 dSx_byTurns_21 rfl (lv_at hl 1 rfl) ?_
    refine get_Sx (v := .ref (ξ.2.2.2.1 82)) S hw (is_0 hf) 12 (by decide) rfl wf_Sx_71 dSx_byTurns_22 ?_
    refine lv_iload_n S.1 S.2.1 dSx_byTurns_25 rfl (lv_at hl 0 rfl) ?_
    refine sx_iald S hw (is_82 hf) hm dSx_byTurns_26 (fun v11 hm => ?_)
    obtain rfl := Option.some.inj hm
    exact sw_iret S hr hlk hw hf dSx_byTurns_27
set_option maxHeartbeats 4000000 in
set_option maxRecDepth 100000 in
theorem wSx_runsOnce_185 {l : Launch} {p : Program} {e : Env} {s : State} {m : MethodId} {args : Array Value} {below : List Frame} {meth : Method} {c : Code} {Γ : sw_C} {A : Nat → Prop} {ξ : sw_x} {μ : sw_m} {res : Int32 × sw_g} (S : CallFix p m c prog_1_method_52_code 8 s args (Cond.code ySx_runsOnce prog_1_method_52_code 8 (some .boolean) :: sw_tb) R_Sx) (hr : meth.sig.returnType = some .boolean) (hlk : meth.locks = false) (q1 : Nat) (hq1 : sw_ik ξ q1 7) (N : Nat) : ∀ (g : sw_g) (u4 : Int32) (s0 : Int32) (H : Heap) (locs : List Loc) (ls : Array Slot), fSx_runsOnce_185 N ξ.2.2.1 q1  g u4 s0 = some res → sw_S Γ A ξ g μ s H locs → sw_wf ξ g.2.2 → lv_has ls 8 [(0, .ref (ξ.2.2.2.1 0)), (4, .int u4)] → W p l e (headSpec (Cond.code ySx_runsOnce prog_1_method_52_code 8 (some .boolean) :: sw_tb) rmSx_runsOnce).room s m args below meth c H locs 0 0 (MQ below (sw_Qi Γ A ξ res.2 μ res.1 (sw_wf ξ res.2.2.2)) args s 0 0 A) (F0 m 185 ls [.int s0]) := by
  intro g u4 s0 H locs ls hm hw hf hl
  unfold fSx_runsOnce_185 at hm
  refine lv_istore (lv' := [(7, .int s0), (0, .ref (ξ.2.2.2.1 0)), (4, .int u4)]) S.1 S.2.1 dSx_runsOnce_185 hl (by decide) rfl (fun ls hl => ?_)
  refine lv_iload S.1 S.2.1 dSx_runsOnce_187 (lv_at hl 0 rfl) ?_
  refine bif_ge (tgt := 194) S.1 S.2.1 hm dSx_runsOnce_189 (by decide) (fun hm => ?_) (fun hm => ?_)
  · refine lv_aload_n S.1 S.2.1 dSx_runsOnce_194 rfl (lv_at hl 1 rfl) ?_
    refine get_Sx (v := .ref (ξ.2.2.2.1 48)) S hw (is_0 hf) 9 (by decide) rfl wf_Sx_57 dSx_runsOnce_195 ?_
    refine lv_iconst (v := (1 : Int32)) S.1 S.2.1 dSx_runsOnce_198 (by decide) ?_
    refine lv_dup2_11 S.1 S.2.1 dSx_runsOnce_199 rfl rfl ?_
    refine sx_iald S hw (is_48 hf) hm dSx_runsOnce_200 (fun v14 hm => ?_)
    refine lv_iconst (v := (1 : Int32)) S.1 S.2.1 dSx_runsOnce_201 (by decide) ?_
    refine lv_iadd S.1 S.2.1 dSx_runsOnce_202 ?_
    refine sx_iast S hw hf (is_48 hf) hm dSx_runsOnce_203 (fun g15 H locs hf hm hw => ?_)
    refine lv_iload S.1 S.2.1 dSx_runsOnce_204 (lv_at hl 2 rfl) ?_
    refine bif_ne (tgt := 222) S.1 S.2.1 hm dSx_runsOnce_206 (by decide) (fun hm => ?_) (fun hm => ?_)
    · refine lv_iconst (v := (1 : Int32)) S.1 S.2.1 dSx_runsOnce_222 (by decide) ?_
      obtain rfl := Option.some.inj hm
      exact sw_zret S hr hlk (Or.inr rfl) hw hf dSx_runsOnce_223
    · refine lv_aload_n S.1 S.2.1 dSx_runsOnce_209 rfl (lv_at hl 1 rfl) ?_
      refine get_Sx (v := .ref (ξ.2.2.2.1 48)) S hw (is_0 hf) 9 (by decide) rfl wf_Sx_57 dSx_runsOnce_210 ?_
      refine lv_iconst (v := (2 : Int32)) S.1 S.2.1 dSx_runsOnce_213 (by decide) ?_
      refine lv_aload_n S.1 S.2.1 dSx_runsOnce_214 rfl (lv_at hl 1 rfl) ?_
      obtain ⟨⟨v18, g17⟩, h16, hm⟩ := ob hm
      refine sw_Vi (q := 0) (rest := [.int (2 : Int32), .ref (ξ.2.2.2.1 48)]) S hw (cSx_tiltNow l N hf  h16) kSx_tiltNow wm_Sx_143 (is_0 hf).1 (e_Sx (is_0 hf)) rfl rfl rfl rfl hl.1 (Nat.le_of_ble_eq_true rfl) ⟨rfl, rfl, Nat.le_of_ble_eq_true rfl, Nat.le_of_ble_eq_true rfl⟩ ⟨Nat.le_of_ble_eq_true rfl, Nat.le_of_ble_eq_true rfl⟩ dSx_runsOnce_215 (fun H locs hw hf => ?_)
      refine sw_abs (rest := [.int (2 : Int32), .ref (ξ.2.2.2.1 48)]) S hl.1 wm_Sx_138 (Nat.le_of_ble_eq_true rfl) (Nat.le_of_ble_eq_true rfl) (Nat.le_of_ble_eq_true rfl) (Nat.le_of_ble_eq_true rfl) dSx_runsOnce_218 ?_
      refine sx_iast S hw hf (is_48 hf) hm dSx_runsOnce_221 (fun g19 H locs hf hm hw => ?_)
      refine lv_iconst (v := (1 : Int32)) S.1 S.2.1 dSx_runsOnce_222 (by decide) ?_
      obtain rfl := Option.some.inj hm
      exact sw_zret S hr hlk (Or.inr rfl) hw hf dSx_runsOnce_223
  · refine lv_iconst (v := (0 : Int32)) S.1 S.2.1 dSx_runsOnce_192 (by decide) ?_
    obtain rfl := Option.some.inj hm
    exact sw_zret S hr hlk (Or.inl rfl) hw hf dSx_runsOnce_193
set_option maxHeartbeats 4000000 in
set_option maxRecDepth 100000 in
theorem wSx_runsOnce_124 {l : Launch} {p : Program} {e : Env} {s : State} {m : MethodId} {args : Array Value} {below : List Frame} {meth : Method} {c : Code} {Γ : sw_C} {A : Nat → Prop} {ξ : sw_x} {μ : sw_m} {res : Int32 × sw_g} (S : CallFix p m c prog_1_method_52_code 8 s args (Cond.code ySx_runsOnce prog_1_method_52_code 8 (some .boolean) :: sw_tb) R_Sx) (hr : meth.sig.returnType = some .boolean) (hlk : meth.locks = false) (q1 : Nat) (hq1 : sw_ik ξ q1 7) (N : Nat) : ∀ (g : sw_g) (u4 : Int32) (u5 : Int32) (H : Heap) (locs : List Loc) (ls : Array Slot), fSx_runsOnce_124 N ξ.2.2.1 q1  g u4 u5 = some res → sw_S Γ A ξ g μ s H locs → sw_wf ξ g.2.2 → lv_has ls 8 [(0, .ref (ξ.2.2.2.1 0)), (4, .int u4), (5, .int u5)] → W p l e (headSpec (Cond.code ySx_runsOnce prog_1_method_52_code 8 (some .boolean) :: sw_tb) rmSx_runsOnce).room s m args below meth c H locs 0 0 (MQ below (sw_Qi Γ A ξ res.2 μ res.1 (sw_wf ξ res.2.2.2)) args s 0 0 A) (F0 m 124 ls []) := by
  intro g u4 u5 H locs ls hm hw hf hl
  unfold fSx_runsOnce_124 at hm
  refine lv_aload_n S.1 S.2.1 dSx_runsOnce_124 rfl (lv_at hl 0 rfl) ?_
  refine get_Sx (v := .ref (ξ.2.2.2.1 46)) S hw (is_0 hf) 8 (by decide) rfl wf_Sx_53 dSx_runsOnce_125 ?_
  refine get_Rk (v := .int (g.1 46 0)) S hw (is_46 hf) 0 (by decide) rfl wf_Sx_356 dSx_runsOnce_128 ?_
  refine nm_i hm (fun x10 hm => ?_)
  refine lv_istore (lv' := [(6, .int x10), (0, .ref (ξ.2.2.2.1 0)), (4, .int u4), (5, .int u5)]) S.1 S.2.1 dSx_runsOnce_131 hl (by decide) rfl (fun ls hl => ?_)
  refine lv_iload S.1 S.2.1 dSx_runsOnce_133 (lv_at hl 2 rfl) ?_
  refine bif_ne (tgt := 149) S.1 S.2.1 hm dSx_runsOnce_135 (by decide) (fun hm => ?_) (fun hm => ?_)
  · refine lv_iload S.1 S.2.1 dSx_runsOnce_149 (lv_at hl 2 rfl) ?_
    refine lv_iconst (v := (1 : Int32)) S.1 S.2.1 dSx_runsOnce_151 (by decide) ?_
    refine bicmp_ne (tgt := 164) S.1 S.2.1 hm dSx_runsOnce_152 (by decide) (fun hm => ?_) (fun hm => ?_)
    · refine lv_iload S.1 S.2.1 dSx_runsOnce_164 (lv_at hl 2 rfl) ?_
      refine lv_iconst (v := (2 : Int32)) S.1 S.2.1 dSx_runsOnce_166 (by decide) ?_
      refine bicmp_ne (tgt := 181) S.1 S.2.1 hm dSx_runsOnce_167 (by decide) (fun hm => ?_) (fun hm => ?_)
      · refine lv_aload_n S.1 S.2.1 dSx_runsOnce_181 rfl (lv_at hl 1 rfl) ?_
        obtain ⟨⟨v13, g12⟩, h11, hm⟩ := ob hm
        refine sw_Vi (q := 0) (rest := []) S hw (cSx_passes l N hf  h11) kSx_passes wm_Sx_225 (is_0 hf).1 (e_Sx (is_0 hf)) rfl rfl rfl rfl hl.1 (Nat.le_of_ble_eq_true rfl) ⟨rfl, rfl, Nat.le_of_ble_eq_true rfl, Nat.le_of_ble_eq_true rfl⟩ ⟨Nat.le_of_ble_eq_true rfl, Nat.le_of_ble_eq_true rfl⟩ dSx_runsOnce_182 (fun H locs hw hf => ?_)
        exact wSx_runsOnce_185 S hr hlk q1 hq1 N  g12 u4 v13 _ _ _ hm hw hf (lv_sub hl [1, 2] rfl)
      · refine lv_aload_n S.1 S.2.1 dSx_runsOnce_170 rfl (lv_at hl 1 rfl) ?_
        refine lv_iload S.1 S.2.1 dSx_runsOnce_171 (lv_at hl 3 rfl) ?_
        refine lv_iload S.1 S.2.1 dSx_runsOnce_173 (lv_at hl 0 rfl) ?_
        obtain ⟨⟨v22, g21⟩, h20, hm⟩ := ob hm
        refine sw_Vi (q := 0) (rest := []) S hw (cSx_pads l  hf u5 x10 h20) kSx_pads wm_Sx_222 (is_0 hf).1 (e_Sx (is_0 hf)) rfl rfl rfl rfl hl.1 (Nat.le_of_ble_eq_true rfl) ⟨rfl, rfl, Nat.le_of_ble_eq_true rfl, Nat.le_of_ble_eq_true rfl⟩ ⟨Nat.le_of_ble_eq_true rfl, Nat.le_of_ble_eq_true rfl⟩ dSx_runsOnce_175 (fun H locs hw hf => ?_)
        refine lv_goto (tgt := 185) S.1 S.2.1 dSx_runsOnce_178 (by decide) ?_
        exact wSx_runsOnce_185 S hr hlk q1 hq1 N  g21 u4 v22 _ _ _ hm hw hf (lv_sub hl [1, 2] rfl)
    · refine lv_aload_n S.1 S.2.1 dSx_runsOnce_155 rfl (lv_at hl 1 rfl) ?_
      refine lv_iload S.1 S.2.1 dSx_runsOnce_156 (lv_at hl 3 rfl) ?_
      obtain ⟨⟨v25, g24⟩, h23, hm⟩ := ob hm
      refine sw_Vi (q := 0) (rest := []) S hw (cSx_takes l  hf u5 h23) kSx_takes wm_Sx_219 (is_0 hf).1 (e_Sx (is_0 hf)) rfl rfl rfl rfl hl.1 (Nat.le_of_ble_eq_true rfl) ⟨rfl, rfl, Nat.le_of_ble_eq_true rfl, Nat.le_of_ble_eq_true rfl⟩ ⟨Nat.le_of_ble_eq_true rfl, Nat.le_of_ble_eq_true rfl⟩ dSx_runsOnce_158 (fun H locs hw hf => ?_)
      refine lv_goto (tgt := 185) S.1 S.2.1 dSx_runsOnce_161 (by decide) ?_
      exact wSx_runsOnce_185 S hr hlk q1 hq1 N  g24 u4 v25 _ _ _ hm hw hf (lv_sub hl [1, 2] rfl)
  · refine lv_aload_n S.1 S.2.1 dSx_runsOnce_138 rfl (lv_at hl 1 rfl) ?_
    refine lv_iload S.1 S.2.1 dSx_runsOnce_139 (lv_at hl 3 rfl) ?_
    refine lv_iload S.1 S.2.1 dSx_runsOnce_141 (lv_at hl 0 rfl) ?_
    obtain ⟨⟨v28, g27⟩, h26, hm⟩ := ob hm
    refine sw_Vi (q := 0) (rest := []) S hw (cSx_puts l N hf u5 x10 h26) kSx_puts wm_Sx_216 (is_0 hf).1 (e_Sx (is_0 hf)) rfl rfl rfl rfl hl.1 (Nat.le_of_ble_eq_true rfl) ⟨rfl, rfl, Nat.le_of_ble_eq_true rfl, Nat.le_of_ble_eq_true rfl⟩ ⟨Nat.le_of_ble_eq_true rfl, Nat.le_of_ble_eq_true rfl⟩ dSx_runsOnce_143 (fun H locs hw hf => ?_)
    refine lv_goto (tgt := 185) S.1 S.2.1 dSx_runsOnce_146 (by decide) ?_
    exact wSx_runsOnce_185 S hr hlk q1 hq1 N  g27 u4 v28 _ _ _ hm hw hf (lv_sub hl [1, 2] rfl)
set_option maxHeartbeats 4000000 in
set_option maxRecDepth 100000 in
theorem wSx_runsOnce_101 {l : Launch} {p : Program} {e : Env} {s : State} {m : MethodId} {args : Array Value} {below : List Frame} {meth : Method} {c : Code} {Γ : sw_C} {A : Nat → Prop} {ξ : sw_x} {μ : sw_m} {res : Int32 × sw_g} (S : CallFix p m c prog_1_method_52_code 8 s args (Cond.code ySx_runsOnce prog_1_method_52_code 8 (some .boolean) :: sw_tb) R_Sx) (hr : meth.sig.returnType = some .boolean) (hlk : meth.locks = false) (q1 : Nat) (hq1 : sw_ik ξ q1 7) (N : Nat) : ∀ (g : sw_g) (u2 : Int32) (u4 : Int32) (u5 : Int32) (H : Heap) (locs : List Loc) (ls : Array Slot), fSx_runsOnce_101 N ξ.2.2.1 q1  g u2 u4 u5 = some res → sw_S Γ A ξ g μ s H locs → sw_wf ξ g.2.2 → lv_has ls 8 [(0, .ref (ξ.2.2.2.1 0)), (1, .ref (ξ.2.2.2.1 q1)), (2, .int u2), (4, .int u4), (5, .int u5)] → W p l e (headSpec (Cond.code ySx_runsOnce prog_1_method_52_code 8 (some .boolean) :: sw_tb) rmSx_runsOnce).room s m args below meth c H locs 0 0 (MQ below (sw_Qi Γ A ξ res.2 μ res.1 (sw_wf ξ res.2.2.2)) args s 0 0 A) (F0 m 101 ls []) := by
  intro g u2 u4 u5 H locs ls hm hw hf hl
  unfold fSx_runsOnce_101 at hm
  refine lv_aload_n S.1 S.2.1 dSx_runsOnce_101 rfl (lv_at hl 0 rfl) ?_
  refine get_Sx (v := .ref (ξ.2.2.2.1 46)) S hw (is_0 hf) 8 (by decide) rfl wf_Sx_53 dSx_runsOnce_102 ?_
  refine lv_aload_n S.1 S.2.1 dSx_runsOnce_105 rfl (lv_at hl 1 rfl) ?_
  refine lv_aload_n S.1 S.2.1 dSx_runsOnce_106 rfl (lv_at hl 1 rfl) ?_
  refine get_Te (v := .ref (ξ.2.2.2.1 (q1 + 3))) S hw hq1 3 (by decide) rfl wf_Sx_363 dSx_runsOnce_107 ?_
  refine lv_iload_n S.1 S.2.1 dSx_runsOnce_110 rfl (lv_at hl 2 rfl) ?_
  refine sx_iald S hw (is_Te_second hf hq1) hm dSx_runsOnce_111 (fun v6 hm => ?_)
  refine lv_aload_n S.1 S.2.1 dSx_runsOnce_112 rfl (lv_at hl 0 rfl) ?_
  refine get_Sx (v := .ref (ξ.2.2.2.1 48)) S hw (is_0 hf) 9 (by decide) rfl wf_Sx_57 dSx_runsOnce_113 ?_
  obtain ⟨⟨v9, g8⟩, h7, hm⟩ := ob hm
  refine sw_Vi (q := 46) (rest := []) S hw (cRk_works l N hf 46 q1 48 19 (is_46 hf) (is_47 hf) hq1 (is_48 hf) v6 h7) kRk_works wm_Sx_352 (is_46 hf).1 (e_Rk (is_46 hf)) rfl rfl rfl rfl hl.1 (Nat.le_of_ble_eq_true rfl) ⟨rfl, rfl, Nat.le_of_ble_eq_true rfl, Nat.le_of_ble_eq_true rfl⟩ ⟨Nat.le_of_ble_eq_true rfl, Nat.le_of_ble_eq_true rfl⟩ dSx_runsOnce_116 (fun H locs hw hf => ?_)
  refine bif_ne (tgt := 124) S.1 S.2.1 hm dSx_runsOnce_119 (by decide) (fun hm => ?_) (fun hm => ?_)
  · exact wSx_runsOnce_124 S hr hlk q1 hq1 N  g8 u4 u5 _ _ _ hm hw hf (lv_sub hl [0, 3, 4] rfl)
  · refine lv_iconst (v := (0 : Int32)) S.1 S.2.1 dSx_runsOnce_122 (by decide) ?_
    obtain rfl := Option.some.inj hm
    exact sw_zret S hr hlk (Or.inl rfl) hw hf dSx_runsOnce_123
set_option maxHeartbeats 4000000 in
set_option maxRecDepth 100000 in
theorem wSx_runsOnce_81 {l : Launch} {p : Program} {e : Env} {s : State} {m : MethodId} {args : Array Value} {below : List Frame} {meth : Method} {c : Code} {Γ : sw_C} {A : Nat → Prop} {ξ : sw_x} {μ : sw_m} {res : Int32 × sw_g} (S : CallFix p m c prog_1_method_52_code 8 s args (Cond.code ySx_runsOnce prog_1_method_52_code 8 (some .boolean) :: sw_tb) R_Sx) (hr : meth.sig.returnType = some .boolean) (hlk : meth.locks = false) (q1 : Nat) (hq1 : sw_ik ξ q1 7) (N : Nat) : ∀ (g : sw_g) (u2 : Int32) (u4 : Int32) (H : Heap) (locs : List Loc) (ls : Array Slot), fSx_runsOnce_81 N ξ.2.2.1 q1  g u2 u4 = some res → sw_S Γ A ξ g μ s H locs → sw_wf ξ g.2.2 → lv_has ls 8 [(0, .ref (ξ.2.2.2.1 0)), (1, .ref (ξ.2.2.2.1 q1)), (2, .int u2), (4, .int u4)] → W p l e (headSpec (Cond.code ySx_runsOnce prog_1_method_52_code 8 (some .boolean) :: sw_tb) rmSx_runsOnce).room s m args below meth c H locs 0 0 (MQ below (sw_Qi Γ A ξ res.2 μ res.1 (sw_wf ξ res.2.2.2)) args s 0 0 A) (F0 m 81 ls []) := by
  intro g u2 u4 H locs ls hm hw hf hl
  unfold fSx_runsOnce_81 at hm
  refine lv_aload_n S.1 S.2.1 dSx_runsOnce_81 rfl (lv_at hl 0 rfl) ?_
  refine get_Sx (v := .ref (ξ.2.2.2.1 46)) S hw (is_0 hf) 8 (by decide) rfl wf_Sx_53 dSx_runsOnce_82 ?_
  refine get_Rk (v := .int (g.1 46 0)) S hw (is_46 hf) 0 (by decide) rfl wf_Sx_356 dSx_runsOnce_85 ?_
  refine nm_i hm (fun x5 hm => ?_)
  refine lv_istore (lv' := [(5, .int x5), (0, .ref (ξ.2.2.2.1 0)), (1, .ref (ξ.2.2.2.1 q1)), (2, .int u2), (4, .int u4)]) S.1 S.2.1 dSx_runsOnce_88 hl (by decide) rfl (fun ls hl => ?_)
  refine lv_iload S.1 S.2.1 dSx_runsOnce_90 (lv_at hl 4 rfl) ?_
  refine bif_eq (tgt := 101) S.1 S.2.1 hm dSx_runsOnce_92 (by decide) (fun hm => ?_) (fun hm => ?_)
  · exact wSx_runsOnce_101 S hr hlk q1 hq1 N  g u2 u4 x5 _ _ _ hm hw hf (lv_sub hl [1, 2, 3, 4, 0] rfl)
  · refine lv_iload S.1 S.2.1 dSx_runsOnce_95 (lv_at hl 4 rfl) ?_
    refine lv_iconst (v := (2 : Int32)) S.1 S.2.1 dSx_runsOnce_97 (by decide) ?_
    refine bicmp_ne (tgt := 124) S.1 S.2.1 hm dSx_runsOnce_98 (by decide) (fun hm => ?_) (fun hm => ?_)
    · exact wSx_runsOnce_124 S hr hlk q1 hq1 N  g u4 x5 _ _ _ hm hw hf (lv_sub hl [1, 4, 0] rfl)
    · exact wSx_runsOnce_101 S hr hlk q1 hq1 N  g u2 u4 x5 _ _ _ hm hw hf (lv_sub hl [1, 2, 3, 4, 0] rfl)
set_option maxHeartbeats 4000000 in
set_option maxRecDepth 100000 in
theorem wSx_runsOnce_44 {l : Launch} {p : Program} {e : Env} {s : State} {m : MethodId} {args : Array Value} {below : List Frame} {meth : Method} {c : Code} {Γ : sw_C} {A : Nat → Prop} {ξ : sw_x} {μ : sw_m} {res : Int32 × sw_g} (S : CallFix p m c prog_1_method_52_code 8 s args (Cond.code ySx_runsOnce prog_1_method_52_code 8 (some .boolean) :: sw_tb) R_Sx) (hr : meth.sig.returnType = some .boolean) (hlk : meth.locks = false) (q1 : Nat) (hq1 : sw_ik ξ q1 7) (N : Nat) : ∀ (g : sw_g) (u2 : Int32) (H : Heap) (locs : List Loc) (ls : Array Slot), fSx_runsOnce_44 N ξ.2.2.1 q1  g u2 = some res → sw_S Γ A ξ g μ s H locs → sw_wf ξ g.2.2 → lv_has ls 8 [(0, .ref (ξ.2.2.2.1 0)), (1, .ref (ξ.2.2.2.1 q1)), (2, .int u2)] → W p l e (headSpec (Cond.code ySx_runsOnce prog_1_method_52_code 8 (some .boolean) :: sw_tb) rmSx_runsOnce).room s m args below meth c H locs 0 0 (MQ below (sw_Qi Γ A ξ res.2 μ res.1 (sw_wf ξ res.2.2.2)) args s 0 0 A) (F0 m 44 ls []) := by
  intro g u2 H locs ls hm hw hf hl
  unfold fSx_runsOnce_44 at hm
  refine lv_aload_n S.1 S.2.1 dSx_runsOnce_44 rfl (lv_at hl 1 rfl) ?_
  refine get_Te (v := .ref (ξ.2.2.2.1 (q1 + 1))) S hw hq1 1 (by decide) rfl wf_Sx_359 dSx_runsOnce_45 ?_
  refine lv_iload_n S.1 S.2.1 dSx_runsOnce_48 rfl (lv_at hl 2 rfl) ?_
  refine sx_iald S hw (is_Te_verb hf hq1) hm dSx_runsOnce_49 (fun v4 hm => ?_)
  refine lv_istore (lv' := [(4, .int v4), (0, .ref (ξ.2.2.2.1 0)), (1, .ref (ξ.2.2.2.1 q1)), (2, .int u2)]) S.1 S.2.1 dSx_runsOnce_50 hl (by decide) rfl (fun ls hl => ?_)
  refine lv_iload S.1 S.2.1 dSx_runsOnce_52 (lv_at hl 0 rfl) ?_
  refine lv_iconst (v := (3 : Int32)) S.1 S.2.1 dSx_runsOnce_54 (by decide) ?_
  refine bicmp_eq (tgt := 81) S.1 S.2.1 hm dSx_runsOnce_55 (by decide) (fun hm => ?_) (fun hm => ?_)
  · exact wSx_runsOnce_81 S hr hlk q1 hq1 N  g u2 v4 _ _ _ hm hw hf (lv_sub hl [1, 2, 3, 0] rfl)
  · refine lv_aload_n S.1 S.2.1 dSx_runsOnce_58 rfl (lv_at hl 1 rfl) ?_
    refine get_Sx (v := .ref (ξ.2.2.2.1 46)) S hw (is_0 hf) 8 (by decide) rfl wf_Sx_53 dSx_runsOnce_59 ?_
    refine lv_aload_n S.1 S.2.1 dSx_runsOnce_62 rfl (lv_at hl 2 rfl) ?_
    refine lv_aload_n S.1 S.2.1 dSx_runsOnce_63 rfl (lv_at hl 2 rfl) ?_
    refine get_Te (v := .ref (ξ.2.2.2.1 (q1 + 2))) S hw hq1 2 (by decide) rfl wf_Sx_362 dSx_runsOnce_64 ?_
    refine lv_iload_n S.1 S.2.1 dSx_runsOnce_67 rfl (lv_at hl 3 rfl) ?_
    refine sx_iald S hw (is_Te_first hf hq1) hm dSx_runsOnce_68 (fun v29 hm => ?_)
    refine lv_aload_n S.1 S.2.1 dSx_runsOnce_69 rfl (lv_at hl 1 rfl) ?_
    refine get_Sx (v := .ref (ξ.2.2.2.1 48)) S hw (is_0 hf) 9 (by decide) rfl wf_Sx_57 dSx_runsOnce_70 ?_
    obtain ⟨⟨v32, g31⟩, h30, hm⟩ := ob hm
    refine sw_Vi (q := 46) (rest := []) S hw (cRk_works l N hf 46 q1 48 19 (is_46 hf) (is_47 hf) hq1 (is_48 hf) v29 h30) kRk_works wm_Sx_352 (is_46 hf).1 (e_Rk (is_46 hf)) rfl rfl rfl rfl hl.1 (Nat.le_of_ble_eq_true rfl) ⟨rfl, rfl, Nat.le_of_ble_eq_true rfl, Nat.le_of_ble_eq_true rfl⟩ ⟨Nat.le_of_ble_eq_true rfl, Nat.le_of_ble_eq_true rfl⟩ dSx_runsOnce_73 (fun H locs hw hf => ?_)
    refine bif_ne (tgt := 81) S.1 S.2.1 hm dSx_runsOnce_76 (by decide) (fun hm => ?_) (fun hm => ?_)
    · exact wSx_runsOnce_81 S hr hlk q1 hq1 N  g31 u2 v4 _ _ _ hm hw hf (lv_sub hl [1, 2, 3, 0] rfl)
    · refine lv_iconst (v := (0 : Int32)) S.1 S.2.1 dSx_runsOnce_79 (by decide) ?_
      obtain rfl := Option.some.inj hm
      exact sw_zret S hr hlk (Or.inl rfl) hw hf dSx_runsOnce_80
set_option maxHeartbeats 4000000 in
set_option maxRecDepth 100000 in
theorem cSx_runsOnce (l : Launch) (N : Nat) {Γ : sw_C} {A : Nat → Prop} {ξ : sw_x} {g : sw_g} {μ : sw_m} (hf : sw_wf ξ g.2.2) (q1 : Nat) (hq1 : sw_ik ξ q1 7) (a2 : Int32) {res : Int32 × sw_g} (hm : fSx_runsOnce N ξ.2.2.1 g q1 a2 = some res) : Met l ySx_runsOnce (Cond.code ySx_runsOnce prog_1_method_52_code 8 (some .boolean) :: sw_tb) rmSx_runsOnce (va_Pc [.ref (ξ.2.2.2.1 0), .ref (ξ.2.2.2.1 q1), .int a2] (sw_V Γ A ξ g μ)) (sw_Qi Γ A ξ res.2 μ res.1 (sw_wf ξ res.2.2.2)) 0 0 A := by
  refine Met.ofW (cc := prog_1_method_52_code) (maxL := 8) (ret := some .boolean) (by decide) rfl ?_
  intro p e s m args below meth c s₁ B hml hv
  obtain ⟨rfl, hv⟩ := hv
  have S : CallFix p m c prog_1_method_52_code 8 s _ (Cond.code ySx_runsOnce prog_1_method_52_code 8 (some .boolean) :: sw_tb) R_Sx := ⟨B.exec, B.bytes, hml, findClass_of_methodNamed B.named, atoms_spec (ws := (Cond.code ySx_runsOnce prog_1_method_52_code 8 (some .boolean) :: sw_tb)) B.pre⟩
  have hr := B.returns
  have hlk := B.notSynchronized
  have hw := sw_begin hv
  have hl := lv_entry [.ref (ξ.2.2.2.1 0), .ref (ξ.2.2.2.1 q1), .int a2] (n := 8) (Nat.le_of_ble_eq_true rfl)
  rw [lg_entry_eq]
  generalize (lg_sl [.ref (ξ.2.2.2.1 0), .ref (ξ.2.2.2.1 q1), .int a2] ++ List.replicate (8 - (lg_sl [.ref (ξ.2.2.2.1 0), .ref (ξ.2.2.2.1 q1), .int a2]).length) Slot.unset).toArray = ls at hl ⊢
  have hl : lv_has ls 8 [(0, .ref (ξ.2.2.2.1 0)), (1, .ref (ξ.2.2.2.1 q1)), (2, .int a2)] := hl
  unfold fSx_runsOnce at hm
  refine lv_aload_n S.1 S.2.1 dSx_runsOnce_0 rfl (lv_at hl 0 rfl) ?_
  obtain ⟨g2, h1, hm⟩ := ob hm
  refine sw_Vv (q := 0) (rest := []) S hw (cSx_tellWords l N hf  h1) kSx_tellWords wm_Sx_346 (is_0 hf).1 (e_Sx (is_0 hf)) rfl rfl rfl rfl hl.1 (Nat.le_of_ble_eq_true rfl) ⟨rfl, rfl, Nat.le_of_ble_eq_true rfl, Nat.le_of_ble_eq_true rfl⟩ ⟨Nat.le_of_ble_eq_true rfl, Nat.le_of_ble_eq_true rfl⟩ dSx_runsOnce_1 (fun H locs hw hf => ?_)
  refine lv_aload_n S.1 S.2.1 dSx_runsOnce_4 rfl (lv_at hl 1 rfl) ?_
  refine get_Te (v := .ref (ξ.2.2.2.1 (q1 + 5))) S hw hq1 5 (by decide) rfl wf_Sx_349 dSx_runsOnce_5 ?_
  refine lv_iload_n S.1 S.2.1 dSx_runsOnce_8 rfl (lv_at hl 2 rfl) ?_
  refine sx_iald S hw (is_Te_test hf hq1) hm dSx_runsOnce_9 (fun v3 hm => ?_)
  refine lv_istore_n (lv' := [(3, .int v3), (0, .ref (ξ.2.2.2.1 0)), (1, .ref (ξ.2.2.2.1 q1)), (2, .int a2)]) S.1 S.2.1 dSx_runsOnce_10 rfl hl (by decide) rfl (fun ls hl => ?_)
  refine lv_iload_n S.1 S.2.1 dSx_runsOnce_11 rfl (lv_at hl 0 rfl) ?_
  refine lv_iconst (v := (-1 : Int32)) S.1 S.2.1 dSx_runsOnce_12 (by decide) ?_
  refine bicmp_eq (tgt := 44) S.1 S.2.1 hm dSx_runsOnce_13 (by decide) (fun hm => ?_) (fun hm => ?_)
  · exact wSx_runsOnce_44 S hr hlk q1 hq1 N  g2 a2 _ _ _ hm hw hf (lv_sub hl [1, 2, 3] rfl)
  · refine lv_aload_n S.1 S.2.1 dSx_runsOnce_16 rfl (lv_at hl 1 rfl) ?_
    refine get_Sx (v := .ref (ξ.2.2.2.1 46)) S hw (is_0 hf) 8 (by decide) rfl wf_Sx_53 dSx_runsOnce_17 ?_
    refine lv_aload_n S.1 S.2.1 dSx_runsOnce_20 rfl (lv_at hl 2 rfl) ?_
    refine lv_iload_n S.1 S.2.1 dSx_runsOnce_21 rfl (lv_at hl 0 rfl) ?_
    refine lv_aload_n S.1 S.2.1 dSx_runsOnce_22 rfl (lv_at hl 1 rfl) ?_
    refine get_Sx (v := .ref (ξ.2.2.2.1 48)) S hw (is_0 hf) 9 (by decide) rfl wf_Sx_57 dSx_runsOnce_23 ?_
    obtain ⟨⟨v35, g34⟩, h33, hm⟩ := ob hm
    refine sw_Vi (q := 46) (rest := []) S hw (cRk_works l N hf 46 q1 48 19 (is_46 hf) (is_47 hf) hq1 (is_48 hf) v3 h33) kRk_works wm_Sx_352 (is_46 hf).1 (e_Rk (is_46 hf)) rfl rfl rfl rfl hl.1 (Nat.le_of_ble_eq_true rfl) ⟨rfl, rfl, Nat.le_of_ble_eq_true rfl, Nat.le_of_ble_eq_true rfl⟩ ⟨Nat.le_of_ble_eq_true rfl, Nat.le_of_ble_eq_true rfl⟩ dSx_runsOnce_26 (fun H locs hw hf => ?_)
    refine bif_eq (tgt := 42) S.1 S.2.1 hm dSx_runsOnce_29 (by decide) (fun hm => ?_) (fun hm => ?_)
    · refine lv_iconst (v := (1 : Int32)) S.1 S.2.1 dSx_runsOnce_42 (by decide) ?_
      obtain rfl := Option.some.inj hm
      exact sw_zret S hr hlk (Or.inr rfl) hw hf dSx_runsOnce_43
    · refine lv_aload_n S.1 S.2.1 dSx_runsOnce_32 rfl (lv_at hl 1 rfl) ?_
      refine get_Sx (v := .ref (ξ.2.2.2.1 46)) S hw (is_0 hf) 8 (by decide) rfl wf_Sx_53 dSx_runsOnce_33 ?_
      refine get_Rk (v := .int (g34.1 46 0)) S hw (is_46 hf) 0 (by decide) rfl wf_Sx_356 dSx_runsOnce_36 ?_
      refine bif_ne (tgt := 44) S.1 S.2.1 hm dSx_runsOnce_39 (by decide) (fun hm => ?_) (fun hm => ?_)
      · exact wSx_runsOnce_44 S hr hlk q1 hq1 N  g34 a2 _ _ _ hm hw hf (lv_sub hl [1, 2, 3] rfl)
      · refine lv_iconst (v := (1 : Int32)) S.1 S.2.1 dSx_runsOnce_42 (by decide) ?_
        obtain rfl := Option.some.inj hm
        exact sw_zret S hr hlk (Or.inr rfl) hw hf dSx_runsOnce_43
set_option maxHeartbeats 4000000 in
set_option maxRecDepth 100000 in
theorem cRe_placeOfSum (l : Launch) (N : Nat) {Γ : sw_C} {A : Nat → Prop} {ξ : sw_x} {g : sw_g} {μ : sw_m} (hf : sw_wf ξ g.2.2) {res : Int32 × sw_g} (hm : fRe_placeOfSum N ξ.2.2.1 g = some res) : Met l yRe_placeOfSum (Cond.code yRe_placeOfSum prog_5_method_16_code 2 (some .int) :: sw_tb) rmRe_placeOfSum (va_Pc [.ref (ξ.2.2.2.1 33)] (sw_V Γ A ξ g μ)) (sw_Qi Γ A ξ res.2 μ res.1 (sw_wf ξ res.2.2.2)) 0 0 A := by
  refine Met.ofW (cc := prog_5_method_16_code) (maxL := 2) (ret := some .int) (by decide) rfl ?_
  intro p e s m args below meth c s₁ B hml hv
  obtain ⟨rfl, hv⟩ := hv
  have S : CallFix p m c prog_5_method_16_code 2 s _ (Cond.code yRe_placeOfSum prog_5_method_16_code 2 (some .int) :: sw_tb) R_Re := ⟨B.exec, B.bytes, hml, findClass_of_methodNamed B.named, atoms_spec (ws := (Cond.code yRe_placeOfSum prog_5_method_16_code 2 (some .int) :: sw_tb)) B.pre⟩
  have hr := B.returns
  have hlk := B.notSynchronized
  have hw := sw_begin hv
  have hl := lv_entry [.ref (ξ.2.2.2.1 33)] (n := 2) (Nat.le_of_ble_eq_true rfl)
  rw [lg_entry_eq]
  generalize (lg_sl [.ref (ξ.2.2.2.1 33)] ++ List.replicate (2 - (lg_sl [.ref (ξ.2.2.2.1 33)]).length) Slot.unset).toArray = ls at hl ⊢
  have hl : lv_has ls 2 [(0, .ref (ξ.2.2.2.1 33))] := hl
  unfold fRe_placeOfSum at hm
  refine lv_aload_n S.1 S.2.1 dRe_placeOfSum_0 rfl (lv_at hl 0 rfl) ?_
  refine get_Re (v := .ref (ξ.2.2.2.1 35)) S hw (is_33 hf) 3 (by decide) rfl wf_Re_20 dRe_placeOfSum_1 ?_
  refine get_Te (v := .int (g.1 35 6)) S hw (is_35 hf) 6 (by decide) rfl wf_Re_44 dRe_placeOfSum_4 ?_
  refine nm_i hm (fun x1 hm => ?_)
  refine lv_istore_n (lv' := [(1, .int x1), (0, .ref (ξ.2.2.2.1 33))]) S.1 S.2.1 dRe_placeOfSum_7 rfl hl (by decide) rfl (fun ls hl => ?_)
  refine lv_aload_n S.1 S.2.1 dRe_placeOfSum_8 rfl (lv_at hl 1 rfl) ?_
  obtain ⟨g3, h2, hm⟩ := ob hm
  refine sw_Vv (q := 33) (rest := []) S hw (cRe_readSum l N 10 hf  h2) kRe_readSum wm_Re_143 (is_33 hf).1 (e_Re (is_33 hf)) rfl rfl rfl rfl hl.1 (Nat.le_of_ble_eq_true rfl) ⟨rfl, rfl, Nat.le_of_ble_eq_true rfl, Nat.le_of_ble_eq_true rfl⟩ ⟨Nat.le_of_ble_eq_true rfl, Nat.le_of_ble_eq_true rfl⟩ dRe_placeOfSum_9 (fun H locs hw hf => ?_)
  refine lv_aload_n S.1 S.2.1 dRe_placeOfSum_12 rfl (lv_at hl 1 rfl) ?_
  refine lv_iconst (v := (0 : Int32)) S.1 S.2.1 dRe_placeOfSum_13 (by decide) ?_
  refine lv_iconst (v := (0 : Int32)) S.1 S.2.1 dRe_placeOfSum_14 (by decide) ?_
  obtain ⟨g5, h4, hm⟩ := ob hm
  refine sw_Vv (q := 33) (rest := []) S hw (cRe_emit l N hf (0 : Int32) (0 : Int32) h4) kRe_emit wm_Re_146 (is_33 hf).1 (e_Re (is_33 hf)) rfl rfl rfl rfl hl.1 (Nat.le_of_ble_eq_true rfl) ⟨rfl, rfl, Nat.le_of_ble_eq_true rfl, Nat.le_of_ble_eq_true rfl⟩ ⟨Nat.le_of_ble_eq_true rfl, Nat.le_of_ble_eq_true rfl⟩ dRe_placeOfSum_15 (fun H locs hw hf => ?_)
  refine lv_iload_n S.1 S.2.1 dRe_placeOfSum_18 rfl (lv_at hl 0 rfl) ?_
  obtain rfl := Option.some.inj hm
  exact sw_iret S hr hlk hw hf dRe_placeOfSum_19
set_option maxHeartbeats 4000000 in
set_option maxRecDepth 100000 in
theorem wRe_readPlain_138 {l : Launch} {p : Program} {e : Env} {s : State} {m : MethodId} {args : Array Value} {below : List Frame} {meth : Method} {c : Code} {Γ : sw_C} {A : Nat → Prop} {ξ : sw_x} {μ : sw_m} {res : sw_g} (S : CallFix p m c prog_5_method_20_code 3 s args (Cond.code yRe_readPlain prog_5_method_20_code 3 (none) :: sw_tb) R_Re) (hr : meth.sig.returnType = none) (hlk : meth.locks = false) (rc : sw_g → Option (sw_g)) (rr : Room) (hr0 : rr.cells = 0 ∧ rr.slots = 0) (hrc : ∀ {g : sw_g} {μ : sw_m} (hf : sw_wf ξ g.2.2) {res : sw_g}, rc g  = some res → Met l yRe_readTest (Cond.code yRe_readTest prog_5_method_18_code 3 (none) :: sw_tb) rr (va_Pc [.ref (ξ.2.2.2.1 33)] (sw_V Γ A ξ g μ)) (sw_Qv Γ A ξ res μ (sw_wf ξ res.2.2)) 0 0 A) (N : Nat) : ∀ (g : sw_g) (u1 : Int32) (H : Heap) (locs : List Loc) (ls : Array Slot), fRe_readPlain_138 N rc ξ.2.2.1  g u1 = some res → sw_S Γ A ξ g μ s H locs → sw_wf ξ g.2.2 → lv_has ls 3 [(0, .ref (ξ.2.2.2.1 33)), (1, .int u1)] → W p l e (headSpec (Cond.code yRe_readPlain prog_5_method_20_code 3 (none) :: sw_tb) (rgRe_readPlain rr)).room s m args below meth c H locs 0 0 (MQ below (sw_Qv Γ A ξ res μ (sw_wf ξ res.2.2)) args s 0 0 A) (F0 m 138 ls []) := by
  intro g u1 H locs ls hm hw hf hl
  unfold fRe_readPlain_138 at hm
  refine lv_iload_n S.1 S.2.1 dRe_readPlain_138 rfl (lv_at hl 1 rfl) ?_
  refine bif_eq (tgt := 148) S.1 S.2.1 hm dRe_readPlain_139 (by decide) (fun hm => ?_) (fun hm => ?_)
  · obtain rfl := Option.some.inj hm
    exact sw_vret S hr hlk hw hf dRe_readPlain_148
  · refine lv_aload_n S.1 S.2.1 dRe_readPlain_142 rfl (lv_at hl 0 rfl) ?_
    refine lv_iconst (v := (3 : Int32)) S.1 S.2.1 dRe_readPlain_143 (by decide) ?_
    refine lv_iconst (v := (0 : Int32)) S.1 S.2.1 dRe_readPlain_144 (by decide) ?_
    obtain ⟨g19, h18, hm⟩ := ob hm
    refine sw_Vv (q := 33) (rest := []) S hw (cRe_emit l N hf (3 : Int32) (0 : Int32) h18) kRe_emit wm_Re_146 (is_33 hf).1 (e_Re (is_33 hf)) rfl rfl rfl rfl hl.1 (Nat.le_of_ble_eq_true rfl) ⟨rfl, rfl, by show 1 + 1 ≤ rr.frames + _; omega, by show 8 + (3 + 11) + 20 ≤ rr.locals + _; omega⟩ ⟨Nat.le_of_ble_eq_true rfl, Nat.le_of_ble_eq_true rfl⟩ dRe_readPlain_145 (fun H locs hw hf => ?_)
    obtain rfl := Option.some.inj hm
    exact sw_vret S hr hlk hw hf dRe_readPlain_148
set_option maxHeartbeats 4000000 in
set_option maxRecDepth 100000 in
theorem wRe_readPlain_99 {l : Launch} {p : Program} {e : Env} {s : State} {m : MethodId} {args : Array Value} {below : List Frame} {meth : Method} {c : Code} {Γ : sw_C} {A : Nat → Prop} {ξ : sw_x} {μ : sw_m} {res : sw_g} (S : CallFix p m c prog_5_method_20_code 3 s args (Cond.code yRe_readPlain prog_5_method_20_code 3 (none) :: sw_tb) R_Re) (hr : meth.sig.returnType = none) (hlk : meth.locks = false) (rc : sw_g → Option (sw_g)) (rr : Room) (hr0 : rr.cells = 0 ∧ rr.slots = 0) (hrc : ∀ {g : sw_g} {μ : sw_m} (hf : sw_wf ξ g.2.2) {res : sw_g}, rc g  = some res → Met l yRe_readTest (Cond.code yRe_readTest prog_5_method_18_code 3 (none) :: sw_tb) rr (va_Pc [.ref (ξ.2.2.2.1 33)] (sw_V Γ A ξ g μ)) (sw_Qv Γ A ξ res μ (sw_wf ξ res.2.2)) 0 0 A) (N : Nat) : ∀ (g : sw_g) (u1 : Int32) (s0 : Int32) (H : Heap) (locs : List Loc) (ls : Array Slot), fRe_readPlain_99 N rc ξ.2.2.1  g u1 s0 = some res → sw_S Γ A ξ g μ s H locs → sw_wf ξ g.2.2 → lv_has ls 3 [(0, .ref (ξ.2.2.2.1 33)), (1, .int u1)] → W p l e (headSpec (Cond.code yRe_readPlain prog_5_method_20_code 3 (none) :: sw_tb) (rgRe_readPlain rr)).room s m args below meth c H locs 0 0 (MQ below (sw_Qv Γ A ξ res μ (sw_wf ξ res.2.2)) args s 0 0 A) (F0 m 99 ls [.int s0]) := by
  intro g u1 s0 H locs ls hm hw hf hl
  unfold fRe_readPlain_99 at hm
  refine lv_istore_n (lv' := [(2, .int s0), (0, .ref (ξ.2.2.2.1 33)), (1, .int u1)]) S.1 S.2.1 dRe_readPlain_99 rfl hl (by decide) rfl (fun ls hl => ?_)
  refine lv_aload_n S.1 S.2.1 dRe_readPlain_100 rfl (lv_at hl 1 rfl) ?_
  refine lv_iload_n S.1 S.2.1 dRe_readPlain_101 rfl (lv_at hl 0 rfl) ?_
  refine lv_bipush (v := (11 : Int32)) S.1 S.2.1 dRe_readPlain_102 (by decide) ?_
  refine bicmp_ne (tgt := 112) S.1 S.2.1 hm dRe_readPlain_104 (by decide) (fun hm => ?_) (fun hm => ?_)
  · refine lv_iload_n S.1 S.2.1 dRe_readPlain_112 rfl (lv_at hl 0 rfl) ?_
    refine lv_bipush (v := (12 : Int32)) S.1 S.2.1 dRe_readPlain_113 (by decide) ?_
    refine bicmp_ne (tgt := 123) S.1 S.2.1 hm dRe_readPlain_115 (by decide) (fun hm => ?_) (fun hm => ?_)
    · refine va_ldcS S.1 S.2.1 S.2.2.2.1 (hw.2.2.2.2.2.2.1 35 (by decide)) dRe_readPlain_123 ?_
      obtain ⟨g13, h12, hm⟩ := ob hm
      refine sw_Vv (q := 33) (rest := []) S hw (cRe_expect l N hf 35 (by decide) h12) kRe_expect wm_Re_120 (is_33 hf).1 (e_Re (is_33 hf)) rfl rfl rfl rfl hl.1 (Nat.le_of_ble_eq_true rfl) ⟨rfl, rfl, by show 6 + 1 ≤ rr.frames + _; omega, by show 8 + (2 + 11) + 163 ≤ rr.locals + _; omega⟩ ⟨Nat.le_of_ble_eq_true rfl, Nat.le_of_ble_eq_true rfl⟩ dRe_readPlain_125 (fun H locs hw hf => ?_)
      refine lv_aload_n S.1 S.2.1 dRe_readPlain_128 rfl (lv_at hl 1 rfl) ?_
      obtain ⟨g15, h14, hm⟩ := ob hm
      refine sw_Vv (q := 33) (rest := []) S hw (cRe_readSum l N 10 hf  h14) kRe_readSum wm_Re_143 (is_33 hf).1 (e_Re (is_33 hf)) rfl rfl rfl rfl hl.1 (Nat.le_of_ble_eq_true rfl) ⟨rfl, rfl, by show 80 + 1 ≤ rr.frames + _; omega, by show 8 + (3 + 11) + 2070 ≤ rr.locals + _; omega⟩ ⟨Nat.le_of_ble_eq_true rfl, Nat.le_of_ble_eq_true rfl⟩ dRe_readPlain_129 (fun H locs hw hf => ?_)
      refine lv_aload_n S.1 S.2.1 dRe_readPlain_132 rfl (lv_at hl 1 rfl) ?_
      refine lv_iload_n S.1 S.2.1 dRe_readPlain_133 rfl (lv_at hl 0 rfl) ?_
      refine lv_iconst (v := (0 : Int32)) S.1 S.2.1 dRe_readPlain_134 (by decide) ?_
      obtain ⟨g17, h16, hm⟩ := ob hm
      refine sw_Vv (q := 33) (rest := []) S hw (cRe_emit l N hf s0 (0 : Int32) h16) kRe_emit wm_Re_146 (is_33 hf).1 (e_Re (is_33 hf)) rfl rfl rfl rfl hl.1 (Nat.le_of_ble_eq_true rfl) ⟨rfl, rfl, by show 1 + 1 ≤ rr.frames + _; omega, by show 8 + (3 + 11) + 20 ≤ rr.locals + _; omega⟩ ⟨Nat.le_of_ble_eq_true rfl, Nat.le_of_ble_eq_true rfl⟩ dRe_readPlain_135 (fun H locs hw hf => ?_)
      exact wRe_readPlain_138 S hr hlk rc rr hr0 hrc N  g17 u1 _ _ _ hm hw hf (lv_sub hl [1, 2] rfl)
    · refine va_ldcS S.1 S.2.1 S.2.2.2.1 (hw.2.2.2.2.2.2.1 34 (by decide)) dRe_readPlain_118 ?_
      refine lv_goto (tgt := 125) S.1 S.2.1 dRe_readPlain_120 (by decide) ?_
      obtain ⟨g21, h20, hm⟩ := ob hm
      refine sw_Vv (q := 33) (rest := []) S hw (cRe_expect l N hf 34 (by decide) h20) kRe_expect wm_Re_120 (is_33 hf).1 (e_Re (is_33 hf)) rfl rfl rfl rfl hl.1 (Nat.le_of_ble_eq_true rfl) ⟨rfl, rfl, by show 6 + 1 ≤ rr.frames + _; omega, by show 8 + (2 + 11) + 163 ≤ rr.locals + _; omega⟩ ⟨Nat.le_of_ble_eq_true rfl, Nat.le_of_ble_eq_true rfl⟩ dRe_readPlain_125 (fun H locs hw hf => ?_)
      refine lv_aload_n S.1 S.2.1 dRe_readPlain_128 rfl (lv_at hl 1 rfl) ?_
      obtain ⟨g23, h22, hm⟩ := ob hm
      refine sw_Vv (q := 33) (rest := []) S hw (cRe_readSum l N 10 hf  h22) kRe_readSum wm_Re_143 (is_33 hf).1 (e_Re (is_33 hf)) rfl rfl rfl rfl hl.1 (Nat.le_of_ble_eq_true rfl) ⟨rfl, rfl, by show 80 + 1 ≤ rr.frames + _; omega, by show 8 + (3 + 11) + 2070 ≤ rr.locals + _; omega⟩ ⟨Nat.le_of_ble_eq_true rfl, Nat.le_of_ble_eq_true rfl⟩ dRe_readPlain_129 (fun H locs hw hf => ?_)
      refine lv_aload_n S.1 S.2.1 dRe_readPlain_132 rfl (lv_at hl 1 rfl) ?_
      refine lv_iload_n S.1 S.2.1 dRe_readPlain_133 rfl (lv_at hl 0 rfl) ?_
      refine lv_iconst (v := (0 : Int32)) S.1 S.2.1 dRe_readPlain_134 (by decide) ?_
      obtain ⟨g25, h24, hm⟩ := ob hm
      refine sw_Vv (q := 33) (rest := []) S hw (cRe_emit l N hf s0 (0 : Int32) h24) kRe_emit wm_Re_146 (is_33 hf).1 (e_Re (is_33 hf)) rfl rfl rfl rfl hl.1 (Nat.le_of_ble_eq_true rfl) ⟨rfl, rfl, by show 1 + 1 ≤ rr.frames + _; omega, by show 8 + (3 + 11) + 20 ≤ rr.locals + _; omega⟩ ⟨Nat.le_of_ble_eq_true rfl, Nat.le_of_ble_eq_true rfl⟩ dRe_readPlain_135 (fun H locs hw hf => ?_)
      exact wRe_readPlain_138 S hr hlk rc rr hr0 hrc N  g25 u1 _ _ _ hm hw hf (lv_sub hl [1, 2] rfl)
  · refine va_ldcS S.1 S.2.1 S.2.2.2.1 (hw.2.2.2.2.2.2.1 33 (by decide)) dRe_readPlain_107 ?_
    refine lv_goto (tgt := 125) S.1 S.2.1 dRe_readPlain_109 (by decide) ?_
    obtain ⟨g27, h26, hm⟩ := ob hm
    refine sw_Vv (q := 33) (rest := []) S hw (cRe_expect l N hf 33 (by decide) h26) kRe_expect wm_Re_120 (is_33 hf).1 (e_Re (is_33 hf)) rfl rfl rfl rfl hl.1 (Nat.le_of_ble_eq_true rfl) ⟨rfl, rfl, by show 6 + 1 ≤ rr.frames + _; omega, by show 8 + (2 + 11) + 163 ≤ rr.locals + _; omega⟩ ⟨Nat.le_of_ble_eq_true rfl, Nat.le_of_ble_eq_true rfl⟩ dRe_readPlain_125 (fun H locs hw hf => ?_)
    refine lv_aload_n S.1 S.2.1 dRe_readPlain_128 rfl (lv_at hl 1 rfl) ?_
    obtain ⟨g29, h28, hm⟩ := ob hm
    refine sw_Vv (q := 33) (rest := []) S hw (cRe_readSum l N 10 hf  h28) kRe_readSum wm_Re_143 (is_33 hf).1 (e_Re (is_33 hf)) rfl rfl rfl rfl hl.1 (Nat.le_of_ble_eq_true rfl) ⟨rfl, rfl, by show 80 + 1 ≤ rr.frames + _; omega, by show 8 + (3 + 11) + 2070 ≤ rr.locals + _; omega⟩ ⟨Nat.le_of_ble_eq_true rfl, Nat.le_of_ble_eq_true rfl⟩ dRe_readPlain_129 (fun H locs hw hf => ?_)
    refine lv_aload_n S.1 S.2.1 dRe_readPlain_132 rfl (lv_at hl 1 rfl) ?_
    refine lv_iload_n S.1 S.2.1 dRe_readPlain_133 rfl (lv_at hl 0 rfl) ?_
    refine lv_iconst (v := (0 : Int32)) S.1 S.2.1 dRe_readPlain_134 (by decide) ?_
    obtain ⟨g31, h30, hm⟩ := ob hm
    refine sw_Vv (q := 33) (rest := []) S hw (cRe_emit l N hf s0 (0 : Int32) h30) kRe_emit wm_Re_146 (is_33 hf).1 (e_Re (is_33 hf)) rfl rfl rfl rfl hl.1 (Nat.le_of_ble_eq_true rfl) ⟨rfl, rfl, by show 1 + 1 ≤ rr.frames + _; omega, by show 8 + (3 + 11) + 20 ≤ rr.locals + _; omega⟩ ⟨Nat.le_of_ble_eq_true rfl, Nat.le_of_ble_eq_true rfl⟩ dRe_readPlain_135 (fun H locs hw hf => ?_)
    exact wRe_readPlain_138 S hr hlk rc rr hr0 hrc N  g31 u1 _ _ _ hm hw hf (lv_sub hl [1, 2] rfl)
set_option maxHeartbeats 4000000 in
set_option maxRecDepth 100000 in
theorem wRe_readPlain_36 {l : Launch} {p : Program} {e : Env} {s : State} {m : MethodId} {args : Array Value} {below : List Frame} {meth : Method} {c : Code} {Γ : sw_C} {A : Nat → Prop} {ξ : sw_x} {μ : sw_m} {res : sw_g} (S : CallFix p m c prog_5_method_20_code 3 s args (Cond.code yRe_readPlain prog_5_method_20_code 3 (none) :: sw_tb) R_Re) (hr : meth.sig.returnType = none) (hlk : meth.locks = false) (rc : sw_g → Option (sw_g)) (rr : Room) (hr0 : rr.cells = 0 ∧ rr.slots = 0) (hrc : ∀ {g : sw_g} {μ : sw_m} (hf : sw_wf ξ g.2.2) {res : sw_g}, rc g  = some res → Met l yRe_readTest (Cond.code yRe_readTest prog_5_method_18_code 3 (none) :: sw_tb) rr (va_Pc [.ref (ξ.2.2.2.1 33)] (sw_V Γ A ξ g μ)) (sw_Qv Γ A ξ res μ (sw_wf ξ res.2.2)) 0 0 A) (N : Nat) : ∀ (g : sw_g) (u1 : Int32) (H : Heap) (locs : List Loc) (ls : Array Slot), fRe_readPlain_36 N rc ξ.2.2.1  g u1 = some res → sw_S Γ A ξ g μ s H locs → sw_wf ξ g.2.2 → lv_has ls 3 [(0, .ref (ξ.2.2.2.1 33)), (1, .int u1)] → W p l e (headSpec (Cond.code yRe_readPlain prog_5_method_20_code 3 (none) :: sw_tb) (rgRe_readPlain rr)).room s m args below meth c H locs 0 0 (MQ below (sw_Qv Γ A ξ res μ (sw_wf ξ res.2.2)) args s 0 0 A) (F0 m 36 ls []) := by
  intro g u1 H locs ls hm hw hf hl
  unfold fRe_readPlain_36 at hm
  refine lv_aload_n S.1 S.2.1 dRe_readPlain_36 rfl (lv_at hl 0 rfl) ?_
  refine va_ldcS S.1 S.2.1 S.2.2.2.1 (hw.2.2.2.2.2.2.1 31 (by decide)) dRe_readPlain_37 ?_
  obtain ⟨⟨v3, g2⟩, h1, hm⟩ := ob hm
  refine sw_Vi (q := 33) (rest := []) S hw (cRe_isToken l N hf 31 (by decide) h1) kRe_isToken wm_Re_90 (is_33 hf).1 (e_Re (is_33 hf)) rfl rfl rfl rfl hl.1 (Nat.le_of_ble_eq_true rfl) ⟨rfl, rfl, by show 4 + 1 ≤ rr.frames + _; omega, by show 8 + (3 + 11) + 120 ≤ rr.locals + _; omega⟩ ⟨Nat.le_of_ble_eq_true rfl, Nat.le_of_ble_eq_true rfl⟩ dRe_readPlain_39 (fun H locs hw hf => ?_)
  refine bif_eq (tgt := 65) S.1 S.2.1 hm dRe_readPlain_42 (by decide) (fun hm => ?_) (fun hm => ?_)
  · refine lv_aload_n S.1 S.2.1 dRe_readPlain_65 rfl (lv_at hl 0 rfl) ?_
    obtain ⟨g5, h4, hm⟩ := ob hm
    refine sw_Vv (q := 33) (rest := []) S hw (cRe_readSum l N 10 hf  h4) kRe_readSum wm_Re_143 (is_33 hf).1 (e_Re (is_33 hf)) rfl rfl rfl rfl hl.1 (Nat.le_of_ble_eq_true rfl) ⟨rfl, rfl, by show 80 + 1 ≤ rr.frames + _; omega, by show 8 + (3 + 11) + 2070 ≤ rr.locals + _; omega⟩ ⟨Nat.le_of_ble_eq_true rfl, Nat.le_of_ble_eq_true rfl⟩ dRe_readPlain_66 (fun H locs hw hf => ?_)
    refine lv_aload_n S.1 S.2.1 dRe_readPlain_69 rfl (lv_at hl 0 rfl) ?_
    refine va_ldcS S.1 S.2.1 S.2.2.2.1 (hw.2.2.2.2.2.2.1 33 (by decide)) dRe_readPlain_70 ?_
    obtain ⟨⟨v8, g7⟩, h6, hm⟩ := ob hm
    refine sw_Vi (q := 33) (rest := []) S hw (cRe_isToken l N hf 33 (by decide) h6) kRe_isToken wm_Re_90 (is_33 hf).1 (e_Re (is_33 hf)) rfl rfl rfl rfl hl.1 (Nat.le_of_ble_eq_true rfl) ⟨rfl, rfl, by show 4 + 1 ≤ rr.frames + _; omega, by show 8 + (3 + 11) + 120 ≤ rr.locals + _; omega⟩ ⟨Nat.le_of_ble_eq_true rfl, Nat.le_of_ble_eq_true rfl⟩ dRe_readPlain_72 (fun H locs hw hf => ?_)
    refine bif_eq (tgt := 83) S.1 S.2.1 hm dRe_readPlain_75 (by decide) (fun hm => ?_) (fun hm => ?_)
    · refine lv_aload_n S.1 S.2.1 dRe_readPlain_83 rfl (lv_at hl 0 rfl) ?_
      refine va_ldcS S.1 S.2.1 S.2.2.2.1 (hw.2.2.2.2.2.2.1 34 (by decide)) dRe_readPlain_84 ?_
      obtain ⟨⟨v11, g10⟩, h9, hm⟩ := ob hm
      refine sw_Vi (q := 33) (rest := []) S hw (cRe_isToken l N hf 34 (by decide) h9) kRe_isToken wm_Re_90 (is_33 hf).1 (e_Re (is_33 hf)) rfl rfl rfl rfl hl.1 (Nat.le_of_ble_eq_true rfl) ⟨rfl, rfl, by show 4 + 1 ≤ rr.frames + _; omega, by show 8 + (3 + 11) + 120 ≤ rr.locals + _; omega⟩ ⟨Nat.le_of_ble_eq_true rfl, Nat.le_of_ble_eq_true rfl⟩ dRe_readPlain_86 (fun H locs hw hf => ?_)
      refine bif_eq (tgt := 97) S.1 S.2.1 hm dRe_readPlain_89 (by decide) (fun hm => ?_) (fun hm => ?_)
      · refine lv_bipush (v := (13 : Int32)) S.1 S.2.1 dRe_readPlain_97 (by decide) ?_
        exact wRe_readPlain_99 S hr hlk rc rr hr0 hrc N  g10 u1 (13 : Int32) _ _ _ hm hw hf (lv_sub hl [0, 1] rfl)
      · refine lv_bipush (v := (12 : Int32)) S.1 S.2.1 dRe_readPlain_92 (by decide) ?_
        refine lv_goto (tgt := 99) S.1 S.2.1 dRe_readPlain_94 (by decide) ?_
        exact wRe_readPlain_99 S hr hlk rc rr hr0 hrc N  g10 u1 (12 : Int32) _ _ _ hm hw hf (lv_sub hl [0, 1] rfl)
    · refine lv_bipush (v := (11 : Int32)) S.1 S.2.1 dRe_readPlain_78 (by decide) ?_
      refine lv_goto (tgt := 99) S.1 S.2.1 dRe_readPlain_80 (by decide) ?_
      exact wRe_readPlain_99 S hr hlk rc rr hr0 hrc N  g7 u1 (11 : Int32) _ _ _ hm hw hf (lv_sub hl [0, 1] rfl)
  · refine lv_aload_n S.1 S.2.1 dRe_readPlain_45 rfl (lv_at hl 0 rfl) ?_
    obtain ⟨⟨v34, g33⟩, h32, hm⟩ := ob hm
    refine sw_Vi (q := 33) (rest := []) S hw (cRe_opens l N hf  h32) kRe_opens wm_Re_175 (is_33 hf).1 (e_Re (is_33 hf)) rfl rfl rfl rfl hl.1 (Nat.le_of_ble_eq_true rfl) ⟨rfl, rfl, by show 2 + 1 ≤ rr.frames + _; omega, by show 8 + (1 + 11) + 42 ≤ rr.locals + _; omega⟩ ⟨Nat.le_of_ble_eq_true rfl, Nat.le_of_ble_eq_true rfl⟩ dRe_readPlain_46 (fun H locs hw hf => ?_)
    refine bif_eq (tgt := 138) S.1 S.2.1 hm dRe_readPlain_49 (by decide) (fun hm => ?_) (fun hm => ?_)
    · exact wRe_readPlain_138 S hr hlk rc rr hr0 hrc N  g33 u1 _ _ _ hm hw hf (lv_sub hl [0, 1] rfl)
    · refine lv_aload_n S.1 S.2.1 dRe_readPlain_52 rfl (lv_at hl 0 rfl) ?_
      obtain ⟨g36, h35, hm⟩ := ob hm
      refine sw_Vv (q := 33) (rest := []) S hw (hrc hf  h35) kRe_readTest wm_Re_155 (is_33 hf).1 (e_Re (is_33 hf)) rfl rfl rfl rfl hl.1 (Nat.le_of_ble_eq_true rfl) ⟨hr0.1, hr0.2, by show rr.frames + 1 ≤ rr.frames + _; omega, by show 8 + (3 + 11) + rr.locals ≤ rr.locals + _; omega⟩ ⟨Nat.le_of_ble_eq_true rfl, Nat.le_of_ble_eq_true rfl⟩ dRe_readPlain_53 (fun H locs hw hf => ?_)
      refine lv_aload_n S.1 S.2.1 dRe_readPlain_56 rfl (lv_at hl 0 rfl) ?_
      refine va_ldcS S.1 S.2.1 S.2.2.2.1 (hw.2.2.2.2.2.2.1 32 (by decide)) dRe_readPlain_57 ?_
      obtain ⟨g38, h37, hm⟩ := ob hm
      refine sw_Vv (q := 33) (rest := []) S hw (cRe_closes l N hf 32 (by decide) h37) kRe_closes wm_Re_181 (is_33 hf).1 (e_Re (is_33 hf)) rfl rfl rfl rfl hl.1 (Nat.le_of_ble_eq_true rfl) ⟨rfl, rfl, by show 5 + 1 ≤ rr.frames + _; omega, by show 8 + (2 + 11) + 142 ≤ rr.locals + _; omega⟩ ⟨Nat.le_of_ble_eq_true rfl, Nat.le_of_ble_eq_true rfl⟩ dRe_readPlain_59 (fun H locs hw hf => ?_)
      refine lv_goto (tgt := 138) S.1 S.2.1 dRe_readPlain_62 (by decide) ?_
      exact wRe_readPlain_138 S hr hlk rc rr hr0 hrc N  g38 u1 _ _ _ hm hw hf (lv_sub hl [0, 1] rfl)
set_option maxHeartbeats 4000000 in
set_option maxRecDepth 100000 in
theorem wRe_readPlain_4 {l : Launch} {p : Program} {e : Env} {s : State} {m : MethodId} {args : Array Value} {below : List Frame} {meth : Method} {c : Code} {Γ : sw_C} {A : Nat → Prop} {ξ : sw_x} {μ : sw_m} {res : sw_g} (S : CallFix p m c prog_5_method_20_code 3 s args (Cond.code yRe_readPlain prog_5_method_20_code 3 (none) :: sw_tb) R_Re) (hr : meth.sig.returnType = none) (hlk : meth.locks = false) (rc : sw_g → Option (sw_g)) (rr : Room) (hr0 : rr.cells = 0 ∧ rr.slots = 0) (hrc : ∀ {g : sw_g} {μ : sw_m} (hf : sw_wf ξ g.2.2) {res : sw_g}, rc g  = some res → Met l yRe_readTest (Cond.code yRe_readTest prog_5_method_18_code 3 (none) :: sw_tb) rr (va_Pc [.ref (ξ.2.2.2.1 33)] (sw_V Γ A ξ g μ)) (sw_Qv Γ A ξ res μ (sw_wf ξ res.2.2)) 0 0 A) (N : Nat) : ∀ (fu : Nat) (g : sw_g) (u1 : Int32) (u2 : Int32) (H : Heap) (locs : List Loc) (ls : Array Slot), fRe_readPlain_4 N rc ξ.2.2.1  fu g u1 u2 = some res → sw_S Γ A ξ g μ s H locs → sw_wf ξ g.2.2 → lv_has ls 3 [(0, .ref (ξ.2.2.2.1 33)), (1, .int u1), (2, .int u2)] → W p l e (headSpec (Cond.code yRe_readPlain prog_5_method_20_code 3 (none) :: sw_tb) (rgRe_readPlain rr)).room s m args below meth c H locs 0 0 (MQ below (sw_Qv Γ A ξ res μ (sw_wf ξ res.2.2)) args s 0 0 A) (F0 m 4 ls []) := by
  intro fu
  induction fu with
  | zero => intro g u1 u2 H locs ls hm; rw [fRe_readPlain_4.eq_1] at hm; cases hm
  | succ fu ih =>
    intro g u1 u2 H locs ls hm hw hf hl
    rw [fRe_readPlain_4.eq_2] at hm
    refine lv_iload_n S.1 S.2.1 dRe_readPlain_4 rfl (lv_at hl 2 rfl) ?_
    refine lv_sipush (v := (400 : Int32)) S.1 S.2.1 dRe_readPlain_5 (by decide) ?_
    refine bicmp_ge (tgt := 36) S.1 S.2.1 hm dRe_readPlain_8 (by decide) (fun hm => ?_) (fun hm => ?_)
    · exact wRe_readPlain_36 S hr hlk rc rr hr0 hrc N  g u1 _ _ _ hm hw hf (lv_sub hl [0, 1] rfl)
    · refine lv_aload_n S.1 S.2.1 dRe_readPlain_11 rfl (lv_at hl 0 rfl) ?_
      refine va_ldcS S.1 S.2.1 S.2.2.2.1 (hw.2.2.2.2.2.2.1 30 (by decide)) dRe_readPlain_12 ?_
      obtain ⟨⟨v41, g40⟩, h39, hm⟩ := ob hm
      refine sw_Vi (q := 33) (rest := []) S hw (cRe_accepts l N hf 30 (by decide) h39) kRe_accepts wm_Re_67 (is_33 hf).1 (e_Re (is_33 hf)) rfl rfl rfl rfl hl.1 (Nat.le_of_ble_eq_true rfl) ⟨rfl, rfl, by show 5 + 1 ≤ rr.frames + _; omega, by show 8 + (2 + 11) + 142 ≤ rr.locals + _; omega⟩ ⟨Nat.le_of_ble_eq_true rfl, Nat.le_of_ble_eq_true rfl⟩ dRe_readPlain_14 (fun H locs hw hf => ?_)
      refine bif_eq (tgt := 36) S.1 S.2.1 hm dRe_readPlain_17 (by decide) (fun hm => ?_) (fun hm => ?_)
      · exact wRe_readPlain_36 S hr hlk rc rr hr0 hrc N  g40 u1 _ _ _ hm hw hf (lv_sub hl [0, 1] rfl)
      · refine lv_iload_n S.1 S.2.1 dRe_readPlain_20 rfl (lv_at hl 1 rfl) ?_
        refine bif_ne (tgt := 28) S.1 S.2.1 hm dRe_readPlain_21 (by decide) (fun hm => ?_) (fun hm => ?_)
        · refine lv_iconst (v := (0 : Int32)) S.1 S.2.1 dRe_readPlain_28 (by decide) ?_
          refine lv_istore_n (lv' := [(1, .int (0 : Int32)), (0, .ref (ξ.2.2.2.1 33)), (2, .int u2)]) S.1 S.2.1 dRe_readPlain_29 rfl hl (by decide) rfl (fun ls hl => ?_)
          obtain ⟨x42, ex42, hm⟩ := nm_x hm
          refine lv_iinc (v := x42) (lv' := [(2, .int x42), (1, .int (0 : Int32)), (0, .ref (ξ.2.2.2.1 33))]) S.1 S.2.1 dRe_readPlain_30 hl (k := 2) rfl (by rw [ex42]; rfl) (by decide) rfl (fun ls hl => ?_)
          refine lv_goto (tgt := 4) S.1 S.2.1 dRe_readPlain_33 (by decide) ?_
          exact ih g40 (0 : Int32) x42 _ _ _ hm hw hf (lv_sub hl [2, 1, 0] rfl)
        · refine lv_iconst (v := (1 : Int32)) S.1 S.2.1 dRe_readPlain_24 (by decide) ?_
          refine lv_goto (tgt := 29) S.1 S.2.1 dRe_readPlain_25 (by decide) ?_
          refine lv_istore_n (lv' := [(1, .int (1 : Int32)), (0, .ref (ξ.2.2.2.1 33)), (2, .int u2)]) S.1 S.2.1 dRe_readPlain_29 rfl hl (by decide) rfl (fun ls hl => ?_)
          obtain ⟨x43, ex43, hm⟩ := nm_x hm
          refine lv_iinc (v := x43) (lv' := [(2, .int x43), (1, .int (1 : Int32)), (0, .ref (ξ.2.2.2.1 33))]) S.1 S.2.1 dRe_readPlain_30 hl (k := 2) rfl (by rw [ex43]; rfl) (by decide) rfl (fun ls hl => ?_)
          refine lv_goto (tgt := 4) S.1 S.2.1 dRe_readPlain_33 (by decide) ?_
          exact ih g40 (1 : Int32) x43 _ _ _ hm hw hf (lv_sub hl [2, 1, 0] rfl)
set_option maxHeartbeats 4000000 in
set_option maxRecDepth 100000 in
theorem cRe_readPlain (l : Launch) (N : Nat) {Γ : sw_C} {A : Nat → Prop} {ξ : sw_x} (rc : sw_g → Option (sw_g)) (rr : Room) (hr0 : rr.cells = 0 ∧ rr.slots = 0) (hrc : ∀ {g : sw_g} {μ : sw_m} (hf : sw_wf ξ g.2.2) {res : sw_g}, rc g  = some res → Met l yRe_readTest (Cond.code yRe_readTest prog_5_method_18_code 3 (none) :: sw_tb) rr (va_Pc [.ref (ξ.2.2.2.1 33)] (sw_V Γ A ξ g μ)) (sw_Qv Γ A ξ res μ (sw_wf ξ res.2.2)) 0 0 A) {g : sw_g} {μ : sw_m} (hf : sw_wf ξ g.2.2) {res : sw_g} (hm : fRe_readPlain N rc ξ.2.2.1 g = some res) : Met l yRe_readPlain (Cond.code yRe_readPlain prog_5_method_20_code 3 (none) :: sw_tb) (rgRe_readPlain rr) (va_Pc [.ref (ξ.2.2.2.1 33)] (sw_V Γ A ξ g μ)) (sw_Qv Γ A ξ res μ (sw_wf ξ res.2.2)) 0 0 A := by
  refine Met.ofW (cc := prog_5_method_20_code) (maxL := 3) (ret := none) (by decide) rfl ?_
  intro p e s m args below meth c s₁ B hml hv
  obtain ⟨rfl, hv⟩ := hv
  have S : CallFix p m c prog_5_method_20_code 3 s _ (Cond.code yRe_readPlain prog_5_method_20_code 3 (none) :: sw_tb) R_Re := ⟨B.exec, B.bytes, hml, findClass_of_methodNamed B.named, atoms_spec (ws := (Cond.code yRe_readPlain prog_5_method_20_code 3 (none) :: sw_tb)) B.pre⟩
  have hr := B.returns
  have hlk := B.notSynchronized
  have hw := sw_begin hv
  have hl := lv_entry [.ref (ξ.2.2.2.1 33)] (n := 3) (Nat.le_of_ble_eq_true rfl)
  rw [lg_entry_eq]
  generalize (lg_sl [.ref (ξ.2.2.2.1 33)] ++ List.replicate (3 - (lg_sl [.ref (ξ.2.2.2.1 33)]).length) Slot.unset).toArray = ls at hl ⊢
  have hl : lv_has ls 3 [(0, .ref (ξ.2.2.2.1 33))] := hl
  unfold fRe_readPlain at hm
  refine lv_iconst (v := (0 : Int32)) S.1 S.2.1 dRe_readPlain_0 (by decide) ?_
  refine lv_istore_n (lv' := [(1, .int (0 : Int32)), (0, .ref (ξ.2.2.2.1 33))]) S.1 S.2.1 dRe_readPlain_1 rfl hl (by decide) rfl (fun ls hl => ?_)
  refine lv_iconst (v := (0 : Int32)) S.1 S.2.1 dRe_readPlain_2 (by decide) ?_
  refine lv_istore_n (lv' := [(2, .int (0 : Int32)), (1, .int (0 : Int32)), (0, .ref (ξ.2.2.2.1 33))]) S.1 S.2.1 dRe_readPlain_3 rfl hl (by decide) rfl (fun ls hl => ?_)
  exact wRe_readPlain_4 S hr hlk rc rr hr0 hrc N  N g (0 : Int32) (0 : Int32) _ _ _ hm hw hf (lv_sub hl [2, 1, 0] rfl)
set_option maxHeartbeats 4000000 in
set_option maxRecDepth 100000 in
theorem cRe_readRule (l : Launch) (N : Nat) {Γ : sw_C} {A : Nat → Prop} {ξ : sw_x} {g : sw_g} {μ : sw_m} (hf : sw_wf ξ g.2.2) (a1 : Int32) {res : sw_g} (hm : fRe_readRule N ξ.2.2.1 g a1 = some res) : Met l yRe_readRule (Cond.code yRe_readRule prog_5_method_14_code 2 (none) :: sw_tb) rmRe_readRule (va_Pc [.ref (ξ.2.2.2.1 33), .int a1] (sw_V Γ A ξ g μ)) (sw_Qv Γ A ξ res μ (sw_wf ξ res.2.2)) 0 0 A := by
  refine Met.ofW (cc := prog_5_method_14_code) (maxL := 2) (ret := none) (by decide) rfl ?_
  intro p e s m args below meth c s₁ B hml hv
  obtain ⟨rfl, hv⟩ := hv
  have S : CallFix p m c prog_5_method_14_code 2 s _ (Cond.code yRe_readRule prog_5_method_14_code 2 (none) :: sw_tb) R_Re := ⟨B.exec, B.bytes, hml, findClass_of_methodNamed B.named, atoms_spec (ws := (Cond.code yRe_readRule prog_5_method_14_code 2 (none) :: sw_tb)) B.pre⟩
  have hr := B.returns
  have hlk := B.notSynchronized
  have hw := sw_begin hv
  have hl := lv_entry [.ref (ξ.2.2.2.1 33), .int a1] (n := 2) (Nat.le_of_ble_eq_true rfl)
  rw [lg_entry_eq]
  generalize (lg_sl [.ref (ξ.2.2.2.1 33), .int a1] ++ List.replicate (2 - (lg_sl [.ref (ξ.2.2.2.1 33), .int a1]).length) Slot.unset).toArray = ls at hl ⊢
  have hl : lv_has ls 2 [(0, .ref (ξ.2.2.2.1 33)), (1, .int a1)] := hl
  unfold fRe_readRule at hm
  refine lv_aload_n S.1 S.2.1 dRe_readRule_0 rfl (lv_at hl 0 rfl) ?_
  refine va_ldcS S.1 S.2.1 S.2.2.2.1 (hw.2.2.2.2.2.2.1 0 (by decide)) dRe_readRule_1 ?_
  obtain ⟨⟨v3, g2⟩, h1, hm⟩ := ob hm
  refine sw_Vi (q := 33) (rest := []) S hw (cRe_accepts l N hf 0 (by decide) h1) kRe_accepts wm_Re_67 (is_33 hf).1 (e_Re (is_33 hf)) rfl rfl rfl rfl hl.1 (Nat.le_of_ble_eq_true rfl) ⟨rfl, rfl, Nat.le_of_ble_eq_true rfl, Nat.le_of_ble_eq_true rfl⟩ ⟨Nat.le_of_ble_eq_true rfl, Nat.le_of_ble_eq_true rfl⟩ dRe_readRule_3 (fun H locs hw hf => ?_)
  refine bif_eq (tgt := 35) S.1 S.2.1 hm dRe_readRule_6 (by decide) (fun hm => ?_) (fun hm => ?_)
  · refine lv_aload_n S.1 S.2.1 dRe_readRule_35 rfl (lv_at hl 0 rfl) ?_
    refine va_ldcS S.1 S.2.1 S.2.2.2.1 (hw.2.2.2.2.2.2.1 21 (by decide)) dRe_readRule_36 ?_
    obtain ⟨⟨v6, g5⟩, h4, hm⟩ := ob hm
    refine sw_Vi (q := 33) (rest := []) S hw (cRe_accepts l N hf 21 (by decide) h4) kRe_accepts wm_Re_67 (is_33 hf).1 (e_Re (is_33 hf)) rfl rfl rfl rfl hl.1 (Nat.le_of_ble_eq_true rfl) ⟨rfl, rfl, Nat.le_of_ble_eq_true rfl, Nat.le_of_ble_eq_true rfl⟩ ⟨Nat.le_of_ble_eq_true rfl, Nat.le_of_ble_eq_true rfl⟩ dRe_readRule_38 (fun H locs hw hf => ?_)
    refine bif_eq (tgt := 70) S.1 S.2.1 hm dRe_readRule_41 (by decide) (fun hm => ?_) (fun hm => ?_)
    · refine lv_aload_n S.1 S.2.1 dRe_readRule_70 rfl (lv_at hl 0 rfl) ?_
      refine va_ldcS S.1 S.2.1 S.2.2.2.1 (hw.2.2.2.2.2.2.1 22 (by decide)) dRe_readRule_71 ?_
      obtain ⟨g8, h7, hm⟩ := ob hm
      refine sw_Vv (q := 33) (rest := []) S hw (cRe_expect l N hf 22 (by decide) h7) kRe_expect wm_Re_120 (is_33 hf).1 (e_Re (is_33 hf)) rfl rfl rfl rfl hl.1 (Nat.le_of_ble_eq_true rfl) ⟨rfl, rfl, Nat.le_of_ble_eq_true rfl, Nat.le_of_ble_eq_true rfl⟩ ⟨Nat.le_of_ble_eq_true rfl, Nat.le_of_ble_eq_true rfl⟩ dRe_readRule_73 (fun H locs hw hf => ?_)
      refine lv_aload_n S.1 S.2.1 dRe_readRule_76 rfl (lv_at hl 0 rfl) ?_
      refine get_Re (v := .ref (ξ.2.2.2.1 35)) S hw (is_33 hf) 3 (by decide) rfl wf_Re_20 dRe_readRule_77 ?_
      refine get_Te (v := .ref (ξ.2.2.2.1 36)) S hw (is_35 hf) 1 (by decide) rfl wf_Re_107 dRe_readRule_80 ?_
      refine lv_iload_n S.1 S.2.1 dRe_readRule_83 rfl (lv_at hl 1 rfl) ?_
      refine lv_iconst (v := (2 : Int32)) S.1 S.2.1 dRe_readRule_84 (by decide) ?_
      refine sx_iast S hw hf (is_36 hf) hm dRe_readRule_85 (fun g9 H locs hf hm hw => ?_)
      obtain rfl := Option.some.inj hm
      exact sw_vret S hr hlk hw hf dRe_readRule_86
    · refine lv_aload_n S.1 S.2.1 dRe_readRule_44 rfl (lv_at hl 0 rfl) ?_
      refine get_Re (v := .ref (ξ.2.2.2.1 35)) S hw (is_33 hf) 3 (by decide) rfl wf_Re_20 dRe_readRule_45 ?_
      refine get_Te (v := .ref (ξ.2.2.2.1 36)) S hw (is_35 hf) 1 (by decide) rfl wf_Re_107 dRe_readRule_48 ?_
      refine lv_iload_n S.1 S.2.1 dRe_readRule_51 rfl (lv_at hl 1 rfl) ?_
      refine lv_iconst (v := (1 : Int32)) S.1 S.2.1 dRe_readRule_52 (by decide) ?_
      refine sx_iast S hw hf (is_36 hf) hm dRe_readRule_53 (fun g10 H locs hf hm hw => ?_)
      refine lv_aload_n S.1 S.2.1 dRe_readRule_54 rfl (lv_at hl 0 rfl) ?_
      refine get_Re (v := .ref (ξ.2.2.2.1 35)) S hw (is_33 hf) 3 (by decide) rfl wf_Re_20 dRe_readRule_55 ?_
      refine get_Te (v := .ref (ξ.2.2.2.1 37)) S hw (is_35 hf) 2 (by decide) rfl wf_Re_110 dRe_readRule_58 ?_
      refine lv_iload_n S.1 S.2.1 dRe_readRule_61 rfl (lv_at hl 1 rfl) ?_
      refine lv_aload_n S.1 S.2.1 dRe_readRule_62 rfl (lv_at hl 0 rfl) ?_
      obtain ⟨⟨v13, g12⟩, h11, hm⟩ := ob hm
      refine sw_Vi (q := 33) (rest := [.int a1, .ref (ξ.2.2.2.1 37)]) S hw (cRe_placeOfSum l N hf  h11) kRe_placeOfSum wm_Re_113 (is_33 hf).1 (e_Re (is_33 hf)) rfl rfl rfl rfl hl.1 (Nat.le_of_ble_eq_true rfl) ⟨rfl, rfl, Nat.le_of_ble_eq_true rfl, Nat.le_of_ble_eq_true rfl⟩ ⟨Nat.le_of_ble_eq_true rfl, Nat.le_of_ble_eq_true rfl⟩ dRe_readRule_63 (fun H locs hw hf => ?_)
      refine sx_iast S hw hf (is_37 hf) hm dRe_readRule_66 (fun g14 H locs hf hm hw => ?_)
      refine lv_goto (tgt := 86) S.1 S.2.1 dRe_readRule_67 (by decide) ?_
      obtain rfl := Option.some.inj hm
      exact sw_vret S hr hlk hw hf dRe_readRule_86
  · refine lv_aload_n S.1 S.2.1 dRe_readRule_9 rfl (lv_at hl 0 rfl) ?_
    refine get_Re (v := .ref (ξ.2.2.2.1 35)) S hw (is_33 hf) 3 (by decide) rfl wf_Re_20 dRe_readRule_10 ?_
    refine get_Te (v := .ref (ξ.2.2.2.1 36)) S hw (is_35 hf) 1 (by decide) rfl wf_Re_107 dRe_readRule_13 ?_
    refine lv_iload_n S.1 S.2.1 dRe_readRule_16 rfl (lv_at hl 1 rfl) ?_
    refine lv_iconst (v := (0 : Int32)) S.1 S.2.1 dRe_readRule_17 (by decide) ?_
    refine sx_iast S hw hf (is_36 hf) hm dRe_readRule_18 (fun g15 H locs hf hm hw => ?_)
    refine lv_aload_n S.1 S.2.1 dRe_readRule_19 rfl (lv_at hl 0 rfl) ?_
    refine get_Re (v := .ref (ξ.2.2.2.1 35)) S hw (is_33 hf) 3 (by decide) rfl wf_Re_20 dRe_readRule_20 ?_
    refine get_Te (v := .ref (ξ.2.2.2.1 37)) S hw (is_35 hf) 2 (by decide) rfl wf_Re_110 dRe_readRule_23 ?_
    refine lv_iload_n S.1 S.2.1 dRe_readRule_26 rfl (lv_at hl 1 rfl) ?_
    refine lv_aload_n S.1 S.2.1 dRe_readRule_27 rfl (lv_at hl 0 rfl) ?_
    obtain ⟨⟨v18, g17⟩, h16, hm⟩ := ob hm
    refine sw_Vi (q := 33) (rest := [.int a1, .ref (ξ.2.2.2.1 37)]) S hw (cRe_placeOfSum l N hf  h16) kRe_placeOfSum wm_Re_113 (is_33 hf).1 (e_Re (is_33 hf)) rfl rfl rfl rfl hl.1 (Nat.le_of_ble_eq_true rfl) ⟨rfl, rfl, Nat.le_of_ble_eq_true rfl, Nat.le_of_ble_eq_true rfl⟩ ⟨Nat.le_of_ble_eq_true rfl, Nat.le_of_ble_eq_true rfl⟩ dRe_readRule_28 (fun H locs hw hf => ?_)
    refine sx_iast S hw hf (is_37 hf) hm dRe_readRule_31 (fun g19 H locs hf hm hw => ?_)
    refine lv_goto (tgt := 86) S.1 S.2.1 dRe_readRule_32 (by decide) ?_
    obtain rfl := Option.some.inj hm
    exact sw_vret S hr hlk hw hf dRe_readRule_86
set_option maxHeartbeats 4000000 in
set_option maxRecDepth 100000 in
theorem wRe_readOrder_159 {l : Launch} {p : Program} {e : Env} {s : State} {m : MethodId} {args : Array Value} {below : List Frame} {meth : Method} {c : Code} {Γ : sw_C} {A : Nat → Prop} {ξ : sw_x} {μ : sw_m} {res : sw_g} (S : CallFix p m c prog_5_method_15_code 2 s args (Cond.code yRe_readOrder prog_5_method_15_code 2 (none) :: sw_tb) R_Re) (hr : meth.sig.returnType = none) (hlk : meth.locks = false) (N : Nat) : ∀ (g : sw_g) (u1 : Int32) (H : Heap) (locs : List Loc) (ls : Array Slot), fRe_readOrder_159 N ξ.2.2.1  g u1 = some res → sw_S Γ A ξ g μ s H locs → sw_wf ξ g.2.2 → lv_has ls 2 [(0, .ref (ξ.2.2.2.1 33)), (1, .int u1)] → W p l e (headSpec (Cond.code yRe_readOrder prog_5_method_15_code 2 (none) :: sw_tb) rmRe_readOrder).room s m args below meth c H locs 0 0 (MQ below (sw_Qv Γ A ξ res μ (sw_wf ξ res.2.2)) args s 0 0 A) (F0 m 159 ls []) := by
  intro g u1 H locs ls hm hw hf hl
  unfold fRe_readOrder_159 at hm
  refine lv_aload_n S.1 S.2.1 dRe_readOrder_159 rfl (lv_at hl 0 rfl) ?_
  refine va_ldcS S.1 S.2.1 S.2.2.2.1 (hw.2.2.2.2.2.2.1 28 (by decide)) dRe_readOrder_160 ?_
  obtain ⟨⟨v15, g14⟩, h13, hm⟩ := ob hm
  refine sw_Vi (q := 33) (rest := []) S hw (cRe_accepts l N hf 28 (by decide) h13) kRe_accepts wm_Re_67 (is_33 hf).1 (e_Re (is_33 hf)) rfl rfl rfl rfl hl.1 (Nat.le_of_ble_eq_true rfl) ⟨rfl, rfl, Nat.le_of_ble_eq_true rfl, Nat.le_of_ble_eq_true rfl⟩ ⟨Nat.le_of_ble_eq_true rfl, Nat.le_of_ble_eq_true rfl⟩ dRe_readOrder_162 (fun H locs hw hf => ?_)
  refine bif_eq (tgt := 184) S.1 S.2.1 hm dRe_readOrder_165 (by decide) (fun hm => ?_) (fun hm => ?_)
  · obtain rfl := Option.some.inj hm
    exact sw_vret S hr hlk hw hf dRe_readOrder_184
  · refine lv_aload_n S.1 S.2.1 dRe_readOrder_168 rfl (lv_at hl 0 rfl) ?_
    refine get_Re (v := .ref (ξ.2.2.2.1 35)) S hw (is_33 hf) 3 (by decide) rfl wf_Re_20 dRe_readOrder_169 ?_
    refine get_Te (v := .ref (ξ.2.2.2.1 39)) S hw (is_35 hf) 4 (by decide) rfl wf_Re_53 dRe_readOrder_172 ?_
    refine lv_iload_n S.1 S.2.1 dRe_readOrder_175 rfl (lv_at hl 1 rfl) ?_
    refine lv_aload_n S.1 S.2.1 dRe_readOrder_176 rfl (lv_at hl 0 rfl) ?_
    refine lv_iconst (v := (1 : Int32)) S.1 S.2.1 dRe_readOrder_177 (by decide) ?_
    refine lv_bipush (v := (20 : Int32)) S.1 S.2.1 dRe_readOrder_178 (by decide) ?_
    obtain ⟨⟨v18, g17⟩, h16, hm⟩ := ob hm
    refine sw_Vi (q := 33) (rest := [.int u1, .ref (ξ.2.2.2.1 39)]) S hw (cRe_expectNumber l N hf (1 : Int32) (20 : Int32) h16) kRe_expectNumber wm_Re_140 (is_33 hf).1 (e_Re (is_33 hf)) rfl rfl rfl rfl hl.1 (Nat.le_of_ble_eq_true rfl) ⟨rfl, rfl, Nat.le_of_ble_eq_true rfl, Nat.le_of_ble_eq_true rfl⟩ ⟨Nat.le_of_ble_eq_true rfl, Nat.le_of_ble_eq_true rfl⟩ dRe_readOrder_180 (fun H locs hw hf => ?_)
    refine sx_iast S hw hf (is_39 hf) hm dRe_readOrder_183 (fun g19 H locs hf hm hw => ?_)
    obtain rfl := Option.some.inj hm
    exact sw_vret S hr hlk hw hf dRe_readOrder_184
set_option maxHeartbeats 4000000 in
set_option maxRecDepth 100000 in
theorem cRe_readOrder (l : Launch) (N : Nat) {Γ : sw_C} {A : Nat → Prop} {ξ : sw_x} {g : sw_g} {μ : sw_m} (hf : sw_wf ξ g.2.2) (a1 : Int32) {res : sw_g} (hm : fRe_readOrder N ξ.2.2.1 g a1 = some res) : Met l yRe_readOrder (Cond.code yRe_readOrder prog_5_method_15_code 2 (none) :: sw_tb) rmRe_readOrder (va_Pc [.ref (ξ.2.2.2.1 33), .int a1] (sw_V Γ A ξ g μ)) (sw_Qv Γ A ξ res μ (sw_wf ξ res.2.2)) 0 0 A := by
  refine Met.ofW (cc := prog_5_method_15_code) (maxL := 2) (ret := none) (by decide) rfl ?_
  intro p e s m args below meth c s₁ B hml hv
  obtain ⟨rfl, hv⟩ := hv
  have S : CallFix p m c prog_5_method_15_code 2 s _ (Cond.code yRe_readOrder prog_5_method_15_code 2 (none) :: sw_tb) R_Re := ⟨B.exec, B.bytes, hml, findClass_of_methodNamed B.named, atoms_spec (ws := (Cond.code yRe_readOrder prog_5_method_15_code 2 (none) :: sw_tb)) B.pre⟩
  have hr := B.returns
  have hlk := B.notSynchronized
  have hw := sw_begin hv
  have hl := lv_entry [.ref (ξ.2.2.2.1 33), .int a1] (n := 2) (Nat.le_of_ble_eq_true rfl)
  rw [lg_entry_eq]
  generalize (lg_sl [.ref (ξ.2.2.2.1 33), .int a1] ++ List.replicate (2 - (lg_sl [.ref (ξ.2.2.2.1 33), .int a1]).length) Slot.unset).toArray = ls at hl ⊢
  have hl : lv_has ls 2 [(0, .ref (ξ.2.2.2.1 33)), (1, .int a1)] := hl
  unfold fRe_readOrder at hm
  refine lv_aload_n S.1 S.2.1 dRe_readOrder_0 rfl (lv_at hl 0 rfl) ?_
  refine va_ldcS S.1 S.2.1 S.2.2.2.1 (hw.2.2.2.2.2.2.1 23 (by decide)) dRe_readOrder_1 ?_
  obtain ⟨⟨v3, g2⟩, h1, hm⟩ := ob hm
  refine sw_Vi (q := 33) (rest := []) S hw (cRe_accepts l N hf 23 (by decide) h1) kRe_accepts wm_Re_67 (is_33 hf).1 (e_Re (is_33 hf)) rfl rfl rfl rfl hl.1 (Nat.le_of_ble_eq_true rfl) ⟨rfl, rfl, Nat.le_of_ble_eq_true rfl, Nat.le_of_ble_eq_true rfl⟩ ⟨Nat.le_of_ble_eq_true rfl, Nat.le_of_ble_eq_true rfl⟩ dRe_readOrder_3 (fun H locs hw hf => ?_)
  refine bif_eq (tgt := 54) S.1 S.2.1 hm dRe_readOrder_6 (by decide) (fun hm => ?_) (fun hm => ?_)
  · refine lv_aload_n S.1 S.2.1 dRe_readOrder_54 rfl (lv_at hl 0 rfl) ?_
    refine va_ldcS S.1 S.2.1 S.2.2.2.1 (hw.2.2.2.2.2.2.1 24 (by decide)) dRe_readOrder_55 ?_
    obtain ⟨⟨v6, g5⟩, h4, hm⟩ := ob hm
    refine sw_Vi (q := 33) (rest := []) S hw (cRe_accepts l N hf 24 (by decide) h4) kRe_accepts wm_Re_67 (is_33 hf).1 (e_Re (is_33 hf)) rfl rfl rfl rfl hl.1 (Nat.le_of_ble_eq_true rfl) ⟨rfl, rfl, Nat.le_of_ble_eq_true rfl, Nat.le_of_ble_eq_true rfl⟩ ⟨Nat.le_of_ble_eq_true rfl, Nat.le_of_ble_eq_true rfl⟩ dRe_readOrder_57 (fun H locs hw hf => ?_)
    refine bif_eq (tgt := 89) S.1 S.2.1 hm dRe_readOrder_60 (by decide) (fun hm => ?_) (fun hm => ?_)
    · refine lv_aload_n S.1 S.2.1 dRe_readOrder_89 rfl (lv_at hl 0 rfl) ?_
      refine va_ldcS S.1 S.2.1 S.2.2.2.1 (hw.2.2.2.2.2.2.1 25 (by decide)) dRe_readOrder_90 ?_
      obtain ⟨⟨v9, g8⟩, h7, hm⟩ := ob hm
      refine sw_Vi (q := 33) (rest := []) S hw (cRe_accepts l N hf 25 (by decide) h7) kRe_accepts wm_Re_67 (is_33 hf).1 (e_Re (is_33 hf)) rfl rfl rfl rfl hl.1 (Nat.le_of_ble_eq_true rfl) ⟨rfl, rfl, Nat.le_of_ble_eq_true rfl, Nat.le_of_ble_eq_true rfl⟩ ⟨Nat.le_of_ble_eq_true rfl, Nat.le_of_ble_eq_true rfl⟩ dRe_readOrder_92 (fun H locs hw hf => ?_)
      refine bif_eq (tgt := 143) S.1 S.2.1 hm dRe_readOrder_95 (by decide) (fun hm => ?_) (fun hm => ?_)
      · refine lv_aload_n S.1 S.2.1 dRe_readOrder_143 rfl (lv_at hl 0 rfl) ?_
        refine va_ldcS S.1 S.2.1 S.2.2.2.1 (hw.2.2.2.2.2.2.1 27 (by decide)) dRe_readOrder_144 ?_
        obtain ⟨g11, h10, hm⟩ := ob hm
        refine sw_Vv (q := 33) (rest := []) S hw (cRe_expect l N hf 27 (by decide) h10) kRe_expect wm_Re_120 (is_33 hf).1 (e_Re (is_33 hf)) rfl rfl rfl rfl hl.1 (Nat.le_of_ble_eq_true rfl) ⟨rfl, rfl, Nat.le_of_ble_eq_true rfl, Nat.le_of_ble_eq_true rfl⟩ ⟨Nat.le_of_ble_eq_true rfl, Nat.le_of_ble_eq_true rfl⟩ dRe_readOrder_146 (fun H locs hw hf => ?_)
        refine lv_aload_n S.1 S.2.1 dRe_readOrder_149 rfl (lv_at hl 0 rfl) ?_
        refine get_Re (v := .ref (ξ.2.2.2.1 35)) S hw (is_33 hf) 3 (by decide) rfl wf_Re_20 dRe_readOrder_150 ?_
        refine get_Te (v := .ref (ξ.2.2.2.1 36)) S hw (is_35 hf) 1 (by decide) rfl wf_Re_107 dRe_readOrder_153 ?_
        refine lv_iload_n S.1 S.2.1 dRe_readOrder_156 rfl (lv_at hl 1 rfl) ?_
        refine lv_iconst (v := (3 : Int32)) S.1 S.2.1 dRe_readOrder_157 (by decide) ?_
        refine sx_iast S hw hf (is_36 hf) hm dRe_readOrder_158 (fun g12 H locs hf hm hw => ?_)
        exact wRe_readOrder_159 S hr hlk N  g12 a1 _ _ _ hm hw hf (lv_sub hl [0, 1] rfl)
      · refine lv_aload_n S.1 S.2.1 dRe_readOrder_98 rfl (lv_at hl 0 rfl) ?_
        refine get_Re (v := .ref (ξ.2.2.2.1 35)) S hw (is_33 hf) 3 (by decide) rfl wf_Re_20 dRe_readOrder_99 ?_
        refine get_Te (v := .ref (ξ.2.2.2.1 36)) S hw (is_35 hf) 1 (by decide) rfl wf_Re_107 dRe_readOrder_102 ?_
        refine lv_iload_n S.1 S.2.1 dRe_readOrder_105 rfl (lv_at hl 1 rfl) ?_
        refine lv_iconst (v := (2 : Int32)) S.1 S.2.1 dRe_readOrder_106 (by decide) ?_
        refine sx_iast S hw hf (is_36 hf) hm dRe_readOrder_107 (fun g20 H locs hf hm hw => ?_)
        refine lv_aload_n S.1 S.2.1 dRe_readOrder_108 rfl (lv_at hl 0 rfl) ?_
        refine get_Re (v := .ref (ξ.2.2.2.1 35)) S hw (is_33 hf) 3 (by decide) rfl wf_Re_20 dRe_readOrder_109 ?_
        refine get_Te (v := .ref (ξ.2.2.2.1 37)) S hw (is_35 hf) 2 (by decide) rfl wf_Re_110 dRe_readOrder_112 ?_
        refine lv_iload_n S.1 S.2.1 dRe_readOrder_115 rfl (lv_at hl 1 rfl) ?_
        refine lv_aload_n S.1 S.2.1 dRe_readOrder_116 rfl (lv_at hl 0 rfl) ?_
        obtain ⟨⟨v23, g22⟩, h21, hm⟩ := ob hm
        refine sw_Vi (q := 33) (rest := [.int a1, .ref (ξ.2.2.2.1 37)]) S hw (cRe_placeOfSum l N hf  h21) kRe_placeOfSum wm_Re_113 (is_33 hf).1 (e_Re (is_33 hf)) rfl rfl rfl rfl hl.1 (Nat.le_of_ble_eq_true rfl) ⟨rfl, rfl, Nat.le_of_ble_eq_true rfl, Nat.le_of_ble_eq_true rfl⟩ ⟨Nat.le_of_ble_eq_true rfl, Nat.le_of_ble_eq_true rfl⟩ dRe_readOrder_117 (fun H locs hw hf => ?_)
        refine sx_iast S hw hf (is_37 hf) hm dRe_readOrder_120 (fun g24 H locs hf hm hw => ?_)
        refine lv_aload_n S.1 S.2.1 dRe_readOrder_121 rfl (lv_at hl 0 rfl) ?_
        refine va_ldcS S.1 S.2.1 S.2.2.2.1 (hw.2.2.2.2.2.2.1 26 (by decide)) dRe_readOrder_122 ?_
        obtain ⟨g26, h25, hm⟩ := ob hm
        refine sw_Vv (q := 33) (rest := []) S hw (cRe_expect l N hf 26 (by decide) h25) kRe_expect wm_Re_120 (is_33 hf).1 (e_Re (is_33 hf)) rfl rfl rfl rfl hl.1 (Nat.le_of_ble_eq_true rfl) ⟨rfl, rfl, Nat.le_of_ble_eq_true rfl, Nat.le_of_ble_eq_true rfl⟩ ⟨Nat.le_of_ble_eq_true rfl, Nat.le_of_ble_eq_true rfl⟩ dRe_readOrder_124 (fun H locs hw hf => ?_)
        refine lv_aload_n S.1 S.2.1 dRe_readOrder_127 rfl (lv_at hl 0 rfl) ?_
        refine get_Re (v := .ref (ξ.2.2.2.1 35)) S hw (is_33 hf) 3 (by decide) rfl wf_Re_20 dRe_readOrder_128 ?_
        refine get_Te (v := .ref (ξ.2.2.2.1 38)) S hw (is_35 hf) 3 (by decide) rfl wf_Re_128 dRe_readOrder_131 ?_
        refine lv_iload_n S.1 S.2.1 dRe_readOrder_134 rfl (lv_at hl 1 rfl) ?_
        refine lv_aload_n S.1 S.2.1 dRe_readOrder_135 rfl (lv_at hl 0 rfl) ?_
        obtain ⟨⟨v29, g28⟩, h27, hm⟩ := ob hm
        refine sw_Vi (q := 33) (rest := [.int a1, .ref (ξ.2.2.2.1 38)]) S hw (cRe_placeOfSum l N hf  h27) kRe_placeOfSum wm_Re_113 (is_33 hf).1 (e_Re (is_33 hf)) rfl rfl rfl rfl hl.1 (Nat.le_of_ble_eq_true rfl) ⟨rfl, rfl, Nat.le_of_ble_eq_true rfl, Nat.le_of_ble_eq_true rfl⟩ ⟨Nat.le_of_ble_eq_true rfl, Nat.le_of_ble_eq_true rfl⟩ dRe_readOrder_136 (fun H locs hw hf => ?_)
        refine sx_iast S hw hf (is_38 hf) hm dRe_readOrder_139 (fun g30 H locs hf hm hw => ?_)
        refine lv_goto (tgt := 159) S.1 S.2.1 dRe_readOrder_140 (by decide) ?_
        exact wRe_readOrder_159 S hr hlk N  g30 a1 _ _ _ hm hw hf (lv_sub hl [0, 1] rfl)
    · refine lv_aload_n S.1 S.2.1 dRe_readOrder_63 rfl (lv_at hl 0 rfl) ?_
      refine get_Re (v := .ref (ξ.2.2.2.1 35)) S hw (is_33 hf) 3 (by decide) rfl wf_Re_20 dRe_readOrder_64 ?_
      refine get_Te (v := .ref (ξ.2.2.2.1 36)) S hw (is_35 hf) 1 (by decide) rfl wf_Re_107 dRe_readOrder_67 ?_
      refine lv_iload_n S.1 S.2.1 dRe_readOrder_70 rfl (lv_at hl 1 rfl) ?_
      refine lv_iconst (v := (1 : Int32)) S.1 S.2.1 dRe_readOrder_71 (by decide) ?_
      refine sx_iast S hw hf (is_36 hf) hm dRe_readOrder_72 (fun g31 H locs hf hm hw => ?_)
      refine lv_aload_n S.1 S.2.1 dRe_readOrder_73 rfl (lv_at hl 0 rfl) ?_
      refine get_Re (v := .ref (ξ.2.2.2.1 35)) S hw (is_33 hf) 3 (by decide) rfl wf_Re_20 dRe_readOrder_74 ?_
      refine get_Te (v := .ref (ξ.2.2.2.1 37)) S hw (is_35 hf) 2 (by decide) rfl wf_Re_110 dRe_readOrder_77 ?_
      refine lv_iload_n S.1 S.2.1 dRe_readOrder_80 rfl (lv_at hl 1 rfl) ?_
      refine lv_aload_n S.1 S.2.1 dRe_readOrder_81 rfl (lv_at hl 0 rfl) ?_
      obtain ⟨⟨v34, g33⟩, h32, hm⟩ := ob hm
      refine sw_Vi (q := 33) (rest := [.int a1, .ref (ξ.2.2.2.1 37)]) S hw (cRe_placeOfSum l N hf  h32) kRe_placeOfSum wm_Re_113 (is_33 hf).1 (e_Re (is_33 hf)) rfl rfl rfl rfl hl.1 (Nat.le_of_ble_eq_true rfl) ⟨rfl, rfl, Nat.le_of_ble_eq_true rfl, Nat.le_of_ble_eq_true rfl⟩ ⟨Nat.le_of_ble_eq_true rfl, Nat.le_of_ble_eq_true rfl⟩ dRe_readOrder_82 (fun H locs hw hf => ?_)
      refine sx_iast S hw hf (is_37 hf) hm dRe_readOrder_85 (fun g35 H locs hf hm hw => ?_)
      refine lv_goto (tgt := 159) S.1 S.2.1 dRe_readOrder_86 (by decide) ?_
      exact wRe_readOrder_159 S hr hlk N  g35 a1 _ _ _ hm hw hf (lv_sub hl [0, 1] rfl)
  · refine lv_aload_n S.1 S.2.1 dRe_readOrder_9 rfl (lv_at hl 0 rfl) ?_
    refine get_Re (v := .ref (ξ.2.2.2.1 35)) S hw (is_33 hf) 3 (by decide) rfl wf_Re_20 dRe_readOrder_10 ?_
    refine get_Te (v := .ref (ξ.2.2.2.1 36)) S hw (is_35 hf) 1 (by decide) rfl wf_Re_107 dRe_readOrder_13 ?_
    refine lv_iload_n S.1 S.2.1 dRe_readOrder_16 rfl (lv_at hl 1 rfl) ?_
    refine lv_iconst (v := (0 : Int32)) S.1 S.2.1 dRe_readOrder_17 (by decide) ?_
    refine sx_iast S hw hf (is_36 hf) hm dRe_readOrder_18 (fun g36 H locs hf hm hw => ?_)
    refine lv_aload_n S.1 S.2.1 dRe_readOrder_19 rfl (lv_at hl 0 rfl) ?_
    refine get_Re (v := .ref (ξ.2.2.2.1 35)) S hw (is_33 hf) 3 (by decide) rfl wf_Re_20 dRe_readOrder_20 ?_
    refine get_Te (v := .ref (ξ.2.2.2.1 37)) S hw (is_35 hf) 2 (by decide) rfl wf_Re_110 dRe_readOrder_23 ?_
    refine lv_iload_n S.1 S.2.1 dRe_readOrder_26 rfl (lv_at hl 1 rfl) ?_
    refine lv_aload_n S.1 S.2.1 dRe_readOrder_27 rfl (lv_at hl 0 rfl) ?_
    obtain ⟨⟨v39, g38⟩, h37, hm⟩ := ob hm
    refine sw_Vi (q := 33) (rest := [.int a1, .ref (ξ.2.2.2.1 37)]) S hw (cRe_placeOfSum l N hf  h37) kRe_placeOfSum wm_Re_113 (is_33 hf).1 (e_Re (is_33 hf)) rfl rfl rfl rfl hl.1 (Nat.le_of_ble_eq_true rfl) ⟨rfl, rfl, Nat.le_of_ble_eq_true rfl, Nat.le_of_ble_eq_true rfl⟩ ⟨Nat.le_of_ble_eq_true rfl, Nat.le_of_ble_eq_true rfl⟩ dRe_readOrder_28 (fun H locs hw hf => ?_)
    refine sx_iast S hw hf (is_37 hf) hm dRe_readOrder_31 (fun g40 H locs hf hm hw => ?_)
    refine lv_aload_n S.1 S.2.1 dRe_readOrder_32 rfl (lv_at hl 0 rfl) ?_
    refine va_ldcS S.1 S.2.1 S.2.2.2.1 (hw.2.2.2.2.2.2.1 15 (by decide)) dRe_readOrder_33 ?_
    obtain ⟨g42, h41, hm⟩ := ob hm
    refine sw_Vv (q := 33) (rest := []) S hw (cRe_expect l N hf 15 (by decide) h41) kRe_expect wm_Re_120 (is_33 hf).1 (e_Re (is_33 hf)) rfl rfl rfl rfl hl.1 (Nat.le_of_ble_eq_true rfl) ⟨rfl, rfl, Nat.le_of_ble_eq_true rfl, Nat.le_of_ble_eq_true rfl⟩ ⟨Nat.le_of_ble_eq_true rfl, Nat.le_of_ble_eq_true rfl⟩ dRe_readOrder_35 (fun H locs hw hf => ?_)
    refine lv_aload_n S.1 S.2.1 dRe_readOrder_38 rfl (lv_at hl 0 rfl) ?_
    refine get_Re (v := .ref (ξ.2.2.2.1 35)) S hw (is_33 hf) 3 (by decide) rfl wf_Re_20 dRe_readOrder_39 ?_
    refine get_Te (v := .ref (ξ.2.2.2.1 38)) S hw (is_35 hf) 3 (by decide) rfl wf_Re_128 dRe_readOrder_42 ?_
    refine lv_iload_n S.1 S.2.1 dRe_readOrder_45 rfl (lv_at hl 1 rfl) ?_
    refine lv_aload_n S.1 S.2.1 dRe_readOrder_46 rfl (lv_at hl 0 rfl) ?_
    obtain ⟨⟨v45, g44⟩, h43, hm⟩ := ob hm
    refine sw_Vi (q := 33) (rest := [.int a1, .ref (ξ.2.2.2.1 38)]) S hw (cRe_placeOfSum l N hf  h43) kRe_placeOfSum wm_Re_113 (is_33 hf).1 (e_Re (is_33 hf)) rfl rfl rfl rfl hl.1 (Nat.le_of_ble_eq_true rfl) ⟨rfl, rfl, Nat.le_of_ble_eq_true rfl, Nat.le_of_ble_eq_true rfl⟩ ⟨Nat.le_of_ble_eq_true rfl, Nat.le_of_ble_eq_true rfl⟩ dRe_readOrder_47 (fun H locs hw hf => ?_)
    refine sx_iast S hw hf (is_38 hf) hm dRe_readOrder_50 (fun g46 H locs hf hm hw => ?_)
    refine lv_goto (tgt := 159) S.1 S.2.1 dRe_readOrder_51 (by decide) ?_
    exact wRe_readOrder_159 S hr hlk N  g46 a1 _ _ _ hm hw hf (lv_sub hl [0, 1] rfl)
set_option maxHeartbeats 4000000 in
set_option maxRecDepth 100000 in
theorem wRe_readBoth_6 {l : Launch} {p : Program} {e : Env} {s : State} {m : MethodId} {args : Array Value} {below : List Frame} {meth : Method} {c : Code} {Γ : sw_C} {A : Nat → Prop} {ξ : sw_x} {μ : sw_m} {res : sw_g} (S : CallFix p m c prog_5_method_19_code 3 s args (Cond.code yRe_readBoth prog_5_method_19_code 3 (none) :: sw_tb) R_Re) (hr : meth.sig.returnType = none) (hlk : meth.locks = false) (rc : sw_g → Option (sw_g)) (rr : Room) (hr0 : rr.cells = 0 ∧ rr.slots = 0) (hrc : ∀ {g : sw_g} {μ : sw_m} (hf : sw_wf ξ g.2.2) {res : sw_g}, rc g  = some res → Met l yRe_readTest (Cond.code yRe_readTest prog_5_method_18_code 3 (none) :: sw_tb) rr (va_Pc [.ref (ξ.2.2.2.1 33)] (sw_V Γ A ξ g μ)) (sw_Qv Γ A ξ res μ (sw_wf ξ res.2.2)) 0 0 A) (N : Nat) : ∀ (fu : Nat) (g : sw_g) (u1 : Int32) (H : Heap) (locs : List Loc) (ls : Array Slot), fRe_readBoth_6 N rc ξ.2.2.1  fu g u1 = some res → sw_S Γ A ξ g μ s H locs → sw_wf ξ g.2.2 → lv_has ls 3 [(0, .ref (ξ.2.2.2.1 33)), (1, .int u1)] → W p l e (headSpec (Cond.code yRe_readBoth prog_5_method_19_code 3 (none) :: sw_tb) (rgRe_readBoth rr)).room s m args below meth c H locs 0 0 (MQ below (sw_Qv Γ A ξ res μ (sw_wf ξ res.2.2)) args s 0 0 A) (F0 m 6 ls []) := by
  intro fu
  induction fu with
  | zero => intro g u1 H locs ls hm; rw [fRe_readBoth_6.eq_1] at hm; cases hm
  | succ fu ih =>
    intro g u1 H locs ls hm hw hf hl
    rw [fRe_readBoth_6.eq_2] at hm
    refine lv_iload_n S.1 S.2.1 dRe_readBoth_6 rfl (lv_at hl 1 rfl) ?_
    refine lv_sipush (v := (400 : Int32)) S.1 S.2.1 dRe_readBoth_7 (by decide) ?_
    refine bicmp_ge (tgt := 52) S.1 S.2.1 hm dRe_readBoth_10 (by decide) (fun hm => ?_) (fun hm => ?_)
    · obtain rfl := Option.some.inj hm
      exact sw_vret S hr hlk hw hf dRe_readBoth_52
    · refine lv_aload_n S.1 S.2.1 dRe_readBoth_13 rfl (lv_at hl 0 rfl) ?_
      refine va_ldcS S.1 S.2.1 S.2.2.2.1 (hw.2.2.2.2.2.2.1 36 (by decide)) dRe_readBoth_14 ?_
      obtain ⟨⟨v5, g4⟩, h3, hm⟩ := ob hm
      refine sw_Vi (q := 33) (rest := []) S hw (cRe_accepts l N hf 36 (by decide) h3) kRe_accepts wm_Re_67 (is_33 hf).1 (e_Re (is_33 hf)) rfl rfl rfl rfl hl.1 (Nat.le_of_ble_eq_true rfl) ⟨rfl, rfl, by show 5 + 1 ≤ rr.frames + _; omega, by show 8 + (2 + 11) + 142 ≤ rr.locals + _; omega⟩ ⟨Nat.le_of_ble_eq_true rfl, Nat.le_of_ble_eq_true rfl⟩ dRe_readBoth_16 (fun H locs hw hf => ?_)
      refine bif_eq (tgt := 52) S.1 S.2.1 hm dRe_readBoth_19 (by decide) (fun hm => ?_) (fun hm => ?_)
      · obtain rfl := Option.some.inj hm
        exact sw_vret S hr hlk hw hf dRe_readBoth_52
      · refine lv_aload_n S.1 S.2.1 dRe_readBoth_22 rfl (lv_at hl 0 rfl) ?_
        refine get_Re (v := .ref (ξ.2.2.2.1 35)) S hw (is_33 hf) 3 (by decide) rfl wf_Re_20 dRe_readBoth_23 ?_
        refine get_Te (v := .int (g4.1 35 6)) S hw (is_35 hf) 6 (by decide) rfl wf_Re_44 dRe_readBoth_26 ?_
        refine nm_i hm (fun x6 hm => ?_)
        refine lv_istore_n (lv' := [(2, .int x6), (0, .ref (ξ.2.2.2.1 33)), (1, .int u1)]) S.1 S.2.1 dRe_readBoth_29 rfl hl (by decide) rfl (fun ls hl => ?_)
        refine lv_aload_n S.1 S.2.1 dRe_readBoth_30 rfl (lv_at hl 1 rfl) ?_
        refine lv_iconst (v := (5 : Int32)) S.1 S.2.1 dRe_readBoth_31 (by decide) ?_
        refine lv_iconst (v := (0 : Int32)) S.1 S.2.1 dRe_readBoth_32 (by decide) ?_
        obtain ⟨g8, h7, hm⟩ := ob hm
        refine sw_Vv (q := 33) (rest := []) S hw (cRe_emit l N hf (5 : Int32) (0 : Int32) h7) kRe_emit wm_Re_146 (is_33 hf).1 (e_Re (is_33 hf)) rfl rfl rfl rfl hl.1 (Nat.le_of_ble_eq_true rfl) ⟨rfl, rfl, by show 1 + 1 ≤ rr.frames + _; omega, by show 8 + (3 + 11) + 20 ≤ rr.locals + _; omega⟩ ⟨Nat.le_of_ble_eq_true rfl, Nat.le_of_ble_eq_true rfl⟩ dRe_readBoth_33 (fun H locs hw hf => ?_)
        refine lv_aload_n S.1 S.2.1 dRe_readBoth_36 rfl (lv_at hl 1 rfl) ?_
        obtain ⟨g10, h9, hm⟩ := ob hm
        refine sw_Vv (q := 33) (rest := []) S hw (cRe_readPlain l N rc rr hr0 hrc hf  h9) kRe_readPlain wm_Re_166 (is_33 hf).1 (e_Re (is_33 hf)) rfl rfl rfl rfl hl.1 (Nat.le_of_ble_eq_true rfl) ⟨rfl, rfl, by show rr.frames + 81 + 1 ≤ rr.frames + _; omega, by show 8 + (3 + 11) + (rr.locals + 2092) ≤ rr.locals + _; omega⟩ ⟨Nat.le_of_ble_eq_true rfl, Nat.le_of_ble_eq_true rfl⟩ dRe_readBoth_37 (fun H locs hw hf => ?_)
        refine lv_aload_n S.1 S.2.1 dRe_readBoth_40 rfl (lv_at hl 1 rfl) ?_
        refine lv_iload_n S.1 S.2.1 dRe_readBoth_41 rfl (lv_at hl 0 rfl) ?_
        refine lv_iconst (v := (5 : Int32)) S.1 S.2.1 dRe_readBoth_42 (by decide) ?_
        obtain ⟨g12, h11, hm⟩ := ob hm
        refine sw_Vv (q := 33) (rest := []) S hw (cRe_leadHere l  hf x6 (5 : Int32) h11) kRe_leadHere wm_Re_163 (is_33 hf).1 (e_Re (is_33 hf)) rfl rfl rfl rfl hl.1 (Nat.le_of_ble_eq_true rfl) ⟨rfl, rfl, by show 0 + 1 ≤ rr.frames + _; omega, by show 8 + (3 + 11) + 0 ≤ rr.locals + _; omega⟩ ⟨Nat.le_of_ble_eq_true rfl, Nat.le_of_ble_eq_true rfl⟩ dRe_readBoth_43 (fun H locs hw hf => ?_)
        obtain ⟨x13, ex13, hm⟩ := nm_x hm
        refine lv_iinc (v := x13) (lv' := [(1, .int x13), (2, .int x6), (0, .ref (ξ.2.2.2.1 33))]) S.1 S.2.1 dRe_readBoth_46 hl (k := 2) rfl (by rw [ex13]; rfl) (by decide) rfl (fun ls hl => ?_)
        refine lv_goto (tgt := 6) S.1 S.2.1 dRe_readBoth_49 (by decide) ?_
        exact ih g12 x13 _ _ _ hm hw hf (lv_sub hl [2, 0] rfl)
set_option maxHeartbeats 4000000 in
set_option maxRecDepth 100000 in
theorem cRe_readBoth (l : Launch) (N : Nat) {Γ : sw_C} {A : Nat → Prop} {ξ : sw_x} (rc : sw_g → Option (sw_g)) (rr : Room) (hr0 : rr.cells = 0 ∧ rr.slots = 0) (hrc : ∀ {g : sw_g} {μ : sw_m} (hf : sw_wf ξ g.2.2) {res : sw_g}, rc g  = some res → Met l yRe_readTest (Cond.code yRe_readTest prog_5_method_18_code 3 (none) :: sw_tb) rr (va_Pc [.ref (ξ.2.2.2.1 33)] (sw_V Γ A ξ g μ)) (sw_Qv Γ A ξ res μ (sw_wf ξ res.2.2)) 0 0 A) {g : sw_g} {μ : sw_m} (hf : sw_wf ξ g.2.2) {res : sw_g} (hm : fRe_readBoth N rc ξ.2.2.1 g = some res) : Met l yRe_readBoth (Cond.code yRe_readBoth prog_5_method_19_code 3 (none) :: sw_tb) (rgRe_readBoth rr) (va_Pc [.ref (ξ.2.2.2.1 33)] (sw_V Γ A ξ g μ)) (sw_Qv Γ A ξ res μ (sw_wf ξ res.2.2)) 0 0 A := by
  refine Met.ofW (cc := prog_5_method_19_code) (maxL := 3) (ret := none) (by decide) rfl ?_
  intro p e s m args below meth c s₁ B hml hv
  obtain ⟨rfl, hv⟩ := hv
  have S : CallFix p m c prog_5_method_19_code 3 s _ (Cond.code yRe_readBoth prog_5_method_19_code 3 (none) :: sw_tb) R_Re := ⟨B.exec, B.bytes, hml, findClass_of_methodNamed B.named, atoms_spec (ws := (Cond.code yRe_readBoth prog_5_method_19_code 3 (none) :: sw_tb)) B.pre⟩
  have hr := B.returns
  have hlk := B.notSynchronized
  have hw := sw_begin hv
  have hl := lv_entry [.ref (ξ.2.2.2.1 33)] (n := 3) (Nat.le_of_ble_eq_true rfl)
  rw [lg_entry_eq]
  generalize (lg_sl [.ref (ξ.2.2.2.1 33)] ++ List.replicate (3 - (lg_sl [.ref (ξ.2.2.2.1 33)]).length) Slot.unset).toArray = ls at hl ⊢
  have hl : lv_has ls 3 [(0, .ref (ξ.2.2.2.1 33))] := hl
  unfold fRe_readBoth at hm
  refine lv_aload_n S.1 S.2.1 dRe_readBoth_0 rfl (lv_at hl 0 rfl) ?_
  obtain ⟨g2, h1, hm⟩ := ob hm
  refine sw_Vv (q := 33) (rest := []) S hw (cRe_readPlain l N rc rr hr0 hrc hf  h1) kRe_readPlain wm_Re_166 (is_33 hf).1 (e_Re (is_33 hf)) rfl rfl rfl rfl hl.1 (Nat.le_of_ble_eq_true rfl) ⟨rfl, rfl, by show rr.frames + 81 + 1 ≤ rr.frames + _; omega, by show 8 + (3 + 11) + (rr.locals + 2092) ≤ rr.locals + _; omega⟩ ⟨Nat.le_of_ble_eq_true rfl, Nat.le_of_ble_eq_true rfl⟩ dRe_readBoth_1 (fun H locs hw hf => ?_)
  refine lv_iconst (v := (0 : Int32)) S.1 S.2.1 dRe_readBoth_4 (by decide) ?_
  refine lv_istore_n (lv' := [(1, .int (0 : Int32)), (0, .ref (ξ.2.2.2.1 33))]) S.1 S.2.1 dRe_readBoth_5 rfl hl (by decide) rfl (fun ls hl => ?_)
  exact wRe_readBoth_6 S hr hlk rc rr hr0 hrc N  N g2 (0 : Int32) _ _ _ hm hw hf (lv_sub hl [1, 0] rfl)
set_option maxHeartbeats 4000000 in
set_option maxRecDepth 100000 in
theorem wRe_readTest_6 {l : Launch} {p : Program} {e : Env} {s : State} {m : MethodId} {args : Array Value} {below : List Frame} {meth : Method} {c : Code} {Γ : sw_C} {A : Nat → Prop} {ξ : sw_x} {μ : sw_m} {res : sw_g} (S : CallFix p m c prog_5_method_18_code 3 s args (Cond.code yRe_readTest prog_5_method_18_code 3 (none) :: sw_tb) R_Re) (hr : meth.sig.returnType = none) (hlk : meth.locks = false) (rc : sw_g → Option (sw_g)) (rr : Room) (hr0 : rr.cells = 0 ∧ rr.slots = 0) (hrc : ∀ {g : sw_g} {μ : sw_m} (hf : sw_wf ξ g.2.2) {res : sw_g}, rc g  = some res → Met l yRe_readTest (Cond.code yRe_readTest prog_5_method_18_code 3 (none) :: sw_tb) rr (va_Pc [.ref (ξ.2.2.2.1 33)] (sw_V Γ A ξ g μ)) (sw_Qv Γ A ξ res μ (sw_wf ξ res.2.2)) 0 0 A) (N : Nat) : ∀ (fu : Nat) (g : sw_g) (u1 : Int32) (H : Heap) (locs : List Loc) (ls : Array Slot), fRe_readTest_b_6 N rc ξ.2.2.1  fu g u1 = some res → sw_S Γ A ξ g μ s H locs → sw_wf ξ g.2.2 → lv_has ls 3 [(0, .ref (ξ.2.2.2.1 33)), (1, .int u1)] → W p l e (headSpec (Cond.code yRe_readTest prog_5_method_18_code 3 (none) :: sw_tb) (rgRe_readTest rr)).room s m args below meth c H locs 0 0 (MQ below (sw_Qv Γ A ξ res μ (sw_wf ξ res.2.2)) args s 0 0 A) (F0 m 6 ls []) := by
  intro fu
  induction fu with
  | zero => intro g u1 H locs ls hm; rw [fRe_readTest_b_6.eq_1] at hm; cases hm
  | succ fu ih =>
    intro g u1 H locs ls hm hw hf hl
    rw [fRe_readTest_b_6.eq_2] at hm
    refine lv_iload_n S.1 S.2.1 dRe_readTest_6 rfl (lv_at hl 1 rfl) ?_
    refine lv_sipush (v := (400 : Int32)) S.1 S.2.1 dRe_readTest_7 (by decide) ?_
    refine bicmp_ge (tgt := 52) S.1 S.2.1 hm dRe_readTest_10 (by decide) (fun hm => ?_) (fun hm => ?_)
    · obtain rfl := Option.some.inj hm
      exact sw_vret S hr hlk hw hf dRe_readTest_52
    · refine lv_aload_n S.1 S.2.1 dRe_readTest_13 rfl (lv_at hl 0 rfl) ?_
      refine va_ldcS S.1 S.2.1 S.2.2.2.1 (hw.2.2.2.2.2.2.1 37 (by decide)) dRe_readTest_14 ?_
      obtain ⟨⟨v5, g4⟩, h3, hm⟩ := ob hm
      refine sw_Vi (q := 33) (rest := []) S hw (cRe_accepts l N hf 37 (by decide) h3) kRe_accepts wm_Re_67 (is_33 hf).1 (e_Re (is_33 hf)) rfl rfl rfl rfl hl.1 (Nat.le_of_ble_eq_true rfl) ⟨rfl, rfl, by show 5 + 1 ≤ rr.frames + _; omega, by show 8 + (2 + 11) + 142 ≤ rr.locals + _; omega⟩ ⟨Nat.le_of_ble_eq_true rfl, Nat.le_of_ble_eq_true rfl⟩ dRe_readTest_16 (fun H locs hw hf => ?_)
      refine bif_eq (tgt := 52) S.1 S.2.1 hm dRe_readTest_19 (by decide) (fun hm => ?_) (fun hm => ?_)
      · obtain rfl := Option.some.inj hm
        exact sw_vret S hr hlk hw hf dRe_readTest_52
      · refine lv_aload_n S.1 S.2.1 dRe_readTest_22 rfl (lv_at hl 0 rfl) ?_
        refine get_Re (v := .ref (ξ.2.2.2.1 35)) S hw (is_33 hf) 3 (by decide) rfl wf_Re_20 dRe_readTest_23 ?_
        refine get_Te (v := .int (g4.1 35 6)) S hw (is_35 hf) 6 (by decide) rfl wf_Re_44 dRe_readTest_26 ?_
        refine nm_i hm (fun x6 hm => ?_)
        refine lv_istore_n (lv' := [(2, .int x6), (0, .ref (ξ.2.2.2.1 33)), (1, .int u1)]) S.1 S.2.1 dRe_readTest_29 rfl hl (by decide) rfl (fun ls hl => ?_)
        refine lv_aload_n S.1 S.2.1 dRe_readTest_30 rfl (lv_at hl 1 rfl) ?_
        refine lv_iconst (v := (4 : Int32)) S.1 S.2.1 dRe_readTest_31 (by decide) ?_
        refine lv_iconst (v := (0 : Int32)) S.1 S.2.1 dRe_readTest_32 (by decide) ?_
        obtain ⟨g8, h7, hm⟩ := ob hm
        refine sw_Vv (q := 33) (rest := []) S hw (cRe_emit l N hf (4 : Int32) (0 : Int32) h7) kRe_emit wm_Re_146 (is_33 hf).1 (e_Re (is_33 hf)) rfl rfl rfl rfl hl.1 (Nat.le_of_ble_eq_true rfl) ⟨rfl, rfl, by show 1 + 1 ≤ rr.frames + _; omega, by show 8 + (3 + 11) + 20 ≤ rr.locals + _; omega⟩ ⟨Nat.le_of_ble_eq_true rfl, Nat.le_of_ble_eq_true rfl⟩ dRe_readTest_33 (fun H locs hw hf => ?_)
        refine lv_aload_n S.1 S.2.1 dRe_readTest_36 rfl (lv_at hl 1 rfl) ?_
        obtain ⟨g10, h9, hm⟩ := ob hm
        refine sw_Vv (q := 33) (rest := []) S hw (cRe_readBoth l N rc rr hr0 hrc hf  h9) kRe_readBoth wm_Re_158 (is_33 hf).1 (e_Re (is_33 hf)) rfl rfl rfl rfl hl.1 (Nat.le_of_ble_eq_true rfl) ⟨rfl, rfl, by show rr.frames + 82 + 1 ≤ rr.frames + _; omega, by show 8 + (3 + 11) + (rr.locals + 2114) ≤ rr.locals + _; omega⟩ ⟨Nat.le_of_ble_eq_true rfl, Nat.le_of_ble_eq_true rfl⟩ dRe_readTest_37 (fun H locs hw hf => ?_)
        refine lv_aload_n S.1 S.2.1 dRe_readTest_40 rfl (lv_at hl 1 rfl) ?_
        refine lv_iload_n S.1 S.2.1 dRe_readTest_41 rfl (lv_at hl 0 rfl) ?_
        refine lv_iconst (v := (4 : Int32)) S.1 S.2.1 dRe_readTest_42 (by decide) ?_
        obtain ⟨g12, h11, hm⟩ := ob hm
        refine sw_Vv (q := 33) (rest := []) S hw (cRe_leadHere l  hf x6 (4 : Int32) h11) kRe_leadHere wm_Re_163 (is_33 hf).1 (e_Re (is_33 hf)) rfl rfl rfl rfl hl.1 (Nat.le_of_ble_eq_true rfl) ⟨rfl, rfl, by show 0 + 1 ≤ rr.frames + _; omega, by show 8 + (3 + 11) + 0 ≤ rr.locals + _; omega⟩ ⟨Nat.le_of_ble_eq_true rfl, Nat.le_of_ble_eq_true rfl⟩ dRe_readTest_43 (fun H locs hw hf => ?_)
        obtain ⟨x13, ex13, hm⟩ := nm_x hm
        refine lv_iinc (v := x13) (lv' := [(1, .int x13), (2, .int x6), (0, .ref (ξ.2.2.2.1 33))]) S.1 S.2.1 dRe_readTest_46 hl (k := 2) rfl (by rw [ex13]; rfl) (by decide) rfl (fun ls hl => ?_)
        refine lv_goto (tgt := 6) S.1 S.2.1 dRe_readTest_49 (by decide) ?_
        exact ih g12 x13 _ _ _ hm hw hf (lv_sub hl [2, 0] rfl)
set_option maxHeartbeats 4000000 in
set_option maxRecDepth 100000 in
theorem cRe_readTest_b (l : Launch) (N : Nat) {Γ : sw_C} {A : Nat → Prop} {ξ : sw_x} (rc : sw_g → Option (sw_g)) (rr : Room) (hr0 : rr.cells = 0 ∧ rr.slots = 0) (hrc : ∀ {g : sw_g} {μ : sw_m} (hf : sw_wf ξ g.2.2) {res : sw_g}, rc g  = some res → Met l yRe_readTest (Cond.code yRe_readTest prog_5_method_18_code 3 (none) :: sw_tb) rr (va_Pc [.ref (ξ.2.2.2.1 33)] (sw_V Γ A ξ g μ)) (sw_Qv Γ A ξ res μ (sw_wf ξ res.2.2)) 0 0 A) {g : sw_g} {μ : sw_m} (hf : sw_wf ξ g.2.2) {res : sw_g} (hm : fRe_readTest_b N rc ξ.2.2.1 g = some res) : Met l yRe_readTest (Cond.code yRe_readTest prog_5_method_18_code 3 (none) :: sw_tb) (rgRe_readTest rr) (va_Pc [.ref (ξ.2.2.2.1 33)] (sw_V Γ A ξ g μ)) (sw_Qv Γ A ξ res μ (sw_wf ξ res.2.2)) 0 0 A := by
  refine Met.ofW (cc := prog_5_method_18_code) (maxL := 3) (ret := none) (by decide) rfl ?_
  intro p e s m args below meth c s₁ B hml hv
  obtain ⟨rfl, hv⟩ := hv
  have S : CallFix p m c prog_5_method_18_code 3 s _ (Cond.code yRe_readTest prog_5_method_18_code 3 (none) :: sw_tb) R_Re := ⟨B.exec, B.bytes, hml, findClass_of_methodNamed B.named, atoms_spec (ws := (Cond.code yRe_readTest prog_5_method_18_code 3 (none) :: sw_tb)) B.pre⟩
  have hr := B.returns
  have hlk := B.notSynchronized
  have hw := sw_begin hv
  have hl := lv_entry [.ref (ξ.2.2.2.1 33)] (n := 3) (Nat.le_of_ble_eq_true rfl)
  rw [lg_entry_eq]
  generalize (lg_sl [.ref (ξ.2.2.2.1 33)] ++ List.replicate (3 - (lg_sl [.ref (ξ.2.2.2.1 33)]).length) Slot.unset).toArray = ls at hl ⊢
  have hl : lv_has ls 3 [(0, .ref (ξ.2.2.2.1 33))] := hl
  unfold fRe_readTest_b at hm
  refine lv_aload_n S.1 S.2.1 dRe_readTest_0 rfl (lv_at hl 0 rfl) ?_
  obtain ⟨g2, h1, hm⟩ := ob hm
  refine sw_Vv (q := 33) (rest := []) S hw (cRe_readBoth l N rc rr hr0 hrc hf  h1) kRe_readBoth wm_Re_158 (is_33 hf).1 (e_Re (is_33 hf)) rfl rfl rfl rfl hl.1 (Nat.le_of_ble_eq_true rfl) ⟨rfl, rfl, by show rr.frames + 82 + 1 ≤ rr.frames + _; omega, by show 8 + (3 + 11) + (rr.locals + 2114) ≤ rr.locals + _; omega⟩ ⟨Nat.le_of_ble_eq_true rfl, Nat.le_of_ble_eq_true rfl⟩ dRe_readTest_1 (fun H locs hw hf => ?_)
  refine lv_iconst (v := (0 : Int32)) S.1 S.2.1 dRe_readTest_4 (by decide) ?_
  refine lv_istore_n (lv' := [(1, .int (0 : Int32)), (0, .ref (ξ.2.2.2.1 33))]) S.1 S.2.1 dRe_readTest_5 rfl hl (by decide) rfl (fun ls hl => ?_)
  exact wRe_readTest_6 S hr hlk rc rr hr0 hrc N  N g2 (0 : Int32) _ _ _ hm hw hf (lv_sub hl [1, 0] rfl)
def rmRe_readTest : Nat → Room
  | 0 => { frames := 0, cells := 0, slots := 0, locals := 0 }
  | d + 1 => rgRe_readTest (rmRe_readTest d)
theorem cRe_readTest (l : Launch) (N : Nat) : ∀ (d : Nat) {Γ : sw_C} {A : Nat → Prop} {ξ : sw_x} {g : sw_g} {μ : sw_m} (hf : sw_wf ξ g.2.2) {res : sw_g} (hm : fRe_readTest N ξ.2.2.1 d g  = some res), Met l yRe_readTest (Cond.code yRe_readTest prog_5_method_18_code 3 (none) :: sw_tb) (rmRe_readTest d) (va_Pc [.ref (ξ.2.2.2.1 33)] (sw_V Γ A ξ g μ)) (sw_Qv Γ A ξ res μ (sw_wf ξ res.2.2)) 0 0 A := by
  intro d
  induction d with
  | zero => intro Γ A ξ g μ hf  res hm; cases hm
  | succ d ih =>
    intro Γ A ξ g μ hf  res hm
    exact cRe_readTest_b l N (fRe_readTest N ξ.2.2.1 d) (rmRe_readTest d) (by cases d <;> exact ⟨rfl, rfl⟩) (fun {g μ} hf  {res} hm => ih hf  hm) hf  hm
set_option maxHeartbeats 4000000 in
set_option maxRecDepth 100000 in
theorem cRe_readIf (l : Launch) (N : Nat) {Γ : sw_C} {A : Nat → Prop} {ξ : sw_x} {g : sw_g} {μ : sw_m} (hf : sw_wf ξ g.2.2) (a1 : Int32) {res : sw_g} (hm : fRe_readIf N ξ.2.2.1 g a1 = some res) : Met l yRe_readIf (Cond.code yRe_readIf prog_5_method_17_code 2 (none) :: sw_tb) rmRe_readIf (va_Pc [.ref (ξ.2.2.2.1 33), .int a1] (sw_V Γ A ξ g μ)) (sw_Qv Γ A ξ res μ (sw_wf ξ res.2.2)) 0 0 A := by
  refine Met.ofW (cc := prog_5_method_17_code) (maxL := 2) (ret := none) (by decide) rfl ?_
  intro p e s m args below meth c s₁ B hml hv
  obtain ⟨rfl, hv⟩ := hv
  have S : CallFix p m c prog_5_method_17_code 2 s _ (Cond.code yRe_readIf prog_5_method_17_code 2 (none) :: sw_tb) R_Re := ⟨B.exec, B.bytes, hml, findClass_of_methodNamed B.named, atoms_spec (ws := (Cond.code yRe_readIf prog_5_method_17_code 2 (none) :: sw_tb)) B.pre⟩
  have hr := B.returns
  have hlk := B.notSynchronized
  have hw := sw_begin hv
  have hl := lv_entry [.ref (ξ.2.2.2.1 33), .int a1] (n := 2) (Nat.le_of_ble_eq_true rfl)
  rw [lg_entry_eq]
  generalize (lg_sl [.ref (ξ.2.2.2.1 33), .int a1] ++ List.replicate (2 - (lg_sl [.ref (ξ.2.2.2.1 33), .int a1]).length) Slot.unset).toArray = ls at hl ⊢
  have hl : lv_has ls 2 [(0, .ref (ξ.2.2.2.1 33)), (1, .int a1)] := hl
  unfold fRe_readIf at hm
  refine lv_aload_n S.1 S.2.1 dRe_readIf_0 rfl (lv_at hl 0 rfl) ?_
  refine get_Re (v := .ref (ξ.2.2.2.1 35)) S hw (is_33 hf) 3 (by decide) rfl wf_Re_20 dRe_readIf_1 ?_
  refine get_Te (v := .ref (ξ.2.2.2.1 40)) S hw (is_35 hf) 5 (by decide) rfl wf_Re_150 dRe_readIf_4 ?_
  refine lv_iload_n S.1 S.2.1 dRe_readIf_7 rfl (lv_at hl 1 rfl) ?_
  refine lv_iconst (v := (-1 : Int32)) S.1 S.2.1 dRe_readIf_8 (by decide) ?_
  refine sx_iast S hw hf (is_40 hf) hm dRe_readIf_9 (fun g1 H locs hf hm hw => ?_)
  refine lv_aload_n S.1 S.2.1 dRe_readIf_10 rfl (lv_at hl 0 rfl) ?_
  refine va_ldcS S.1 S.2.1 S.2.2.2.1 (hw.2.2.2.2.2.2.1 29 (by decide)) dRe_readIf_11 ?_
  obtain ⟨⟨v4, g3⟩, h2, hm⟩ := ob hm
  refine sw_Vi (q := 33) (rest := []) S hw (cRe_accepts l N hf 29 (by decide) h2) kRe_accepts wm_Re_67 (is_33 hf).1 (e_Re (is_33 hf)) rfl rfl rfl rfl hl.1 (Nat.le_of_ble_eq_true rfl) ⟨rfl, rfl, Nat.le_of_ble_eq_true rfl, Nat.le_of_ble_eq_true rfl⟩ ⟨Nat.le_of_ble_eq_true rfl, Nat.le_of_ble_eq_true rfl⟩ dRe_readIf_13 (fun H locs hw hf => ?_)
  refine bif_eq (tgt := 45) S.1 S.2.1 hm dRe_readIf_16 (by decide) (fun hm => ?_) (fun hm => ?_)
  · obtain rfl := Option.some.inj hm
    exact sw_vret S hr hlk hw hf dRe_readIf_45
  · refine lv_aload_n S.1 S.2.1 dRe_readIf_19 rfl (lv_at hl 0 rfl) ?_
    refine get_Re (v := .ref (ξ.2.2.2.1 35)) S hw (is_33 hf) 3 (by decide) rfl wf_Re_20 dRe_readIf_20 ?_
    refine get_Te (v := .ref (ξ.2.2.2.1 40)) S hw (is_35 hf) 5 (by decide) rfl wf_Re_150 dRe_readIf_23 ?_
    refine lv_iload_n S.1 S.2.1 dRe_readIf_26 rfl (lv_at hl 1 rfl) ?_
    refine lv_aload_n S.1 S.2.1 dRe_readIf_27 rfl (lv_at hl 0 rfl) ?_
    refine get_Re (v := .ref (ξ.2.2.2.1 35)) S hw (is_33 hf) 3 (by decide) rfl wf_Re_20 dRe_readIf_28 ?_
    refine get_Te (v := .int (g3.1 35 6)) S hw (is_35 hf) 6 (by decide) rfl wf_Re_44 dRe_readIf_31 ?_
    refine sx_iast S hw hf (is_40 hf) hm dRe_readIf_34 (fun g5 H locs hf hm hw => ?_)
    refine lv_aload_n S.1 S.2.1 dRe_readIf_35 rfl (lv_at hl 0 rfl) ?_
    obtain ⟨g7, h6, hm⟩ := ob hm
    refine sw_Vv (q := 33) (rest := []) S hw (cRe_readTest l N 10 hf  h6) kRe_readTest wm_Re_155 (is_33 hf).1 (e_Re (is_33 hf)) rfl rfl rfl rfl hl.1 (Nat.le_of_ble_eq_true rfl) ⟨rfl, rfl, Nat.le_of_ble_eq_true rfl, Nat.le_of_ble_eq_true rfl⟩ ⟨Nat.le_of_ble_eq_true rfl, Nat.le_of_ble_eq_true rfl⟩ dRe_readIf_36 (fun H locs hw hf => ?_)
    refine lv_aload_n S.1 S.2.1 dRe_readIf_39 rfl (lv_at hl 0 rfl) ?_
    refine lv_iconst (v := (0 : Int32)) S.1 S.2.1 dRe_readIf_40 (by decide) ?_
    refine lv_iconst (v := (0 : Int32)) S.1 S.2.1 dRe_readIf_41 (by decide) ?_
    obtain ⟨g9, h8, hm⟩ := ob hm
    refine sw_Vv (q := 33) (rest := []) S hw (cRe_emit l N hf (0 : Int32) (0 : Int32) h8) kRe_emit wm_Re_146 (is_33 hf).1 (e_Re (is_33 hf)) rfl rfl rfl rfl hl.1 (Nat.le_of_ble_eq_true rfl) ⟨rfl, rfl, Nat.le_of_ble_eq_true rfl, Nat.le_of_ble_eq_true rfl⟩ ⟨Nat.le_of_ble_eq_true rfl, Nat.le_of_ble_eq_true rfl⟩ dRe_readIf_42 (fun H locs hw hf => ?_)
    obtain rfl := Option.some.inj hm
    exact sw_vret S hr hlk hw hf dRe_readIf_45
set_option maxHeartbeats 4000000 in
set_option maxRecDepth 100000 in
theorem wRe_reads_91 {l : Launch} {p : Program} {e : Env} {s : State} {m : MethodId} {args : Array Value} {below : List Frame} {meth : Method} {c : Code} {Γ : sw_C} {A : Nat → Prop} {ξ : sw_x} {μ : sw_m} {res : Int32 × sw_g} (S : CallFix p m c prog_5_method_3_code 4 s args (Cond.code yRe_reads prog_5_method_3_code 4 (some .boolean) :: sw_tb) R_Re) (hr : meth.sig.returnType = some .boolean) (hlk : meth.locks = false) (N : Nat) (k41 : sw_g → Int32 → Int32 → Option (Int32 × sw_g)) (hk41 : ∀ (g : sw_g) (u2 : Int32) (u3 : Int32) (H : Heap) (locs : List Loc) (ls : Array Slot), k41 g u2 u3 = some res → sw_S Γ A ξ g μ s H locs → sw_wf ξ g.2.2 → lv_has ls 4 [(0, .ref (ξ.2.2.2.1 33)), (2, .int u2), (3, .int u3)] → W p l e (headSpec (Cond.code yRe_reads prog_5_method_3_code 4 (some .boolean) :: sw_tb) rmRe_reads).room s m args below meth c H locs 0 0 (MQ below (sw_Qi Γ A ξ res.2 μ res.1 (sw_wf ξ res.2.2.2)) args s 0 0 A) (F0 m 41 ls [])) : ∀ (g : sw_g) (u3 : Int32) (H : Heap) (locs : List Loc) (ls : Array Slot), fRe_reads_91 N ξ.2.2.1 k41 g u3 = some res → sw_S Γ A ξ g μ s H locs → sw_wf ξ g.2.2 → lv_has ls 4 [(0, .ref (ξ.2.2.2.1 33)), (3, .int u3)] → W p l e (headSpec (Cond.code yRe_reads prog_5_method_3_code 4 (some .boolean) :: sw_tb) rmRe_reads).room s m args below meth c H locs 0 0 (MQ below (sw_Qi Γ A ξ res.2 μ res.1 (sw_wf ξ res.2.2.2)) args s 0 0 A) (F0 m 91 ls []) := by
  intro g u3 H locs ls hm hw hf hl
  unfold fRe_reads_91 at hm
  refine lv_aload_n S.1 S.2.1 dRe_reads_91 rfl (lv_at hl 0 rfl) ?_
  refine lv_iload_n S.1 S.2.1 dRe_reads_92 rfl (lv_at hl 1 rfl) ?_
  obtain ⟨g17, h16, hm⟩ := ob hm
  refine sw_Vv (q := 33) (rest := []) S hw (cRe_readIf l N hf u3 h16) kRe_readIf wm_Re_62 (is_33 hf).1 (e_Re (is_33 hf)) rfl rfl rfl rfl hl.1 (Nat.le_of_ble_eq_true rfl) ⟨rfl, rfl, Nat.le_of_ble_eq_true rfl, Nat.le_of_ble_eq_true rfl⟩ ⟨Nat.le_of_ble_eq_true rfl, Nat.le_of_ble_eq_true rfl⟩ dRe_reads_93 (fun H locs hw hf => ?_)
  refine lv_aload_n S.1 S.2.1 dRe_reads_96 rfl (lv_at hl 0 rfl) ?_
  refine va_ldcS S.1 S.2.1 S.2.2.2.1 (hw.2.2.2.2.2.2.1 38 (by decide)) dRe_reads_97 ?_
  obtain ⟨⟨v20, g19⟩, h18, hm⟩ := ob hm
  refine sw_Vi (q := 33) (rest := []) S hw (cRe_accepts l N hf 38 (by decide) h18) kRe_accepts wm_Re_67 (is_33 hf).1 (e_Re (is_33 hf)) rfl rfl rfl rfl hl.1 (Nat.le_of_ble_eq_true rfl) ⟨rfl, rfl, Nat.le_of_ble_eq_true rfl, Nat.le_of_ble_eq_true rfl⟩ ⟨Nat.le_of_ble_eq_true rfl, Nat.le_of_ble_eq_true rfl⟩ dRe_reads_99 (fun H locs hw hf => ?_)
  refine lv_istore_n (lv' := [(2, .int v20), (0, .ref (ξ.2.2.2.1 33)), (3, .int u3)]) S.1 S.2.1 dRe_reads_102 rfl hl (by decide) rfl (fun ls hl => ?_)
  obtain ⟨x21, ex21, hm⟩ := nm_x hm
  refine lv_iinc (v := x21) (lv' := [(3, .int x21), (2, .int v20), (0, .ref (ξ.2.2.2.1 33))]) S.1 S.2.1 dRe_reads_103 hl (k := 2) rfl (by rw [ex21]; rfl) (by decide) rfl (fun ls hl => ?_)
  refine lv_goto (tgt := 41) S.1 S.2.1 dRe_reads_106 (by decide) ?_
  exact hk41 g19 v20 x21 _ _ _ hm hw hf (lv_sub hl [2, 1, 0] rfl)
set_option maxHeartbeats 4000000 in
set_option maxRecDepth 100000 in
theorem wRe_reads_128 {l : Launch} {p : Program} {e : Env} {s : State} {m : MethodId} {args : Array Value} {below : List Frame} {meth : Method} {c : Code} {Γ : sw_C} {A : Nat → Prop} {ξ : sw_x} {μ : sw_m} {res : Int32 × sw_g} (S : CallFix p m c prog_5_method_3_code 4 s args (Cond.code yRe_reads prog_5_method_3_code 4 (some .boolean) :: sw_tb) R_Re) (hr : meth.sig.returnType = some .boolean) (hlk : meth.locks = false) (N : Nat) : ∀ (g : sw_g)  (H : Heap) (locs : List Loc) (ls : Array Slot), fRe_reads_128 N ξ.2.2.1  g = some res → sw_S Γ A ξ g μ s H locs → sw_wf ξ g.2.2 → lv_has ls 4 [(0, .ref (ξ.2.2.2.1 33))] → W p l e (headSpec (Cond.code yRe_reads prog_5_method_3_code 4 (some .boolean) :: sw_tb) rmRe_reads).room s m args below meth c H locs 0 0 (MQ below (sw_Qi Γ A ξ res.2 μ res.1 (sw_wf ξ res.2.2.2)) args s 0 0 A) (F0 m 128 ls []) := by
  intro g H locs ls hm hw hf hl
  unfold fRe_reads_128 at hm
  refine lv_aload_n S.1 S.2.1 dRe_reads_128 rfl (lv_at hl 0 rfl) ?_
  refine lv_iconst (v := (0 : Int32)) S.1 S.2.1 dRe_reads_129 (by decide) ?_
  refine put_Re S hw hf (is_33 hf) 0 (by decide) ps_Re_0 rfl rfl rfl wf_Re_28 hm dRe_reads_130 (fun g11 H locs hf hm hw => ?_)
  refine lv_aload_n S.1 S.2.1 dRe_reads_133 rfl (lv_at hl 0 rfl) ?_
  refine get_Re (v := .int (g11.1 33 2)) S hw (is_33 hf) 2 (by decide) rfl wf_Re_24 dRe_reads_134 ?_
  refine lv_iconst (v := (-1 : Int32)) S.1 S.2.1 dRe_reads_137 (by decide) ?_
  refine bicmp_ne (tgt := 145) S.1 S.2.1 hm dRe_reads_138 (by decide) (fun hm => ?_) (fun hm => ?_)
  · refine lv_iconst (v := (0 : Int32)) S.1 S.2.1 dRe_reads_145 (by decide) ?_
    obtain rfl := Option.some.inj hm
    exact sw_zret S hr hlk (Or.inl rfl) hw hf dRe_reads_146
  · refine lv_iconst (v := (1 : Int32)) S.1 S.2.1 dRe_reads_141 (by decide) ?_
    refine lv_goto (tgt := 146) S.1 S.2.1 dRe_reads_142 (by decide) ?_
    obtain rfl := Option.some.inj hm
    exact sw_zret S hr hlk (Or.inr rfl) hw hf dRe_reads_146
set_option maxHeartbeats 4000000 in
set_option maxRecDepth 100000 in
theorem wRe_reads_124 {l : Launch} {p : Program} {e : Env} {s : State} {m : MethodId} {args : Array Value} {below : List Frame} {meth : Method} {c : Code} {Γ : sw_C} {A : Nat → Prop} {ξ : sw_x} {μ : sw_m} {res : Int32 × sw_g} (S : CallFix p m c prog_5_method_3_code 4 s args (Cond.code yRe_reads prog_5_method_3_code 4 (some .boolean) :: sw_tb) R_Re) (hr : meth.sig.returnType = some .boolean) (hlk : meth.locks = false) (N : Nat) : ∀ (g : sw_g)  (H : Heap) (locs : List Loc) (ls : Array Slot), fRe_reads_124 N ξ.2.2.1  g = some res → sw_S Γ A ξ g μ s H locs → sw_wf ξ g.2.2 → lv_has ls 4 [(0, .ref (ξ.2.2.2.1 33))] → W p l e (headSpec (Cond.code yRe_reads prog_5_method_3_code 4 (some .boolean) :: sw_tb) rmRe_reads).room s m args below meth c H locs 0 0 (MQ below (sw_Qi Γ A ξ res.2 μ res.1 (sw_wf ξ res.2.2.2)) args s 0 0 A) (F0 m 124 ls []) := by
  intro g H locs ls hm hw hf hl
  unfold fRe_reads_124 at hm
  refine lv_aload_n S.1 S.2.1 dRe_reads_124 rfl (lv_at hl 0 rfl) ?_
  obtain ⟨g10, h9, hm⟩ := ob hm
  refine sw_Vv (q := 33) (rest := []) S hw (cRe_fail l N hf  h9) kRe_fail wm_Re_74 (is_33 hf).1 (e_Re (is_33 hf)) rfl rfl rfl rfl hl.1 (Nat.le_of_ble_eq_true rfl) ⟨rfl, rfl, Nat.le_of_ble_eq_true rfl, Nat.le_of_ble_eq_true rfl⟩ ⟨Nat.le_of_ble_eq_true rfl, Nat.le_of_ble_eq_true rfl⟩ dRe_reads_125 (fun H locs hw hf => ?_)
  exact wRe_reads_128 S hr hlk N  g10 _ _ _ hm hw hf (lv_sub hl [0] rfl)
set_option maxHeartbeats 4000000 in
set_option maxRecDepth 100000 in
theorem wRe_reads_109 {l : Launch} {p : Program} {e : Env} {s : State} {m : MethodId} {args : Array Value} {below : List Frame} {meth : Method} {c : Code} {Γ : sw_C} {A : Nat → Prop} {ξ : sw_x} {μ : sw_m} {res : Int32 × sw_g} (S : CallFix p m c prog_5_method_3_code 4 s args (Cond.code yRe_reads prog_5_method_3_code 4 (some .boolean) :: sw_tb) R_Re) (hr : meth.sig.returnType = some .boolean) (hlk : meth.locks = false) (N : Nat) : ∀ (g : sw_g) (u2 : Int32) (H : Heap) (locs : List Loc) (ls : Array Slot), fRe_reads_109 N ξ.2.2.1  g u2 = some res → sw_S Γ A ξ g μ s H locs → sw_wf ξ g.2.2 → lv_has ls 4 [(0, .ref (ξ.2.2.2.1 33)), (2, .int u2)] → W p l e (headSpec (Cond.code yRe_reads prog_5_method_3_code 4 (some .boolean) :: sw_tb) rmRe_reads).room s m args below meth c H locs 0 0 (MQ below (sw_Qi Γ A ξ res.2 μ res.1 (sw_wf ξ res.2.2.2)) args s 0 0 A) (F0 m 109 ls []) := by
  intro g u2 H locs ls hm hw hf hl
  unfold fRe_reads_109 at hm
  refine lv_iload_n S.1 S.2.1 dRe_reads_109 rfl (lv_at hl 1 rfl) ?_
  refine bif_ne (tgt := 124) S.1 S.2.1 hm dRe_reads_110 (by decide) (fun hm => ?_) (fun hm => ?_)
  · exact wRe_reads_124 S hr hlk N  g _ _ _ hm hw hf (lv_sub hl [0] rfl)
  · refine lv_aload_n S.1 S.2.1 dRe_reads_113 rfl (lv_at hl 0 rfl) ?_
    refine get_Re (v := .int (g.1 33 5)) S hw (is_33 hf) 5 (by decide) rfl wf_Re_71 dRe_reads_114 ?_
    refine lv_aload_n S.1 S.2.1 dRe_reads_117 rfl (lv_at hl 0 rfl) ?_
    refine get_Re (v := .int (g.1 33 0)) S hw (is_33 hf) 0 (by decide) rfl wf_Re_28 dRe_reads_118 ?_
    refine bicmp_ge (tgt := 128) S.1 S.2.1 hm dRe_reads_121 (by decide) (fun hm => ?_) (fun hm => ?_)
    · exact wRe_reads_128 S hr hlk N  g _ _ _ hm hw hf (lv_sub hl [0] rfl)
    · exact wRe_reads_124 S hr hlk N  g _ _ _ hm hw hf (lv_sub hl [0] rfl)
set_option maxHeartbeats 4000000 in
set_option maxRecDepth 100000 in
theorem wRe_reads_41 {l : Launch} {p : Program} {e : Env} {s : State} {m : MethodId} {args : Array Value} {below : List Frame} {meth : Method} {c : Code} {Γ : sw_C} {A : Nat → Prop} {ξ : sw_x} {μ : sw_m} {res : Int32 × sw_g} (S : CallFix p m c prog_5_method_3_code 4 s args (Cond.code yRe_reads prog_5_method_3_code 4 (some .boolean) :: sw_tb) R_Re) (hr : meth.sig.returnType = some .boolean) (hlk : meth.locks = false) (N : Nat) : ∀ (fu : Nat) (g : sw_g) (u2 : Int32) (u3 : Int32) (H : Heap) (locs : List Loc) (ls : Array Slot), fRe_reads_41 N ξ.2.2.1  fu g u2 u3 = some res → sw_S Γ A ξ g μ s H locs → sw_wf ξ g.2.2 → lv_has ls 4 [(0, .ref (ξ.2.2.2.1 33)), (2, .int u2), (3, .int u3)] → W p l e (headSpec (Cond.code yRe_reads prog_5_method_3_code 4 (some .boolean) :: sw_tb) rmRe_reads).room s m args below meth c H locs 0 0 (MQ below (sw_Qi Γ A ξ res.2 μ res.1 (sw_wf ξ res.2.2.2)) args s 0 0 A) (F0 m 41 ls []) := by
  intro fu
  induction fu with
  | zero => intro g u2 u3 H locs ls hm; rw [fRe_reads_41.eq_1] at hm; cases hm
  | succ fu ih =>
    intro g u2 u3 H locs ls hm hw hf hl
    rw [fRe_reads_41.eq_2] at hm
    refine lv_iload_n S.1 S.2.1 dRe_reads_41 rfl (lv_at hl 2 rfl) ?_
    refine lv_bipush (v := (12 : Int32)) S.1 S.2.1 dRe_reads_42 (by decide) ?_
    refine bicmp_ge (tgt := 109) S.1 S.2.1 hm dRe_reads_44 (by decide) (fun hm => ?_) (fun hm => ?_)
    · exact wRe_reads_109 S hr hlk N  g u2 _ _ _ hm hw hf (lv_sub hl [0, 1] rfl)
    · refine lv_iload_n S.1 S.2.1 dRe_reads_47 rfl (lv_at hl 1 rfl) ?_
      refine bif_eq (tgt := 109) S.1 S.2.1 hm dRe_reads_48 (by decide) (fun hm => ?_) (fun hm => ?_)
      · exact wRe_reads_109 S hr hlk N  g u2 _ _ _ hm hw hf (lv_sub hl [0, 1] rfl)
      · refine lv_aload_n S.1 S.2.1 dRe_reads_51 rfl (lv_at hl 0 rfl) ?_
        refine get_Re (v := .ref (ξ.2.2.2.1 35)) S hw (is_33 hf) 3 (by decide) rfl wf_Re_20 dRe_reads_52 ?_
        refine lv_iload_n S.1 S.2.1 dRe_reads_55 rfl (lv_at hl 2 rfl) ?_
        refine lv_iconst (v := (1 : Int32)) S.1 S.2.1 dRe_reads_56 (by decide) ?_
        refine lv_iadd S.1 S.2.1 dRe_reads_57 ?_
        refine put_Te S hw hf (is_35 hf) 0 (by decide) ps_Te_0 rfl rfl rfl wf_Re_50 hm dRe_reads_58 (fun g12 H locs hf hm hw => ?_)
        refine lv_aload_n S.1 S.2.1 dRe_reads_61 rfl (lv_at hl 0 rfl) ?_
        refine get_Re (v := .ref (ξ.2.2.2.1 35)) S hw (is_33 hf) 3 (by decide) rfl wf_Re_20 dRe_reads_62 ?_
        refine get_Te (v := .ref (ξ.2.2.2.1 39)) S hw (is_35 hf) 4 (by decide) rfl wf_Re_53 dRe_reads_65 ?_
        refine lv_iload_n S.1 S.2.1 dRe_reads_68 rfl (lv_at hl 2 rfl) ?_
        refine lv_iconst (v := (1 : Int32)) S.1 S.2.1 dRe_reads_69 (by decide) ?_
        refine sx_iast S hw hf (is_39 hf) hm dRe_reads_70 (fun g13 H locs hf hm hw => ?_)
        refine lv_aload_n S.1 S.2.1 dRe_reads_71 rfl (lv_at hl 0 rfl) ?_
        refine get_Re (v := .int (g13.1 33 4)) S hw (is_33 hf) 4 (by decide) rfl wf_Re_31 dRe_reads_72 ?_
        refine bif_eq (tgt := 86) S.1 S.2.1 hm dRe_reads_75 (by decide) (fun hm => ?_) (fun hm => ?_)
        · refine lv_aload_n S.1 S.2.1 dRe_reads_86 rfl (lv_at hl 0 rfl) ?_
          refine lv_iload_n S.1 S.2.1 dRe_reads_87 rfl (lv_at hl 2 rfl) ?_
          obtain ⟨g15, h14, hm⟩ := ob hm
          refine sw_Vv (q := 33) (rest := []) S hw (cRe_readOrder l N hf u3 h14) kRe_readOrder wm_Re_59 (is_33 hf).1 (e_Re (is_33 hf)) rfl rfl rfl rfl hl.1 (Nat.le_of_ble_eq_true rfl) ⟨rfl, rfl, Nat.le_of_ble_eq_true rfl, Nat.le_of_ble_eq_true rfl⟩ ⟨Nat.le_of_ble_eq_true rfl, Nat.le_of_ble_eq_true rfl⟩ dRe_reads_88 (fun H locs hw hf => ?_)
          exact wRe_reads_91 S hr hlk N (fRe_reads_41 N ξ.2.2.1  fu) ih g15 u3 _ _ _ hm hw hf (lv_sub hl [0, 2] rfl)
        · refine lv_aload_n S.1 S.2.1 dRe_reads_78 rfl (lv_at hl 0 rfl) ?_
          refine lv_iload_n S.1 S.2.1 dRe_reads_79 rfl (lv_at hl 2 rfl) ?_
          obtain ⟨g23, h22, hm⟩ := ob hm
          refine sw_Vv (q := 33) (rest := []) S hw (cRe_readRule l N hf u3 h22) kRe_readRule wm_Re_56 (is_33 hf).1 (e_Re (is_33 hf)) rfl rfl rfl rfl hl.1 (Nat.le_of_ble_eq_true rfl) ⟨rfl, rfl, Nat.le_of_ble_eq_true rfl, Nat.le_of_ble_eq_true rfl⟩ ⟨Nat.le_of_ble_eq_true rfl, Nat.le_of_ble_eq_true rfl⟩ dRe_reads_80 (fun H locs hw hf => ?_)
          refine lv_goto (tgt := 91) S.1 S.2.1 dRe_reads_83 (by decide) ?_
          exact wRe_reads_91 S hr hlk N (fRe_reads_41 N ξ.2.2.1  fu) ih g23 u3 _ _ _ hm hw hf (lv_sub hl [0, 2] rfl)
set_option maxHeartbeats 4000000 in
set_option maxRecDepth 100000 in
theorem cRe_reads (l : Launch) (N : Nat) {Γ : sw_C} {A : Nat → Prop} {ξ : sw_x} {g : sw_g} {μ : sw_m} (hf : sw_wf ξ g.2.2) (a1 : Int32) {res : Int32 × sw_g} (hm : fRe_reads N ξ.2.2.1 g a1 = some res) : Met l yRe_reads (Cond.code yRe_reads prog_5_method_3_code 4 (some .boolean) :: sw_tb) rmRe_reads (va_Pc [.ref (ξ.2.2.2.1 33), .int a1] (sw_V Γ A ξ g μ)) (sw_Qi Γ A ξ res.2 μ res.1 (sw_wf ξ res.2.2.2)) 0 0 A := by
  refine Met.ofW (cc := prog_5_method_3_code) (maxL := 4) (ret := some .boolean) (by decide) rfl ?_
  intro p e s m args below meth c s₁ B hml hv
  obtain ⟨rfl, hv⟩ := hv
  have S : CallFix p m c prog_5_method_3_code 4 s _ (Cond.code yRe_reads prog_5_method_3_code 4 (some .boolean) :: sw_tb) R_Re := ⟨B.exec, B.bytes, hml, findClass_of_methodNamed B.named, atoms_spec (ws := (Cond.code yRe_reads prog_5_method_3_code 4 (some .boolean) :: sw_tb)) B.pre⟩
  have hr := B.returns
  have hlk := B.notSynchronized
  have hw := sw_begin hv
  have hl := lv_entry [.ref (ξ.2.2.2.1 33), .int a1] (n := 4) (Nat.le_of_ble_eq_true rfl)
  rw [lg_entry_eq]
  generalize (lg_sl [.ref (ξ.2.2.2.1 33), .int a1] ++ List.replicate (4 - (lg_sl [.ref (ξ.2.2.2.1 33), .int a1]).length) Slot.unset).toArray = ls at hl ⊢
  have hl : lv_has ls 4 [(0, .ref (ξ.2.2.2.1 33)), (1, .int a1)] := hl
  unfold fRe_reads at hm
  refine lv_aload_n S.1 S.2.1 dRe_reads_0 rfl (lv_at hl 0 rfl) ?_
  refine lv_iload_n S.1 S.2.1 dRe_reads_1 rfl (lv_at hl 1 rfl) ?_
  obtain ⟨hz, hm⟩ := ob_tz hm
  refine put_Re S hw hf (is_33 hf) 4 (by decide) ps_Re_4 rfl (tz_narrow hz) (tz_fits hz) wf_Re_31 hm dRe_reads_2 (fun g1 H locs hf hm hw => ?_)
  refine lv_aload_n S.1 S.2.1 dRe_reads_5 rfl (lv_at hl 0 rfl) ?_
  refine lv_iconst (v := (-1 : Int32)) S.1 S.2.1 dRe_reads_6 (by decide) ?_
  refine put_Re S hw hf (is_33 hf) 2 (by decide) ps_Re_2 rfl rfl rfl wf_Re_24 hm dRe_reads_7 (fun g2 H locs hf hm hw => ?_)
  refine lv_aload_n S.1 S.2.1 dRe_reads_10 rfl (lv_at hl 0 rfl) ?_
  refine lv_iconst (v := (0 : Int32)) S.1 S.2.1 dRe_reads_11 (by decide) ?_
  refine put_Re S hw hf (is_33 hf) 6 (by decide) ps_Re_6 rfl rfl rfl wf_Re_35 hm dRe_reads_12 (fun g3 H locs hf hm hw => ?_)
  refine lv_aload_n S.1 S.2.1 dRe_reads_15 rfl (lv_at hl 0 rfl) ?_
  refine lv_iconst (v := (0 : Int32)) S.1 S.2.1 dRe_reads_16 (by decide) ?_
  refine put_Re S hw hf (is_33 hf) 7 (by decide) ps_Re_7 rfl rfl rfl wf_Re_38 hm dRe_reads_17 (fun g4 H locs hf hm hw => ?_)
  refine lv_aload_n S.1 S.2.1 dRe_reads_20 rfl (lv_at hl 0 rfl) ?_
  refine lv_iconst (v := (0 : Int32)) S.1 S.2.1 dRe_reads_21 (by decide) ?_
  refine put_Re S hw hf (is_33 hf) 8 (by decide) ps_Re_8 rfl rfl rfl wf_Re_41 hm dRe_reads_22 (fun g5 H locs hf hm hw => ?_)
  refine lv_aload_n S.1 S.2.1 dRe_reads_25 rfl (lv_at hl 0 rfl) ?_
  refine get_Re (v := .ref (ξ.2.2.2.1 35)) S hw (is_33 hf) 3 (by decide) rfl wf_Re_20 dRe_reads_26 ?_
  refine lv_iconst (v := (0 : Int32)) S.1 S.2.1 dRe_reads_29 (by decide) ?_
  refine put_Te S hw hf (is_35 hf) 6 (by decide) ps_Te_6 rfl rfl rfl wf_Re_44 hm dRe_reads_30 (fun g6 H locs hf hm hw => ?_)
  refine lv_aload_n S.1 S.2.1 dRe_reads_33 rfl (lv_at hl 0 rfl) ?_
  obtain ⟨g8, h7, hm⟩ := ob hm
  refine sw_Vv (q := 33) (rest := []) S hw (cRe_advance l N hf  h7) kRe_advance wm_Re_47 (is_33 hf).1 (e_Re (is_33 hf)) rfl rfl rfl rfl hl.1 (Nat.le_of_ble_eq_true rfl) ⟨rfl, rfl, Nat.le_of_ble_eq_true rfl, Nat.le_of_ble_eq_true rfl⟩ ⟨Nat.le_of_ble_eq_true rfl, Nat.le_of_ble_eq_true rfl⟩ dRe_reads_34 (fun H locs hw hf => ?_)
  refine lv_iconst (v := (1 : Int32)) S.1 S.2.1 dRe_reads_37 (by decide) ?_
  refine lv_istore_n (lv' := [(2, .int (1 : Int32)), (0, .ref (ξ.2.2.2.1 33)), (1, .int a1)]) S.1 S.2.1 dRe_reads_38 rfl hl (by decide) rfl (fun ls hl => ?_)
  refine lv_iconst (v := (0 : Int32)) S.1 S.2.1 dRe_reads_39 (by decide) ?_
  refine lv_istore_n (lv' := [(3, .int (0 : Int32)), (2, .int (1 : Int32)), (0, .ref (ξ.2.2.2.1 33)), (1, .int a1)]) S.1 S.2.1 dRe_reads_40 rfl hl (by decide) rfl (fun ls hl => ?_)
  exact wRe_reads_41 S hr hlk N  N g8 (1 : Int32) (0 : Int32) _ _ _ hm hw hf (lv_sub hl [2, 1, 0] rfl)
set_option maxHeartbeats 4000000 in
set_option maxRecDepth 100000 in
theorem wSx_orders_85 {l : Launch} {p : Program} {e : Env} {s : State} {m : MethodId} {args : Array Value} {below : List Frame} {meth : Method} {c : Code} {Γ : sw_C} {A : Nat → Prop} {ξ : sw_x} {μ : sw_m} {res : Int32 × sw_g} (S : CallFix p m c prog_1_method_12_code 4 s args (Cond.code ySx_orders prog_1_method_12_code 4 (some .int) :: sw_tb) R_Sx) (hr : meth.sig.returnType = some .int) (hlk : meth.locks = false) (N : Nat) (k69 : sw_g → Int32 → Option (Int32 × sw_g)) (hk69 : ∀ (g : sw_g) (u2 : Int32) (H : Heap) (locs : List Loc) (ls : Array Slot), k69 g u2 = some res → sw_S Γ A ξ g μ s H locs → sw_wf ξ g.2.2 → lv_has ls 4 [(0, .ref (ξ.2.2.2.1 0)), (1, .ref (ξ.2.2.2.1 35)), (2, .int u2)] → W p l e (headSpec (Cond.code ySx_orders prog_1_method_12_code 4 (some .int) :: sw_tb) rmSx_orders).room s m args below meth c H locs 0 0 (MQ below (sw_Qi Γ A ξ res.2 μ res.1 (sw_wf ξ res.2.2.2)) args s 0 0 A) (F0 m 69 ls [])) : ∀ (fu : Nat) (g : sw_g) (u2 : Int32) (u3 : Int32) (H : Heap) (locs : List Loc) (ls : Array Slot), fSx_orders_85 N ξ.2.2.1 k69 fu g u2 u3 = some res → sw_S Γ A ξ g μ s H locs → sw_wf ξ g.2.2 → lv_has ls 4 [(0, .ref (ξ.2.2.2.1 0)), (1, .ref (ξ.2.2.2.1 35)), (2, .int u2), (3, .int u3)] → W p l e (headSpec (Cond.code ySx_orders prog_1_method_12_code 4 (some .int) :: sw_tb) rmSx_orders).room s m args below meth c H locs 0 0 (MQ below (sw_Qi Γ A ξ res.2 μ res.1 (sw_wf ξ res.2.2.2)) args s 0 0 A) (F0 m 85 ls []) := by
  intro fu
  induction fu with
  | zero => intro g u2 u3 H locs ls hm; rw [fSx_orders_85.eq_1] at hm; cases hm
  | succ fu ih =>
    intro g u2 u3 H locs ls hm hw hf hl
    rw [fSx_orders_85.eq_2] at hm
    refine lv_iload_n S.1 S.2.1 dSx_orders_85 rfl (lv_at hl 3 rfl) ?_
    refine lv_aload_n S.1 S.2.1 dSx_orders_86 rfl (lv_at hl 1 rfl) ?_
    refine get_Te (v := .ref (ξ.2.2.2.1 39)) S hw (is_35 hf) 4 (by decide) rfl wf_Sx_200 dSx_orders_87 ?_
    refine lv_iload_n S.1 S.2.1 dSx_orders_90 rfl (lv_at hl 2 rfl) ?_
    refine sx_iald S hw (is_39 hf) hm dSx_orders_91 (fun v15 hm => ?_)
    refine bicmp_ge (tgt := 144) S.1 S.2.1 hm dSx_orders_92 (by decide) (fun hm => ?_) (fun hm => ?_)
    · obtain ⟨x16, ex16, hm⟩ := nm_x hm
      refine lv_iinc (v := x16) (lv' := [(2, .int x16), (0, .ref (ξ.2.2.2.1 0)), (1, .ref (ξ.2.2.2.1 35)), (3, .int u3)]) S.1 S.2.1 dSx_orders_144 hl (k := 2) rfl (by rw [ex16]; rfl) (by decide) rfl (fun ls hl => ?_)
      refine lv_goto (tgt := 69) S.1 S.2.1 dSx_orders_147 (by decide) ?_
      exact hk69 g x16 _ _ _ hm hw hf (lv_sub hl [1, 2, 0] rfl)
    · refine lv_aload_n S.1 S.2.1 dSx_orders_95 rfl (lv_at hl 0 rfl) ?_
      refine lv_aload_n S.1 S.2.1 dSx_orders_96 rfl (lv_at hl 1 rfl) ?_
      refine lv_iload_n S.1 S.2.1 dSx_orders_97 rfl (lv_at hl 2 rfl) ?_
      obtain ⟨⟨v19, g18⟩, h17, hm⟩ := ob hm
      refine sw_Vi (q := 0) (rest := []) S hw (cSx_runsOnce l N hf 35 (is_35 hf) u2 h17) kSx_runsOnce wm_Sx_203 (is_0 hf).1 (e_Sx (is_0 hf)) rfl rfl rfl rfl hl.1 (Nat.le_of_ble_eq_true rfl) ⟨rfl, rfl, Nat.le_of_ble_eq_true rfl, Nat.le_of_ble_eq_true rfl⟩ ⟨Nat.le_of_ble_eq_true rfl, Nat.le_of_ble_eq_true rfl⟩ dSx_orders_98 (fun H locs hw hf => ?_)
      refine bif_ne (tgt := 138) S.1 S.2.1 hm dSx_orders_101 (by decide) (fun hm => ?_) (fun hm => ?_)
      · obtain ⟨x20, ex20, hm⟩ := nm_x hm
        refine lv_iinc (v := x20) (lv' := [(3, .int x20), (0, .ref (ξ.2.2.2.1 0)), (1, .ref (ξ.2.2.2.1 35)), (2, .int u2)]) S.1 S.2.1 dSx_orders_138 hl (k := 3) rfl (by rw [ex20]; rfl) (by decide) rfl (fun ls hl => ?_)
        refine lv_goto (tgt := 85) S.1 S.2.1 dSx_orders_141 (by decide) ?_
        exact ih g18 u2 x20 _ _ _ hm hw hf (lv_sub hl [1, 2, 3, 0] rfl)
      · refine lv_aload_n S.1 S.2.1 dSx_orders_104 rfl (lv_at hl 0 rfl) ?_
        refine lv_iload_n S.1 S.2.1 dSx_orders_105 rfl (lv_at hl 2 rfl) ?_
        refine put_Sx S hw hf (is_0 hf) 16 (by decide) ps_Sx_16 rfl rfl rfl wf_Sx_77 hm dSx_orders_106 (fun g21 H locs hf hm hw => ?_)
        refine lv_aload_n S.1 S.2.1 dSx_orders_109 rfl (lv_at hl 0 rfl) ?_
        refine get_Sx (v := .ref (ξ.2.2.2.1 1)) S hw (is_0 hf) 0 (by decide) rfl wf_Sx_12 dSx_orders_110 ?_
        refine lv_aload_n S.1 S.2.1 dSx_orders_113 rfl (lv_at hl 0 rfl) ?_
        refine get_Sx (v := .ref (ξ.2.2.2.1 10)) S hw (is_0 hf) 1 (by decide) rfl wf_Sx_16 dSx_orders_114 ?_
        obtain ⟨g23, h22, hm⟩ := ob hm
        refine sw_Vv (q := 1) (rest := []) S hw (cPl_become l N hf 1 10 (is_1 hf) (is_10 hf) h22) kPl_become wm_Sx_190 (is_1 hf).1 (e_Pl (is_1 hf)) rfl rfl rfl rfl hl.1 (Nat.le_of_ble_eq_true rfl) ⟨rfl, rfl, Nat.le_of_ble_eq_true rfl, Nat.le_of_ble_eq_true rfl⟩ ⟨Nat.le_of_ble_eq_true rfl, Nat.le_of_ble_eq_true rfl⟩ dSx_orders_117 (fun H locs hw hf => ?_)
        refine lv_aload_n S.1 S.2.1 dSx_orders_120 rfl (lv_at hl 0 rfl) ?_
        refine get_Sx (v := .ref (ξ.2.2.2.1 29)) S hw (is_0 hf) 4 (by decide) rfl wf_Sx_29 dSx_orders_121 ?_
        refine lv_aload_n S.1 S.2.1 dSx_orders_124 rfl (lv_at hl 0 rfl) ?_
        refine get_Sx (v := .ref (ξ.2.2.2.1 31)) S hw (is_0 hf) 5 (by decide) rfl wf_Sx_33 dSx_orders_125 ?_
        obtain ⟨g25, h24, hm⟩ := ob hm
        refine sw_Vv (q := 29) (rest := []) S hw (cHi_become l  hf 29 31 (is_29 hf) (is_30 hf) (is_31 hf) (is_32 hf) h24) kHi_become wm_Sx_194 (is_29 hf).1 (e_Hi (is_29 hf)) rfl rfl rfl rfl hl.1 (Nat.le_of_ble_eq_true rfl) ⟨rfl, rfl, Nat.le_of_ble_eq_true rfl, Nat.le_of_ble_eq_true rfl⟩ ⟨Nat.le_of_ble_eq_true rfl, Nat.le_of_ble_eq_true rfl⟩ dSx_orders_128 (fun H locs hw hf => ?_)
        refine lv_aload_n S.1 S.2.1 dSx_orders_131 rfl (lv_at hl 0 rfl) ?_
        refine lv_bipush (v := (-3 : Int32)) S.1 S.2.1 dSx_orders_132 (by decide) ?_
        obtain ⟨⟨v28, g27⟩, h26, hm⟩ := ob hm
        refine sw_Vi (q := 0) (rest := []) S hw (cSx_refuse l N hf (-3 : Int32) h26) kSx_refuse wm_Sx_85 (is_0 hf).1 (e_Sx (is_0 hf)) rfl rfl rfl rfl hl.1 (Nat.le_of_ble_eq_true rfl) ⟨rfl, rfl, Nat.le_of_ble_eq_true rfl, Nat.le_of_ble_eq_true rfl⟩ ⟨Nat.le_of_ble_eq_true rfl, Nat.le_of_ble_eq_true rfl⟩ dSx_orders_134 (fun H locs hw hf => ?_)
        obtain rfl := Option.some.inj hm
        exact sw_iret S hr hlk hw hf dSx_orders_137
set_option maxHeartbeats 4000000 in
set_option maxRecDepth 100000 in
theorem wSx_orders_150 {l : Launch} {p : Program} {e : Env} {s : State} {m : MethodId} {args : Array Value} {below : List Frame} {meth : Method} {c : Code} {Γ : sw_C} {A : Nat → Prop} {ξ : sw_x} {μ : sw_m} {res : Int32 × sw_g} (S : CallFix p m c prog_1_method_12_code 4 s args (Cond.code ySx_orders prog_1_method_12_code 4 (some .int) :: sw_tb) R_Sx) (hr : meth.sig.returnType = some .int) (hlk : meth.locks = false) (N : Nat) : ∀ (g : sw_g)  (H : Heap) (locs : List Loc) (ls : Array Slot), fSx_orders_150 N ξ.2.2.1  g = some res → sw_S Γ A ξ g μ s H locs → sw_wf ξ g.2.2 → lv_has ls 4 [(0, .ref (ξ.2.2.2.1 0))] → W p l e (headSpec (Cond.code ySx_orders prog_1_method_12_code 4 (some .int) :: sw_tb) rmSx_orders).room s m args below meth c H locs 0 0 (MQ below (sw_Qi Γ A ξ res.2 μ res.1 (sw_wf ξ res.2.2.2)) args s 0 0 A) (F0 m 150 ls []) := by
  intro g H locs ls hm hw hf hl
  unfold fSx_orders_150 at hm
  refine lv_aload_n S.1 S.2.1 dSx_orders_150 rfl (lv_at hl 0 rfl) ?_
  refine lv_aload_n S.1 S.2.1 dSx_orders_151 rfl (lv_at hl 0 rfl) ?_
  refine get_Sx (v := .ref (ξ.2.2.2.1 48)) S hw (is_0 hf) 9 (by decide) rfl wf_Sx_57 dSx_orders_152 ?_
  refine lv_iconst (v := (1 : Int32)) S.1 S.2.1 dSx_orders_155 (by decide) ?_
  refine sx_iald S hw (is_48 hf) hm dSx_orders_156 (fun v11 hm => ?_)
  obtain ⟨⟨v14, g13⟩, h12, hm⟩ := ob hm
  refine sw_Vi (q := 0) (rest := []) S hw (cSx_told l  hf v11 h12) kSx_told wm_Sx_99 (is_0 hf).1 (e_Sx (is_0 hf)) rfl rfl rfl rfl hl.1 (Nat.le_of_ble_eq_true rfl) ⟨rfl, rfl, Nat.le_of_ble_eq_true rfl, Nat.le_of_ble_eq_true rfl⟩ ⟨Nat.le_of_ble_eq_true rfl, Nat.le_of_ble_eq_true rfl⟩ dSx_orders_157 (fun H locs hw hf => ?_)
  obtain rfl := Option.some.inj hm
  exact sw_iret S hr hlk hw hf dSx_orders_160
set_option maxHeartbeats 4000000 in
set_option maxRecDepth 100000 in
theorem wSx_orders_69 {l : Launch} {p : Program} {e : Env} {s : State} {m : MethodId} {args : Array Value} {below : List Frame} {meth : Method} {c : Code} {Γ : sw_C} {A : Nat → Prop} {ξ : sw_x} {μ : sw_m} {res : Int32 × sw_g} (S : CallFix p m c prog_1_method_12_code 4 s args (Cond.code ySx_orders prog_1_method_12_code 4 (some .int) :: sw_tb) R_Sx) (hr : meth.sig.returnType = some .int) (hlk : meth.locks = false) (N : Nat) : ∀ (fu : Nat) (g : sw_g) (u2 : Int32) (H : Heap) (locs : List Loc) (ls : Array Slot), fSx_orders_69 N ξ.2.2.1  fu g u2 = some res → sw_S Γ A ξ g μ s H locs → sw_wf ξ g.2.2 → lv_has ls 4 [(0, .ref (ξ.2.2.2.1 0)), (1, .ref (ξ.2.2.2.1 35)), (2, .int u2)] → W p l e (headSpec (Cond.code ySx_orders prog_1_method_12_code 4 (some .int) :: sw_tb) rmSx_orders).room s m args below meth c H locs 0 0 (MQ below (sw_Qi Γ A ξ res.2 μ res.1 (sw_wf ξ res.2.2.2)) args s 0 0 A) (F0 m 69 ls []) := by
  intro fu
  induction fu with
  | zero => intro g u2 H locs ls hm; rw [fSx_orders_69.eq_1] at hm; cases hm
  | succ fu ih =>
    intro g u2 H locs ls hm hw hf hl
    rw [fSx_orders_69.eq_2] at hm
    refine lv_iload_n S.1 S.2.1 dSx_orders_69 rfl (lv_at hl 2 rfl) ?_
    refine lv_aload_n S.1 S.2.1 dSx_orders_70 rfl (lv_at hl 1 rfl) ?_
    refine get_Te (v := .int (g.1 35 0)) S hw (is_35 hf) 0 (by decide) rfl wf_Sx_197 dSx_orders_71 ?_
    refine bicmp_ge (tgt := 150) S.1 S.2.1 hm dSx_orders_74 (by decide) (fun hm => ?_) (fun hm => ?_)
    · exact wSx_orders_150 S hr hlk N  g _ _ _ hm hw hf (lv_sub hl [0] rfl)
    · refine lv_iload_n S.1 S.2.1 dSx_orders_77 rfl (lv_at hl 2 rfl) ?_
      refine lv_bipush (v := (12 : Int32)) S.1 S.2.1 dSx_orders_78 (by decide) ?_
      refine bicmp_ge (tgt := 150) S.1 S.2.1 hm dSx_orders_80 (by decide) (fun hm => ?_) (fun hm => ?_)
      · exact wSx_orders_150 S hr hlk N  g _ _ _ hm hw hf (lv_sub hl [0] rfl)
      · refine lv_iconst (v := (0 : Int32)) S.1 S.2.1 dSx_orders_83 (by decide) ?_
        refine lv_istore_n (lv' := [(3, .int (0 : Int32)), (0, .ref (ξ.2.2.2.1 0)), (1, .ref (ξ.2.2.2.1 35)), (2, .int u2)]) S.1 S.2.1 dSx_orders_84 rfl hl (by decide) rfl (fun ls hl => ?_)
        exact wSx_orders_85 S hr hlk N (fSx_orders_69 N ξ.2.2.1  fu) ih N g u2 (0 : Int32) _ _ _ hm hw hf (lv_sub hl [1, 2, 3, 0] rfl)
set_option maxHeartbeats 4000000 in
set_option maxRecDepth 100000 in
theorem cSx_orders (l : Launch) (N : Nat) {Γ : sw_C} {A : Nat → Prop} {ξ : sw_x} {g : sw_g} {μ : sw_m} (hf : sw_wf ξ g.2.2) {res : Int32 × sw_g} (hm : fSx_orders N ξ.2.2.1 g = some res) : Met l ySx_orders (Cond.code ySx_orders prog_1_method_12_code 4 (some .int) :: sw_tb) rmSx_orders (va_Pc [.ref (ξ.2.2.2.1 0)] (sw_V Γ A ξ g μ)) (sw_Qi Γ A ξ res.2 μ res.1 (sw_wf ξ res.2.2.2)) 0 0 A := by
  refine Met.ofW (cc := prog_1_method_12_code) (maxL := 4) (ret := some .int) (by decide) rfl ?_
  intro p e s m args below meth c s₁ B hml hv
  obtain ⟨rfl, hv⟩ := hv
  have S : CallFix p m c prog_1_method_12_code 4 s _ (Cond.code ySx_orders prog_1_method_12_code 4 (some .int) :: sw_tb) R_Sx := ⟨B.exec, B.bytes, hml, findClass_of_methodNamed B.named, atoms_spec (ws := (Cond.code ySx_orders prog_1_method_12_code 4 (some .int) :: sw_tb)) B.pre⟩
  have hr := B.returns
  have hlk := B.notSynchronized
  have hw := sw_begin hv
  have hl := lv_entry [.ref (ξ.2.2.2.1 0)] (n := 4) (Nat.le_of_ble_eq_true rfl)
  rw [lg_entry_eq]
  generalize (lg_sl [.ref (ξ.2.2.2.1 0)] ++ List.replicate (4 - (lg_sl [.ref (ξ.2.2.2.1 0)]).length) Slot.unset).toArray = ls at hl ⊢
  have hl : lv_has ls 4 [(0, .ref (ξ.2.2.2.1 0))] := hl
  unfold fSx_orders at hm
  refine lv_aload_n S.1 S.2.1 dSx_orders_0 rfl (lv_at hl 0 rfl) ?_
  refine lv_iconst (v := (-1 : Int32)) S.1 S.2.1 dSx_orders_1 (by decide) ?_
  refine put_Sx S hw hf (is_0 hf) 16 (by decide) ps_Sx_16 rfl rfl rfl wf_Sx_77 hm dSx_orders_2 (fun g1 H locs hf hm hw => ?_)
  refine lv_aload_n S.1 S.2.1 dSx_orders_5 rfl (lv_at hl 0 rfl) ?_
  refine get_Sx (v := .ref (ξ.2.2.2.1 33)) S hw (is_0 hf) 6 (by decide) rfl wf_Sx_39 dSx_orders_6 ?_
  refine lv_iconst (v := (0 : Int32)) S.1 S.2.1 dSx_orders_9 (by decide) ?_
  obtain ⟨⟨v4, g3⟩, h2, hm⟩ := ob hm
  refine sw_Vi (q := 33) (rest := []) S hw (cRe_reads l N hf (0 : Int32) h2) kRe_reads wm_Sx_172 (is_33 hf).1 (e_Re (is_33 hf)) rfl rfl rfl rfl hl.1 (Nat.le_of_ble_eq_true rfl) ⟨rfl, rfl, Nat.le_of_ble_eq_true rfl, Nat.le_of_ble_eq_true rfl⟩ ⟨Nat.le_of_ble_eq_true rfl, Nat.le_of_ble_eq_true rfl⟩ dSx_orders_10 (fun H locs hw hf => ?_)
  refine bif_ne (tgt := 23) S.1 S.2.1 hm dSx_orders_13 (by decide) (fun hm => ?_) (fun hm => ?_)
  · refine lv_aload_n S.1 S.2.1 dSx_orders_23 rfl (lv_at hl 0 rfl) ?_
    refine get_Sx (v := .ref (ξ.2.2.2.1 10)) S hw (is_0 hf) 1 (by decide) rfl wf_Sx_16 dSx_orders_24 ?_
    refine lv_aload_n S.1 S.2.1 dSx_orders_27 rfl (lv_at hl 0 rfl) ?_
    refine get_Sx (v := .ref (ξ.2.2.2.1 1)) S hw (is_0 hf) 0 (by decide) rfl wf_Sx_12 dSx_orders_28 ?_
    obtain ⟨g6, h5, hm⟩ := ob hm
    refine sw_Vv (q := 10) (rest := []) S hw (cPl_become l N hf 10 1 (is_10 hf) (is_1 hf) h5) kPl_become wm_Sx_190 (is_10 hf).1 (e_Pl (is_10 hf)) rfl rfl rfl rfl hl.1 (Nat.le_of_ble_eq_true rfl) ⟨rfl, rfl, Nat.le_of_ble_eq_true rfl, Nat.le_of_ble_eq_true rfl⟩ ⟨Nat.le_of_ble_eq_true rfl, Nat.le_of_ble_eq_true rfl⟩ dSx_orders_31 (fun H locs hw hf => ?_)
    refine lv_aload_n S.1 S.2.1 dSx_orders_34 rfl (lv_at hl 0 rfl) ?_
    refine get_Sx (v := .ref (ξ.2.2.2.1 31)) S hw (is_0 hf) 5 (by decide) rfl wf_Sx_33 dSx_orders_35 ?_
    refine lv_aload_n S.1 S.2.1 dSx_orders_38 rfl (lv_at hl 0 rfl) ?_
    refine get_Sx (v := .ref (ξ.2.2.2.1 29)) S hw (is_0 hf) 4 (by decide) rfl wf_Sx_29 dSx_orders_39 ?_
    obtain ⟨g8, h7, hm⟩ := ob hm
    refine sw_Vv (q := 31) (rest := []) S hw (cHi_become l  hf 31 29 (is_31 hf) (is_32 hf) (is_29 hf) (is_30 hf) h7) kHi_become wm_Sx_194 (is_31 hf).1 (e_Hi (is_31 hf)) rfl rfl rfl rfl hl.1 (Nat.le_of_ble_eq_true rfl) ⟨rfl, rfl, Nat.le_of_ble_eq_true rfl, Nat.le_of_ble_eq_true rfl⟩ ⟨Nat.le_of_ble_eq_true rfl, Nat.le_of_ble_eq_true rfl⟩ dSx_orders_42 (fun H locs hw hf => ?_)
    refine lv_aload_n S.1 S.2.1 dSx_orders_45 rfl (lv_at hl 0 rfl) ?_
    refine get_Sx (v := .ref (ξ.2.2.2.1 48)) S hw (is_0 hf) 9 (by decide) rfl wf_Sx_57 dSx_orders_46 ?_
    refine lv_iconst (v := (1 : Int32)) S.1 S.2.1 dSx_orders_49 (by decide) ?_
    refine lv_iconst (v := (0 : Int32)) S.1 S.2.1 dSx_orders_50 (by decide) ?_
    refine sx_iast S hw hf (is_48 hf) hm dSx_orders_51 (fun g9 H locs hf hm hw => ?_)
    refine lv_aload_n S.1 S.2.1 dSx_orders_52 rfl (lv_at hl 0 rfl) ?_
    refine get_Sx (v := .ref (ξ.2.2.2.1 48)) S hw (is_0 hf) 9 (by decide) rfl wf_Sx_57 dSx_orders_53 ?_
    refine lv_iconst (v := (2 : Int32)) S.1 S.2.1 dSx_orders_56 (by decide) ?_
    refine lv_iconst (v := (-1 : Int32)) S.1 S.2.1 dSx_orders_57 (by decide) ?_
    refine sx_iast S hw hf (is_48 hf) hm dSx_orders_58 (fun g10 H locs hf hm hw => ?_)
    refine lv_aload_n S.1 S.2.1 dSx_orders_59 rfl (lv_at hl 0 rfl) ?_
    refine get_Sx (v := .ref (ξ.2.2.2.1 33)) S hw (is_0 hf) 6 (by decide) rfl wf_Sx_39 dSx_orders_60 ?_
    refine get_Re (v := .ref (ξ.2.2.2.1 35)) S hw (is_33 hf) 3 (by decide) rfl wf_Sx_176 dSx_orders_63 ?_
    refine lv_astore_n (lv' := [(1, .ref (ξ.2.2.2.1 35)), (0, .ref (ξ.2.2.2.1 0))]) S.1 S.2.1 dSx_orders_66 rfl hl (by decide) rfl (fun ls hl => ?_)
    refine lv_iconst (v := (0 : Int32)) S.1 S.2.1 dSx_orders_67 (by decide) ?_
    refine lv_istore_n (lv' := [(2, .int (0 : Int32)), (1, .ref (ξ.2.2.2.1 35)), (0, .ref (ξ.2.2.2.1 0))]) S.1 S.2.1 dSx_orders_68 rfl hl (by decide) rfl (fun ls hl => ?_)
    exact wSx_orders_69 S hr hlk N  N g10 (0 : Int32) _ _ _ hm hw hf (lv_sub hl [2, 1, 0] rfl)
  · refine lv_aload_n S.1 S.2.1 dSx_orders_16 rfl (lv_at hl 0 rfl) ?_
    refine lv_bipush (v := (-6 : Int32)) S.1 S.2.1 dSx_orders_17 (by decide) ?_
    obtain ⟨⟨v31, g30⟩, h29, hm⟩ := ob hm
    refine sw_Vi (q := 0) (rest := []) S hw (cSx_refuse l N hf (-6 : Int32) h29) kSx_refuse wm_Sx_85 (is_0 hf).1 (e_Sx (is_0 hf)) rfl rfl rfl rfl hl.1 (Nat.le_of_ble_eq_true rfl) ⟨rfl, rfl, Nat.le_of_ble_eq_true rfl, Nat.le_of_ble_eq_true rfl⟩ ⟨Nat.le_of_ble_eq_true rfl, Nat.le_of_ble_eq_true rfl⟩ dSx_orders_19 (fun H locs hw hf => ?_)
    obtain rfl := Option.some.inj hm
    exact sw_iret S hr hlk hw hf dSx_orders_22
