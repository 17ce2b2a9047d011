set_option maxHeartbeats 4000000 in
set_option maxRecDepth 100000 in
theorem wJu_passDay_14n {l : Launch} {p : Program} {e : Env} {s : State} {m : MethodId} {args : Array Value} {below : List Frame} {meth : Method} {c : Code} {Γ : sw_C} {A : Nat → Prop} {ξ : sw_x} {μ : sw_m} {res : Int32 × sw_g} (S : CallFix p m c prog_3_method_6_code 6 s args (Cond.code yJu_passDay prog_3_method_6_code 6 (some .int) :: sw_tb) R_Ju) (hr : meth.sig.returnType = some .int) (hlk : meth.locks = false) (q1 : Nat) (hq1 : sw_ik ξ q1 3) (N : Nat) : ∀ (fu : Nat) (g : sw_g) (u3 : Int32) (u4 : Int32) (H : Heap) (locs : List Loc) (ls : Array Slot), fJu_passDay_14n N ξ.2.2.1 q1  fu g u3 u4 = some res → sw_S Γ A ξ g μ s H locs → sw_wf ξ g.2.2 → lv_has ls 6 [(0, .ref (ξ.2.2.2.1 42)), (1, .ref (ξ.2.2.2.1 q1)), (2, .null), (3, .int u3), (4, .int u4)] → W p l e (headSpec (Cond.code yJu_passDay prog_3_method_6_code 6 (some .int) :: sw_tb) rmJu_passDay).room s m args below meth c H locs 0 0 (MQ below (sw_Qi Γ A ξ res.2 μ res.1 (sw_wf ξ res.2.2.2)) args s 0 0 A) (F0 m 14 ls []) := by
  intro fu
  induction fu with
  | zero => intro g u3 u4 H locs ls hm; rw [fJu_passDay_14n.eq_1] at hm; cases hm
  | succ fu ih =>
    intro g u3 u4 H locs ls hm hw hf hl
    rw [fJu_passDay_14n.eq_2] at hm
    refine lv_iload S.1 S.2.1 dJu_passDay_14 (lv_at hl 4 rfl) ?_
    refine lv_bipush (v := (7 : Int32)) S.1 S.2.1 dJu_passDay_16 (by decide) ?_
    refine bicmp_ge (tgt := 97) S.1 S.2.1 hm dJu_passDay_18 (by decide) (fun hm => ?_) (fun hm => ?_)
    · refine lv_aload_n S.1 S.2.1 dJu_passDay_97 rfl (lv_at hl 1 rfl) ?_
      refine get_Pl (v := .ref (ξ.2.2.2.1 (q1 + 4))) S hw hq1 4 (by decide) rfl wf_Ju_68 dJu_passDay_98 ?_
      refine lv_iconst (v := (0 : Int32)) S.1 S.2.1 dJu_passDay_101 (by decide) ?_
      refine lv_dup2_11 S.1 S.2.1 dJu_passDay_102 rfl rfl ?_
      refine sx_iald S hw (is_Pl_term hf hq1) hm dJu_passDay_103 (fun v5 hm => ?_)
      refine lv_iconst (v := (1 : Int32)) S.1 S.2.1 dJu_passDay_104 (by decide) ?_
      refine lv_iadd S.1 S.2.1 dJu_passDay_105 ?_
      refine sx_iast S hw hf (is_Pl_term hf hq1) hm dJu_passDay_106 (fun g6 H locs hf hm hw => ?_)
      refine lv_iload_n S.1 S.2.1 dJu_passDay_107 rfl (lv_at hl 3 rfl) ?_
      obtain rfl := Option.some.inj hm
      exact sw_iret S hr hlk hw hf dJu_passDay_108
    · refine lv_aload_n S.1 S.2.1 dJu_passDay_21 rfl (lv_at hl 1 rfl) ?_
      refine lv_iload S.1 S.2.1 dJu_passDay_22 (lv_at hl 4 rfl) ?_
      obtain ⟨⟨v9, g8⟩, h7, hm⟩ := ob hm
      refine sw_Vi (q := q1) (rest := []) S hw (cPl_isOn l  hf q1 hq1 u4 h7) kPl_isOn wm_Ju_55 hq1.1 (e_Pl hq1) rfl rfl rfl rfl hl.1 (Nat.le_of_ble_eq_true rfl) ⟨rfl, rfl, Nat.le_of_ble_eq_true rfl, Nat.le_of_ble_eq_true rfl⟩ ⟨Nat.le_of_ble_eq_true rfl, Nat.le_of_ble_eq_true rfl⟩ dJu_passDay_24 (fun H locs hw hf => ?_)
      refine bif_eq (tgt := 91) S.1 S.2.1 hm dJu_passDay_27 (by decide) (fun hm => ?_) (fun hm => ?_)
      · obtain ⟨x10, ex10, hm⟩ := nm_x hm
        refine lv_iinc (v := x10) (lv' := [(4, .int x10), (0, .ref (ξ.2.2.2.1 42)), (1, .ref (ξ.2.2.2.1 q1)), (2, .null), (3, .int u3)]) S.1 S.2.1 dJu_passDay_91 hl (k := 4) rfl (by rw [ex10]; rfl) (by decide) rfl (fun ls hl => ?_)
        refine lv_goto (tgt := 14) S.1 S.2.1 dJu_passDay_94 (by decide) ?_
        exact ih g8 u3 x10 _ _ _ hm hw hf (lv_sub hl [1, 2, 3, 4, 0] rfl)
      · refine lv_aload_n S.1 S.2.1 dJu_passDay_30 rfl (lv_at hl 0 rfl) ?_
        refine lv_aload_n S.1 S.2.1 dJu_passDay_31 rfl (lv_at hl 1 rfl) ?_
        refine lv_iload S.1 S.2.1 dJu_passDay_32 (lv_at hl 4 rfl) ?_
        refine lv_aload_n S.1 S.2.1 dJu_passDay_34 rfl (lv_at hl 1 rfl) ?_
        refine get_Pl (v := .ref (ξ.2.2.2.1 (q1 + 3))) S hw hq1 3 (by decide) rfl wf_Ju_59 dJu_passDay_35 ?_
        refine lv_iload S.1 S.2.1 dJu_passDay_38 (lv_at hl 4 rfl) ?_
        refine sx_iald S hw (is_Pl_place hf hq1) hm dJu_passDay_40 (fun v11 hm => ?_)
        obtain ⟨g13, h12, hm⟩ := ob hm
        refine sw_Vv (q := 42) (rest := []) S hw (cJu_ask l  hf q1 hq1 u4 v11 h12) kJu_ask wm_Ju_22 (is_42 hf).1 (e_Ju (is_42 hf)) rfl rfl rfl rfl hl.1 (Nat.le_of_ble_eq_true rfl) ⟨rfl, rfl, Nat.le_of_ble_eq_true rfl, Nat.le_of_ble_eq_true rfl⟩ ⟨Nat.le_of_ble_eq_true rfl, Nat.le_of_ble_eq_true rfl⟩ dJu_passDay_41 (fun H locs hw hf => ?_)
        refine lv_iconst (v := (1 : Int32)) S.1 S.2.1 dJu_passDay_44 (by decide) ?_
        refine lv_aload_n S.1 S.2.1 dJu_passDay_45 rfl (lv_at hl 1 rfl) ?_
        refine get_Pl (v := .ref (ξ.2.2.2.1 (q1 + 1))) S hw hq1 1 (by decide) rfl wf_Ju_36 dJu_passDay_46 ?_
        refine lv_iload S.1 S.2.1 dJu_passDay_49 (lv_at hl 4 rfl) ?_
        refine sx_iald S hw (is_Pl_heavy hf hq1) hm dJu_passDay_51 (fun v14 hm => ?_)
        refine lv_aload_n S.1 S.2.1 dJu_passDay_52 rfl (lv_at hl 0 rfl) ?_
        refine lv_aload_nN S.1 S.2.1 dJu_passDay_53 rfl (lv_at hl 2 rfl) ?_
        refine lv_iconst (v := (1 : Int32)) S.1 S.2.1 dJu_passDay_54 (by decide) ?_
        refine lv_bipush (v := (9 : Int32)) S.1 S.2.1 dJu_passDay_55 (by decide) ?_
        refine lv_iconst (v := (0 : Int32)) S.1 S.2.1 dJu_passDay_57 (by decide) ?_
        obtain ⟨⟨v17, g16⟩, h15, hm⟩ := ob hm
        refine sw_Vi (q := 42) (rest := [.int v14, .int (1 : Int32)]) S hw (cJu_lastTold l N hf none (fun _ h => by cases h) (1 : Int32) (9 : Int32) (0 : Int32) h15) kJu_lastTold wm_Ju_39 (is_42 hf).1 (e_Ju (is_42 hf)) rfl rfl rfl rfl hl.1 (Nat.le_of_ble_eq_true rfl) ⟨rfl, rfl, Nat.le_of_ble_eq_true rfl, Nat.le_of_ble_eq_true rfl⟩ ⟨Nat.le_of_ble_eq_true rfl, Nat.le_of_ble_eq_true rfl⟩ dJu_passDay_58 (fun H locs hw hf => ?_)
        refine lv_isub S.1 S.2.1 dJu_passDay_61 ?_
        refine sw_max (rest := []) S hl.1 wm_Ju_62 (Nat.le_of_ble_eq_true rfl) (Nat.le_of_ble_eq_true rfl) (Nat.le_of_ble_eq_true rfl) (Nat.le_of_ble_eq_true rfl) dJu_passDay_62 ?_
        refine nm_i hm (fun x18 hm => ?_)
        refine lv_istore (lv' := [(5, .int x18), (0, .ref (ξ.2.2.2.1 42)), (1, .ref (ξ.2.2.2.1 q1)), (2, .null), (3, .int u3), (4, .int u4)]) S.1 S.2.1 dJu_passDay_65 hl (by decide) rfl (fun ls hl => ?_)
        refine lv_iload S.1 S.2.1 dJu_passDay_67 (lv_at hl 0 rfl) ?_
        refine lv_aload_n S.1 S.2.1 dJu_passDay_69 rfl (lv_at hl 2 rfl) ?_
        refine get_Pl (v := .ref (ξ.2.2.2.1 (q1 + 1))) S hw hq1 1 (by decide) rfl wf_Ju_36 dJu_passDay_70 ?_
        refine lv_iload S.1 S.2.1 dJu_passDay_73 (lv_at hl 5 rfl) ?_
        refine sx_iald S hw (is_Pl_heavy hf hq1) hm dJu_passDay_75 (fun v19 hm => ?_)
        refine bicmp_ge (tgt := 91) S.1 S.2.1 hm dJu_passDay_76 (by decide) (fun hm => ?_) (fun hm => ?_)
        · obtain ⟨x20, ex20, hm⟩ := nm_x hm
          refine lv_iinc (v := x20) (lv' := [(4, .int x20), (5, .int x18), (0, .ref (ξ.2.2.2.1 42)), (1, .ref (ξ.2.2.2.1 q1)), (2, .null), (3, .int u3)]) S.1 S.2.1 dJu_passDay_91 hl (k := 5) rfl (by rw [ex20]; rfl) (by decide) rfl (fun ls hl => ?_)
          refine lv_goto (tgt := 14) S.1 S.2.1 dJu_passDay_94 (by decide) ?_
          exact ih g16 u3 x20 _ _ _ hm hw hf (lv_sub hl [2, 3, 4, 5, 0] rfl)
        · refine lv_aload_n S.1 S.2.1 dJu_passDay_79 rfl (lv_at hl 2 rfl) ?_
          refine get_Pl (v := .ref (ξ.2.2.2.1 (q1 + 1))) S hw hq1 1 (by decide) rfl wf_Ju_36 dJu_passDay_80 ?_
          refine lv_iload S.1 S.2.1 dJu_passDay_83 (lv_at hl 5 rfl) ?_
          refine lv_iload S.1 S.2.1 dJu_passDay_85 (lv_at hl 0 rfl) ?_
          refine sx_iast S hw hf (is_Pl_heavy hf hq1) hm dJu_passDay_87 (fun g21 H locs hf hm hw => ?_)
          obtain ⟨x22, ex22, hm⟩ := nm_x hm
          refine lv_iinc (v := x22) (lv' := [(3, .int x22), (5, .int x18), (0, .ref (ξ.2.2.2.1 42)), (1, .ref (ξ.2.2.2.1 q1)), (2, .null), (4, .int u4)]) S.1 S.2.1 dJu_passDay_88 hl (k := 4) rfl (by rw [ex22]; rfl) (by decide) rfl (fun ls hl => ?_)
          obtain ⟨x23, ex23, hm⟩ := nm_x hm
          refine lv_iinc (v := x23) (lv' := [(4, .int x23), (3, .int x22), (5, .int x18), (0, .ref (ξ.2.2.2.1 42)), (1, .ref (ξ.2.2.2.1 q1)), (2, .null)]) S.1 S.2.1 dJu_passDay_91 hl (k := 5) rfl (by rw [ex23]; rfl) (by decide) rfl (fun ls hl => ?_)
          refine lv_goto (tgt := 14) S.1 S.2.1 dJu_passDay_94 (by decide) ?_
          exact ih g21 x22 x23 _ _ _ hm hw hf (lv_sub hl [3, 4, 5, 1, 0] rfl)
set_option maxHeartbeats 4000000 in
set_option maxRecDepth 100000 in
theorem wJu_passDay_14 {l : Launch} {p : Program} {e : Env} {s : State} {m : MethodId} {args : Array Value} {below : List Frame} {meth : Method} {c : Code} {Γ : sw_C} {A : Nat → Prop} {ξ : sw_x} {μ : sw_m} {res : Int32 × sw_g} (S : CallFix p m c prog_3_method_6_code 6 s args (Cond.code yJu_passDay prog_3_method_6_code 6 (some .int) :: sw_tb) R_Ju) (hr : meth.sig.returnType = some .int) (hlk : meth.locks = false) (q1 : Nat) (hq1 : sw_ik ξ q1 3) (N : Nat) : ∀ (fu : Nat) (g : sw_g) (u2 : Nat) (u3 : Int32) (u4 : Int32) (H : Heap) (locs : List Loc) (ls : Array Slot), fJu_passDay_14 N ξ.2.2.1 q1  fu g u2 u3 u4 = some res → sw_S Γ A ξ g μ s H locs → sw_wf ξ g.2.2 → sw_ik ξ u2 7 → lv_has ls 6 [(0, .ref (ξ.2.2.2.1 42)), (1, .ref (ξ.2.2.2.1 q1)), (2, .ref (ξ.2.2.2.1 u2)), (3, .int u3), (4, .int u4)] → W p l e (headSpec (Cond.code yJu_passDay prog_3_method_6_code 6 (some .int) :: sw_tb) rmJu_passDay).room s m args below meth c H locs 0 0 (MQ below (sw_Qi Γ A ξ res.2 μ res.1 (sw_wf ξ res.2.2.2)) args s 0 0 A) (F0 m 14 ls []) := by
  intro fu
  induction fu with
  | zero => intro g u2 u3 u4 H locs ls hm; rw [fJu_passDay_14.eq_1] at hm; cases hm
  | succ fu ih =>
    intro g u2 u3 u4 H locs ls hm hw hf hu2 hl
    rw [fJu_passDay_14.eq_2] at hm
    refine lv_iload S.1 S.2.1 dJu_passDay_14 (lv_at hl 4 rfl) ?_
    refine lv_bipush (v := (7 : Int32)) S.1 S.2.1 dJu_passDay_16 (by decide) ?_
    refine bicmp_ge (tgt := 97) S.1 S.2.1 hm dJu_passDay_18 (by decide) (fun hm => ?_) (fun hm => ?_)
    · refine lv_aload_n S.1 S.2.1 dJu_passDay_97 rfl (lv_at hl 1 rfl) ?_
      refine get_Pl (v := .ref (ξ.2.2.2.1 (q1 + 4))) S hw hq1 4 (by decide) rfl wf_Ju_68 dJu_passDay_98 ?_
      refine lv_iconst (v := (0 : Int32)) S.1 S.2.1 dJu_passDay_101 (by decide) ?_
      refine lv_dup2_11 S.1 S.2.1 dJu_passDay_102 rfl rfl ?_
      refine sx_iald S hw (is_Pl_term hf hq1) hm dJu_passDay_103 (fun v24 hm => ?_)
      refine lv_iconst (v := (1 : Int32)) S.1 S.2.1 dJu_passDay_104 (by decide) ?_
      refine lv_iadd S.1 S.2.1 dJu_passDay_105 ?_
      refine sx_iast S hw hf (is_Pl_term hf hq1) hm dJu_passDay_106 (fun g25 H locs hf hm hw => ?_)
      refine lv_iload_n S.1 S.2.1 dJu_passDay_107 rfl (lv_at hl 3 rfl) ?_
      obtain rfl := Option.some.inj hm
      exact sw_iret S hr hlk hw hf dJu_passDay_108
    · refine lv_aload_n S.1 S.2.1 dJu_passDay_21 rfl (lv_at hl 1 rfl) ?_
      refine lv_iload S.1 S.2.1 dJu_passDay_22 (lv_at hl 4 rfl) ?_
      obtain ⟨⟨v28, g27⟩, h26, hm⟩ := ob hm
      refine sw_Vi (q := q1) (rest := []) S hw (cPl_isOn l  hf q1 hq1 u4 h26) kPl_isOn wm_Ju_55 hq1.1 (e_Pl hq1) rfl rfl rfl rfl hl.1 (Nat.le_of_ble_eq_true rfl) ⟨rfl, rfl, Nat.le_of_ble_eq_true rfl, Nat.le_of_ble_eq_true rfl⟩ ⟨Nat.le_of_ble_eq_true rfl, Nat.le_of_ble_eq_true rfl⟩ dJu_passDay_24 (fun H locs hw hf => ?_)
      refine bif_eq (tgt := 91) S.1 S.2.1 hm dJu_passDay_27 (by decide) (fun hm => ?_) (fun hm => ?_)
      · obtain ⟨x29, ex29, hm⟩ := nm_x hm
        refine lv_iinc (v := x29) (lv' := [(4, .int x29), (0, .ref (ξ.2.2.2.1 42)), (1, .ref (ξ.2.2.2.1 q1)), (2, .ref (ξ.2.2.2.1 u2)), (3, .int u3)]) S.1 S.2.1 dJu_passDay_91 hl (k := 4) rfl (by rw [ex29]; rfl) (by decide) rfl (fun ls hl => ?_)
        refine lv_goto (tgt := 14) S.1 S.2.1 dJu_passDay_94 (by decide) ?_
        exact ih g27 u2 u3 x29 _ _ _ hm hw hf hu2 (lv_sub hl [1, 2, 3, 4, 0] rfl)
      · refine lv_aload_n S.1 S.2.1 dJu_passDay_30 rfl (lv_at hl 0 rfl) ?_
        refine lv_aload_n S.1 S.2.1 dJu_passDay_31 rfl (lv_at hl 1 rfl) ?_
        refine lv_iload S.1 S.2.1 dJu_passDay_32 (lv_at hl 4 rfl) ?_
        refine lv_aload_n S.1 S.2.1 dJu_passDay_34 rfl (lv_at hl 1 rfl) ?_
        refine get_Pl (v := .ref (ξ.2.2.2.1 (q1 + 3))) S hw hq1 3 (by decide) rfl wf_Ju_59 dJu_passDay_35 ?_
        refine lv_iload S.1 S.2.1 dJu_passDay_38 (lv_at hl 4 rfl) ?_
        refine sx_iald S hw (is_Pl_place hf hq1) hm dJu_passDay_40 (fun v30 hm => ?_)
        obtain ⟨g32, h31, hm⟩ := ob hm
        refine sw_Vv (q := 42) (rest := []) S hw (cJu_ask l  hf q1 hq1 u4 v30 h31) kJu_ask wm_Ju_22 (is_42 hf).1 (e_Ju (is_42 hf)) rfl rfl rfl rfl hl.1 (Nat.le_of_ble_eq_true rfl) ⟨rfl, rfl, Nat.le_of_ble_eq_true rfl, Nat.le_of_ble_eq_true rfl⟩ ⟨Nat.le_of_ble_eq_true rfl, Nat.le_of_ble_eq_true rfl⟩ dJu_passDay_41 (fun H locs hw hf => ?_)
        refine lv_iconst (v := (1 : Int32)) S.1 S.2.1 dJu_passDay_44 (by decide) ?_
        refine lv_aload_n S.1 S.2.1 dJu_passDay_45 rfl (lv_at hl 1 rfl) ?_
        refine get_Pl (v := .ref (ξ.2.2.2.1 (q1 + 1))) S hw hq1 1 (by decide) rfl wf_Ju_36 dJu_passDay_46 ?_
        refine lv_iload S.1 S.2.1 dJu_passDay_49 (lv_at hl 4 rfl) ?_
        refine sx_iald S hw (is_Pl_heavy hf hq1) hm dJu_passDay_51 (fun v33 hm => ?_)
        refine lv_aload_n S.1 S.2.1 dJu_passDay_52 rfl (lv_at hl 0 rfl) ?_
        refine lv_aload_n S.1 S.2.1 dJu_passDay_53 rfl (lv_at hl 2 rfl) ?_
        refine lv_iconst (v := (1 : Int32)) S.1 S.2.1 dJu_passDay_54 (by decide) ?_
        refine lv_bipush (v := (9 : Int32)) S.1 S.2.1 dJu_passDay_55 (by decide) ?_
        refine lv_iconst (v := (0 : Int32)) S.1 S.2.1 dJu_passDay_57 (by decide) ?_
        obtain ⟨⟨v36, g35⟩, h34, hm⟩ := ob hm
        refine sw_Vi (q := 42) (rest := [.int v33, .int (1 : Int32)]) S hw (cJu_lastTold l N hf (some u2) (fun _ h => by cases h; exact hu2) (1 : Int32) (9 : Int32) (0 : Int32) h34) kJu_lastTold wm_Ju_39 (is_42 hf).1 (e_Ju (is_42 hf)) rfl rfl rfl rfl hl.1 (Nat.le_of_ble_eq_true rfl) ⟨rfl, rfl, Nat.le_of_ble_eq_true rfl, Nat.le_of_ble_eq_true rfl⟩ ⟨Nat.le_of_ble_eq_true rfl, Nat.le_of_ble_eq_true rfl⟩ dJu_passDay_58 (fun H locs hw hf => ?_)
        refine lv_isub S.1 S.2.1 dJu_passDay_61 ?_
        refine sw_max (rest := []) S hl.1 wm_Ju_62 (Nat.le_of_ble_eq_true rfl) (Nat.le_of_ble_eq_true rfl) (Nat.le_of_ble_eq_true rfl) (Nat.le_of_ble_eq_true rfl) dJu_passDay_62 ?_
        refine nm_i hm (fun x37 hm => ?_)
        refine lv_istore (lv' := [(5, .int x37), (0, .ref (ξ.2.2.2.1 42)), (1, .ref (ξ.2.2.2.1 q1)), (2, .ref (ξ.2.2.2.1 u2)), (3, .int u3), (4, .int u4)]) S.1 S.2.1 dJu_passDay_65 hl (by decide) rfl (fun ls hl => ?_)
        refine lv_iload S.1 S.2.1 dJu_passDay_67 (lv_at hl 0 rfl) ?_
        refine lv_aload_n S.1 S.2.1 dJu_passDay_69 rfl (lv_at hl 2 rfl) ?_
        refine get_Pl (v := .ref (ξ.2.2.2.1 (q1 + 1))) S hw hq1 1 (by decide) rfl wf_Ju_36 dJu_passDay_70 ?_
        refine lv_iload S.1 S.2.1 dJu_passDay_73 (lv_at hl 5 rfl) ?_
        refine sx_iald S hw (is_Pl_heavy hf hq1) hm dJu_passDay_75 (fun v38 hm => ?_)
        refine bicmp_ge (tgt := 91) S.1 S.2.1 hm dJu_passDay_76 (by decide) (fun hm => ?_) (fun hm => ?_)
        · obtain ⟨x39, ex39, hm⟩ := nm_x hm
          refine lv_iinc (v := x39) (lv' := [(4, .int x39), (5, .int x37), (0, .ref (ξ.2.2.2.1 42)), (1, .ref (ξ.2.2.2.1 q1)), (2, .ref (ξ.2.2.2.1 u2)), (3, .int u3)]) S.1 S.2.1 dJu_passDay_91 hl (k := 5) rfl (by rw [ex39]; rfl) (by decide) rfl (fun ls hl => ?_)
          refine lv_goto (tgt := 14) S.1 S.2.1 dJu_passDay_94 (by decide) ?_
          exact ih g35 u2 u3 x39 _ _ _ hm hw hf hu2 (lv_sub hl [2, 3, 4, 5, 0] rfl)
        · refine lv_aload_n S.1 S.2.1 dJu_passDay_79 rfl (lv_at hl 2 rfl) ?_
          refine get_Pl (v := .ref (ξ.2.2.2.1 (q1 + 1))) S hw hq1 1 (by decide) rfl wf_Ju_36 dJu_passDay_80 ?_
          refine lv_iload S.1 S.2.1 dJu_passDay_83 (lv_at hl 5 rfl) ?_
          refine lv_iload S.1 S.2.1 dJu_passDay_85 (lv_at hl 0 rfl) ?_
          refine sx_iast S hw hf (is_Pl_heavy hf hq1) hm dJu_passDay_87 (fun g40 H locs hf hm hw => ?_)
          obtain ⟨x41, ex41, hm⟩ := nm_x hm
          refine lv_iinc (v := x41) (lv' := [(3, .int x41), (5, .int x37), (0, .ref (ξ.2.2.2.1 42)), (1, .ref (ξ.2.2.2.1 q1)), (2, .ref (ξ.2.2.2.1 u2)), (4, .int u4)]) S.1 S.2.1 dJu_passDay_88 hl (k := 4) rfl (by rw [ex41]; rfl) (by decide) rfl (fun ls hl => ?_)
          obtain ⟨x42, ex42, hm⟩ := nm_x hm
          refine lv_iinc (v := x42) (lv' := [(4, .int x42), (3, .int x41), (5, .int x37), (0, .ref (ξ.2.2.2.1 42)), (1, .ref (ξ.2.2.2.1 q1)), (2, .ref (ξ.2.2.2.1 u2))]) S.1 S.2.1 dJu_passDay_91 hl (k := 5) rfl (by rw [ex42]; rfl) (by decide) rfl (fun ls hl => ?_)
          refine lv_goto (tgt := 14) S.1 S.2.1 dJu_passDay_94 (by decide) ?_
          exact ih g40 u2 x41 x42 _ _ _ hm hw hf hu2 (lv_sub hl [3, 4, 5, 1, 0] rfl)
set_option maxHeartbeats 4000000 in
set_option maxRecDepth 100000 in
theorem cJu_passDay (l : Launch) (N : Nat) {Γ : sw_C} {A : Nat → Prop} {ξ : sw_x} {g : sw_g} {μ : sw_m} (hf : sw_wf ξ g.2.2) (q1 : Nat) (hq1 : sw_ik ξ q1 3) {res : Int32 × sw_g} (hm : fJu_passDay N ξ.2.2.1 g q1 = some res) : Met l yJu_passDay (Cond.code yJu_passDay prog_3_method_6_code 6 (some .int) :: sw_tb) rmJu_passDay (va_Pc [.ref (ξ.2.2.2.1 42), .ref (ξ.2.2.2.1 q1)] (sw_V Γ A ξ g μ)) (sw_Qi Γ A ξ res.2 μ res.1 (sw_wf ξ res.2.2.2)) 0 0 A := by
  refine Met.ofW (cc := prog_3_method_6_code) (maxL := 6) (ret := some .int) (by decide) rfl ?_
  intro p e s m args below meth c s₁ B hml hv
  obtain ⟨rfl, hv⟩ := hv
  have S : CallFix p m c prog_3_method_6_code 6 s _ (Cond.code yJu_passDay prog_3_method_6_code 6 (some .int) :: sw_tb) R_Ju := ⟨B.exec, B.bytes, hml, findClass_of_methodNamed B.named, atoms_spec (ws := (Cond.code yJu_passDay prog_3_method_6_code 6 (some .int) :: sw_tb)) B.pre⟩
  have hr := B.returns
  have hlk := B.notSynchronized
  have hw := sw_begin hv
  have hl := lv_entry [.ref (ξ.2.2.2.1 42), .ref (ξ.2.2.2.1 q1)] (n := 6) (Nat.le_of_ble_eq_true rfl)
  rw [lg_entry_eq]
  generalize (lg_sl [.ref (ξ.2.2.2.1 42), .ref (ξ.2.2.2.1 q1)] ++ List.replicate (6 - (lg_sl [.ref (ξ.2.2.2.1 42), .ref (ξ.2.2.2.1 q1)]).length) Slot.unset).toArray = ls at hl ⊢
  have hl : lv_has ls 6 [(0, .ref (ξ.2.2.2.1 42)), (1, .ref (ξ.2.2.2.1 q1))] := hl
  unfold fJu_passDay at hm
  refine lv_aload_n S.1 S.2.1 dJu_passDay_0 rfl (lv_at hl 1 rfl) ?_
  refine lv_aload_n S.1 S.2.1 dJu_passDay_1 rfl (lv_at hl 1 rfl) ?_
  refine get_Pl (v := .int (g.1 q1 11)) S hw hq1 11 (by decide) rfl wf_Ju_26 dJu_passDay_2 ?_
  obtain ⟨⟨v3, g2⟩, h1, hm⟩ := ob hm
  refine sw_Vq (q := q1) (rest := []) S hw (cPl_textOf l  hf q1 hq1 (g.1 q1 11) h1) kPl_textOf wm_Ju_32 hq1.1 (e_Pl hq1) rfl rfl rfl rfl hl.1 (Nat.le_of_ble_eq_true rfl) ⟨rfl, rfl, Nat.le_of_ble_eq_true rfl, Nat.le_of_ble_eq_true rfl⟩ ⟨Nat.le_of_ble_eq_true rfl, Nat.le_of_ble_eq_true rfl⟩ dJu_passDay_5 (fun H locs hw hΛ => ?_)
  have hf := hΛ.1
  cases v3 with
  | none =>
    refine W.eq (g2 := F0 m 8 ls [.null]) rfl ?_
    refine lv_astore_nN (lv' := [(2, .null), (0, .ref (ξ.2.2.2.1 42)), (1, .ref (ξ.2.2.2.1 q1))]) S.1 S.2.1 dJu_passDay_8 rfl hl (by decide) rfl (fun ls hl => ?_)
    refine lv_iconst (v := (0 : Int32)) S.1 S.2.1 dJu_passDay_9 (by decide) ?_
    refine lv_istore_n (lv' := [(3, .int (0 : Int32)), (2, .null), (0, .ref (ξ.2.2.2.1 42)), (1, .ref (ξ.2.2.2.1 q1))]) S.1 S.2.1 dJu_passDay_10 rfl hl (by decide) rfl (fun ls hl => ?_)
    refine lv_iconst (v := (0 : Int32)) S.1 S.2.1 dJu_passDay_11 (by decide) ?_
    refine lv_istore (lv' := [(4, .int (0 : Int32)), (3, .int (0 : Int32)), (2, .null), (0, .ref (ξ.2.2.2.1 42)), (1, .ref (ξ.2.2.2.1 q1))]) S.1 S.2.1 dJu_passDay_12 hl (by decide) rfl (fun ls hl => ?_)
    exact wJu_passDay_14n S hr hlk q1 hq1 N  N g2 (0 : Int32) (0 : Int32) _ _ _ hm hw hf (lv_sub hl [3, 4, 2, 1, 0] rfl)
  | some p4 =>
    have hp4 : sw_ik ξ p4 7 := hΛ.2 _ rfl
    refine W.eq (g2 := F0 m 8 ls [.ref (ξ.2.2.2.1 p4)]) rfl ?_
    refine lv_astore_n (lv' := [(2, .ref (ξ.2.2.2.1 p4)), (0, .ref (ξ.2.2.2.1 42)), (1, .ref (ξ.2.2.2.1 q1))]) S.1 S.2.1 dJu_passDay_8 rfl hl (by decide) rfl (fun ls hl => ?_)
    refine lv_iconst (v := (0 : Int32)) S.1 S.2.1 dJu_passDay_9 (by decide) ?_
    refine lv_istore_n (lv' := [(3, .int (0 : Int32)), (2, .ref (ξ.2.2.2.1 p4)), (0, .ref (ξ.2.2.2.1 42)), (1, .ref (ξ.2.2.2.1 q1))]) S.1 S.2.1 dJu_passDay_10 rfl hl (by decide) rfl (fun ls hl => ?_)
    refine lv_iconst (v := (0 : Int32)) S.1 S.2.1 dJu_passDay_11 (by decide) ?_
    refine lv_istore (lv' := [(4, .int (0 : Int32)), (3, .int (0 : Int32)), (2, .ref (ξ.2.2.2.1 p4)), (0, .ref (ξ.2.2.2.1 42)), (1, .ref (ξ.2.2.2.1 q1))]) S.1 S.2.1 dJu_passDay_12 hl (by decide) rfl (fun ls hl => ?_)
    exact wJu_passDay_14 S hr hlk q1 hq1 N  N g2 p4 (0 : Int32) (0 : Int32) _ _ _ hm hw hf hp4 (lv_sub hl [3, 4, 2, 1, 0] rfl)
set_option maxHeartbeats 4000000 in
set_option maxRecDepth 100000 in
theorem wRe_readTerm_70 {l : Launch} {p : Program} {e : Env} {s : State} {m : MethodId} {args : Array Value} {below : List Frame} {meth : Method} {c : Code} {Γ : sw_C} {A : Nat → Prop} {ξ : sw_x} {μ : sw_m} {res : sw_g} (S : CallFix p m c prog_5_method_22_code 3 s args (Cond.code yRe_readTerm prog_5_method_22_code 3 (none) :: sw_tb) R_Re) (hr : meth.sig.returnType = none) (hlk : meth.locks = false) (rc : sw_g → Option (sw_g)) (rr : Room) (hr0 : rr.cells = 0 ∧ rr.slots = 0) (hrc : ∀ {g : sw_g} {μ : sw_m} (hf : sw_wf ξ g.2.2) {res : sw_g}, rc g  = some res → Met l yRe_readSum (Cond.code yRe_readSum prog_5_method_21_code 3 (none) :: sw_tb) rr (va_Pc [.ref (ξ.2.2.2.1 33)] (sw_V Γ A ξ g μ)) (sw_Qv Γ A ξ res μ (sw_wf ξ res.2.2)) 0 0 A) (N : Nat) (k6 : sw_g → Int32 → Option (sw_g)) (hk6 : ∀ (g : sw_g) (u1 : Int32) (H : Heap) (locs : List Loc) (ls : Array Slot), k6 g u1 = some res → sw_S Γ A ξ g μ s H locs → sw_wf ξ g.2.2 → lv_has ls 3 [(0, .ref (ξ.2.2.2.1 33)), (1, .int u1)] → W p l e (headSpec (Cond.code yRe_readTerm prog_5_method_22_code 3 (none) :: sw_tb) (rgRe_readTerm rr)).room s m args below meth c H locs 0 0 (MQ below (sw_Qv Γ A ξ res μ (sw_wf ξ res.2.2)) args s 0 0 A) (F0 m 6 ls [])) : ∀ (g : sw_g) (u1 : Int32) (s0 : Int32) (H : Heap) (locs : List Loc) (ls : Array Slot), fRe_readTerm_70 N rc ξ.2.2.1 k6 g u1 s0 = some res → sw_S Γ A ξ g μ s H locs → sw_wf ξ g.2.2 → lv_has ls 3 [(0, .ref (ξ.2.2.2.1 33)), (1, .int u1)] → W p l e (headSpec (Cond.code yRe_readTerm prog_5_method_22_code 3 (none) :: sw_tb) (rgRe_readTerm rr)).room s m args below meth c H locs 0 0 (MQ below (sw_Qv Γ A ξ res μ (sw_wf ξ res.2.2)) args s 0 0 A) (F0 m 70 ls [.int s0]) := by
  intro g u1 s0 H locs ls hm hw hf hl
  unfold fRe_readTerm_70 at hm
  refine lv_istore_n (lv' := [(2, .int s0), (0, .ref (ξ.2.2.2.1 33)), (1, .int u1)]) S.1 S.2.1 dRe_readTerm_70 rfl hl (by decide) rfl (fun ls hl => ?_)
  refine lv_aload_n S.1 S.2.1 dRe_readTerm_71 rfl (lv_at hl 1 rfl) ?_
  obtain ⟨g13, h12, hm⟩ := ob hm
  refine sw_Vv (q := 33) (rest := []) S hw (cRe_advance l N hf  h12) kRe_advance wm_Re_47 (is_33 hf).1 (e_Re (is_33 hf)) rfl rfl rfl rfl hl.1 (Nat.le_of_ble_eq_true rfl) ⟨rfl, rfl, by show 1 + 1 ≤ rr.frames + _; omega, by show 8 + (3 + 11) + 20 ≤ rr.locals + _; omega⟩ ⟨Nat.le_of_ble_eq_true rfl, Nat.le_of_ble_eq_true rfl⟩ dRe_readTerm_72 (fun H locs hw hf => ?_)
  refine lv_aload_n S.1 S.2.1 dRe_readTerm_75 rfl (lv_at hl 1 rfl) ?_
  obtain ⟨g15, h14, hm⟩ := ob hm
  refine sw_Vv (q := 33) (rest := []) S hw (cRe_readPart l N rc rr hr0 hrc hf  h14) kRe_readPart wm_Re_197 (is_33 hf).1 (e_Re (is_33 hf)) rfl rfl rfl rfl hl.1 (Nat.le_of_ble_eq_true rfl) ⟨rfl, rfl, by show rr.frames + 6 + 1 ≤ rr.frames + _; omega, by show 8 + (3 + 11) + (rr.locals + 163) ≤ rr.locals + _; omega⟩ ⟨Nat.le_of_ble_eq_true rfl, Nat.le_of_ble_eq_true rfl⟩ dRe_readTerm_76 (fun H locs hw hf => ?_)
  refine lv_aload_n S.1 S.2.1 dRe_readTerm_79 rfl (lv_at hl 1 rfl) ?_
  refine lv_iload_n S.1 S.2.1 dRe_readTerm_80 rfl (lv_at hl 0 rfl) ?_
  refine lv_iconst (v := (0 : Int32)) S.1 S.2.1 dRe_readTerm_81 (by decide) ?_
  obtain ⟨g17, h16, hm⟩ := ob hm
  refine sw_Vv (q := 33) (rest := []) S hw (cRe_emit l N hf s0 (0 : Int32) h16) kRe_emit wm_Re_146 (is_33 hf).1 (e_Re (is_33 hf)) rfl rfl rfl rfl hl.1 (Nat.le_of_ble_eq_true rfl) ⟨rfl, rfl, by show 1 + 1 ≤ rr.frames + _; omega, by show 8 + (3 + 11) + 20 ≤ rr.locals + _; omega⟩ ⟨Nat.le_of_ble_eq_true rfl, Nat.le_of_ble_eq_true rfl⟩ dRe_readTerm_82 (fun H locs hw hf => ?_)
  obtain ⟨x18, ex18, hm⟩ := nm_x hm
  refine lv_iinc (v := x18) (lv' := [(1, .int x18), (2, .int s0), (0, .ref (ξ.2.2.2.1 33))]) S.1 S.2.1 dRe_readTerm_85 hl (k := 2) rfl (by rw [ex18]; rfl) (by decide) rfl (fun ls hl => ?_)
  refine lv_goto (tgt := 6) S.1 S.2.1 dRe_readTerm_88 (by decide) ?_
  exact hk6 g17 x18 _ _ _ hm hw hf (lv_sub hl [2, 0] rfl)
set_option maxHeartbeats 4000000 in
set_option maxRecDepth 100000 in
theorem wRe_readTerm_40 {l : Launch} {p : Program} {e : Env} {s : State} {m : MethodId} {args : Array Value} {below : List Frame} {meth : Method} {c : Code} {Γ : sw_C} {A : Nat → Prop} {ξ : sw_x} {μ : sw_m} {res : sw_g} (S : CallFix p m c prog_5_method_22_code 3 s args (Cond.code yRe_readTerm prog_5_method_22_code 3 (none) :: sw_tb) R_Re) (hr : meth.sig.returnType = none) (hlk : meth.locks = false) (rc : sw_g → Option (sw_g)) (rr : Room) (hr0 : rr.cells = 0 ∧ rr.slots = 0) (hrc : ∀ {g : sw_g} {μ : sw_m} (hf : sw_wf ξ g.2.2) {res : sw_g}, rc g  = some res → Met l yRe_readSum (Cond.code yRe_readSum prog_5_method_21_code 3 (none) :: sw_tb) rr (va_Pc [.ref (ξ.2.2.2.1 33)] (sw_V Γ A ξ g μ)) (sw_Qv Γ A ξ res μ (sw_wf ξ res.2.2)) 0 0 A) (N : Nat) (k6 : sw_g → Int32 → Option (sw_g)) (hk6 : ∀ (g : sw_g) (u1 : Int32) (H : Heap) (locs : List Loc) (ls : Array Slot), k6 g u1 = some res → sw_S Γ A ξ g μ s H locs → sw_wf ξ g.2.2 → lv_has ls 3 [(0, .ref (ξ.2.2.2.1 33)), (1, .int u1)] → W p l e (headSpec (Cond.code yRe_readTerm prog_5_method_22_code 3 (none) :: sw_tb) (rgRe_readTerm rr)).room s m args below meth c H locs 0 0 (MQ below (sw_Qv Γ A ξ res μ (sw_wf ξ res.2.2)) args s 0 0 A) (F0 m 6 ls [])) : ∀ (g : sw_g) (u1 : Int32) (H : Heap) (locs : List Loc) (ls : Array Slot), fRe_readTerm_40 N rc ξ.2.2.1 k6 g u1 = some res → sw_S Γ A ξ g μ s H locs → sw_wf ξ g.2.2 → lv_has ls 3 [(0, .ref (ξ.2.2.2.1 33)), (1, .int u1)] → W p l e (headSpec (Cond.code yRe_readTerm prog_5_method_22_code 3 (none) :: sw_tb) (rgRe_readTerm rr)).room s m args below meth c H locs 0 0 (MQ below (sw_Qv Γ A ξ res μ (sw_wf ξ res.2.2)) args s 0 0 A) (F0 m 40 ls []) := by
  intro g u1 H locs ls hm hw hf hl
  unfold fRe_readTerm_40 at hm
  refine lv_aload_n S.1 S.2.1 dRe_readTerm_40 rfl (lv_at hl 0 rfl) ?_
  refine va_ldcS S.1 S.2.1 S.2.2.2.1 (hw.2.2.2.2.2.2.1 16 (by decide)) dRe_readTerm_41 ?_
  obtain ⟨⟨v8, g7⟩, h6, hm⟩ := ob hm
  refine sw_Vi (q := 33) (rest := []) S hw (cRe_isToken l N hf 16 (by decide) h6) kRe_isToken wm_Re_90 (is_33 hf).1 (e_Re (is_33 hf)) rfl rfl rfl rfl hl.1 (Nat.le_of_ble_eq_true rfl) ⟨rfl, rfl, by show 4 + 1 ≤ rr.frames + _; omega, by show 8 + (3 + 11) + 120 ≤ rr.locals + _; omega⟩ ⟨Nat.le_of_ble_eq_true rfl, Nat.le_of_ble_eq_true rfl⟩ dRe_readTerm_43 (fun H locs hw hf => ?_)
  refine bif_eq (tgt := 54) S.1 S.2.1 hm dRe_readTerm_46 (by decide) (fun hm => ?_) (fun hm => ?_)
  · refine lv_aload_n S.1 S.2.1 dRe_readTerm_54 rfl (lv_at hl 0 rfl) ?_
    refine va_ldcS S.1 S.2.1 S.2.2.2.1 (hw.2.2.2.2.2.2.1 17 (by decide)) dRe_readTerm_55 ?_
    obtain ⟨⟨v11, g10⟩, h9, hm⟩ := ob hm
    refine sw_Vi (q := 33) (rest := []) S hw (cRe_isToken l N hf 17 (by decide) h9) kRe_isToken wm_Re_90 (is_33 hf).1 (e_Re (is_33 hf)) rfl rfl rfl rfl hl.1 (Nat.le_of_ble_eq_true rfl) ⟨rfl, rfl, by show 4 + 1 ≤ rr.frames + _; omega, by show 8 + (3 + 11) + 120 ≤ rr.locals + _; omega⟩ ⟨Nat.le_of_ble_eq_true rfl, Nat.le_of_ble_eq_true rfl⟩ dRe_readTerm_57 (fun H locs hw hf => ?_)
    refine bif_eq (tgt := 68) S.1 S.2.1 hm dRe_readTerm_60 (by decide) (fun hm => ?_) (fun hm => ?_)
    · refine lv_bipush (v := (10 : Int32)) S.1 S.2.1 dRe_readTerm_68 (by decide) ?_
      exact wRe_readTerm_70 S hr hlk rc rr hr0 hrc N k6 hk6 g10 u1 (10 : Int32) _ _ _ hm hw hf (lv_sub hl [0, 1] rfl)
    · refine lv_bipush (v := (9 : Int32)) S.1 S.2.1 dRe_readTerm_63 (by decide) ?_
      refine lv_goto (tgt := 70) S.1 S.2.1 dRe_readTerm_65 (by decide) ?_
      exact wRe_readTerm_70 S hr hlk rc rr hr0 hrc N k6 hk6 g10 u1 (9 : Int32) _ _ _ hm hw hf (lv_sub hl [0, 1] rfl)
  · refine lv_bipush (v := (8 : Int32)) S.1 S.2.1 dRe_readTerm_49 (by decide) ?_
    refine lv_goto (tgt := 70) S.1 S.2.1 dRe_readTerm_51 (by decide) ?_
    exact wRe_readTerm_70 S hr hlk rc rr hr0 hrc N k6 hk6 g7 u1 (8 : Int32) _ _ _ hm hw hf (lv_sub hl [0, 1] rfl)
set_option maxHeartbeats 4000000 in
set_option maxRecDepth 100000 in
theorem wRe_readTerm_6 {l : Launch} {p : Program} {e : Env} {s : State} {m : MethodId} {args : Array Value} {below : List Frame} {meth : Method} {c : Code} {Γ : sw_C} {A : Nat → Prop} {ξ : sw_x} {μ : sw_m} {res : sw_g} (S : CallFix p m c prog_5_method_22_code 3 s args (Cond.code yRe_readTerm prog_5_method_22_code 3 (none) :: sw_tb) R_Re) (hr : meth.sig.returnType = none) (hlk : meth.locks = false) (rc : sw_g → Option (sw_g)) (rr : Room) (hr0 : rr.cells = 0 ∧ rr.slots = 0) (hrc : ∀ {g : sw_g} {μ : sw_m} (hf : sw_wf ξ g.2.2) {res : sw_g}, rc g  = some res → Met l yRe_readSum (Cond.code yRe_readSum prog_5_method_21_code 3 (none) :: sw_tb) rr (va_Pc [.ref (ξ.2.2.2.1 33)] (sw_V Γ A ξ g μ)) (sw_Qv Γ A ξ res μ (sw_wf ξ res.2.2)) 0 0 A) (N : Nat) : ∀ (fu : Nat) (g : sw_g) (u1 : Int32) (H : Heap) (locs : List Loc) (ls : Array Slot), fRe_readTerm_6 N rc ξ.2.2.1  fu g u1 = some res → sw_S Γ A ξ g μ s H locs → sw_wf ξ g.2.2 → lv_has ls 3 [(0, .ref (ξ.2.2.2.1 33)), (1, .int u1)] → W p l e (headSpec (Cond.code yRe_readTerm prog_5_method_22_code 3 (none) :: sw_tb) (rgRe_readTerm rr)).room s m args below meth c H locs 0 0 (MQ below (sw_Qv Γ A ξ res μ (sw_wf ξ res.2.2)) args s 0 0 A) (F0 m 6 ls []) := by
  intro fu
  induction fu with
  | zero => intro g u1 H locs ls hm; rw [fRe_readTerm_6.eq_1] at hm; cases hm
  | succ fu ih =>
    intro g u1 H locs ls hm hw hf hl
    rw [fRe_readTerm_6.eq_2] at hm
    refine lv_iload_n S.1 S.2.1 dRe_readTerm_6 rfl (lv_at hl 1 rfl) ?_
    refine lv_sipush (v := (400 : Int32)) S.1 S.2.1 dRe_readTerm_7 (by decide) ?_
    refine bicmp_ge (tgt := 91) S.1 S.2.1 hm dRe_readTerm_10 (by decide) (fun hm => ?_) (fun hm => ?_)
    · obtain rfl := Option.some.inj hm
      exact sw_vret S hr hlk hw hf dRe_readTerm_91
    · refine lv_aload_n S.1 S.2.1 dRe_readTerm_13 rfl (lv_at hl 0 rfl) ?_
      refine va_ldcS S.1 S.2.1 S.2.2.2.1 (hw.2.2.2.2.2.2.1 16 (by decide)) dRe_readTerm_14 ?_
      obtain ⟨⟨v5, g4⟩, h3, hm⟩ := ob hm
      refine sw_Vi (q := 33) (rest := []) S hw (cRe_isToken l N hf 16 (by decide) h3) kRe_isToken wm_Re_90 (is_33 hf).1 (e_Re (is_33 hf)) rfl rfl rfl rfl hl.1 (Nat.le_of_ble_eq_true rfl) ⟨rfl, rfl, by show 4 + 1 ≤ rr.frames + _; omega, by show 8 + (3 + 11) + 120 ≤ rr.locals + _; omega⟩ ⟨Nat.le_of_ble_eq_true rfl, Nat.le_of_ble_eq_true rfl⟩ dRe_readTerm_16 (fun H locs hw hf => ?_)
      refine bif_ne (tgt := 40) S.1 S.2.1 hm dRe_readTerm_19 (by decide) (fun hm => ?_) (fun hm => ?_)
      · exact wRe_readTerm_40 S hr hlk rc rr hr0 hrc N (fRe_readTerm_6 N rc ξ.2.2.1  fu) ih g4 u1 _ _ _ hm hw hf (lv_sub hl [0, 1] rfl)
      · refine lv_aload_n S.1 S.2.1 dRe_readTerm_22 rfl (lv_at hl 0 rfl) ?_
        refine va_ldcS S.1 S.2.1 S.2.2.2.1 (hw.2.2.2.2.2.2.1 17 (by decide)) dRe_readTerm_23 ?_
        obtain ⟨⟨v21, g20⟩, h19, hm⟩ := ob hm
        refine sw_Vi (q := 33) (rest := []) S hw (cRe_isToken l N hf 17 (by decide) h19) kRe_isToken wm_Re_90 (is_33 hf).1 (e_Re (is_33 hf)) rfl rfl rfl rfl hl.1 (Nat.le_of_ble_eq_true rfl) ⟨rfl, rfl, by show 4 + 1 ≤ rr.frames + _; omega, by show 8 + (3 + 11) + 120 ≤ rr.locals + _; omega⟩ ⟨Nat.le_of_ble_eq_true rfl, Nat.le_of_ble_eq_true rfl⟩ dRe_readTerm_25 (fun H locs hw hf => ?_)
        refine bif_ne (tgt := 40) S.1 S.2.1 hm dRe_readTerm_28 (by decide) (fun hm => ?_) (fun hm => ?_)
        · exact wRe_readTerm_40 S hr hlk rc rr hr0 hrc N (fRe_readTerm_6 N rc ξ.2.2.1  fu) ih g20 u1 _ _ _ hm hw hf (lv_sub hl [0, 1] rfl)
        · refine lv_aload_n S.1 S.2.1 dRe_readTerm_31 rfl (lv_at hl 0 rfl) ?_
          refine va_ldcS S.1 S.2.1 S.2.2.2.1 (hw.2.2.2.2.2.2.1 18 (by decide)) dRe_readTerm_32 ?_
          obtain ⟨⟨v24, g23⟩, h22, hm⟩ := ob hm
          refine sw_Vi (q := 33) (rest := []) S hw (cRe_isToken l N hf 18 (by decide) h22) kRe_isToken wm_Re_90 (is_33 hf).1 (e_Re (is_33 hf)) rfl rfl rfl rfl hl.1 (Nat.le_of_ble_eq_true rfl) ⟨rfl, rfl, by show 4 + 1 ≤ rr.frames + _; omega, by show 8 + (3 + 11) + 120 ≤ rr.locals + _; omega⟩ ⟨Nat.le_of_ble_eq_true rfl, Nat.le_of_ble_eq_true rfl⟩ dRe_readTerm_34 (fun H locs hw hf => ?_)
          refine bif_eq (tgt := 91) S.1 S.2.1 hm dRe_readTerm_37 (by decide) (fun hm => ?_) (fun hm => ?_)
          · obtain rfl := Option.some.inj hm
            exact sw_vret S hr hlk hw hf dRe_readTerm_91
          · exact wRe_readTerm_40 S hr hlk rc rr hr0 hrc N (fRe_readTerm_6 N rc ξ.2.2.1  fu) ih g23 u1 _ _ _ hm hw hf (lv_sub hl [0, 1] rfl)
set_option maxHeartbeats 4000000 in
set_option maxRecDepth 100000 in
theorem cRe_readTerm (l : Launch) (N : Nat) {Γ : sw_C} {A : Nat → Prop} {ξ : sw_x} (rc : sw_g → Option (sw_g)) (rr : Room) (hr0 : rr.cells = 0 ∧ rr.slots = 0) (hrc : ∀ {g : sw_g} {μ : sw_m} (hf : sw_wf ξ g.2.2) {res : sw_g}, rc g  = some res → Met l yRe_readSum (Cond.code yRe_readSum prog_5_method_21_code 3 (none) :: sw_tb) rr (va_Pc [.ref (ξ.2.2.2.1 33)] (sw_V Γ A ξ g μ)) (sw_Qv Γ A ξ res μ (sw_wf ξ res.2.2)) 0 0 A) {g : sw_g} {μ : sw_m} (hf : sw_wf ξ g.2.2) {res : sw_g} (hm : fRe_readTerm N rc ξ.2.2.1 g = some res) : Met l yRe_readTerm (Cond.code yRe_readTerm prog_5_method_22_code 3 (none) :: sw_tb) (rgRe_readTerm rr) (va_Pc [.ref (ξ.2.2.2.1 33)] (sw_V Γ A ξ g μ)) (sw_Qv Γ A ξ res μ (sw_wf ξ res.2.2)) 0 0 A := by
  refine Met.ofW (cc := prog_5_method_22_code) (maxL := 3) (ret := none) (by decide) rfl ?_
  intro p e s m args below meth c s₁ B hml hv
  obtain ⟨rfl, hv⟩ := hv
  have S : CallFix p m c prog_5_method_22_code 3 s _ (Cond.code yRe_readTerm prog_5_method_22_code 3 (none) :: sw_tb) R_Re := ⟨B.exec, B.bytes, hml, findClass_of_methodNamed B.named, atoms_spec (ws := (Cond.code yRe_readTerm prog_5_method_22_code 3 (none) :: sw_tb)) B.pre⟩
  have hr := B.returns
  have hlk := B.notSynchronized
  have hw := sw_begin hv
  have hl := lv_entry [.ref (ξ.2.2.2.1 33)] (n := 3) (Nat.le_of_ble_eq_true rfl)
  rw [lg_entry_eq]
  generalize (lg_sl [.ref (ξ.2.2.2.1 33)] ++ List.replicate (3 - (lg_sl [.ref (ξ.2.2.2.1 33)]).length) Slot.unset).toArray = ls at hl ⊢
  have hl : lv_has ls 3 [(0, .ref (ξ.2.2.2.1 33))] := hl
  unfold fRe_readTerm at hm
  refine lv_aload_n S.1 S.2.1 dRe_readTerm_0 rfl (lv_at hl 0 rfl) ?_
  obtain ⟨g2, h1, hm⟩ := ob hm
  refine sw_Vv (q := 33) (rest := []) S hw (cRe_readPart l N rc rr hr0 hrc hf  h1) kRe_readPart wm_Re_197 (is_33 hf).1 (e_Re (is_33 hf)) rfl rfl rfl rfl hl.1 (Nat.le_of_ble_eq_true rfl) ⟨rfl, rfl, by show rr.frames + 6 + 1 ≤ rr.frames + _; omega, by show 8 + (3 + 11) + (rr.locals + 163) ≤ rr.locals + _; omega⟩ ⟨Nat.le_of_ble_eq_true rfl, Nat.le_of_ble_eq_true rfl⟩ dRe_readTerm_1 (fun H locs hw hf => ?_)
  refine lv_iconst (v := (0 : Int32)) S.1 S.2.1 dRe_readTerm_4 (by decide) ?_
  refine lv_istore_n (lv' := [(1, .int (0 : Int32)), (0, .ref (ξ.2.2.2.1 33))]) S.1 S.2.1 dRe_readTerm_5 rfl hl (by decide) rfl (fun ls hl => ?_)
  exact wRe_readTerm_6 S hr hlk rc rr hr0 hrc N  N g2 (0 : Int32) _ _ _ hm hw hf (lv_sub hl [1, 0] rfl)
set_option maxHeartbeats 4000000 in
set_option maxRecDepth 100000 in
theorem cSx_of (l : Launch) (N : Nat) {Γ : sw_C} {A : Nat → Prop} {ξ : sw_x} {g : sw_g} {μ : sw_m} (hf : sw_wf ξ g.2.2) (a1 : Int32) (a2 : Int32) {res : Int32 × sw_g} (hm : fSx_of N ξ.2.2.1 g a1 a2 = some res) : Met l ySx_of (Cond.code ySx_of prog_1_method_3_code 4 (some .int) :: sw_tb) rmSx_of (va_Pc [.ref (ξ.2.2.2.1 0), .int a1, .int a2] (sw_V Γ A ξ g μ)) (sw_Qi Γ A ξ res.2 μ res.1 (sw_wf ξ res.2.2.2)) 0 0 A := by
  refine Met.ofW (cc := prog_1_method_3_code) (maxL := 4) (ret := some .int) (by decide) rfl ?_
  intro p e s m args below meth c s₁ B hml hv
  obtain ⟨rfl, hv⟩ := hv
  have S : CallFix p m c prog_1_method_3_code 4 s _ (Cond.code ySx_of prog_1_method_3_code 4 (some .int) :: sw_tb) R_Sx := ⟨B.exec, B.bytes, hml, findClass_of_methodNamed B.named, atoms_spec (ws := (Cond.code ySx_of prog_1_method_3_code 4 (some .int) :: sw_tb)) B.pre⟩
  have hr := B.returns
  have hlk := B.notSynchronized
  have hw := sw_begin hv
  have hl := lv_entry [.ref (ξ.2.2.2.1 0), .int a1, .int a2] (n := 4) (Nat.le_of_ble_eq_true rfl)
  rw [lg_entry_eq]
  generalize (lg_sl [.ref (ξ.2.2.2.1 0), .int a1, .int a2] ++ List.replicate (4 - (lg_sl [.ref (ξ.2.2.2.1 0), .int a1, .int a2]).length) Slot.unset).toArray = ls at hl ⊢
  have hl : lv_has ls 4 [(0, .ref (ξ.2.2.2.1 0)), (1, .int a1), (2, .int a2)] := hl
  unfold fSx_of at hm
  refine lv_aload_n S.1 S.2.1 dSx_of_0 rfl (lv_at hl 0 rfl) ?_
  refine get_Sx (v := .ref (ξ.2.2.2.1 1)) S hw (is_0 hf) 0 (by decide) rfl wf_Sx_12 dSx_of_1 ?_
  refine lv_iload_n S.1 S.2.1 dSx_of_4 rfl (lv_at hl 1 rfl) ?_
  obtain ⟨⟨v3, g2⟩, h1, hm⟩ := ob hm
  refine sw_Vi (q := 1) (rest := []) S hw (cPl_hasClaim l  hf 1 (is_1 hf) a1 h1) kPl_hasClaim wm_Sx_102 (is_1 hf).1 (e_Pl (is_1 hf)) rfl rfl rfl rfl hl.1 (Nat.le_of_ble_eq_true rfl) ⟨rfl, rfl, Nat.le_of_ble_eq_true rfl, Nat.le_of_ble_eq_true rfl⟩ ⟨Nat.le_of_ble_eq_true rfl, Nat.le_of_ble_eq_true rfl⟩ dSx_of_5 (fun H locs hw hf => ?_)
  refine bif_ne (tgt := 13) S.1 S.2.1 hm dSx_of_8 (by decide) (fun hm => ?_) (fun hm => ?_)
  · refine lv_aload_n S.1 S.2.1 dSx_of_13 rfl (lv_at hl 0 rfl) ?_
    refine get_Sx (v := .ref (ξ.2.2.2.1 1)) S hw (is_0 hf) 0 (by decide) rfl wf_Sx_12 dSx_of_14 ?_
    refine get_Pl (v := .ref (ξ.2.2.2.1 4)) S hw (is_1 hf) 3 (by decide) rfl wf_Sx_106 dSx_of_17 ?_
    refine lv_iload_n S.1 S.2.1 dSx_of_20 rfl (lv_at hl 1 rfl) ?_
    refine sx_iald S hw (is_4 hf) hm dSx_of_21 (fun v4 hm => ?_)
    refine lv_istore_n (lv' := [(3, .int v4), (0, .ref (ξ.2.2.2.1 0)), (1, .int a1), (2, .int a2)]) S.1 S.2.1 dSx_of_22 rfl hl (by decide) rfl (fun ls hl => ?_)
    refine lv_iload_n S.1 S.2.1 dSx_of_23 rfl (lv_at hl 3 rfl) ?_
    by_cases c0 : a2 = (0 : Int32)
    · have hm := sw_it c0 hm
      refine lv_tableIn (off := 36) (tgt := 60) S.1 S.2.1 dSx_of_24 (by rw [c0]; decide) (by rw [c0]; decide) (by rw [c0]; decide) (by decide) ?_
      refine lv_aload_n S.1 S.2.1 dSx_of_60 rfl (lv_at hl 1 rfl) ?_
      refine get_Sx (v := .ref (ξ.2.2.2.1 1)) S hw (is_0 hf) 0 (by decide) rfl wf_Sx_12 dSx_of_61 ?_
      refine get_Pl (v := .ref (ξ.2.2.2.1 2)) S hw (is_1 hf) 1 (by decide) rfl wf_Sx_109 dSx_of_64 ?_
      refine lv_iload_n S.1 S.2.1 dSx_of_67 rfl (lv_at hl 2 rfl) ?_
      refine sx_iald S hw (is_2 hf) hm dSx_of_68 (fun v5 hm => ?_)
      obtain rfl := Option.some.inj hm
      exact sw_iret S hr hlk hw hf dSx_of_69
    · have hm := sw_if c0 hm
      by_cases c1 : a2 = (1 : Int32)
      · have hm := sw_it c1 hm
        refine lv_tableIn (off := 46) (tgt := 70) S.1 S.2.1 dSx_of_24 (by rw [c1]; decide) (by rw [c1]; decide) (by rw [c1]; decide) (by decide) ?_
        refine lv_aload_n S.1 S.2.1 dSx_of_70 rfl (lv_at hl 1 rfl) ?_
        refine get_Sx (v := .ref (ξ.2.2.2.1 1)) S hw (is_0 hf) 0 (by decide) rfl wf_Sx_12 dSx_of_71 ?_
        refine get_Pl (v := .ref (ξ.2.2.2.1 3)) S hw (is_1 hf) 2 (by decide) rfl wf_Sx_112 dSx_of_74 ?_
        refine lv_iload_n S.1 S.2.1 dSx_of_77 rfl (lv_at hl 2 rfl) ?_
        refine sx_iald S hw (is_3 hf) hm dSx_of_78 (fun v6 hm => ?_)
        obtain rfl := Option.some.inj hm
        exact sw_iret S hr hlk hw hf dSx_of_79
      · have hm := sw_if c1 hm
        by_cases c2 : a2 = (2 : Int32)
        · have hm := sw_it c2 hm
          refine lv_tableIn (off := 56) (tgt := 80) S.1 S.2.1 dSx_of_24 (by rw [c2]; decide) (by rw [c2]; decide) (by rw [c2]; decide) (by decide) ?_
          refine lv_iload_n S.1 S.2.1 dSx_of_80 rfl (lv_at hl 0 rfl) ?_
          obtain rfl := Option.some.inj hm
          exact sw_iret S hr hlk hw hf dSx_of_81
        · have hm := sw_if c2 hm
          by_cases c3 : a2 = (3 : Int32)
          · have hm := sw_it c3 hm
            refine lv_tableIn (off := 58) (tgt := 82) S.1 S.2.1 dSx_of_24 (by rw [c3]; decide) (by rw [c3]; decide) (by rw [c3]; decide) (by decide) ?_
            refine lv_aload_n S.1 S.2.1 dSx_of_82 rfl (lv_at hl 1 rfl) ?_
            refine get_Sx (v := .ref (ξ.2.2.2.1 1)) S hw (is_0 hf) 0 (by decide) rfl wf_Sx_12 dSx_of_83 ?_
            refine lv_iload_n S.1 S.2.1 dSx_of_86 rfl (lv_at hl 2 rfl) ?_
            obtain ⟨⟨v9, g8⟩, h7, hm⟩ := ob hm
            refine sw_Vi (q := 1) (rest := []) S hw (cPl_isOn l  hf 1 (is_1 hf) a1 h7) kPl_isOn wm_Sx_115 (is_1 hf).1 (e_Pl (is_1 hf)) rfl rfl rfl rfl hl.1 (Nat.le_of_ble_eq_true rfl) ⟨rfl, rfl, Nat.le_of_ble_eq_true rfl, Nat.le_of_ble_eq_true rfl⟩ ⟨Nat.le_of_ble_eq_true rfl, Nat.le_of_ble_eq_true rfl⟩ dSx_of_87 (fun H locs hw hf => ?_)
            refine bif_eq (tgt := 109) S.1 S.2.1 hm dSx_of_90 (by decide) (fun hm => ?_) (fun hm => ?_)
            · refine lv_iconst (v := (-1 : Int32)) S.1 S.2.1 dSx_of_109 (by decide) ?_
              obtain rfl := Option.some.inj hm
              exact sw_iret S hr hlk hw hf dSx_of_110
            · refine lv_aload_n S.1 S.2.1 dSx_of_93 rfl (lv_at hl 1 rfl) ?_
              refine get_Sx (v := .ref (ξ.2.2.2.1 42)) S hw (is_0 hf) 7 (by decide) rfl wf_Sx_46 dSx_of_94 ?_
              refine lv_aload_n S.1 S.2.1 dSx_of_97 rfl (lv_at hl 1 rfl) ?_
              refine get_Sx (v := .ref (ξ.2.2.2.1 1)) S hw (is_0 hf) 0 (by decide) rfl wf_Sx_12 dSx_of_98 ?_
              refine lv_iload_n S.1 S.2.1 dSx_of_101 rfl (lv_at hl 2 rfl) ?_
              refine lv_iload_n S.1 S.2.1 dSx_of_102 rfl (lv_at hl 0 rfl) ?_
              obtain ⟨⟨v12, g11⟩, h10, hm⟩ := ob hm
              refine sw_Vi (q := 42) (rest := []) S hw (cJu_countAt l N hf 1 (is_1 hf) a1 v4 h10) kJu_countAt wm_Sx_118 (is_42 hf).1 (e_Ju (is_42 hf)) rfl rfl rfl rfl hl.1 (Nat.le_of_ble_eq_true rfl) ⟨rfl, rfl, Nat.le_of_ble_eq_true rfl, Nat.le_of_ble_eq_true rfl⟩ ⟨Nat.le_of_ble_eq_true rfl, Nat.le_of_ble_eq_true rfl⟩ dSx_of_103 (fun H locs hw hf => ?_)
              refine lv_goto (tgt := 110) S.1 S.2.1 dSx_of_106 (by decide) ?_
              obtain rfl := Option.some.inj hm
              exact sw_iret S hr hlk hw hf dSx_of_110
          · have hm := sw_if c3 hm
            by_cases c4 : a2 = (4 : Int32)
            · have hm := sw_it c4 hm
              refine lv_tableIn (off := 87) (tgt := 111) S.1 S.2.1 dSx_of_24 (by rw [c4]; decide) (by rw [c4]; decide) (by rw [c4]; decide) (by decide) ?_
              refine lv_aload_n S.1 S.2.1 dSx_of_111 rfl (lv_at hl 1 rfl) ?_
              refine get_Sx (v := .ref (ξ.2.2.2.1 1)) S hw (is_0 hf) 0 (by decide) rfl wf_Sx_12 dSx_of_112 ?_
              refine lv_iload_n S.1 S.2.1 dSx_of_115 rfl (lv_at hl 2 rfl) ?_
              obtain ⟨⟨v15, g14⟩, h13, hm⟩ := ob hm
              refine sw_Vi (q := 1) (rest := []) S hw (cPl_isOn l  hf 1 (is_1 hf) a1 h13) kPl_isOn wm_Sx_115 (is_1 hf).1 (e_Pl (is_1 hf)) rfl rfl rfl rfl hl.1 (Nat.le_of_ble_eq_true rfl) ⟨rfl, rfl, Nat.le_of_ble_eq_true rfl, Nat.le_of_ble_eq_true rfl⟩ ⟨Nat.le_of_ble_eq_true rfl, Nat.le_of_ble_eq_true rfl⟩ dSx_of_116 (fun H locs hw hf => ?_)
              refine bif_eq (tgt := 138) S.1 S.2.1 hm dSx_of_119 (by decide) (fun hm => ?_) (fun hm => ?_)
              · refine lv_iconst (v := (-1 : Int32)) S.1 S.2.1 dSx_of_138 (by decide) ?_
                obtain rfl := Option.some.inj hm
                exact sw_iret S hr hlk hw hf dSx_of_139
              · refine lv_aload_n S.1 S.2.1 dSx_of_122 rfl (lv_at hl 1 rfl) ?_
                refine get_Sx (v := .ref (ξ.2.2.2.1 42)) S hw (is_0 hf) 7 (by decide) rfl wf_Sx_46 dSx_of_123 ?_
                refine lv_aload_n S.1 S.2.1 dSx_of_126 rfl (lv_at hl 1 rfl) ?_
                refine get_Sx (v := .ref (ξ.2.2.2.1 1)) S hw (is_0 hf) 0 (by decide) rfl wf_Sx_12 dSx_of_127 ?_
                refine lv_iload_n S.1 S.2.1 dSx_of_130 rfl (lv_at hl 2 rfl) ?_
                refine lv_iload_n S.1 S.2.1 dSx_of_131 rfl (lv_at hl 0 rfl) ?_
                obtain ⟨⟨v18, g17⟩, h16, hm⟩ := ob hm
                refine sw_Vi (q := 42) (rest := []) S hw (cJu_shedAt l N hf 1 (is_1 hf) a1 v4 h16) kJu_shedAt wm_Sx_122 (is_42 hf).1 (e_Ju (is_42 hf)) rfl rfl rfl rfl hl.1 (Nat.le_of_ble_eq_true rfl) ⟨rfl, rfl, Nat.le_of_ble_eq_true rfl, Nat.le_of_ble_eq_true rfl⟩ ⟨Nat.le_of_ble_eq_true rfl, Nat.le_of_ble_eq_true rfl⟩ dSx_of_132 (fun H locs hw hf => ?_)
                refine lv_goto (tgt := 139) S.1 S.2.1 dSx_of_135 (by decide) ?_
                obtain rfl := Option.some.inj hm
                exact sw_iret S hr hlk hw hf dSx_of_139
            · have hm := sw_if c4 hm
              refine lv_tableOut (tgt := 140) S.1 S.2.1 dSx_of_24 (by have := lv_neT c0 (show ((0 : Int32)).toInt = 0 from rfl); have := lv_neT c1 (show ((1 : Int32)).toInt = 1 from rfl); have := lv_neT c2 (show ((2 : Int32)).toInt = 2 from rfl); have := lv_neT c3 (show ((3 : Int32)).toInt = 3 from rfl); have := lv_neT c4 (show ((4 : Int32)).toInt = 4 from rfl); omega) (by decide) ?_
              refine lv_iconst (v := (-1 : Int32)) S.1 S.2.1 dSx_of_140 (by decide) ?_
              obtain rfl := Option.some.inj hm
              exact sw_iret S hr hlk hw hf dSx_of_141
  · refine lv_iconst (v := (-1 : Int32)) S.1 S.2.1 dSx_of_11 (by decide) ?_
    obtain rfl := Option.some.inj hm
    exact sw_iret S hr hlk hw hf dSx_of_12
set_option maxHeartbeats 4000000 in
set_option maxRecDepth 100000 in
theorem wSx_compare_18 {l : Launch} {p : Program} {e : Env} {s : State} {m : MethodId} {args : Array Value} {below : List Frame} {meth : Method} {c : Code} {Γ : sw_C} {A : Nat → Prop} {ξ : sw_x} {μ : sw_m} {res : Int32 × sw_g} (S : CallFix p m c prog_1_method_34_code 2 s args (Cond.code ySx_compare prog_1_method_34_code 2 (some .int) :: sw_tb) R_Sx) (hr : meth.sig.returnType = some .int) (hlk : meth.locks = false) (N : Nat) : ∀ (g : sw_g) (u1 : Int32) (H : Heap) (locs : List Loc) (ls : Array Slot), fSx_compare_18 N ξ.2.2.1  g u1 = some res → sw_S Γ A ξ g μ s H locs → sw_wf ξ g.2.2 → lv_has ls 2 [(0, .ref (ξ.2.2.2.1 0)), (1, .int u1)] → W p l e (headSpec (Cond.code ySx_compare prog_1_method_34_code 2 (some .int) :: sw_tb) rmSx_compare).room s m args below meth c H locs 0 0 (MQ below (sw_Qi Γ A ξ res.2 μ res.1 (sw_wf ξ res.2.2.2)) args s 0 0 A) (F0 m 18 ls []) := by
  intro g u1 H locs ls hm hw hf hl
  unfold fSx_compare_18 at hm
  refine lv_aload_n S.1 S.2.1 dSx_compare_18 rfl (lv_at hl 0 rfl) ?_
  refine get_Sx (v := .ref (ξ.2.2.2.1 42)) S hw (is_0 hf) 7 (by decide) rfl wf_Sx_46 dSx_compare_19 ?_
  refine lv_aload_n S.1 S.2.1 dSx_compare_22 rfl (lv_at hl 0 rfl) ?_
  refine get_Sx (v := .ref (ξ.2.2.2.1 1)) S hw (is_0 hf) 0 (by decide) rfl wf_Sx_12 dSx_compare_23 ?_
  refine lv_aload_n S.1 S.2.1 dSx_compare_26 rfl (lv_at hl 0 rfl) ?_
  refine get_Sx (v := .ref (ξ.2.2.2.1 1)) S hw (is_0 hf) 0 (by decide) rfl wf_Sx_12 dSx_compare_27 ?_
  refine lv_iload_n S.1 S.2.1 dSx_compare_30 rfl (lv_at hl 1 rfl) ?_
  obtain ⟨⟨v3, g2⟩, h1, hm⟩ := ob hm
  refine sw_Vq (q := 1) (rest := [.ref (ξ.2.2.2.1 1), .ref (ξ.2.2.2.1 42)]) S hw (cPl_textOf l  hf 1 (is_1 hf) u1 h1) kPl_textOf wm_Sx_311 (is_1 hf).1 (e_Pl (is_1 hf)) rfl rfl rfl rfl hl.1 (Nat.le_of_ble_eq_true rfl) ⟨rfl, rfl, Nat.le_of_ble_eq_true rfl, Nat.le_of_ble_eq_true rfl⟩ ⟨Nat.le_of_ble_eq_true rfl, Nat.le_of_ble_eq_true rfl⟩ dSx_compare_31 (fun H locs hw hΛ => ?_)
  have hf := hΛ.1
  cases v3 with
  | none =>
    refine W.eq (g2 := F0 m 34 ls [.null, .ref (ξ.2.2.2.1 1), .ref (ξ.2.2.2.1 42)]) rfl ?_
    obtain ⟨⟨v7, g6⟩, h5, hm⟩ := ob hm
    refine sw_Vi (q := 42) (rest := []) S hw (cJu_tiltBy l N hf 1 none (is_1 hf) (fun _ h => by cases h) h5) kJu_tiltBy wm_Sx_315 (is_42 hf).1 (e_Ju (is_42 hf)) rfl rfl rfl rfl hl.1 (Nat.le_of_ble_eq_true rfl) ⟨rfl, rfl, Nat.le_of_ble_eq_true rfl, Nat.le_of_ble_eq_true rfl⟩ ⟨Nat.le_of_ble_eq_true rfl, Nat.le_of_ble_eq_true rfl⟩ dSx_compare_34 (fun H locs hw hf => ?_)
    refine sw_abs (rest := []) S hl.1 wm_Sx_138 (Nat.le_of_ble_eq_true rfl) (Nat.le_of_ble_eq_true rfl) (Nat.le_of_ble_eq_true rfl) (Nat.le_of_ble_eq_true rfl) dSx_compare_37 ?_
    obtain rfl := Option.some.inj hm
    exact sw_iret S hr hlk hw hf dSx_compare_40
  | some p4 =>
    have hp4 : sw_ik ξ p4 7 := hΛ.2 _ rfl
    refine W.eq (g2 := F0 m 34 ls [.ref (ξ.2.2.2.1 p4), .ref (ξ.2.2.2.1 1), .ref (ξ.2.2.2.1 42)]) rfl ?_
    obtain ⟨⟨v10, g9⟩, h8, hm⟩ := ob hm
    refine sw_Vi (q := 42) (rest := []) S hw (cJu_tiltBy l N hf 1 (some p4) (is_1 hf) (fun _ h => by cases h; exact hp4) h8) kJu_tiltBy wm_Sx_315 (is_42 hf).1 (e_Ju (is_42 hf)) rfl rfl rfl rfl hl.1 (Nat.le_of_ble_eq_true rfl) ⟨rfl, rfl, Nat.le_of_ble_eq_true rfl, Nat.le_of_ble_eq_true rfl⟩ ⟨Nat.le_of_ble_eq_true rfl, Nat.le_of_ble_eq_true rfl⟩ dSx_compare_34 (fun H locs hw hf => ?_)
    refine sw_abs (rest := []) S hl.1 wm_Sx_138 (Nat.le_of_ble_eq_true rfl) (Nat.le_of_ble_eq_true rfl) (Nat.le_of_ble_eq_true rfl) (Nat.le_of_ble_eq_true rfl) dSx_compare_37 ?_
    obtain rfl := Option.some.inj hm
    exact sw_iret S hr hlk hw hf dSx_compare_40
set_option maxHeartbeats 4000000 in
set_option maxRecDepth 100000 in
theorem cSx_compare (l : Launch) (N : Nat) {Γ : sw_C} {A : Nat → Prop} {ξ : sw_x} {g : sw_g} {μ : sw_m} (hf : sw_wf ξ g.2.2) (a1 : Int32) {res : Int32 × sw_g} (hm : fSx_compare N ξ.2.2.1 g a1 = some res) : Met l ySx_compare (Cond.code ySx_compare prog_1_method_34_code 2 (some .int) :: sw_tb) rmSx_compare (va_Pc [.ref (ξ.2.2.2.1 0), .int a1] (sw_V Γ A ξ g μ)) (sw_Qi Γ A ξ res.2 μ res.1 (sw_wf ξ res.2.2.2)) 0 0 A := by
  refine Met.ofW (cc := prog_1_method_34_code) (maxL := 2) (ret := some .int) (by decide) rfl ?_
  intro p e s m args below meth c s₁ B hml hv
  obtain ⟨rfl, hv⟩ := hv
  have S : CallFix p m c prog_1_method_34_code 2 s _ (Cond.code ySx_compare prog_1_method_34_code 2 (some .int) :: sw_tb) R_Sx := ⟨B.exec, B.bytes, hml, findClass_of_methodNamed B.named, atoms_spec (ws := (Cond.code ySx_compare prog_1_method_34_code 2 (some .int) :: sw_tb)) B.pre⟩
  have hr := B.returns
  have hlk := B.notSynchronized
  have hw := sw_begin hv
  have hl := lv_entry [.ref (ξ.2.2.2.1 0), .int a1] (n := 2) (Nat.le_of_ble_eq_true rfl)
  rw [lg_entry_eq]
  generalize (lg_sl [.ref (ξ.2.2.2.1 0), .int a1] ++ List.replicate (2 - (lg_sl [.ref (ξ.2.2.2.1 0), .int a1]).length) Slot.unset).toArray = ls at hl ⊢
  have hl : lv_has ls 2 [(0, .ref (ξ.2.2.2.1 0)), (1, .int a1)] := hl
  unfold fSx_compare at hm
  refine lv_iload_n S.1 S.2.1 dSx_compare_0 rfl (lv_at hl 1 rfl) ?_
  refine lv_iconst (v := (-1 : Int32)) S.1 S.2.1 dSx_compare_1 (by decide) ?_
  refine bicmp_eq (tgt := 18) S.1 S.2.1 hm dSx_compare_2 (by decide) (fun hm => ?_) (fun hm => ?_)
  · exact wSx_compare_18 S hr hlk N  g a1 _ _ _ hm hw hf (lv_sub hl [0, 1] rfl)
  · refine lv_aload_n S.1 S.2.1 dSx_compare_5 rfl (lv_at hl 0 rfl) ?_
    refine get_Sx (v := .ref (ξ.2.2.2.1 1)) S hw (is_0 hf) 0 (by decide) rfl wf_Sx_12 dSx_compare_6 ?_
    refine lv_iload_n S.1 S.2.1 dSx_compare_9 rfl (lv_at hl 1 rfl) ?_
    obtain ⟨⟨v13, g12⟩, h11, hm⟩ := ob hm
    refine sw_Vi (q := 1) (rest := []) S hw (cPl_hasLaw l  hf 1 (is_1 hf) a1 h11) kPl_hasLaw wm_Sx_210 (is_1 hf).1 (e_Pl (is_1 hf)) rfl rfl rfl rfl hl.1 (Nat.le_of_ble_eq_true rfl) ⟨rfl, rfl, Nat.le_of_ble_eq_true rfl, Nat.le_of_ble_eq_true rfl⟩ ⟨Nat.le_of_ble_eq_true rfl, Nat.le_of_ble_eq_true rfl⟩ dSx_compare_10 (fun H locs hw hf => ?_)
    refine bif_ne (tgt := 18) S.1 S.2.1 hm dSx_compare_13 (by decide) (fun hm => ?_) (fun hm => ?_)
    · exact wSx_compare_18 S hr hlk N  g12 a1 _ _ _ hm hw hf (lv_sub hl [0, 1] rfl)
    · refine lv_iconst (v := (-1 : Int32)) S.1 S.2.1 dSx_compare_16 (by decide) ?_
      obtain rfl := Option.some.inj hm
      exact sw_iret S hr hlk hw hf dSx_compare_17
set_option maxHeartbeats 4000000 in
set_option maxRecDepth 100000 in
theorem wSx_days_22 {l : Launch} {p : Program} {e : Env} {s : State} {m : MethodId} {args : Array Value} {below : List Frame} {meth : Method} {c : Code} {Γ : sw_C} {A : Nat → Prop} {ξ : sw_x} {μ : sw_m} {res : Int32 × sw_g} (S : CallFix p m c prog_1_method_35_code 7 s args (Cond.code ySx_days prog_1_method_35_code 7 (some .int) :: sw_tb) R_Sx) (hr : meth.sig.returnType = some .int) (hlk : meth.locks = false) (N : Nat) : ∀ (g : sw_g)  (H : Heap) (locs : List Loc) (ls : Array Slot), fSx_days_22 N ξ.2.2.1  g = some res → sw_S Γ A ξ g μ s H locs → sw_wf ξ g.2.2 → lv_has ls 7 [(0, .ref (ξ.2.2.2.1 0))] → W p l e (headSpec (Cond.code ySx_days prog_1_method_35_code 7 (some .int) :: sw_tb) rmSx_days).room s m args below meth c H locs 0 0 (MQ below (sw_Qi Γ A ξ res.2 μ res.1 (sw_wf ξ res.2.2.2)) args s 0 0 A) (F0 m 22 ls []) := by
  intro g H locs ls hm hw hf hl
  unfold fSx_days_22 at hm
  refine lv_aload_n S.1 S.2.1 dSx_days_22 rfl (lv_at hl 0 rfl) ?_
  refine lv_iconst (v := (-1 : Int32)) S.1 S.2.1 dSx_days_23 (by decide) ?_
  obtain ⟨⟨v3, g2⟩, h1, hm⟩ := ob hm
  refine sw_Vi (q := 0) (rest := []) S hw (cSx_refuse l N hf (-1 : Int32) h1) kSx_refuse wm_Sx_85 (is_0 hf).1 (e_Sx (is_0 hf)) rfl rfl rfl rfl hl.1 (Nat.le_of_ble_eq_true rfl) ⟨rfl, rfl, Nat.le_of_ble_eq_true rfl, Nat.le_of_ble_eq_true rfl⟩ ⟨Nat.le_of_ble_eq_true rfl, Nat.le_of_ble_eq_true rfl⟩ dSx_days_24 (fun H locs hw hf => ?_)
  obtain rfl := Option.some.inj hm
  exact sw_iret S hr hlk hw hf dSx_days_27
set_option maxHeartbeats 4000000 in
set_option maxRecDepth 100000 in
theorem wSx_days_143 {l : Launch} {p : Program} {e : Env} {s : State} {m : MethodId} {args : Array Value} {below : List Frame} {meth : Method} {c : Code} {Γ : sw_C} {A : Nat → Prop} {ξ : sw_x} {μ : sw_m} {res : Int32 × sw_g} (S : CallFix p m c prog_1_method_35_code 7 s args (Cond.code ySx_days prog_1_method_35_code 7 (some .int) :: sw_tb) R_Sx) (hr : meth.sig.returnType = some .int) (hlk : meth.locks = false) (N : Nat) : ∀ (g : sw_g)  (H : Heap) (locs : List Loc) (ls : Array Slot), fSx_days_143 N ξ.2.2.1  g = some res → sw_S Γ A ξ g μ s H locs → sw_wf ξ g.2.2 → lv_has ls 7 [(0, .ref (ξ.2.2.2.1 0))] → W p l e (headSpec (Cond.code ySx_days prog_1_method_35_code 7 (some .int) :: sw_tb) rmSx_days).room s m args below meth c H locs 0 0 (MQ below (sw_Qi Γ A ξ res.2 μ res.1 (sw_wf ξ res.2.2.2)) args s 0 0 A) (F0 m 143 ls []) := by
  intro g H locs ls hm hw hf hl
  unfold fSx_days_143 at hm
  refine lv_aload_n S.1 S.2.1 dSx_days_143 rfl (lv_at hl 0 rfl) ?_
  refine lv_aload_n S.1 S.2.1 dSx_days_144 rfl (lv_at hl 0 rfl) ?_
  refine get_Sx (v := .ref (ξ.2.2.2.1 42)) S hw (is_0 hf) 7 (by decide) rfl wf_Sx_46 dSx_days_145 ?_
  refine lv_aload_n S.1 S.2.1 dSx_days_148 rfl (lv_at hl 0 rfl) ?_
  refine get_Sx (v := .ref (ξ.2.2.2.1 19)) S hw (is_0 hf) 2 (by decide) rfl wf_Sx_19 dSx_days_149 ?_
  refine lv_aload_n S.1 S.2.1 dSx_days_152 rfl (lv_at hl 0 rfl) ?_
  refine get_Sx (v := .ref (ξ.2.2.2.1 19)) S hw (is_0 hf) 2 (by decide) rfl wf_Sx_19 dSx_days_153 ?_
  refine lv_aload_n S.1 S.2.1 dSx_days_156 rfl (lv_at hl 0 rfl) ?_
  refine get_Sx (v := .ref (ξ.2.2.2.1 19)) S hw (is_0 hf) 2 (by decide) rfl wf_Sx_19 dSx_days_157 ?_
  refine get_Pl (v := .int (g.1 19 11)) S hw (is_19 hf) 11 (by decide) rfl wf_Sx_213 dSx_days_160 ?_
  obtain ⟨⟨v8, g7⟩, h6, hm⟩ := ob hm
  refine sw_Vq (q := 19) (rest := [.ref (ξ.2.2.2.1 19), .ref (ξ.2.2.2.1 42), .ref (ξ.2.2.2.1 0)]) S hw (cPl_textOf l  hf 19 (is_19 hf) (g.1 19 11) h6) kPl_textOf wm_Sx_311 (is_19 hf).1 (e_Pl (is_19 hf)) rfl rfl rfl rfl hl.1 (Nat.le_of_ble_eq_true rfl) ⟨rfl, rfl, Nat.le_of_ble_eq_true rfl, Nat.le_of_ble_eq_true rfl⟩ ⟨Nat.le_of_ble_eq_true rfl, Nat.le_of_ble_eq_true rfl⟩ dSx_days_163 (fun H locs hw hΛ => ?_)
  have hf := hΛ.1
  cases v8 with
  | none =>
    refine W.eq (g2 := F0 m 166 ls [.null, .ref (ξ.2.2.2.1 19), .ref (ξ.2.2.2.1 42), .ref (ξ.2.2.2.1 0)]) rfl ?_
    obtain ⟨⟨v12, g11⟩, h10, hm⟩ := ob hm
    refine sw_Vi (q := 42) (rest := [.ref (ξ.2.2.2.1 0)]) S hw (cJu_tiltBy l N hf 19 none (is_19 hf) (fun _ h => by cases h) h10) kJu_tiltBy wm_Sx_315 (is_42 hf).1 (e_Ju (is_42 hf)) rfl rfl rfl rfl hl.1 (Nat.le_of_ble_eq_true rfl) ⟨rfl, rfl, Nat.le_of_ble_eq_true rfl, Nat.le_of_ble_eq_true rfl⟩ ⟨Nat.le_of_ble_eq_true rfl, Nat.le_of_ble_eq_true rfl⟩ dSx_days_166 (fun H locs hw hf => ?_)
    refine sw_abs (rest := [.ref (ξ.2.2.2.1 0)]) S hl.1 wm_Sx_138 (Nat.le_of_ble_eq_true rfl) (Nat.le_of_ble_eq_true rfl) (Nat.le_of_ble_eq_true rfl) (Nat.le_of_ble_eq_true rfl) dSx_days_169 ?_
    obtain ⟨⟨v15, g14⟩, h13, hm⟩ := ob hm
    refine sw_Vi (q := 0) (rest := []) S hw (cSx_told l  hf (jabs v12) h13) kSx_told wm_Sx_99 (is_0 hf).1 (e_Sx (is_0 hf)) rfl rfl rfl rfl hl.1 (Nat.le_of_ble_eq_true rfl) ⟨rfl, rfl, Nat.le_of_ble_eq_true rfl, Nat.le_of_ble_eq_true rfl⟩ ⟨Nat.le_of_ble_eq_true rfl, Nat.le_of_ble_eq_true rfl⟩ dSx_days_172 (fun H locs hw hf => ?_)
    obtain rfl := Option.some.inj hm
    exact sw_iret S hr hlk hw hf dSx_days_175
  | some p9 =>
    have hp9 : sw_ik ξ p9 7 := hΛ.2 _ rfl
    refine W.eq (g2 := F0 m 166 ls [.ref (ξ.2.2.2.1 p9), .ref (ξ.2.2.2.1 19), .ref (ξ.2.2.2.1 42), .ref (ξ.2.2.2.1 0)]) rfl ?_
    obtain ⟨⟨v18, g17⟩, h16, hm⟩ := ob hm
    refine sw_Vi (q := 42) (rest := [.ref (ξ.2.2.2.1 0)]) S hw (cJu_tiltBy l N hf 19 (some p9) (is_19 hf) (fun _ h => by cases h; exact hp9) h16) kJu_tiltBy wm_Sx_315 (is_42 hf).1 (e_Ju (is_42 hf)) rfl rfl rfl rfl hl.1 (Nat.le_of_ble_eq_true rfl) ⟨rfl, rfl, Nat.le_of_ble_eq_true rfl, Nat.le_of_ble_eq_true rfl⟩ ⟨Nat.le_of_ble_eq_true rfl, Nat.le_of_ble_eq_true rfl⟩ dSx_days_166 (fun H locs hw hf => ?_)
    refine sw_abs (rest := [.ref (ξ.2.2.2.1 0)]) S hl.1 wm_Sx_138 (Nat.le_of_ble_eq_true rfl) (Nat.le_of_ble_eq_true rfl) (Nat.le_of_ble_eq_true rfl) (Nat.le_of_ble_eq_true rfl) dSx_days_169 ?_
    obtain ⟨⟨v21, g20⟩, h19, hm⟩ := ob hm
    refine sw_Vi (q := 0) (rest := []) S hw (cSx_told l  hf (jabs v18) h19) kSx_told wm_Sx_99 (is_0 hf).1 (e_Sx (is_0 hf)) rfl rfl rfl rfl hl.1 (Nat.le_of_ble_eq_true rfl) ⟨rfl, rfl, Nat.le_of_ble_eq_true rfl, Nat.le_of_ble_eq_true rfl⟩ ⟨Nat.le_of_ble_eq_true rfl, Nat.le_of_ble_eq_true rfl⟩ dSx_days_172 (fun H locs hw hf => ?_)
    obtain rfl := Option.some.inj hm
    exact sw_iret S hr hlk hw hf dSx_days_175
set_option maxHeartbeats 4000000 in
set_option maxRecDepth 100000 in
theorem wSx_days_61 {l : Launch} {p : Program} {e : Env} {s : State} {m : MethodId} {args : Array Value} {below : List Frame} {meth : Method} {c : Code} {Γ : sw_C} {A : Nat → Prop} {ξ : sw_x} {μ : sw_m} {res : Int32 × sw_g} (S : CallFix p m c prog_1_method_35_code 7 s args (Cond.code ySx_days prog_1_method_35_code 7 (some .int) :: sw_tb) R_Sx) (hr : meth.sig.returnType = some .int) (hlk : meth.locks = false) (N : Nat) : ∀ (fu : Nat) (g : sw_g) (u2 : Int32) (u3 : Int32) (u4 : Int32) (H : Heap) (locs : List Loc) (ls : Array Slot), fSx_days_61 N ξ.2.2.1  fu g u2 u3 u4 = some res → sw_S Γ A ξ g μ s H locs → sw_wf ξ g.2.2 → lv_has ls 7 [(0, .ref (ξ.2.2.2.1 0)), (2, .int u2), (3, .int u3), (4, .int u4)] → W p l e (headSpec (Cond.code ySx_days prog_1_method_35_code 7 (some .int) :: sw_tb) rmSx_days).room s m args below meth c H locs 0 0 (MQ below (sw_Qi Γ A ξ res.2 μ res.1 (sw_wf ξ res.2.2.2)) args s 0 0 A) (F0 m 61 ls []) := by
  intro fu
  induction fu with
  | zero => intro g u2 u3 u4 H locs ls hm; rw [fSx_days_61.eq_1] at hm; cases hm
  | succ fu ih =>
    intro g u2 u3 u4 H locs ls hm hw hf hl
    rw [fSx_days_61.eq_2] at hm
    refine lv_iload S.1 S.2.1 dSx_days_61 (lv_at hl 3 rfl) ?_
    refine lv_iload_n S.1 S.2.1 dSx_days_63 rfl (lv_at hl 1 rfl) ?_
    refine bicmp_ge (tgt := 143) S.1 S.2.1 hm dSx_days_64 (by decide) (fun hm => ?_) (fun hm => ?_)
    · exact wSx_days_143 S hr hlk N  g _ _ _ hm hw hf (lv_sub hl [0] rfl)
    · refine lv_aload_n S.1 S.2.1 dSx_days_67 rfl (lv_at hl 0 rfl) ?_
      refine get_Sx (v := .ref (ξ.2.2.2.1 19)) S hw (is_0 hf) 2 (by decide) rfl wf_Sx_19 dSx_days_68 ?_
      refine get_Pl (v := .ref (ξ.2.2.2.1 23)) S hw (is_19 hf) 4 (by decide) rfl wf_Sx_153 dSx_days_71 ?_
      refine lv_iconst (v := (0 : Int32)) S.1 S.2.1 dSx_days_74 (by decide) ?_
      refine sx_iald S hw (is_23 hf) hm dSx_days_75 (fun v22 hm => ?_)
      refine lv_sipush (v := (999 : Int32)) S.1 S.2.1 dSx_days_76 (by decide) ?_
      refine bicmp_ge (tgt := 143) S.1 S.2.1 hm dSx_days_79 (by decide) (fun hm => ?_) (fun hm => ?_)
      · exact wSx_days_143 S hr hlk N  g _ _ _ hm hw hf (lv_sub hl [0] rfl)
      · refine lv_iload_n S.1 S.2.1 dSx_days_82 rfl (lv_at hl 2 rfl) ?_
        obtain ⟨v24, h23, hm⟩ := ob hm
        refine sw_Si (rest := []) S hw (cSx_nextSeed l  hf u3 h23) kSx_nextSeed wm_Sx_320 rfl rfl hl.1 (Nat.le_of_ble_eq_true rfl) ⟨rfl, rfl, Nat.le_of_ble_eq_true rfl, Nat.le_of_ble_eq_true rfl⟩ ⟨Nat.le_of_ble_eq_true rfl, Nat.le_of_ble_eq_true rfl⟩ dSx_days_83 (fun H locs hw _ => ?_)
        refine lv_istore_n (lv' := [(3, .int v24), (0, .ref (ξ.2.2.2.1 0)), (2, .int u2), (4, .int u4)]) S.1 S.2.1 dSx_days_86 rfl hl (by decide) rfl (fun ls hl => ?_)
        refine lv_iload_n S.1 S.2.1 dSx_days_87 rfl (lv_at hl 0 rfl) ?_
        refine lv_aload_n S.1 S.2.1 dSx_days_88 rfl (lv_at hl 1 rfl) ?_
        refine get_Sx (v := .ref (ξ.2.2.2.1 1)) S hw (is_0 hf) 0 (by decide) rfl wf_Sx_12 dSx_days_89 ?_
        refine get_Pl (v := .int (g.1 1 0)) S hw (is_1 hf) 0 (by decide) rfl wf_Sx_89 dSx_days_92 ?_
        obtain ⟨hz, hm⟩ := ob_nz hm
        refine lv_irem S.1 S.2.1 dSx_days_95 hz ?_
        refine nm_i hm (fun x25 hm => ?_)
        refine lv_istore (lv' := [(5, .int x25), (3, .int v24), (0, .ref (ξ.2.2.2.1 0)), (2, .int u2), (4, .int u4)]) S.1 S.2.1 dSx_days_96 hl (by decide) rfl (fun ls hl => ?_)
        refine lv_iload_n S.1 S.2.1 dSx_days_98 rfl (lv_at hl 1 rfl) ?_
        obtain ⟨v27, h26, hm⟩ := ob hm
        refine sw_Si (rest := []) S hw (cSx_nextSeed l  hf v24 h26) kSx_nextSeed wm_Sx_320 rfl rfl hl.1 (Nat.le_of_ble_eq_true rfl) ⟨rfl, rfl, Nat.le_of_ble_eq_true rfl, Nat.le_of_ble_eq_true rfl⟩ ⟨Nat.le_of_ble_eq_true rfl, Nat.le_of_ble_eq_true rfl⟩ dSx_days_99 (fun H locs hw _ => ?_)
        refine lv_istore_n (lv' := [(3, .int v27), (5, .int x25), (0, .ref (ξ.2.2.2.1 0)), (2, .int u2), (4, .int u4)]) S.1 S.2.1 dSx_days_102 rfl hl (by decide) rfl (fun ls hl => ?_)
        refine lv_iload_n S.1 S.2.1 dSx_days_103 rfl (lv_at hl 0 rfl) ?_
        refine lv_bipush (v := (7 : Int32)) S.1 S.2.1 dSx_days_104 (by decide) ?_
        refine lv_irem S.1 S.2.1 dSx_days_106 (by decide) ?_
        refine nm_i hm (fun x28 hm => ?_)
        refine lv_istore (lv' := [(6, .int x28), (3, .int v27), (5, .int x25), (0, .ref (ξ.2.2.2.1 0)), (2, .int u2), (4, .int u4)]) S.1 S.2.1 dSx_days_107 hl (by decide) rfl (fun ls hl => ?_)
        refine lv_iload_n S.1 S.2.1 dSx_days_109 rfl (lv_at hl 1 rfl) ?_
        obtain ⟨v30, h29, hm⟩ := ob hm
        refine sw_Si (rest := []) S hw (cSx_nextSeed l  hf v27 h29) kSx_nextSeed wm_Sx_320 rfl rfl hl.1 (Nat.le_of_ble_eq_true rfl) ⟨rfl, rfl, Nat.le_of_ble_eq_true rfl, Nat.le_of_ble_eq_true rfl⟩ ⟨Nat.le_of_ble_eq_true rfl, Nat.le_of_ble_eq_true rfl⟩ dSx_days_110 (fun H locs hw _ => ?_)
        refine lv_istore_n (lv' := [(3, .int v30), (6, .int x28), (5, .int x25), (0, .ref (ξ.2.2.2.1 0)), (2, .int u2), (4, .int u4)]) S.1 S.2.1 dSx_days_113 rfl hl (by decide) rfl (fun ls hl => ?_)
        refine lv_aload_n S.1 S.2.1 dSx_days_114 rfl (lv_at hl 3 rfl) ?_
        refine lv_iload S.1 S.2.1 dSx_days_115 (lv_at hl 2 rfl) ?_
        refine lv_iload S.1 S.2.1 dSx_days_117 (lv_at hl 1 rfl) ?_
        refine lv_iload_n S.1 S.2.1 dSx_days_119 rfl (lv_at hl 0 rfl) ?_
        refine lv_iconst (v := (3 : Int32)) S.1 S.2.1 dSx_days_120 (by decide) ?_
        refine lv_irem S.1 S.2.1 dSx_days_121 (by decide) ?_
        obtain ⟨g32, h31, hm⟩ := ob hm
        refine sw_Vv (q := 0) (rest := []) S hw (cSx_drawOnPaper l N hf x25 x28 (v30 - v30 / (3 : Int32) * (3 : Int32)) h31) kSx_drawOnPaper wm_Sx_323 (is_0 hf).1 (e_Sx (is_0 hf)) rfl rfl rfl rfl hl.1 (Nat.le_of_ble_eq_true rfl) ⟨rfl, rfl, Nat.le_of_ble_eq_true rfl, Nat.le_of_ble_eq_true rfl⟩ ⟨Nat.le_of_ble_eq_true rfl, Nat.le_of_ble_eq_true rfl⟩ dSx_days_122 (fun H locs hw hf => ?_)
        refine lv_aload_n S.1 S.2.1 dSx_days_125 rfl (lv_at hl 3 rfl) ?_
        refine get_Sx (v := .ref (ξ.2.2.2.1 42)) S hw (is_0 hf) 7 (by decide) rfl wf_Sx_46 dSx_days_126 ?_
        refine lv_aload_n S.1 S.2.1 dSx_days_129 rfl (lv_at hl 3 rfl) ?_
        refine get_Sx (v := .ref (ξ.2.2.2.1 19)) S hw (is_0 hf) 2 (by decide) rfl wf_Sx_19 dSx_days_130 ?_
        obtain ⟨⟨v35, g34⟩, h33, hm⟩ := ob hm
        refine sw_Vi (q := 42) (rest := []) S hw (cJu_passDay l N hf 19 (is_19 hf) h33) kJu_passDay wm_Sx_327 (is_42 hf).1 (e_Ju (is_42 hf)) rfl rfl rfl rfl hl.1 (Nat.le_of_ble_eq_true rfl) ⟨rfl, rfl, Nat.le_of_ble_eq_true rfl, Nat.le_of_ble_eq_true rfl⟩ ⟨Nat.le_of_ble_eq_true rfl, Nat.le_of_ble_eq_true rfl⟩ dSx_days_133 (fun H locs hw hf => ?_)
        refine lv_pop S.1 S.2.1 dSx_days_136 rfl ?_
        obtain ⟨x36, ex36, hm⟩ := nm_x hm
        refine lv_iinc (v := x36) (lv' := [(4, .int x36), (3, .int v30), (6, .int x28), (5, .int x25), (0, .ref (ξ.2.2.2.1 0)), (2, .int u2)]) S.1 S.2.1 dSx_days_137 hl (k := 5) rfl (by rw [ex36]; rfl) (by decide) rfl (fun ls hl => ?_)
        refine lv_goto (tgt := 61) S.1 S.2.1 dSx_days_140 (by decide) ?_
        exact ih g34 u2 v30 x36 _ _ _ hm hw hf (lv_sub hl [4, 5, 1, 0] rfl)
set_option maxHeartbeats 4000000 in
set_option maxRecDepth 100000 in
theorem cSx_days (l : Launch) (N : Nat) {Γ : sw_C} {A : Nat → Prop} {ξ : sw_x} {g : sw_g} {μ : sw_m} (hf : sw_wf ξ g.2.2) (a1 : Int32) (a2 : Int32) {res : Int32 × sw_g} (hm : fSx_days N ξ.2.2.1 g a1 a2 = some res) : Met l ySx_days (Cond.code ySx_days prog_1_method_35_code 7 (some .int) :: sw_tb) rmSx_days (va_Pc [.ref (ξ.2.2.2.1 0), .int a1, .int a2] (sw_V Γ A ξ g μ)) (sw_Qi Γ A ξ res.2 μ res.1 (sw_wf ξ res.2.2.2)) 0 0 A := by
  refine Met.ofW (cc := prog_1_method_35_code) (maxL := 7) (ret := some .int) (by decide) rfl ?_
  intro p e s m args below meth c s₁ B hml hv
  obtain ⟨rfl, hv⟩ := hv
  have S : CallFix p m c prog_1_method_35_code 7 s _ (Cond.code ySx_days prog_1_method_35_code 7 (some .int) :: sw_tb) R_Sx := ⟨B.exec, B.bytes, hml, findClass_of_methodNamed B.named, atoms_spec (ws := (Cond.code ySx_days prog_1_method_35_code 7 (some .int) :: sw_tb)) B.pre⟩
  have hr := B.returns
  have hlk := B.notSynchronized
  have hw := sw_begin hv
  have hl := lv_entry [.ref (ξ.2.2.2.1 0), .int a1, .int a2] (n := 7) (Nat.le_of_ble_eq_true rfl)
  rw [lg_entry_eq]
  generalize (lg_sl [.ref (ξ.2.2.2.1 0), .int a1, .int a2] ++ List.replicate (7 - (lg_sl [.ref (ξ.2.2.2.1 0), .int a1, .int a2]).length) Slot.unset).toArray = ls at hl ⊢
  have hl : lv_has ls 7 [(0, .ref (ξ.2.2.2.1 0)), (1, .int a1), (2, .int a2)] := hl
  unfold fSx_days at hm
  refine lv_iload_n S.1 S.2.1 dSx_days_0 rfl (lv_at hl 1 rfl) ?_
  refine bif_lt (tgt := 22) S.1 S.2.1 hm dSx_days_1 (by decide) (fun hm => ?_) (fun hm => ?_)
  · exact wSx_days_22 S hr hlk N  g _ _ _ hm hw hf (lv_sub hl [0] rfl)
  · refine lv_iload_n S.1 S.2.1 dSx_days_4 rfl (lv_at hl 1 rfl) ?_
    refine lv_ldcw S.1 S.2.1 S.2.2.2.1 (sw_word S wc_Sx_319) dSx_days_5 ?_
    refine bicmp_gt (tgt := 22) S.1 S.2.1 hm dSx_days_8 (by decide) (fun hm => ?_) (fun hm => ?_)
    · exact wSx_days_22 S hr hlk N  g _ _ _ hm hw hf (lv_sub hl [0] rfl)
    · refine lv_iload_n S.1 S.2.1 dSx_days_11 rfl (lv_at hl 2 rfl) ?_
      refine lv_iconst (v := (1 : Int32)) S.1 S.2.1 dSx_days_12 (by decide) ?_
      refine bicmp_lt (tgt := 22) S.1 S.2.1 hm dSx_days_13 (by decide) (fun hm => ?_) (fun hm => ?_)
      · exact wSx_days_22 S hr hlk N  g _ _ _ hm hw hf (lv_sub hl [0] rfl)
      · refine lv_iload_n S.1 S.2.1 dSx_days_16 rfl (lv_at hl 2 rfl) ?_
        refine lv_bipush (v := (60 : Int32)) S.1 S.2.1 dSx_days_17 (by decide) ?_
        refine bicmp_le (tgt := 28) S.1 S.2.1 hm dSx_days_19 (by decide) (fun hm => ?_) (fun hm => ?_)
        · refine lv_aload_n S.1 S.2.1 dSx_days_28 rfl (lv_at hl 0 rfl) ?_
          refine get_Sx (v := .ref (ξ.2.2.2.1 1)) S hw (is_0 hf) 0 (by decide) rfl wf_Sx_12 dSx_days_29 ?_
          refine get_Pl (v := .int (g.1 1 0)) S hw (is_1 hf) 0 (by decide) rfl wf_Sx_89 dSx_days_32 ?_
          refine bif_ne (tgt := 45) S.1 S.2.1 hm dSx_days_35 (by decide) (fun hm => ?_) (fun hm => ?_)
          · refine lv_aload_n S.1 S.2.1 dSx_days_45 rfl (lv_at hl 0 rfl) ?_
            refine get_Sx (v := .ref (ξ.2.2.2.1 19)) S hw (is_0 hf) 2 (by decide) rfl wf_Sx_19 dSx_days_46 ?_
            refine lv_aload_n S.1 S.2.1 dSx_days_49 rfl (lv_at hl 0 rfl) ?_
            refine get_Sx (v := .ref (ξ.2.2.2.1 1)) S hw (is_0 hf) 0 (by decide) rfl wf_Sx_12 dSx_days_50 ?_
            obtain ⟨g5, h4, hm⟩ := ob hm
            refine sw_Vv (q := 19) (rest := []) S hw (cPl_become l N hf 19 1 (is_19 hf) (is_1 hf) h4) kPl_become wm_Sx_190 (is_19 hf).1 (e_Pl (is_19 hf)) rfl rfl rfl rfl hl.1 (Nat.le_of_ble_eq_true rfl) ⟨rfl, rfl, Nat.le_of_ble_eq_true rfl, Nat.le_of_ble_eq_true rfl⟩ ⟨Nat.le_of_ble_eq_true rfl, Nat.le_of_ble_eq_true rfl⟩ dSx_days_53 (fun H locs hw hf => ?_)
            refine lv_iload_n S.1 S.2.1 dSx_days_56 rfl (lv_at hl 1 rfl) ?_
            refine lv_istore_n (lv' := [(3, .int a1), (0, .ref (ξ.2.2.2.1 0)), (1, .int a1), (2, .int a2)]) S.1 S.2.1 dSx_days_57 rfl hl (by decide) rfl (fun ls hl => ?_)
            refine lv_iconst (v := (0 : Int32)) S.1 S.2.1 dSx_days_58 (by decide) ?_
            refine lv_istore (lv' := [(4, .int (0 : Int32)), (3, .int a1), (0, .ref (ξ.2.2.2.1 0)), (1, .int a1), (2, .int a2)]) S.1 S.2.1 dSx_days_59 hl (by decide) rfl (fun ls hl => ?_)
            exact wSx_days_61 S hr hlk N  N g5 a2 a1 (0 : Int32) _ _ _ hm hw hf (lv_sub hl [2, 4, 1, 0] rfl)
          · refine lv_aload_n S.1 S.2.1 dSx_days_38 rfl (lv_at hl 0 rfl) ?_
            refine lv_bipush (v := (-3 : Int32)) S.1 S.2.1 dSx_days_39 (by decide) ?_
            obtain ⟨⟨v39, g38⟩, h37, hm⟩ := ob hm
            refine sw_Vi (q := 0) (rest := []) S hw (cSx_refuse l N hf (-3 : Int32) h37) kSx_refuse wm_Sx_85 (is_0 hf).1 (e_Sx (is_0 hf)) rfl rfl rfl rfl hl.1 (Nat.le_of_ble_eq_true rfl) ⟨rfl, rfl, Nat.le_of_ble_eq_true rfl, Nat.le_of_ble_eq_true rfl⟩ ⟨Nat.le_of_ble_eq_true rfl, Nat.le_of_ble_eq_true rfl⟩ dSx_days_41 (fun H locs hw hf => ?_)
            obtain rfl := Option.some.inj hm
            exact sw_iret S hr hlk hw hf dSx_days_44
        · exact wSx_days_22 S hr hlk N  g _ _ _ hm hw hf (lv_sub hl [0] rfl)
set_option maxHeartbeats 4000000 in
set_option maxRecDepth 100000 in
theorem cSx_puts (l : Launch) (N : Nat) {Γ : sw_C} {A : Nat → Prop} {ξ : sw_x} {g : sw_g} {μ : sw_m} (hf : sw_wf ξ g.2.2) (a1 : Int32) (a2 : Int32) {res : Int32 × sw_g} (hm : fSx_puts N ξ.2.2.1 g a1 a2 = some res) : Met l ySx_puts (Cond.code ySx_puts prog_1_method_47_code 3 (some .int) :: sw_tb) rmSx_puts (va_Pc [.ref (ξ.2.2.2.1 0), .int a1, .int a2] (sw_V Γ A ξ g μ)) (sw_Qi Γ A ξ res.2 μ res.1 (sw_wf ξ res.2.2.2)) 0 0 A := by
  refine Met.ofW (cc := prog_1_method_47_code) (maxL := 3) (ret := some .int) (by decide) rfl ?_
  intro p e s m args below meth c s₁ B hml hv
  obtain ⟨rfl, hv⟩ := hv
  have S : CallFix p m c prog_1_method_47_code 3 s _ (Cond.code ySx_puts prog_1_method_47_code 3 (some .int) :: sw_tb) R_Sx := ⟨B.exec, B.bytes, hml, findClass_of_methodNamed B.named, atoms_spec (ws := (Cond.code ySx_puts prog_1_method_47_code 3 (some .int) :: sw_tb)) B.pre⟩
  have hr := B.returns
  have hlk := B.notSynchronized
  have hw := sw_begin hv
  have hl := lv_entry [.ref (ξ.2.2.2.1 0), .int a1, .int a2] (n := 3) (Nat.le_of_ble_eq_true rfl)
  rw [lg_entry_eq]
  generalize (lg_sl [.ref (ξ.2.2.2.1 0), .int a1, .int a2] ++ List.replicate (3 - (lg_sl [.ref (ξ.2.2.2.1 0), .int a1, .int a2]).length) Slot.unset).toArray = ls at hl ⊢
  have hl : lv_has ls 3 [(0, .ref (ξ.2.2.2.1 0)), (1, .int a1), (2, .int a2)] := hl
  unfold fSx_puts at hm
  refine lv_iload_n S.1 S.2.1 dSx_puts_0 rfl (lv_at hl 2 rfl) ?_
  obtain ⟨v2, h1, hm⟩ := ob hm
  refine sw_Si (rest := []) S hw (cSx_isPlace l  hf a2 h1) kSx_isPlace wm_Sx_125 rfl rfl hl.1 (Nat.le_of_ble_eq_true rfl) ⟨rfl, rfl, Nat.le_of_ble_eq_true rfl, Nat.le_of_ble_eq_true rfl⟩ ⟨Nat.le_of_ble_eq_true rfl, Nat.le_of_ble_eq_true rfl⟩ dSx_puts_1 (fun H locs hw _ => ?_)
  refine bif_ne (tgt := 9) S.1 S.2.1 hm dSx_puts_4 (by decide) (fun hm => ?_) (fun hm => ?_)
  · refine lv_aload_n S.1 S.2.1 dSx_puts_9 rfl (lv_at hl 0 rfl) ?_
    refine get_Sx (v := .ref (ξ.2.2.2.1 1)) S hw (is_0 hf) 0 (by decide) rfl wf_Sx_12 dSx_puts_10 ?_
    refine lv_iload_n S.1 S.2.1 dSx_puts_13 rfl (lv_at hl 1 rfl) ?_
    obtain ⟨⟨v5, g4⟩, h3, hm⟩ := ob hm
    refine sw_Vi (q := 1) (rest := []) S hw (cPl_hasClaim l  hf 1 (is_1 hf) a1 h3) kPl_hasClaim wm_Sx_102 (is_1 hf).1 (e_Pl (is_1 hf)) rfl rfl rfl rfl hl.1 (Nat.le_of_ble_eq_true rfl) ⟨rfl, rfl, Nat.le_of_ble_eq_true rfl, Nat.le_of_ble_eq_true rfl⟩ ⟨Nat.le_of_ble_eq_true rfl, Nat.le_of_ble_eq_true rfl⟩ dSx_puts_14 (fun H locs hw hf => ?_)
    refine bif_ne (tgt := 23) S.1 S.2.1 hm dSx_puts_17 (by decide) (fun hm => ?_) (fun hm => ?_)
    · refine lv_aload_n S.1 S.2.1 dSx_puts_23 rfl (lv_at hl 0 rfl) ?_
      refine lv_aload_n S.1 S.2.1 dSx_puts_24 rfl (lv_at hl 0 rfl) ?_
      refine get_Sx (v := .ref (ξ.2.2.2.1 1)) S hw (is_0 hf) 0 (by decide) rfl wf_Sx_12 dSx_puts_25 ?_
      refine lv_iload_n S.1 S.2.1 dSx_puts_28 rfl (lv_at hl 1 rfl) ?_
      refine lv_iload_n S.1 S.2.1 dSx_puts_29 rfl (lv_at hl 2 rfl) ?_
      obtain ⟨⟨v8, g7⟩, h6, hm⟩ := ob hm
      refine sw_Vi (q := 0) (rest := []) S hw (cSx_canPut l N hf 1 (is_1 hf) a1 a2 h6) kSx_canPut wm_Sx_339 (is_0 hf).1 (e_Sx (is_0 hf)) rfl rfl rfl rfl hl.1 (Nat.le_of_ble_eq_true rfl) ⟨rfl, rfl, Nat.le_of_ble_eq_true rfl, Nat.le_of_ble_eq_true rfl⟩ ⟨Nat.le_of_ble_eq_true rfl, Nat.le_of_ble_eq_true rfl⟩ dSx_puts_30 (fun H locs hw hf => ?_)
      refine bif_ne (tgt := 39) S.1 S.2.1 hm dSx_puts_33 (by decide) (fun hm => ?_) (fun hm => ?_)
      · refine lv_aload_n S.1 S.2.1 dSx_puts_39 rfl (lv_at hl 0 rfl) ?_
        refine get_Sx (v := .ref (ξ.2.2.2.1 29)) S hw (is_0 hf) 4 (by decide) rfl wf_Sx_29 dSx_puts_40 ?_
        refine lv_iconst (v := (0 : Int32)) S.1 S.2.1 dSx_puts_43 (by decide) ?_
        refine lv_aload_n S.1 S.2.1 dSx_puts_44 rfl (lv_at hl 0 rfl) ?_
        refine get_Sx (v := .ref (ξ.2.2.2.1 1)) S hw (is_0 hf) 0 (by decide) rfl wf_Sx_12 dSx_puts_45 ?_
        obtain ⟨g10, h9, hm⟩ := ob hm
        refine sw_Vv (q := 29) (rest := []) S hw (cHi_keep l  hf 29 1 (is_29 hf) (is_30 hf) (is_1 hf) (0 : Int32) h9) kHi_keep wm_Sx_342 (is_29 hf).1 (e_Hi (is_29 hf)) rfl rfl rfl rfl hl.1 (Nat.le_of_ble_eq_true rfl) ⟨rfl, rfl, Nat.le_of_ble_eq_true rfl, Nat.le_of_ble_eq_true rfl⟩ ⟨Nat.le_of_ble_eq_true rfl, Nat.le_of_ble_eq_true rfl⟩ dSx_puts_48 (fun H locs hw hf => ?_)
        refine lv_aload_n S.1 S.2.1 dSx_puts_51 rfl (lv_at hl 0 rfl) ?_
        refine get_Sx (v := .ref (ξ.2.2.2.1 1)) S hw (is_0 hf) 0 (by decide) rfl wf_Sx_12 dSx_puts_52 ?_
        refine get_Pl (v := .ref (ξ.2.2.2.1 4)) S hw (is_1 hf) 3 (by decide) rfl wf_Sx_106 dSx_puts_55 ?_
        refine lv_iload_n S.1 S.2.1 dSx_puts_58 rfl (lv_at hl 1 rfl) ?_
        refine lv_iload_n S.1 S.2.1 dSx_puts_59 rfl (lv_at hl 2 rfl) ?_
        refine sx_iast S hw hf (is_4 hf) hm dSx_puts_60 (fun g11 H locs hf hm hw => ?_)
        refine lv_iconst (v := (0 : Int32)) S.1 S.2.1 dSx_puts_61 (by decide) ?_
        obtain rfl := Option.some.inj hm
        exact sw_iret S hr hlk hw hf dSx_puts_62
      · refine lv_bipush (v := (-3 : Int32)) S.1 S.2.1 dSx_puts_36 (by decide) ?_
        obtain rfl := Option.some.inj hm
        exact sw_iret S hr hlk hw hf dSx_puts_38
    · refine lv_bipush (v := (-2 : Int32)) S.1 S.2.1 dSx_puts_20 (by decide) ?_
      obtain rfl := Option.some.inj hm
      exact sw_iret S hr hlk hw hf dSx_puts_22
  · refine lv_iconst (v := (-1 : Int32)) S.1 S.2.1 dSx_puts_7 (by decide) ?_
    obtain rfl := Option.some.inj hm
    exact sw_iret S hr hlk hw hf dSx_puts_8
set_option maxHeartbeats 4000000 in
set_option maxRecDepth 100000 in
theorem cSx_passes (l : Launch) (N : Nat) {Γ : sw_C} {A : Nat → Prop} {ξ : sw_x} {g : sw_g} {μ : sw_m} (hf : sw_wf ξ g.2.2) {res : Int32 × sw_g} (hm : fSx_passes N ξ.2.2.1 g = some res) : Met l ySx_passes (Cond.code ySx_passes prog_1_method_50_code 1 (some .int) :: sw_tb) rmSx_passes (va_Pc [.ref (ξ.2.2.2.1 0)] (sw_V Γ A ξ g μ)) (sw_Qi Γ A ξ res.2 μ res.1 (sw_wf ξ res.2.2.2)) 0 0 A := by
  refine Met.ofW (cc := prog_1_method_50_code) (maxL := 1) (ret := some .int) (by decide) rfl ?_
  intro p e s m args below meth c s₁ B hml hv
  obtain ⟨rfl, hv⟩ := hv
  have S : CallFix p m c prog_1_method_50_code 1 s _ (Cond.code ySx_passes prog_1_method_50_code 1 (some .int) :: sw_tb) R_Sx := ⟨B.exec, B.bytes, hml, findClass_of_methodNamed B.named, atoms_spec (ws := (Cond.code ySx_passes prog_1_method_50_code 1 (some .int) :: sw_tb)) B.pre⟩
  have hr := B.returns
  have hlk := B.notSynchronized
  have hw := sw_begin hv
  have hl := lv_entry [.ref (ξ.2.2.2.1 0)] (n := 1) (Nat.le_of_ble_eq_true rfl)
  rw [lg_entry_eq]
  generalize (lg_sl [.ref (ξ.2.2.2.1 0)] ++ List.replicate (1 - (lg_sl [.ref (ξ.2.2.2.1 0)]).length) Slot.unset).toArray = ls at hl ⊢
  have hl : lv_has ls 1 [(0, .ref (ξ.2.2.2.1 0))] := hl
  unfold fSx_passes at hm
  refine lv_aload_n S.1 S.2.1 dSx_passes_0 rfl (lv_at hl 0 rfl) ?_
  refine get_Sx (v := .ref (ξ.2.2.2.1 1)) S hw (is_0 hf) 0 (by decide) rfl wf_Sx_12 dSx_passes_1 ?_
  refine get_Pl (v := .ref (ξ.2.2.2.1 5)) S hw (is_1 hf) 4 (by decide) rfl wf_Sx_153 dSx_passes_4 ?_
  refine lv_iconst (v := (0 : Int32)) S.1 S.2.1 dSx_passes_7 (by decide) ?_
  refine sx_iald S hw (is_5 hf) hm dSx_passes_8 (fun v1 hm => ?_)
  refine lv_sipush (v := (999 : Int32)) S.1 S.2.1 dSx_passes_9 (by decide) ?_
  refine bicmp_lt (tgt := 18) S.1 S.2.1 hm dSx_passes_12 (by decide) (fun hm => ?_) (fun hm => ?_)
  · refine lv_aload_n S.1 S.2.1 dSx_passes_18 rfl (lv_at hl 0 rfl) ?_
    refine get_Sx (v := .ref (ξ.2.2.2.1 29)) S hw (is_0 hf) 4 (by decide) rfl wf_Sx_29 dSx_passes_19 ?_
    refine lv_iconst (v := (3 : Int32)) S.1 S.2.1 dSx_passes_22 (by decide) ?_
    refine lv_aload_n S.1 S.2.1 dSx_passes_23 rfl (lv_at hl 0 rfl) ?_
    refine get_Sx (v := .ref (ξ.2.2.2.1 1)) S hw (is_0 hf) 0 (by decide) rfl wf_Sx_12 dSx_passes_24 ?_
    obtain ⟨g3, h2, hm⟩ := ob hm
    refine sw_Vv (q := 29) (rest := []) S hw (cHi_keep l  hf 29 1 (is_29 hf) (is_30 hf) (is_1 hf) (3 : Int32) h2) kHi_keep wm_Sx_342 (is_29 hf).1 (e_Hi (is_29 hf)) rfl rfl rfl rfl hl.1 (Nat.le_of_ble_eq_true rfl) ⟨rfl, rfl, Nat.le_of_ble_eq_true rfl, Nat.le_of_ble_eq_true rfl⟩ ⟨Nat.le_of_ble_eq_true rfl, Nat.le_of_ble_eq_true rfl⟩ dSx_passes_27 (fun H locs hw hf => ?_)
    refine lv_aload_n S.1 S.2.1 dSx_passes_30 rfl (lv_at hl 0 rfl) ?_
    refine get_Sx (v := .ref (ξ.2.2.2.1 42)) S hw (is_0 hf) 7 (by decide) rfl wf_Sx_46 dSx_passes_31 ?_
    refine lv_aload_n S.1 S.2.1 dSx_passes_34 rfl (lv_at hl 0 rfl) ?_
    refine get_Sx (v := .ref (ξ.2.2.2.1 1)) S hw (is_0 hf) 0 (by decide) rfl wf_Sx_12 dSx_passes_35 ?_
    obtain ⟨⟨v6, g5⟩, h4, hm⟩ := ob hm
    refine sw_Vi (q := 42) (rest := []) S hw (cJu_passDay l N hf 1 (is_1 hf) h4) kJu_passDay wm_Sx_327 (is_42 hf).1 (e_Ju (is_42 hf)) rfl rfl rfl rfl hl.1 (Nat.le_of_ble_eq_true rfl) ⟨rfl, rfl, Nat.le_of_ble_eq_true rfl, Nat.le_of_ble_eq_true rfl⟩ ⟨Nat.le_of_ble_eq_true rfl, Nat.le_of_ble_eq_true rfl⟩ dSx_passes_38 (fun H locs hw hf => ?_)
    obtain rfl := Option.some.inj hm
    exact sw_iret S hr hlk hw hf dSx_passes_41
  · refine lv_bipush (v := (-3 : Int32)) S.1 S.2.1 dSx_passes_15 (by decide) ?_
    obtain rfl := Option.some.inj hm
    exact sw_iret S hr hlk hw hf dSx_passes_17
set_option maxHeartbeats 4000000 in
set_option maxRecDepth 100000 in
theorem wSx_tellWords_111n {l : Launch} {p : Program} {e : Env} {s : State} {m : MethodId} {args : Array Value} {below : List Frame} {meth : Method} {c : Code} {Γ : sw_C} {A : Nat → Prop} {ξ : sw_x} {μ : sw_m} {res : sw_g} (S : CallFix p m c prog_1_method_53_code 3 s args (Cond.code ySx_tellWords prog_1_method_53_code 3 (none) :: sw_tb) R_Sx) (hr : meth.sig.returnType = none) (hlk : meth.locks = false) (N : Nat) (k64 : sw_g → Int32 → Option (sw_g)) (hk64 : ∀ (g : sw_g) (u1 : Int32) (H : Heap) (locs : List Loc) (ls : Array Slot), k64 g u1 = some res → sw_S Γ A ξ g μ s H locs → sw_wf ξ g.2.2 → lv_has ls 3 [(0, .ref (ξ.2.2.2.1 0)), (1, .int u1)] → W p l e (headSpec (Cond.code ySx_tellWords prog_1_method_53_code 3 (none) :: sw_tb) rmSx_tellWords).room s m args below meth c H locs 0 0 (MQ below (sw_Qv Γ A ξ res μ (sw_wf ξ res.2.2)) args s 0 0 A) (F0 m 64 ls [])) : ∀ (g : sw_g) (u1 : Int32) (u2 : Int32) (s0 : Int32) (s1 : Int32) (H : Heap) (locs : List Loc) (ls : Array Slot), fSx_tellWords_111n N ξ.2.2.1 k64 g u1 u2 s0 s1 = some res → sw_S Γ A ξ g μ s H locs → sw_wf ξ g.2.2 → lv_has ls 3 [(0, .ref (ξ.2.2.2.1 0)), (1, .int u1), (2, .int u2)] → W p l e (headSpec (Cond.code ySx_tellWords prog_1_method_53_code 3 (none) :: sw_tb) rmSx_tellWords).room s m args below meth c H locs 0 0 (MQ below (sw_Qv Γ A ξ res μ (sw_wf ξ res.2.2)) args s 0 0 A) (F0 m 111 ls [.int s0, .int s1, .ref (ξ.2.2.2.1 48)]) := by
  intro g u1 u2 s0 s1 H locs ls hm hw hf hl
  unfold fSx_tellWords_111n at hm
  refine sx_iast S hw hf (is_48 hf) hm dSx_tellWords_111 (fun g17 H locs hf hm hw => ?_)
  refine lv_aload_n S.1 S.2.1 dSx_tellWords_112 rfl (lv_at hl 0 rfl) ?_
  refine get_Sx (v := .ref (ξ.2.2.2.1 48)) S hw (is_0 hf) 9 (by decide) rfl wf_Sx_57 dSx_tellWords_113 ?_
  refine lv_bipush (v := (12 : Int32)) S.1 S.2.1 dSx_tellWords_116 (by decide) ?_
  refine lv_iload_n S.1 S.2.1 dSx_tellWords_118 rfl (lv_at hl 1 rfl) ?_
  refine lv_iadd S.1 S.2.1 dSx_tellWords_119 ?_
  refine lv_iload_n S.1 S.2.1 dSx_tellWords_120 rfl (lv_at hl 2 rfl) ?_
  refine bif_eq (tgt := 136) S.1 S.2.1 hm dSx_tellWords_121 (by decide) (fun hm => ?_) (fun hm => ?_)
  · refine lv_iconst (v := (-1 : Int32)) S.1 S.2.1 dSx_tellWords_136 (by decide) ?_
    refine sx_iast S hw hf (is_48 hf) hm dSx_tellWords_137 (fun g18 H locs hf hm hw => ?_)
    obtain ⟨x19, ex19, hm⟩ := nm_x hm
    refine lv_iinc (v := x19) (lv' := [(1, .int x19), (0, .ref (ξ.2.2.2.1 0)), (2, .int u2)]) S.1 S.2.1 dSx_tellWords_138 hl (k := 1) rfl (by rw [ex19]; rfl) (by decide) rfl (fun ls hl => ?_)
    refine lv_goto (tgt := 64) S.1 S.2.1 dSx_tellWords_141 (by decide) ?_
    exact hk64 g18 x19 _ _ _ hm hw hf (lv_sub hl [1, 0] rfl)
  · refine lv_aload_n S.1 S.2.1 dSx_tellWords_124 rfl (lv_at hl 0 rfl) ?_
    refine get_Sx (v := .ref (ξ.2.2.2.1 1)) S hw (is_0 hf) 0 (by decide) rfl wf_Sx_12 dSx_tellWords_125 ?_
    refine get_Pl (v := .ref (ξ.2.2.2.1 4)) S hw (is_1 hf) 3 (by decide) rfl wf_Sx_106 dSx_tellWords_128 ?_
    refine lv_iload_n S.1 S.2.1 dSx_tellWords_131 rfl (lv_at hl 1 rfl) ?_
    refine sx_iald S hw (is_4 hf) hm dSx_tellWords_132 (fun v20 hm => ?_)
    refine lv_goto (tgt := 137) S.1 S.2.1 dSx_tellWords_133 (by decide) ?_
    refine sx_iast S hw hf (is_48 hf) hm dSx_tellWords_137 (fun g21 H locs hf hm hw => ?_)
    obtain ⟨x22, ex22, hm⟩ := nm_x hm
    refine lv_iinc (v := x22) (lv' := [(1, .int x22), (0, .ref (ξ.2.2.2.1 0)), (2, .int u2)]) S.1 S.2.1 dSx_tellWords_138 hl (k := 1) rfl (by rw [ex22]; rfl) (by decide) rfl (fun ls hl => ?_)
    refine lv_goto (tgt := 64) S.1 S.2.1 dSx_tellWords_141 (by decide) ?_
    exact hk64 g21 x22 _ _ _ hm hw hf (lv_sub hl [1, 0] rfl)
set_option maxHeartbeats 4000000 in
set_option maxRecDepth 100000 in
theorem wSx_tellWords_86n {l : Launch} {p : Program} {e : Env} {s : State} {m : MethodId} {args : Array Value} {below : List Frame} {meth : Method} {c : Code} {Γ : sw_C} {A : Nat → Prop} {ξ : sw_x} {μ : sw_m} {res : sw_g} (S : CallFix p m c prog_1_method_53_code 3 s args (Cond.code ySx_tellWords prog_1_method_53_code 3 (none) :: sw_tb) R_Sx) (hr : meth.sig.returnType = none) (hlk : meth.locks = false) (N : Nat) (k64 : sw_g → Int32 → Option (sw_g)) (hk64 : ∀ (g : sw_g) (u1 : Int32) (H : Heap) (locs : List Loc) (ls : Array Slot), k64 g u1 = some res → sw_S Γ A ξ g μ s H locs → sw_wf ξ g.2.2 → lv_has ls 3 [(0, .ref (ξ.2.2.2.1 0)), (1, .int u1)] → W p l e (headSpec (Cond.code ySx_tellWords prog_1_method_53_code 3 (none) :: sw_tb) rmSx_tellWords).room s m args below meth c H locs 0 0 (MQ below (sw_Qv Γ A ξ res μ (sw_wf ξ res.2.2)) args s 0 0 A) (F0 m 64 ls [])) : ∀ (g : sw_g) (u1 : Int32) (s0 : Int32) (H : Heap) (locs : List Loc) (ls : Array Slot), fSx_tellWords_86n N ξ.2.2.1 k64 g u1 s0 = some res → sw_S Γ A ξ g μ s H locs → sw_wf ξ g.2.2 → lv_has ls 3 [(0, .ref (ξ.2.2.2.1 0)), (1, .int u1)] → W p l e (headSpec (Cond.code ySx_tellWords prog_1_method_53_code 3 (none) :: sw_tb) rmSx_tellWords).room s m args below meth c H locs 0 0 (MQ below (sw_Qv Γ A ξ res μ (sw_wf ξ res.2.2)) args s 0 0 A) (F0 m 86 ls [.int s0]) := by
  intro g u1 s0 H locs ls hm hw hf hl
  unfold fSx_tellWords_86n at hm
  refine lv_istore_n (lv' := [(2, .int s0), (0, .ref (ξ.2.2.2.1 0)), (1, .int u1)]) S.1 S.2.1 dSx_tellWords_86 rfl hl (by decide) rfl (fun ls hl => ?_)
  refine lv_aload_n S.1 S.2.1 dSx_tellWords_87 rfl (lv_at hl 1 rfl) ?_
  refine get_Sx (v := .ref (ξ.2.2.2.1 48)) S hw (is_0 hf) 9 (by decide) rfl wf_Sx_57 dSx_tellWords_88 ?_
  refine lv_iconst (v := (5 : Int32)) S.1 S.2.1 dSx_tellWords_91 (by decide) ?_
  refine lv_iload_n S.1 S.2.1 dSx_tellWords_92 rfl (lv_at hl 2 rfl) ?_
  refine lv_iadd S.1 S.2.1 dSx_tellWords_93 ?_
  refine lv_iload_n S.1 S.2.1 dSx_tellWords_94 rfl (lv_at hl 0 rfl) ?_
  refine bif_eq (tgt := 110) S.1 S.2.1 hm dSx_tellWords_95 (by decide) (fun hm => ?_) (fun hm => ?_)
  · refine lv_iconst (v := (-1 : Int32)) S.1 S.2.1 dSx_tellWords_110 (by decide) ?_
    exact wSx_tellWords_111n S hr hlk N k64 hk64 g u1 s0 (-1 : Int32) ((5 : Int32) + u1) _ _ _ hm hw hf (lv_sub hl [1, 2, 0] rfl)
  · refine lv_aload_n S.1 S.2.1 dSx_tellWords_98 rfl (lv_at hl 1 rfl) ?_
    refine get_Sx (v := .ref (ξ.2.2.2.1 1)) S hw (is_0 hf) 0 (by decide) rfl wf_Sx_12 dSx_tellWords_99 ?_
    refine get_Pl (v := .ref (ξ.2.2.2.1 2)) S hw (is_1 hf) 1 (by decide) rfl wf_Sx_109 dSx_tellWords_102 ?_
    refine lv_iload_n S.1 S.2.1 dSx_tellWords_105 rfl (lv_at hl 2 rfl) ?_
    refine sx_iald S hw (is_2 hf) hm dSx_tellWords_106 (fun v23 hm => ?_)
    refine lv_goto (tgt := 111) S.1 S.2.1 dSx_tellWords_107 (by decide) ?_
    exact wSx_tellWords_111n S hr hlk N k64 hk64 g u1 s0 v23 ((5 : Int32) + u1) _ _ _ hm hw hf (lv_sub hl [1, 2, 0] rfl)
set_option maxHeartbeats 4000000 in
set_option maxRecDepth 100000 in
theorem wSx_tellWords_64n {l : Launch} {p : Program} {e : Env} {s : State} {m : MethodId} {args : Array Value} {below : List Frame} {meth : Method} {c : Code} {Γ : sw_C} {A : Nat → Prop} {ξ : sw_x} {μ : sw_m} {res : sw_g} (S : CallFix p m c prog_1_method_53_code 3 s args (Cond.code ySx_tellWords prog_1_method_53_code 3 (none) :: sw_tb) R_Sx) (hr : meth.sig.returnType = none) (hlk : meth.locks = false) (N : Nat) : ∀ (fu : Nat) (g : sw_g) (u1 : Int32) (H : Heap) (locs : List Loc) (ls : Array Slot), fSx_tellWords_64n N ξ.2.2.1  fu g u1 = some res → sw_S Γ A ξ g μ s H locs → sw_wf ξ g.2.2 → lv_has ls 3 [(0, .ref (ξ.2.2.2.1 0)), (1, .int u1)] → W p l e (headSpec (Cond.code ySx_tellWords prog_1_method_53_code 3 (none) :: sw_tb) rmSx_tellWords).room s m args below meth c H locs 0 0 (MQ below (sw_Qv Γ A ξ res μ (sw_wf ξ res.2.2)) args s 0 0 A) (F0 m 64 ls []) := by
  intro fu
  induction fu with
  | zero => intro g u1 H locs ls hm; rw [fSx_tellWords_64n.eq_1] at hm; cases hm
  | succ fu ih =>
    intro g u1 H locs ls hm hw hf hl
    rw [fSx_tellWords_64n.eq_2] at hm
    refine lv_iload_n S.1 S.2.1 dSx_tellWords_64 rfl (lv_at hl 1 rfl) ?_
    refine lv_bipush (v := (7 : Int32)) S.1 S.2.1 dSx_tellWords_65 (by decide) ?_
    refine bicmp_ge (tgt := 144) S.1 S.2.1 hm dSx_tellWords_67 (by decide) (fun hm => ?_) (fun hm => ?_)
    · obtain rfl := Option.some.inj hm
      exact sw_vret S hr hlk hw hf dSx_tellWords_144
    · refine lv_iload_n S.1 S.2.1 dSx_tellWords_70 rfl (lv_at hl 1 rfl) ?_
      refine lv_aload_n S.1 S.2.1 dSx_tellWords_71 rfl (lv_at hl 0 rfl) ?_
      refine get_Sx (v := .ref (ξ.2.2.2.1 1)) S hw (is_0 hf) 0 (by decide) rfl wf_Sx_12 dSx_tellWords_72 ?_
      refine get_Pl (v := .int (g.1 1 0)) S hw (is_1 hf) 0 (by decide) rfl wf_Sx_89 dSx_tellWords_75 ?_
      refine bicmp_ge (tgt := 85) S.1 S.2.1 hm dSx_tellWords_78 (by decide) (fun hm => ?_) (fun hm => ?_)
      · refine lv_iconst (v := (0 : Int32)) S.1 S.2.1 dSx_tellWords_85 (by decide) ?_
        exact wSx_tellWords_86n S hr hlk N (fSx_tellWords_64n N ξ.2.2.1  fu) ih g u1 (0 : Int32) _ _ _ hm hw hf (lv_sub hl [0, 1] rfl)
      · refine lv_iconst (v := (1 : Int32)) S.1 S.2.1 dSx_tellWords_81 (by decide) ?_
        refine lv_goto (tgt := 86) S.1 S.2.1 dSx_tellWords_82 (by decide) ?_
        exact wSx_tellWords_86n S hr hlk N (fSx_tellWords_64n N ξ.2.2.1  fu) ih g u1 (1 : Int32) _ _ _ hm hw hf (lv_sub hl [0, 1] rfl)
set_option maxHeartbeats 4000000 in
set_option maxRecDepth 100000 in
theorem wSx_tellWords_111 {l : Launch} {p : Program} {e : Env} {s : State} {m : MethodId} {args : Array Value} {below : List Frame} {meth : Method} {c : Code} {Γ : sw_C} {A : Nat → Prop} {ξ : sw_x} {μ : sw_m} {res : sw_g} (S : CallFix p m c prog_1_method_53_code 3 s args (Cond.code ySx_tellWords prog_1_method_53_code 3 (none) :: sw_tb) R_Sx) (hr : meth.sig.returnType = none) (hlk : meth.locks = false) (N : Nat) (k64 : sw_g → Int32 → Option (sw_g)) (hk64 : ∀ (g : sw_g) (u1 : Int32) (H : Heap) (locs : List Loc) (ls : Array Slot), k64 g u1 = some res → sw_S Γ A ξ g μ s H locs → sw_wf ξ g.2.2 → lv_has ls 3 [(0, .ref (ξ.2.2.2.1 0)), (1, .int u1)] → W p l e (headSpec (Cond.code ySx_tellWords prog_1_method_53_code 3 (none) :: sw_tb) rmSx_tellWords).room s m args below meth c H locs 0 0 (MQ below (sw_Qv Γ A ξ res μ (sw_wf ξ res.2.2)) args s 0 0 A) (F0 m 64 ls [])) : ∀ (g : sw_g) (u1 : Int32) (u2 : Int32) (s0 : Int32) (s1 : Int32) (H : Heap) (locs : List Loc) (ls : Array Slot), fSx_tellWords_111 N ξ.2.2.1 k64 g u1 u2 s0 s1 = some res → sw_S Γ A ξ g μ s H locs → sw_wf ξ g.2.2 → lv_has ls 3 [(0, .ref (ξ.2.2.2.1 0)), (1, .int u1), (2, .int u2)] → W p l e (headSpec (Cond.code ySx_tellWords prog_1_method_53_code 3 (none) :: sw_tb) rmSx_tellWords).room s m args below meth c H locs 0 0 (MQ below (sw_Qv Γ A ξ res μ (sw_wf ξ res.2.2)) args s 0 0 A) (F0 m 111 ls [.int s0, .int s1, .ref (ξ.2.2.2.1 48)]) := by
  intro g u1 u2 s0 s1 H locs ls hm hw hf hl
  unfold fSx_tellWords_111 at hm
  refine sx_iast S hw hf (is_48 hf) hm dSx_tellWords_111 (fun g34 H locs hf hm hw => ?_)
  refine lv_aload_n S.1 S.2.1 dSx_tellWords_112 rfl (lv_at hl 0 rfl) ?_
  refine get_Sx (v := .ref (ξ.2.2.2.1 48)) S hw (is_0 hf) 9 (by decide) rfl wf_Sx_57 dSx_tellWords_113 ?_
  refine lv_bipush (v := (12 : Int32)) S.1 S.2.1 dSx_tellWords_116 (by decide) ?_
  refine lv_iload_n S.1 S.2.1 dSx_tellWords_118 rfl (lv_at hl 1 rfl) ?_
  refine lv_iadd S.1 S.2.1 dSx_tellWords_119 ?_
  refine lv_iload_n S.1 S.2.1 dSx_tellWords_120 rfl (lv_at hl 2 rfl) ?_
  refine bif_eq (tgt := 136) S.1 S.2.1 hm dSx_tellWords_121 (by decide) (fun hm => ?_) (fun hm => ?_)
  · refine lv_iconst (v := (-1 : Int32)) S.1 S.2.1 dSx_tellWords_136 (by decide) ?_
    refine sx_iast S hw hf (is_48 hf) hm dSx_tellWords_137 (fun g35 H locs hf hm hw => ?_)
    obtain ⟨x36, ex36, hm⟩ := nm_x hm
    refine lv_iinc (v := x36) (lv' := [(1, .int x36), (0, .ref (ξ.2.2.2.1 0)), (2, .int u2)]) S.1 S.2.1 dSx_tellWords_138 hl (k := 1) rfl (by rw [ex36]; rfl) (by decide) rfl (fun ls hl => ?_)
    refine lv_goto (tgt := 64) S.1 S.2.1 dSx_tellWords_141 (by decide) ?_
    exact hk64 g35 x36 _ _ _ hm hw hf (lv_sub hl [1, 0] rfl)
  · refine lv_aload_n S.1 S.2.1 dSx_tellWords_124 rfl (lv_at hl 0 rfl) ?_
    refine get_Sx (v := .ref (ξ.2.2.2.1 1)) S hw (is_0 hf) 0 (by decide) rfl wf_Sx_12 dSx_tellWords_125 ?_
    refine get_Pl (v := .ref (ξ.2.2.2.1 4)) S hw (is_1 hf) 3 (by decide) rfl wf_Sx_106 dSx_tellWords_128 ?_
    refine lv_iload_n S.1 S.2.1 dSx_tellWords_131 rfl (lv_at hl 1 rfl) ?_
    refine sx_iald S hw (is_4 hf) hm dSx_tellWords_132 (fun v37 hm => ?_)
    refine lv_goto (tgt := 137) S.1 S.2.1 dSx_tellWords_133 (by decide) ?_
    refine sx_iast S hw hf (is_48 hf) hm dSx_tellWords_137 (fun g38 H locs hf hm hw => ?_)
    obtain ⟨x39, ex39, hm⟩ := nm_x hm
    refine lv_iinc (v := x39) (lv' := [(1, .int x39), (0, .ref (ξ.2.2.2.1 0)), (2, .int u2)]) S.1 S.2.1 dSx_tellWords_138 hl (k := 1) rfl (by rw [ex39]; rfl) (by decide) rfl (fun ls hl => ?_)
    refine lv_goto (tgt := 64) S.1 S.2.1 dSx_tellWords_141 (by decide) ?_
    exact hk64 g38 x39 _ _ _ hm hw hf (lv_sub hl [1, 0] rfl)
set_option maxHeartbeats 4000000 in
set_option maxRecDepth 100000 in
theorem wSx_tellWords_86 {l : Launch} {p : Program} {e : Env} {s : State} {m : MethodId} {args : Array Value} {below : List Frame} {meth : Method} {c : Code} {Γ : sw_C} {A : Nat → Prop} {ξ : sw_x} {μ : sw_m} {res : sw_g} (S : CallFix p m c prog_1_method_53_code 3 s args (Cond.code ySx_tellWords prog_1_method_53_code 3 (none) :: sw_tb) R_Sx) (hr : meth.sig.returnType = none) (hlk : meth.locks = false) (N : Nat) (k64 : sw_g → Int32 → Option (sw_g)) (hk64 : ∀ (g : sw_g) (u1 : Int32) (H : Heap) (locs : List Loc) (ls : Array Slot), k64 g u1 = some res → sw_S Γ A ξ g μ s H locs → sw_wf ξ g.2.2 → lv_has ls 3 [(0, .ref (ξ.2.2.2.1 0)), (1, .int u1)] → W p l e (headSpec (Cond.code ySx_tellWords prog_1_method_53_code 3 (none) :: sw_tb) rmSx_tellWords).room s m args below meth c H locs 0 0 (MQ below (sw_Qv Γ A ξ res μ (sw_wf ξ res.2.2)) args s 0 0 A) (F0 m 64 ls [])) : ∀ (g : sw_g) (u1 : Int32) (s0 : Int32) (H : Heap) (locs : List Loc) (ls : Array Slot), fSx_tellWords_86 N ξ.2.2.1 k64 g u1 s0 = some res → sw_S Γ A ξ g μ s H locs → sw_wf ξ g.2.2 → lv_has ls 3 [(0, .ref (ξ.2.2.2.1 0)), (1, .int u1)] → W p l e (headSpec (Cond.code ySx_tellWords prog_1_method_53_code 3 (none) :: sw_tb) rmSx_tellWords).room s m args below meth c H locs 0 0 (MQ below (sw_Qv Γ A ξ res μ (sw_wf ξ res.2.2)) args s 0 0 A) (F0 m 86 ls [.int s0]) := by
  intro g u1 s0 H locs ls hm hw hf hl
  unfold fSx_tellWords_86 at hm
  refine lv_istore_n (lv' := [(2, .int s0), (0, .ref (ξ.2.2.2.1 0)), (1, .int u1)]) S.1 S.2.1 dSx_tellWords_86 rfl hl (by decide) rfl (fun ls hl => ?_)
  refine lv_aload_n S.1 S.2.1 dSx_tellWords_87 rfl (lv_at hl 1 rfl) ?_
  refine get_Sx (v := .ref (ξ.2.2.2.1 48)) S hw (is_0 hf) 9 (by decide) rfl wf_Sx_57 dSx_tellWords_88 ?_
  refine lv_iconst (v := (5 : Int32)) S.1 S.2.1 dSx_tellWords_91 (by decide) ?_
  refine lv_iload_n S.1 S.2.1 dSx_tellWords_92 rfl (lv_at hl 2 rfl) ?_
  refine lv_iadd S.1 S.2.1 dSx_tellWords_93 ?_
  refine lv_iload_n S.1 S.2.1 dSx_tellWords_94 rfl (lv_at hl 0 rfl) ?_
  refine bif_eq (tgt := 110) S.1 S.2.1 hm dSx_tellWords_95 (by decide) (fun hm => ?_) (fun hm => ?_)
  · refine lv_iconst (v := (-1 : Int32)) S.1 S.2.1 dSx_tellWords_110 (by decide) ?_
    exact wSx_tellWords_111 S hr hlk N k64 hk64 g u1 s0 (-1 : Int32) ((5 : Int32) + u1) _ _ _ hm hw hf (lv_sub hl [1, 2, 0] rfl)
  · refine lv_aload_n S.1 S.2.1 dSx_tellWords_98 rfl (lv_at hl 1 rfl) ?_
    refine get_Sx (v := .ref (ξ.2.2.2.1 1)) S hw (is_0 hf) 0 (by decide) rfl wf_Sx_12 dSx_tellWords_99 ?_
    refine get_Pl (v := .ref (ξ.2.2.2.1 2)) S hw (is_1 hf) 1 (by decide) rfl wf_Sx_109 dSx_tellWords_102 ?_
    refine lv_iload_n S.1 S.2.1 dSx_tellWords_105 rfl (lv_at hl 2 rfl) ?_
    refine sx_iald S hw (is_2 hf) hm dSx_tellWords_106 (fun v40 hm => ?_)
    refine lv_goto (tgt := 111) S.1 S.2.1 dSx_tellWords_107 (by decide) ?_
    exact wSx_tellWords_111 S hr hlk N k64 hk64 g u1 s0 v40 ((5 : Int32) + u1) _ _ _ hm hw hf (lv_sub hl [1, 2, 0] rfl)
set_option maxHeartbeats 4000000 in
set_option maxRecDepth 100000 in
theorem wSx_tellWords_64 {l : Launch} {p : Program} {e : Env} {s : State} {m : MethodId} {args : Array Value} {below : List Frame} {meth : Method} {c : Code} {Γ : sw_C} {A : Nat → Prop} {ξ : sw_x} {μ : sw_m} {res : sw_g} (S : CallFix p m c prog_1_method_53_code 3 s args (Cond.code ySx_tellWords prog_1_method_53_code 3 (none) :: sw_tb) R_Sx) (hr : meth.sig.returnType = none) (hlk : meth.locks = false) (N : Nat) : ∀ (fu : Nat) (g : sw_g) (u1 : Int32) (H : Heap) (locs : List Loc) (ls : Array Slot), fSx_tellWords_64 N ξ.2.2.1  fu g u1 = some res → sw_S Γ A ξ g μ s H locs → sw_wf ξ g.2.2 → lv_has ls 3 [(0, .ref (ξ.2.2.2.1 0)), (1, .int u1)] → W p l e (headSpec (Cond.code ySx_tellWords prog_1_method_53_code 3 (none) :: sw_tb) rmSx_tellWords).room s m args below meth c H locs 0 0 (MQ below (sw_Qv Γ A ξ res μ (sw_wf ξ res.2.2)) args s 0 0 A) (F0 m 64 ls []) := by
  intro fu
  induction fu with
  | zero => intro g u1 H locs ls hm; rw [fSx_tellWords_64.eq_1] at hm; cases hm
  | succ fu ih =>
    intro g u1 H locs ls hm hw hf hl
    rw [fSx_tellWords_64.eq_2] at hm
    refine lv_iload_n S.1 S.2.1 dSx_tellWords_64 rfl (lv_at hl 1 rfl) ?_
    refine lv_bipush (v := (7 : Int32)) S.1 S.2.1 dSx_tellWords_65 (by decide) ?_
    refine bicmp_ge (tgt := 144) S.1 S.2.1 hm dSx_tellWords_67 (by decide) (fun hm => ?_) (fun hm => ?_)
    · obtain rfl := Option.some.inj hm
      exact sw_vret S hr hlk hw hf dSx_tellWords_144
    · refine lv_iload_n S.1 S.2.1 dSx_tellWords_70 rfl (lv_at hl 1 rfl) ?_
      refine lv_aload_n S.1 S.2.1 dSx_tellWords_71 rfl (lv_at hl 0 rfl) ?_
      refine get_Sx (v := .ref (ξ.2.2.2.1 1)) S hw (is_0 hf) 0 (by decide) rfl wf_Sx_12 dSx_tellWords_72 ?_
      refine get_Pl (v := .int (g.1 1 0)) S hw (is_1 hf) 0 (by decide) rfl wf_Sx_89 dSx_tellWords_75 ?_
      refine bicmp_ge (tgt := 85) S.1 S.2.1 hm dSx_tellWords_78 (by decide) (fun hm => ?_) (fun hm => ?_)
      · refine lv_iconst (v := (0 : Int32)) S.1 S.2.1 dSx_tellWords_85 (by decide) ?_
        exact wSx_tellWords_86 S hr hlk N (fSx_tellWords_64 N ξ.2.2.1  fu) ih g u1 (0 : Int32) _ _ _ hm hw hf (lv_sub hl [0, 1] rfl)
      · refine lv_iconst (v := (1 : Int32)) S.1 S.2.1 dSx_tellWords_81 (by decide) ?_
        refine lv_goto (tgt := 86) S.1 S.2.1 dSx_tellWords_82 (by decide) ?_
        exact wSx_tellWords_86 S hr hlk N (fSx_tellWords_64 N ξ.2.2.1  fu) ih g u1 (1 : Int32) _ _ _ hm hw hf (lv_sub hl [0, 1] rfl)
set_option maxHeartbeats 4000000 in
set_option maxRecDepth 100000 in
theorem cSx_tellWords (l : Launch) (N : Nat) {Γ : sw_C} {A : Nat → Prop} {ξ : sw_x} {g : sw_g} {μ : sw_m} (hf : sw_wf ξ g.2.2) {res : sw_g} (hm : fSx_tellWords N ξ.2.2.1 g = some res) : Met l ySx_tellWords (Cond.code ySx_tellWords prog_1_method_53_code 3 (none) :: sw_tb) rmSx_tellWords (va_Pc [.ref (ξ.2.2.2.1 0)] (sw_V Γ A ξ g μ)) (sw_Qv Γ A ξ res μ (sw_wf ξ res.2.2)) 0 0 A := by
  refine Met.ofW (cc := prog_1_method_53_code) (maxL := 3) (ret := none) (by decide) rfl ?_
  intro p e s m args below meth c s₁ B hml hv
  obtain ⟨rfl, hv⟩ := hv
  have S : CallFix p m c prog_1_method_53_code 3 s _ (Cond.code ySx_tellWords prog_1_method_53_code 3 (none) :: sw_tb) R_Sx := ⟨B.exec, B.bytes, hml, findClass_of_methodNamed B.named, atoms_spec (ws := (Cond.code ySx_tellWords prog_1_method_53_code 3 (none) :: sw_tb)) B.pre⟩
  have hr := B.returns
  have hlk := B.notSynchronized
  have hw := sw_begin hv
  have hl := lv_entry [.ref (ξ.2.2.2.1 0)] (n := 3) (Nat.le_of_ble_eq_true rfl)
  rw [lg_entry_eq]
  generalize (lg_sl [.ref (ξ.2.2.2.1 0)] ++ List.replicate (3 - (lg_sl [.ref (ξ.2.2.2.1 0)]).length) Slot.unset).toArray = ls at hl ⊢
  have hl : lv_has ls 3 [(0, .ref (ξ.2.2.2.1 0))] := hl
  unfold fSx_tellWords at hm
  refine lv_aload_n S.1 S.2.1 dSx_tellWords_0 rfl (lv_at hl 0 rfl) ?_
  refine get_Sx (v := .ref (ξ.2.2.2.1 48)) S hw (is_0 hf) 9 (by decide) rfl wf_Sx_57 dSx_tellWords_1 ?_
  refine lv_iconst (v := (0 : Int32)) S.1 S.2.1 dSx_tellWords_4 (by decide) ?_
  refine lv_aload_n S.1 S.2.1 dSx_tellWords_5 rfl (lv_at hl 0 rfl) ?_
  refine get_Sx (v := .ref (ξ.2.2.2.1 1)) S hw (is_0 hf) 0 (by decide) rfl wf_Sx_12 dSx_tellWords_6 ?_
  refine get_Pl (v := .ref (ξ.2.2.2.1 5)) S hw (is_1 hf) 4 (by decide) rfl wf_Sx_153 dSx_tellWords_9 ?_
  refine lv_iconst (v := (0 : Int32)) S.1 S.2.1 dSx_tellWords_12 (by decide) ?_
  refine sx_iald S hw (is_5 hf) hm dSx_tellWords_13 (fun v1 hm => ?_)
  refine sx_iast S hw hf (is_48 hf) hm dSx_tellWords_14 (fun g2 H locs hf hm hw => ?_)
  refine lv_aload_n S.1 S.2.1 dSx_tellWords_15 rfl (lv_at hl 0 rfl) ?_
  refine get_Sx (v := .ref (ξ.2.2.2.1 48)) S hw (is_0 hf) 9 (by decide) rfl wf_Sx_57 dSx_tellWords_16 ?_
  refine lv_iconst (v := (3 : Int32)) S.1 S.2.1 dSx_tellWords_19 (by decide) ?_
  refine lv_aload_n S.1 S.2.1 dSx_tellWords_20 rfl (lv_at hl 0 rfl) ?_
  refine get_Sx (v := .ref (ξ.2.2.2.1 42)) S hw (is_0 hf) 7 (by decide) rfl wf_Sx_46 dSx_tellWords_21 ?_
  refine lv_aload_n S.1 S.2.1 dSx_tellWords_24 rfl (lv_at hl 0 rfl) ?_
  refine get_Sx (v := .ref (ξ.2.2.2.1 1)) S hw (is_0 hf) 0 (by decide) rfl wf_Sx_12 dSx_tellWords_25 ?_
  refine lv_aload_n S.1 S.2.1 dSx_tellWords_28 rfl (lv_at hl 0 rfl) ?_
  refine get_Sx (v := .ref (ξ.2.2.2.1 1)) S hw (is_0 hf) 0 (by decide) rfl wf_Sx_12 dSx_tellWords_29 ?_
  refine lv_aload_n S.1 S.2.1 dSx_tellWords_32 rfl (lv_at hl 0 rfl) ?_
  refine get_Sx (v := .ref (ξ.2.2.2.1 1)) S hw (is_0 hf) 0 (by decide) rfl wf_Sx_12 dSx_tellWords_33 ?_
  refine get_Pl (v := .int (g2.1 1 11)) S hw (is_1 hf) 11 (by decide) rfl wf_Sx_213 dSx_tellWords_36 ?_
  obtain ⟨⟨v5, g4⟩, h3, hm⟩ := ob hm
  refine sw_Vq (q := 1) (rest := [.ref (ξ.2.2.2.1 1), .ref (ξ.2.2.2.1 42), .int (3 : Int32), .ref (ξ.2.2.2.1 48)]) S hw (cPl_textOf l  hf 1 (is_1 hf) (g2.1 1 11) h3) kPl_textOf wm_Sx_311 (is_1 hf).1 (e_Pl (is_1 hf)) rfl rfl rfl rfl hl.1 (Nat.le_of_ble_eq_true rfl) ⟨rfl, rfl, Nat.le_of_ble_eq_true rfl, Nat.le_of_ble_eq_true rfl⟩ ⟨Nat.le_of_ble_eq_true rfl, Nat.le_of_ble_eq_true rfl⟩ dSx_tellWords_39 (fun H locs hw hΛ => ?_)
  have hf := hΛ.1
  cases v5 with
  | none =>
    refine W.eq (g2 := F0 m 42 ls [.null, .ref (ξ.2.2.2.1 1), .ref (ξ.2.2.2.1 42), .int (3 : Int32), .ref (ξ.2.2.2.1 48)]) rfl ?_
    obtain ⟨⟨v9, g8⟩, h7, hm⟩ := ob hm
    refine sw_Vi (q := 42) (rest := [.int (3 : Int32), .ref (ξ.2.2.2.1 48)]) S hw (cJu_tiltBy l N hf 1 none (is_1 hf) (fun _ h => by cases h) h7) kJu_tiltBy wm_Sx_315 (is_42 hf).1 (e_Ju (is_42 hf)) rfl rfl rfl rfl hl.1 (Nat.le_of_ble_eq_true rfl) ⟨rfl, rfl, Nat.le_of_ble_eq_true rfl, Nat.le_of_ble_eq_true rfl⟩ ⟨Nat.le_of_ble_eq_true rfl, Nat.le_of_ble_eq_true rfl⟩ dSx_tellWords_42 (fun H locs hw hf => ?_)
    refine sx_iast S hw hf (is_48 hf) hm dSx_tellWords_45 (fun g10 H locs hf hm hw => ?_)
    refine lv_aload_n S.1 S.2.1 dSx_tellWords_46 rfl (lv_at hl 0 rfl) ?_
    refine get_Sx (v := .ref (ξ.2.2.2.1 48)) S hw (is_0 hf) 9 (by decide) rfl wf_Sx_57 dSx_tellWords_47 ?_
    refine lv_iconst (v := (4 : Int32)) S.1 S.2.1 dSx_tellWords_50 (by decide) ?_
    refine lv_aload_n S.1 S.2.1 dSx_tellWords_51 rfl (lv_at hl 0 rfl) ?_
    refine get_Sx (v := .ref (ξ.2.2.2.1 1)) S hw (is_0 hf) 0 (by decide) rfl wf_Sx_12 dSx_tellWords_52 ?_
    obtain ⟨⟨v13, g12⟩, h11, hm⟩ := ob hm
    refine sw_Vi (q := 1) (rest := [.int (4 : Int32), .ref (ξ.2.2.2.1 48)]) S hw (cPl_onBits l N hf 1 (is_1 hf) h11) kPl_onBits wm_Sx_263 (is_1 hf).1 (e_Pl (is_1 hf)) rfl rfl rfl rfl hl.1 (Nat.le_of_ble_eq_true rfl) ⟨rfl, rfl, Nat.le_of_ble_eq_true rfl, Nat.le_of_ble_eq_true rfl⟩ ⟨Nat.le_of_ble_eq_true rfl, Nat.le_of_ble_eq_true rfl⟩ dSx_tellWords_55 (fun H locs hw hf => ?_)
    obtain ⟨v15, h14, hm⟩ := ob hm
    refine sw_Si (rest := [.int (4 : Int32), .ref (ξ.2.2.2.1 48)]) S hw (cIn_bitCount l  hf v13 h14) kIn_bitCount wm_Sx_272 rfl rfl hl.1 (Nat.le_of_ble_eq_true rfl) ⟨rfl, rfl, Nat.le_of_ble_eq_true rfl, Nat.le_of_ble_eq_true rfl⟩ ⟨Nat.le_of_ble_eq_true rfl, Nat.le_of_ble_eq_true rfl⟩ dSx_tellWords_58 (fun H locs hw _ => ?_)
    refine sx_iast S hw hf (is_48 hf) hm dSx_tellWords_61 (fun g16 H locs hf hm hw => ?_)
    refine lv_iconst (v := (0 : Int32)) S.1 S.2.1 dSx_tellWords_62 (by decide) ?_
    refine lv_istore_n (lv' := [(1, .int (0 : Int32)), (0, .ref (ξ.2.2.2.1 0))]) S.1 S.2.1 dSx_tellWords_63 rfl hl (by decide) rfl (fun ls hl => ?_)
    exact wSx_tellWords_64n S hr hlk N  N g16 (0 : Int32) _ _ _ hm hw hf (lv_sub hl [1, 0] rfl)
  | some p6 =>
    have hp6 : sw_ik ξ p6 7 := hΛ.2 _ rfl
    refine W.eq (g2 := F0 m 42 ls [.ref (ξ.2.2.2.1 p6), .ref (ξ.2.2.2.1 1), .ref (ξ.2.2.2.1 42), .int (3 : Int32), .ref (ξ.2.2.2.1 48)]) rfl ?_
    obtain ⟨⟨v26, g25⟩, h24, hm⟩ := ob hm
    refine sw_Vi (q := 42) (rest := [.int (3 : Int32), .ref (ξ.2.2.2.1 48)]) S hw (cJu_tiltBy l N hf 1 (some p6) (is_1 hf) (fun _ h => by cases h; exact hp6) h24) kJu_tiltBy wm_Sx_315 (is_42 hf).1 (e_Ju (is_42 hf)) rfl rfl rfl rfl hl.1 (Nat.le_of_ble_eq_true rfl) ⟨rfl, rfl, Nat.le_of_ble_eq_true rfl, Nat.le_of_ble_eq_true rfl⟩ ⟨Nat.le_of_ble_eq_true rfl, Nat.le_of_ble_eq_true rfl⟩ dSx_tellWords_42 (fun H locs hw hf => ?_)
    refine sx_iast S hw hf (is_48 hf) hm dSx_tellWords_45 (fun g27 H locs hf hm hw => ?_)
    refine lv_aload_n S.1 S.2.1 dSx_tellWords_46 rfl (lv_at hl 0 rfl) ?_
    refine get_Sx (v := .ref (ξ.2.2.2.1 48)) S hw (is_0 hf) 9 (by decide) rfl wf_Sx_57 dSx_tellWords_47 ?_
    refine lv_iconst (v := (4 : Int32)) S.1 S.2.1 dSx_tellWords_50 (by decide) ?_
    refine lv_aload_n S.1 S.2.1 dSx_tellWords_51 rfl (lv_at hl 0 rfl) ?_
    refine get_Sx (v := .ref (ξ.2.2.2.1 1)) S hw (is_0 hf) 0 (by decide) rfl wf_Sx_12 dSx_tellWords_52 ?_
    obtain ⟨⟨v30, g29⟩, h28, hm⟩ := ob hm
    refine sw_Vi (q := 1) (rest := [.int (4 : Int32), .ref (ξ.2.2.2.1 48)]) S hw (cPl_onBits l N hf 1 (is_1 hf) h28) kPl_onBits wm_Sx_263 (is_1 hf).1 (e_Pl (is_1 hf)) rfl rfl rfl rfl hl.1 (Nat.le_of_ble_eq_true rfl) ⟨rfl, rfl, Nat.le_of_ble_eq_true rfl, Nat.le_of_ble_eq_true rfl⟩ ⟨Nat.le_of_ble_eq_true rfl, Nat.le_of_ble_eq_true rfl⟩ dSx_tellWords_55 (fun H locs hw hf => ?_)
    obtain ⟨v32, h31, hm⟩ := ob hm
    refine sw_Si (rest := [.int (4 : Int32), .ref (ξ.2.2.2.1 48)]) S hw (cIn_bitCount l  hf v30 h31) kIn_bitCount wm_Sx_272 rfl rfl hl.1 (Nat.le_of_ble_eq_true rfl) ⟨rfl, rfl, Nat.le_of_ble_eq_true rfl, Nat.le_of_ble_eq_true rfl⟩ ⟨Nat.le_of_ble_eq_true rfl, Nat.le_of_ble_eq_true rfl⟩ dSx_tellWords_58 (fun H locs hw _ => ?_)
    refine sx_iast S hw hf (is_48 hf) hm dSx_tellWords_61 (fun g33 H locs hf hm hw => ?_)
    refine lv_iconst (v := (0 : Int32)) S.1 S.2.1 dSx_tellWords_62 (by decide) ?_
    refine lv_istore_n (lv' := [(1, .int (0 : Int32)), (0, .ref (ξ.2.2.2.1 0))]) S.1 S.2.1 dSx_tellWords_63 rfl hl (by decide) rfl (fun ls hl => ?_)
    exact wSx_tellWords_64 S hr hlk N  N g33 (0 : Int32) _ _ _ hm hw hf (lv_sub hl [1, 0] rfl)
set_option maxHeartbeats 4000000 in
set_option maxRecDepth 100000 in
theorem cSx_tiltNow (l : Launch) (N : Nat) {Γ : sw_C} {A : Nat → Prop} {ξ : sw_x} {g : sw_g} {μ : sw_m} (hf : sw_wf ξ g.2.2) {res : Int32 × sw_g} (hm : fSx_tiltNow N ξ.2.2.1 g = some res) : Met l ySx_tiltNow (Cond.code ySx_tiltNow prog_1_method_54_code 1 (some .int) :: sw_tb) rmSx_tiltNow (va_Pc [.ref (ξ.2.2.2.1 0)] (sw_V Γ A ξ g μ)) (sw_Qi Γ A ξ res.2 μ res.1 (sw_wf ξ res.2.2.2)) 0 0 A := by
  refine Met.ofW (cc := prog_1_method_54_code) (maxL := 1) (ret := some .int) (by decide) rfl ?_
  intro p e s m args below meth c s₁ B hml hv
  obtain ⟨rfl, hv⟩ := hv
  have S : CallFix p m c prog_1_method_54_code 1 s _ (Cond.code ySx_tiltNow prog_1_method_54_code 1 (some .int) :: sw_tb) R_Sx := ⟨B.exec, B.bytes, hml, findClass_of_methodNamed B.named, atoms_spec (ws := (Cond.code ySx_tiltNow prog_1_method_54_code 1 (some .int) :: sw_tb)) B.pre⟩
  have hr := B.returns
  have hlk := B.notSynchronized
  have hw := sw_begin hv
  have hl := lv_entry [.ref (ξ.2.2.2.1 0)] (n := 1) (Nat.le_of_ble_eq_true rfl)
  rw [lg_entry_eq]
  generalize (lg_sl [.ref (ξ.2.2.2.1 0)] ++ List.replicate (1 - (lg_sl [.ref (ξ.2.2.2.1 0)]).length) Slot.unset).toArray = ls at hl ⊢
  have hl : lv_has ls 1 [(0, .ref (ξ.2.2.2.1 0))] := hl
  unfold fSx_tiltNow at hm
  refine lv_aload_n S.1 S.2.1 dSx_tiltNow_0 rfl (lv_at hl 0 rfl) ?_
  refine get_Sx (v := .ref (ξ.2.2.2.1 42)) S hw (is_0 hf) 7 (by decide) rfl wf_Sx_46 dSx_tiltNow_1 ?_
  refine lv_aload_n S.1 S.2.1 dSx_tiltNow_4 rfl (lv_at hl 0 rfl) ?_
  refine get_Sx (v := .ref (ξ.2.2.2.1 1)) S hw (is_0 hf) 0 (by decide) rfl wf_Sx_12 dSx_tiltNow_5 ?_
  refine lv_aload_n S.1 S.2.1 dSx_tiltNow_8 rfl (lv_at hl 0 rfl) ?_
  refine get_Sx (v := .ref (ξ.2.2.2.1 1)) S hw (is_0 hf) 0 (by decide) rfl wf_Sx_12 dSx_tiltNow_9 ?_
  refine lv_aload_n S.1 S.2.1 dSx_tiltNow_12 rfl (lv_at hl 0 rfl) ?_
  refine get_Sx (v := .ref (ξ.2.2.2.1 1)) S hw (is_0 hf) 0 (by decide) rfl wf_Sx_12 dSx_tiltNow_13 ?_
  refine get_Pl (v := .int (g.1 1 11)) S hw (is_1 hf) 11 (by decide) rfl wf_Sx_213 dSx_tiltNow_16 ?_
  obtain ⟨⟨v3, g2⟩, h1, hm⟩ := ob hm
  refine sw_Vq (q := 1) (rest := [.ref (ξ.2.2.2.1 1), .ref (ξ.2.2.2.1 42)]) S hw (cPl_textOf l  hf 1 (is_1 hf) (g.1 1 11) h1) kPl_textOf wm_Sx_311 (is_1 hf).1 (e_Pl (is_1 hf)) rfl rfl rfl rfl hl.1 (Nat.le_of_ble_eq_true rfl) ⟨rfl, rfl, Nat.le_of_ble_eq_true rfl, Nat.le_of_ble_eq_true rfl⟩ ⟨Nat.le_of_ble_eq_true rfl, Nat.le_of_ble_eq_true rfl⟩ dSx_tiltNow_19 (fun H locs hw hΛ => ?_)
  have hf := hΛ.1
  cases v3 with
  | none =>
    refine W.eq (g2 := F0 m 22 ls [.null, .ref (ξ.2.2.2.1 1), .ref (ξ.2.2.2.1 42)]) rfl ?_
    obtain ⟨⟨v7, g6⟩, h5, hm⟩ := ob hm
    refine sw_Vi (q := 42) (rest := []) S hw (cJu_tiltBy l N hf 1 none (is_1 hf) (fun _ h => by cases h) h5) kJu_tiltBy wm_Sx_315 (is_42 hf).1 (e_Ju (is_42 hf)) rfl rfl rfl rfl hl.1 (Nat.le_of_ble_eq_true rfl) ⟨rfl, rfl, Nat.le_of_ble_eq_true rfl, Nat.le_of_ble_eq_true rfl⟩ ⟨Nat.le_of_ble_eq_true rfl, Nat.le_of_ble_eq_true rfl⟩ dSx_tiltNow_22 (fun H locs hw hf => ?_)
    obtain rfl := Option.some.inj hm
    exact sw_iret S hr hlk hw hf dSx_tiltNow_25
  | some p4 =>
    have hp4 : sw_ik ξ p4 7 := hΛ.2 _ rfl
    refine W.eq (g2 := F0 m 22 ls [.ref (ξ.2.2.2.1 p4), .ref (ξ.2.2.2.1 1), .ref (ξ.2.2.2.1 42)]) rfl ?_
    obtain ⟨⟨v10, g9⟩, h8, hm⟩ := ob hm
    refine sw_Vi (q := 42) (rest := []) S hw (cJu_tiltBy l N hf 1 (some p4) (is_1 hf) (fun _ h => by cases h; exact hp4) h8) kJu_tiltBy wm_Sx_315 (is_42 hf).1 (e_Ju (is_42 hf)) rfl rfl rfl rfl hl.1 (Nat.le_of_ble_eq_true rfl) ⟨rfl, rfl, Nat.le_of_ble_eq_true rfl, Nat.le_of_ble_eq_true rfl⟩ ⟨Nat.le_of_ble_eq_true rfl, Nat.le_of_ble_eq_true rfl⟩ dSx_tiltNow_22 (fun H locs hw hf => ?_)
    obtain rfl := Option.some.inj hm
    exact sw_iret S hr hlk hw hf dSx_tiltNow_25
set_option maxHeartbeats 4000000 in
set_option maxRecDepth 100000 in
theorem cSx_weightAt (l : Launch) (N : Nat) {Γ : sw_C} {A : Nat → Prop} {ξ : sw_x} {g : sw_g} {μ : sw_m} (hf : sw_wf ξ g.2.2) (a1 : Int32) (a2 : Int32) {res : Int32 × sw_g} (hm : fSx_weightAt N ξ.2.2.1 g a1 a2 = some res) : Met l ySx_weightAt (Cond.code ySx_weightAt prog_1_method_56_code 3 (some .int) :: sw_tb) rmSx_weightAt (va_Pc [.ref (ξ.2.2.2.1 0), .int a1, .int a2] (sw_V Γ A ξ g μ)) (sw_Qi Γ A ξ res.2 μ res.1 (sw_wf ξ res.2.2.2)) 0 0 A := by
  refine Met.ofW (cc := prog_1_method_56_code) (maxL := 3) (ret := some .int) (by decide) rfl ?_
  intro p e s m args below meth c s₁ B hml hv
  obtain ⟨rfl, hv⟩ := hv
  have S : CallFix p m c prog_1_method_56_code 3 s _ (Cond.code ySx_weightAt prog_1_method_56_code 3 (some .int) :: sw_tb) R_Sx := ⟨B.exec, B.bytes, hml, findClass_of_methodNamed B.named, atoms_spec (ws := (Cond.code ySx_weightAt prog_1_method_56_code 3 (some .int) :: sw_tb)) B.pre⟩
  have hr := B.returns
  have hlk := B.notSynchronized
  have hw := sw_begin hv
  have hl := lv_entry [.ref (ξ.2.2.2.1 0), .int a1, .int a2] (n := 3) (Nat.le_of_ble_eq_true rfl)
  rw [lg_entry_eq]
  generalize (lg_sl [.ref (ξ.2.2.2.1 0), .int a1, .int a2] ++ List.replicate (3 - (lg_sl [.ref (ξ.2.2.2.1 0), .int a1, .int a2]).length) Slot.unset).toArray = ls at hl ⊢
  have hl : lv_has ls 3 [(0, .ref (ξ.2.2.2.1 0)), (1, .int a1), (2, .int a2)] := hl
  unfold fSx_weightAt at hm
  refine lv_aload_n S.1 S.2.1 dSx_weightAt_0 rfl (lv_at hl 0 rfl) ?_
  refine get_Sx (v := .ref (ξ.2.2.2.1 42)) S hw (is_0 hf) 7 (by decide) rfl wf_Sx_46 dSx_weightAt_1 ?_
  refine lv_aload_n S.1 S.2.1 dSx_weightAt_4 rfl (lv_at hl 0 rfl) ?_
  refine get_Sx (v := .ref (ξ.2.2.2.1 1)) S hw (is_0 hf) 0 (by decide) rfl wf_Sx_12 dSx_weightAt_5 ?_
  refine lv_iload_n S.1 S.2.1 dSx_weightAt_8 rfl (lv_at hl 1 rfl) ?_
  refine lv_iload_n S.1 S.2.1 dSx_weightAt_9 rfl (lv_at hl 2 rfl) ?_
  obtain ⟨⟨v3, g2⟩, h1, hm⟩ := ob hm
  refine sw_Vi (q := 42) (rest := []) S hw (cJu_countAt l N hf 1 (is_1 hf) a1 a2 h1) kJu_countAt wm_Sx_118 (is_42 hf).1 (e_Ju (is_42 hf)) rfl rfl rfl rfl hl.1 (Nat.le_of_ble_eq_true rfl) ⟨rfl, rfl, Nat.le_of_ble_eq_true rfl, Nat.le_of_ble_eq_true rfl⟩ ⟨Nat.le_of_ble_eq_true rfl, Nat.le_of_ble_eq_true rfl⟩ dSx_weightAt_10 (fun H locs hw hf => ?_)
  refine lv_iload_n S.1 S.2.1 dSx_weightAt_13 rfl (lv_at hl 2 rfl) ?_
  refine lv_iconst (v := (3 : Int32)) S.1 S.2.1 dSx_weightAt_14 (by decide) ?_
  refine lv_isub S.1 S.2.1 dSx_weightAt_15 ?_
  refine lv_imul S.1 S.2.1 dSx_weightAt_16 ?_
  obtain rfl := Option.some.inj hm
  exact sw_iret S hr hlk hw hf dSx_weightAt_17
set_option maxHeartbeats 4000000 in
set_option maxRecDepth 100000 in
theorem cSx_tiltWithout (l : Launch) (N : Nat) {Γ : sw_C} {A : Nat → Prop} {ξ : sw_x} {g : sw_g} {μ : sw_m} (hf : sw_wf ξ g.2.2) (a1 : Int32) {res : Int32 × sw_g} (hm : fSx_tiltWithout N ξ.2.2.1 g a1 = some res) : Met l ySx_tiltWithout (Cond.code ySx_tiltWithout prog_1_method_57_code 3 (some .int) :: sw_tb) rmSx_tiltWithout (va_Pc [.ref (ξ.2.2.2.1 0), .int a1] (sw_V Γ A ξ g μ)) (sw_Qi Γ A ξ res.2 μ res.1 (sw_wf ξ res.2.2.2)) 0 0 A := by
  refine Met.ofW (cc := prog_1_method_57_code) (maxL := 3) (ret := some .int) (by decide) rfl ?_
  intro p e s m args below meth c s₁ B hml hv
  obtain ⟨rfl, hv⟩ := hv
  have S : CallFix p m c prog_1_method_57_code 3 s _ (Cond.code ySx_tiltWithout prog_1_method_57_code 3 (some .int) :: sw_tb) R_Sx := ⟨B.exec, B.bytes, hml, findClass_of_methodNamed B.named, atoms_spec (ws := (Cond.code ySx_tiltWithout prog_1_method_57_code 3 (some .int) :: sw_tb)) B.pre⟩
  have hr := B.returns
  have hlk := B.notSynchronized
  have hw := sw_begin hv
  have hl := lv_entry [.ref (ξ.2.2.2.1 0), .int a1] (n := 3) (Nat.le_of_ble_eq_true rfl)
  rw [lg_entry_eq]
  generalize (lg_sl [.ref (ξ.2.2.2.1 0), .int a1] ++ List.replicate (3 - (lg_sl [.ref (ξ.2.2.2.1 0), .int a1]).length) Slot.unset).toArray = ls at hl ⊢
  have hl : lv_has ls 3 [(0, .ref (ξ.2.2.2.1 0)), (1, .int a1)] := hl
  unfold fSx_tiltWithout at hm
  refine lv_aload_n S.1 S.2.1 dSx_tiltWithout_0 rfl (lv_at hl 0 rfl) ?_
  obtain ⟨⟨v3, g2⟩, h1, hm⟩ := ob hm
  refine sw_Vi (q := 0) (rest := []) S hw (cSx_tiltNow l N hf  h1) kSx_tiltNow wm_Sx_143 (is_0 hf).1 (e_Sx (is_0 hf)) rfl rfl rfl rfl hl.1 (Nat.le_of_ble_eq_true rfl) ⟨rfl, rfl, Nat.le_of_ble_eq_true rfl, Nat.le_of_ble_eq_true rfl⟩ ⟨Nat.le_of_ble_eq_true rfl, Nat.le_of_ble_eq_true rfl⟩ dSx_tiltWithout_1 (fun H locs hw hf => ?_)
  refine lv_istore_n (lv' := [(2, .int v3), (0, .ref (ξ.2.2.2.1 0)), (1, .int a1)]) S.1 S.2.1 dSx_tiltWithout_4 rfl hl (by decide) rfl (fun ls hl => ?_)
  refine lv_aload_n S.1 S.2.1 dSx_tiltWithout_5 rfl (lv_at hl 1 rfl) ?_
  refine get_Sx (v := .ref (ξ.2.2.2.1 1)) S hw (is_0 hf) 0 (by decide) rfl wf_Sx_12 dSx_tiltWithout_6 ?_
  refine lv_iload_n S.1 S.2.1 dSx_tiltWithout_9 rfl (lv_at hl 2 rfl) ?_
  obtain ⟨⟨v6, g5⟩, h4, hm⟩ := ob hm
  refine sw_Vi (q := 1) (rest := []) S hw (cPl_isOn l  hf 1 (is_1 hf) a1 h4) kPl_isOn wm_Sx_115 (is_1 hf).1 (e_Pl (is_1 hf)) rfl rfl rfl rfl hl.1 (Nat.le_of_ble_eq_true rfl) ⟨rfl, rfl, Nat.le_of_ble_eq_true rfl, Nat.le_of_ble_eq_true rfl⟩ ⟨Nat.le_of_ble_eq_true rfl, Nat.le_of_ble_eq_true rfl⟩ dSx_tiltWithout_10 (fun H locs hw hf => ?_)
  refine bif_eq (tgt := 35) S.1 S.2.1 hm dSx_tiltWithout_13 (by decide) (fun hm => ?_) (fun hm => ?_)
  · refine lv_iload_n S.1 S.2.1 dSx_tiltWithout_35 rfl (lv_at hl 0 rfl) ?_
    obtain rfl := Option.some.inj hm
    exact sw_iret S hr hlk hw hf dSx_tiltWithout_36
  · refine lv_iload_n S.1 S.2.1 dSx_tiltWithout_16 rfl (lv_at hl 0 rfl) ?_
    refine lv_aload_n S.1 S.2.1 dSx_tiltWithout_17 rfl (lv_at hl 1 rfl) ?_
    refine lv_iload_n S.1 S.2.1 dSx_tiltWithout_18 rfl (lv_at hl 2 rfl) ?_
    refine lv_aload_n S.1 S.2.1 dSx_tiltWithout_19 rfl (lv_at hl 1 rfl) ?_
    refine get_Sx (v := .ref (ξ.2.2.2.1 1)) S hw (is_0 hf) 0 (by decide) rfl wf_Sx_12 dSx_tiltWithout_20 ?_
    refine get_Pl (v := .ref (ξ.2.2.2.1 4)) S hw (is_1 hf) 3 (by decide) rfl wf_Sx_106 dSx_tiltWithout_23 ?_
    refine lv_iload_n S.1 S.2.1 dSx_tiltWithout_26 rfl (lv_at hl 2 rfl) ?_
    refine sx_iald S hw (is_4 hf) hm dSx_tiltWithout_27 (fun v7 hm => ?_)
    obtain ⟨⟨v10, g9⟩, h8, hm⟩ := ob hm
    refine sw_Vi (q := 0) (rest := [.int v3]) S hw (cSx_weightAt l N hf a1 v7 h8) kSx_weightAt wm_Sx_135 (is_0 hf).1 (e_Sx (is_0 hf)) rfl rfl rfl rfl hl.1 (Nat.le_of_ble_eq_true rfl) ⟨rfl, rfl, Nat.le_of_ble_eq_true rfl, Nat.le_of_ble_eq_true rfl⟩ ⟨Nat.le_of_ble_eq_true rfl, Nat.le_of_ble_eq_true rfl⟩ dSx_tiltWithout_28 (fun H locs hw hf => ?_)
    refine lv_isub S.1 S.2.1 dSx_tiltWithout_31 ?_
    refine lv_goto (tgt := 36) S.1 S.2.1 dSx_tiltWithout_32 (by decide) ?_
    obtain rfl := Option.some.inj hm
    exact sw_iret S hr hlk hw hf dSx_tiltWithout_36
set_option maxHeartbeats 4000000 in
set_option maxRecDepth 100000 in
theorem wSx_levelsAlone_2 {l : Launch} {p : Program} {e : Env} {s : State} {m : MethodId} {args : Array Value} {below : List Frame} {meth : Method} {c : Code} {Γ : sw_C} {A : Nat → Prop} {ξ : sw_x} {μ : sw_m} {res : Int32 × sw_g} (S : CallFix p m c prog_1_method_58_code 4 s args (Cond.code ySx_levelsAlone prog_1_method_58_code 4 (some .boolean) :: sw_tb) R_Sx) (hr : meth.sig.returnType = some .boolean) (hlk : meth.locks = false) (N : Nat) : ∀ (fu : Nat) (g : sw_g) (u1 : Int32) (u2 : Int32) (u3 : Int32) (H : Heap) (locs : List Loc) (ls : Array Slot), fSx_levelsAlone_2 N ξ.2.2.1  fu g u1 u2 u3 = some res → sw_S Γ A ξ g μ s H locs → sw_wf ξ g.2.2 → lv_has ls 4 [(0, .ref (ξ.2.2.2.1 0)), (1, .int u1), (2, .int u2), (3, .int u3)] → W p l e (headSpec (Cond.code ySx_levelsAlone prog_1_method_58_code 4 (some .boolean) :: sw_tb) rmSx_levelsAlone).room s m args below meth c H locs 0 0 (MQ below (sw_Qi Γ A ξ res.2 μ res.1 (sw_wf ξ res.2.2.2)) args s 0 0 A) (F0 m 2 ls []) := by
  intro fu
  induction fu with
  | zero => intro g u1 u2 u3 H locs ls hm; rw [fSx_levelsAlone_2.eq_1] at hm; cases hm
  | succ fu ih =>
    intro g u1 u2 u3 H locs ls hm hw hf hl
    rw [fSx_levelsAlone_2.eq_2] at hm
    refine lv_iload_n S.1 S.2.1 dSx_levelsAlone_2 rfl (lv_at hl 3 rfl) ?_
    refine lv_bipush (v := (7 : Int32)) S.1 S.2.1 dSx_levelsAlone_3 (by decide) ?_
    refine bicmp_ge (tgt := 47) S.1 S.2.1 hm dSx_levelsAlone_5 (by decide) (fun hm => ?_) (fun hm => ?_)
    · refine lv_iconst (v := (0 : Int32)) S.1 S.2.1 dSx_levelsAlone_47 (by decide) ?_
      obtain rfl := Option.some.inj hm
      exact sw_zret S hr hlk (Or.inl rfl) hw hf dSx_levelsAlone_48
    · refine lv_aload_n S.1 S.2.1 dSx_levelsAlone_8 rfl (lv_at hl 0 rfl) ?_
      refine lv_iload_n S.1 S.2.1 dSx_levelsAlone_9 rfl (lv_at hl 2 rfl) ?_
      refine lv_aload_n S.1 S.2.1 dSx_levelsAlone_10 rfl (lv_at hl 0 rfl) ?_
      refine lv_iload_n S.1 S.2.1 dSx_levelsAlone_11 rfl (lv_at hl 1 rfl) ?_
      refine lv_iload_n S.1 S.2.1 dSx_levelsAlone_12 rfl (lv_at hl 3 rfl) ?_
      obtain ⟨⟨v3, g2⟩, h1, hm⟩ := ob hm
      refine sw_Vi (q := 0) (rest := [.int u2, .ref (ξ.2.2.2.1 0)]) S hw (cSx_weightAt l N hf u1 u3 h1) kSx_weightAt wm_Sx_135 (is_0 hf).1 (e_Sx (is_0 hf)) rfl rfl rfl rfl hl.1 (Nat.le_of_ble_eq_true rfl) ⟨rfl, rfl, Nat.le_of_ble_eq_true rfl, Nat.le_of_ble_eq_true rfl⟩ ⟨Nat.le_of_ble_eq_true rfl, Nat.le_of_ble_eq_true rfl⟩ dSx_levelsAlone_13 (fun H locs hw hf => ?_)
      refine lv_iadd S.1 S.2.1 dSx_levelsAlone_16 ?_
      obtain ⟨⟨v6, g5⟩, h4, hm⟩ := ob hm
      refine sw_Vi (q := 0) (rest := []) S hw (cSx_isLevel l  hf (u2 + v3) h4) kSx_isLevel wm_Sx_147 (is_0 hf).1 (e_Sx (is_0 hf)) rfl rfl rfl rfl hl.1 (Nat.le_of_ble_eq_true rfl) ⟨rfl, rfl, Nat.le_of_ble_eq_true rfl, Nat.le_of_ble_eq_true rfl⟩ ⟨Nat.le_of_ble_eq_true rfl, Nat.le_of_ble_eq_true rfl⟩ dSx_levelsAlone_17 (fun H locs hw hf => ?_)
      refine bif_eq (tgt := 41) S.1 S.2.1 hm dSx_levelsAlone_20 (by decide) (fun hm => ?_) (fun hm => ?_)
      · obtain ⟨x7, ex7, hm⟩ := nm_x hm
        refine lv_iinc (v := x7) (lv' := [(3, .int x7), (0, .ref (ξ.2.2.2.1 0)), (1, .int u1), (2, .int u2)]) S.1 S.2.1 dSx_levelsAlone_41 hl (k := 3) rfl (by rw [ex7]; rfl) (by decide) rfl (fun ls hl => ?_)
        refine lv_goto (tgt := 2) S.1 S.2.1 dSx_levelsAlone_44 (by decide) ?_
        exact ih g5 u1 u2 x7 _ _ _ hm hw hf (lv_sub hl [1, 2, 3, 0] rfl)
      · refine lv_aload_n S.1 S.2.1 dSx_levelsAlone_23 rfl (lv_at hl 0 rfl) ?_
        refine get_Sx (v := .ref (ξ.2.2.2.1 42)) S hw (is_0 hf) 7 (by decide) rfl wf_Sx_46 dSx_levelsAlone_24 ?_
        refine lv_aload_n S.1 S.2.1 dSx_levelsAlone_27 rfl (lv_at hl 0 rfl) ?_
        refine get_Sx (v := .ref (ξ.2.2.2.1 1)) S hw (is_0 hf) 0 (by decide) rfl wf_Sx_12 dSx_levelsAlone_28 ?_
        refine lv_iload_n S.1 S.2.1 dSx_levelsAlone_31 rfl (lv_at hl 1 rfl) ?_
        refine lv_iload_n S.1 S.2.1 dSx_levelsAlone_32 rfl (lv_at hl 3 rfl) ?_
        obtain ⟨⟨v10, g9⟩, h8, hm⟩ := ob hm
        refine sw_Vi (q := 42) (rest := []) S hw (cJu_barsAt l N hf 1 (is_1 hf) u1 u3 h8) kJu_barsAt wm_Sx_128 (is_42 hf).1 (e_Ju (is_42 hf)) rfl rfl rfl rfl hl.1 (Nat.le_of_ble_eq_true rfl) ⟨rfl, rfl, Nat.le_of_ble_eq_true rfl, Nat.le_of_ble_eq_true rfl⟩ ⟨Nat.le_of_ble_eq_true rfl, Nat.le_of_ble_eq_true rfl⟩ dSx_levelsAlone_33 (fun H locs hw hf => ?_)
        refine bif_ne (tgt := 41) S.1 S.2.1 hm dSx_levelsAlone_36 (by decide) (fun hm => ?_) (fun hm => ?_)
        · obtain ⟨x11, ex11, hm⟩ := nm_x hm
          refine lv_iinc (v := x11) (lv' := [(3, .int x11), (0, .ref (ξ.2.2.2.1 0)), (1, .int u1), (2, .int u2)]) S.1 S.2.1 dSx_levelsAlone_41 hl (k := 3) rfl (by rw [ex11]; rfl) (by decide) rfl (fun ls hl => ?_)
          refine lv_goto (tgt := 2) S.1 S.2.1 dSx_levelsAlone_44 (by decide) ?_
          exact ih g9 u1 u2 x11 _ _ _ hm hw hf (lv_sub hl [1, 2, 3, 0] rfl)
        · refine lv_iconst (v := (1 : Int32)) S.1 S.2.1 dSx_levelsAlone_39 (by decide) ?_
          obtain rfl := Option.some.inj hm
          exact sw_zret S hr hlk (Or.inr rfl) hw hf dSx_levelsAlone_40
set_option maxHeartbeats 4000000 in
set_option maxRecDepth 100000 in
theorem cSx_levelsAlone (l : Launch) (N : Nat) {Γ : sw_C} {A : Nat → Prop} {ξ : sw_x} {g : sw_g} {μ : sw_m} (hf : sw_wf ξ g.2.2) (a1 : Int32) (a2 : Int32) {res : Int32 × sw_g} (hm : fSx_levelsAlone N ξ.2.2.1 g a1 a2 = some res) : Met l ySx_levelsAlone (Cond.code ySx_levelsAlone prog_1_method_58_code 4 (some .boolean) :: sw_tb) rmSx_levelsAlone (va_Pc [.ref (ξ.2.2.2.1 0), .int a1, .int a2] (sw_V Γ A ξ g μ)) (sw_Qi Γ A ξ res.2 μ res.1 (sw_wf ξ res.2.2.2)) 0 0 A := by
  refine Met.ofW (cc := prog_1_method_58_code) (maxL := 4) (ret := some .boolean) (by decide) rfl ?_
  intro p e s m args below meth c s₁ B hml hv
  obtain ⟨rfl, hv⟩ := hv
  have S : CallFix p m c prog_1_method_58_code 4 s _ (Cond.code ySx_levelsAlone prog_1_method_58_code 4 (some .boolean) :: sw_tb) R_Sx := ⟨B.exec, B.bytes, hml, findClass_of_methodNamed B.named, atoms_spec (ws := (Cond.code ySx_levelsAlone prog_1_method_58_code 4 (some .boolean) :: sw_tb)) B.pre⟩
  have hr := B.returns
  have hlk := B.notSynchronized
  have hw := sw_begin hv
  have hl := lv_entry [.ref (ξ.2.2.2.1 0), .int a1, .int a2] (n := 4) (Nat.le_of_ble_eq_true rfl)
  rw [lg_entry_eq]
  generalize (lg_sl [.ref (ξ.2.2.2.1 0), .int a1, .int a2] ++ List.replicate (4 - (lg_sl [.ref (ξ.2.2.2.1 0), .int a1, .int a2]).length) Slot.unset).toArray = ls at hl ⊢
  have hl : lv_has ls 4 [(0, .ref (ξ.2.2.2.1 0)), (1, .int a1), (2, .int a2)] := hl
  unfold fSx_levelsAlone at hm
  refine lv_iconst (v := (0 : Int32)) S.1 S.2.1 dSx_levelsAlone_0 (by decide) ?_
  refine lv_istore_n (lv' := [(3, .int (0 : Int32)), (0, .ref (ξ.2.2.2.1 0)), (1, .int a1), (2, .int a2)]) S.1 S.2.1 dSx_levelsAlone_1 rfl hl (by decide) rfl (fun ls hl => ?_)
  exact wSx_levelsAlone_2 S hr hlk N  N g a1 a2 (0 : Int32) _ _ _ hm hw hf (lv_sub hl [1, 2, 3, 0] rfl)
set_option maxHeartbeats 4000000 in
set_option maxRecDepth 100000 in
theorem cSx_tiltByExchange (l : Launch) (N : Nat) {Γ : sw_C} {A : Nat → Prop} {ξ : sw_x} {g : sw_g} {μ : sw_m} (hf : sw_wf ξ g.2.2) (a1 : Int32) (a2 : Int32) {res : Int32 × sw_g} (hm : fSx_tiltByExchange N ξ.2.2.1 g a1 a2 = some res) : Met l ySx_tiltByExchange (Cond.code ySx_tiltByExchange prog_1_method_60_code 5 (some .int) :: sw_tb) rmSx_tiltByExchange (va_Pc [.ref (ξ.2.2.2.1 0), .int a1, .int a2] (sw_V Γ A ξ g μ)) (sw_Qi Γ A ξ res.2 μ res.1 (sw_wf ξ res.2.2.2)) 0 0 A := by
  refine Met.ofW (cc := prog_1_method_60_code) (maxL := 5) (ret := some .int) (by decide) rfl ?_
  intro p e s m args below meth c s₁ B hml hv
  obtain ⟨rfl, hv⟩ := hv
  have S : CallFix p m c prog_1_method_60_code 5 s _ (Cond.code ySx_tiltByExchange prog_1_method_60_code 5 (some .int) :: sw_tb) R_Sx := ⟨B.exec, B.bytes, hml, findClass_of_methodNamed B.named, atoms_spec (ws := (Cond.code ySx_tiltByExchange prog_1_method_60_code 5 (some .int) :: sw_tb)) B.pre⟩
  have hr := B.returns
  have hlk := B.notSynchronized
  have hw := sw_begin hv
  have hl := lv_entry [.ref (ξ.2.2.2.1 0), .int a1, .int a2] (n := 5) (Nat.le_of_ble_eq_true rfl)
  rw [lg_entry_eq]
  generalize (lg_sl [.ref (ξ.2.2.2.1 0), .int a1, .int a2] ++ List.replicate (5 - (lg_sl [.ref (ξ.2.2.2.1 0), .int a1, .int a2]).length) Slot.unset).toArray = ls at hl ⊢
  have hl : lv_has ls 5 [(0, .ref (ξ.2.2.2.1 0)), (1, .int a1), (2, .int a2)] := hl
  unfold fSx_tiltByExchange at hm
  refine lv_aload_n S.1 S.2.1 dSx_tiltByExchange_0 rfl (lv_at hl 0 rfl) ?_
  refine get_Sx (v := .ref (ξ.2.2.2.1 1)) S hw (is_0 hf) 0 (by decide) rfl wf_Sx_12 dSx_tiltByExchange_1 ?_
  refine get_Pl (v := .ref (ξ.2.2.2.1 4)) S hw (is_1 hf) 3 (by decide) rfl wf_Sx_106 dSx_tiltByExchange_4 ?_
  refine lv_iload_n S.1 S.2.1 dSx_tiltByExchange_7 rfl (lv_at hl 1 rfl) ?_
  refine sx_iald S hw (is_4 hf) hm dSx_tiltByExchange_8 (fun v1 hm => ?_)
  refine lv_istore_n (lv' := [(3, .int v1), (0, .ref (ξ.2.2.2.1 0)), (1, .int a1), (2, .int a2)]) S.1 S.2.1 dSx_tiltByExchange_9 rfl hl (by decide) rfl (fun ls hl => ?_)
  refine lv_aload_n S.1 S.2.1 dSx_tiltByExchange_10 rfl (lv_at hl 1 rfl) ?_
  refine get_Sx (v := .ref (ξ.2.2.2.1 1)) S hw (is_0 hf) 0 (by decide) rfl wf_Sx_12 dSx_tiltByExchange_11 ?_
  refine get_Pl (v := .ref (ξ.2.2.2.1 4)) S hw (is_1 hf) 3 (by decide) rfl wf_Sx_106 dSx_tiltByExchange_14 ?_
  refine lv_iload_n S.1 S.2.1 dSx_tiltByExchange_17 rfl (lv_at hl 3 rfl) ?_
  refine sx_iald S hw (is_4 hf) hm dSx_tiltByExchange_18 (fun v2 hm => ?_)
  refine lv_istore (lv' := [(4, .int v2), (3, .int v1), (0, .ref (ξ.2.2.2.1 0)), (1, .int a1), (2, .int a2)]) S.1 S.2.1 dSx_tiltByExchange_19 hl (by decide) rfl (fun ls hl => ?_)
  refine lv_aload_n S.1 S.2.1 dSx_tiltByExchange_21 rfl (lv_at hl 2 rfl) ?_
  refine lv_iload_n S.1 S.2.1 dSx_tiltByExchange_22 rfl (lv_at hl 3 rfl) ?_
  refine lv_iload S.1 S.2.1 dSx_tiltByExchange_23 (lv_at hl 0 rfl) ?_
  obtain ⟨⟨v5, g4⟩, h3, hm⟩ := ob hm
  refine sw_Vi (q := 0) (rest := []) S hw (cSx_weightAt l N hf a1 v2 h3) kSx_weightAt wm_Sx_135 (is_0 hf).1 (e_Sx (is_0 hf)) rfl rfl rfl rfl hl.1 (Nat.le_of_ble_eq_true rfl) ⟨rfl, rfl, Nat.le_of_ble_eq_true rfl, Nat.le_of_ble_eq_true rfl⟩ ⟨Nat.le_of_ble_eq_true rfl, Nat.le_of_ble_eq_true rfl⟩ dSx_tiltByExchange_25 (fun H locs hw hf => ?_)
  refine lv_aload_n S.1 S.2.1 dSx_tiltByExchange_28 rfl (lv_at hl 2 rfl) ?_
  refine lv_iload_n S.1 S.2.1 dSx_tiltByExchange_29 rfl (lv_at hl 4 rfl) ?_
  refine lv_iload_n S.1 S.2.1 dSx_tiltByExchange_30 rfl (lv_at hl 1 rfl) ?_
  obtain ⟨⟨v8, g7⟩, h6, hm⟩ := ob hm
  refine sw_Vi (q := 0) (rest := [.int v5]) S hw (cSx_weightAt l N hf a2 v1 h6) kSx_weightAt wm_Sx_135 (is_0 hf).1 (e_Sx (is_0 hf)) rfl rfl rfl rfl hl.1 (Nat.le_of_ble_eq_true rfl) ⟨rfl, rfl, Nat.le_of_ble_eq_true rfl, Nat.le_of_ble_eq_true rfl⟩ ⟨Nat.le_of_ble_eq_true rfl, Nat.le_of_ble_eq_true rfl⟩ dSx_tiltByExchange_31 (fun H locs hw hf => ?_)
  refine lv_iadd S.1 S.2.1 dSx_tiltByExchange_34 ?_
  refine lv_aload_n S.1 S.2.1 dSx_tiltByExchange_35 rfl (lv_at hl 2 rfl) ?_
  refine lv_iload_n S.1 S.2.1 dSx_tiltByExchange_36 rfl (lv_at hl 3 rfl) ?_
  refine lv_iload_n S.1 S.2.1 dSx_tiltByExchange_37 rfl (lv_at hl 1 rfl) ?_
  obtain ⟨⟨v11, g10⟩, h9, hm⟩ := ob hm
  refine sw_Vi (q := 0) (rest := [.int (v5 + v8)]) S hw (cSx_weightAt l N hf a1 v1 h9) kSx_weightAt wm_Sx_135 (is_0 hf).1 (e_Sx (is_0 hf)) rfl rfl rfl rfl hl.1 (Nat.le_of_ble_eq_true rfl) ⟨rfl, rfl, Nat.le_of_ble_eq_true rfl, Nat.le_of_ble_eq_true rfl⟩ ⟨Nat.le_of_ble_eq_true rfl, Nat.le_of_ble_eq_true rfl⟩ dSx_tiltByExchange_38 (fun H locs hw hf => ?_)
  refine lv_isub S.1 S.2.1 dSx_tiltByExchange_41 ?_
  refine lv_aload_n S.1 S.2.1 dSx_tiltByExchange_42 rfl (lv_at hl 2 rfl) ?_
  refine lv_iload_n S.1 S.2.1 dSx_tiltByExchange_43 rfl (lv_at hl 4 rfl) ?_
  refine lv_iload S.1 S.2.1 dSx_tiltByExchange_44 (lv_at hl 0 rfl) ?_
  obtain ⟨⟨v14, g13⟩, h12, hm⟩ := ob hm
  refine sw_Vi (q := 0) (rest := [.int ((v5 + v8) - v11)]) S hw (cSx_weightAt l N hf a2 v2 h12) kSx_weightAt wm_Sx_135 (is_0 hf).1 (e_Sx (is_0 hf)) rfl rfl rfl rfl hl.1 (Nat.le_of_ble_eq_true rfl) ⟨rfl, rfl, Nat.le_of_ble_eq_true rfl, Nat.le_of_ble_eq_true rfl⟩ ⟨Nat.le_of_ble_eq_true rfl, Nat.le_of_ble_eq_true rfl⟩ dSx_tiltByExchange_46 (fun H locs hw hf => ?_)
  refine lv_isub S.1 S.2.1 dSx_tiltByExchange_49 ?_
  obtain rfl := Option.some.inj hm
  exact sw_iret S hr hlk hw hf dSx_tiltByExchange_50
set_option maxHeartbeats 4000000 in
set_option maxRecDepth 100000 in
theorem wSx_offerPlaces_43 {l : Launch} {p : Program} {e : Env} {s : State} {m : MethodId} {args : Array Value} {below : List Frame} {meth : Method} {c : Code} {Γ : sw_C} {A : Nat → Prop} {ξ : sw_x} {μ : sw_m} {res : sw_g} (S : CallFix p m c prog_1_method_61_code 6 s args (Cond.code ySx_offerPlaces prog_1_method_61_code 6 (none) :: sw_tb) R_Sx) (hr : meth.sig.returnType = none) (hlk : meth.locks = false) (N : Nat) (k9 : sw_g → Int32 → Int32 → Option (sw_g)) (hk9 : ∀ (g : sw_g) (u1 : Int32) (u2 : Int32) (H : Heap) (locs : List Loc) (ls : Array Slot), k9 g u1 u2 = some res → sw_S Γ A ξ g μ s H locs → sw_wf ξ g.2.2 → lv_has ls 6 [(0, .ref (ξ.2.2.2.1 0)), (1, .int u1), (2, .int u2)] → W p l e (headSpec (Cond.code ySx_offerPlaces prog_1_method_61_code 6 (none) :: sw_tb) rmSx_offerPlaces).room s m args below meth c H locs 0 0 (MQ below (sw_Qv Γ A ξ res μ (sw_wf ξ res.2.2)) args s 0 0 A) (F0 m 9 ls [])) : ∀ (g : sw_g) (u1 : Int32) (u2 : Int32) (H : Heap) (locs : List Loc) (ls : Array Slot), fSx_offerPlaces_43 N ξ.2.2.1 k9 g u1 u2 = some res → sw_S Γ A ξ g μ s H locs → sw_wf ξ g.2.2 → lv_has ls 6 [(0, .ref (ξ.2.2.2.1 0)), (1, .int u1), (2, .int u2)] → W p l e (headSpec (Cond.code ySx_offerPlaces prog_1_method_61_code 6 (none) :: sw_tb) rmSx_offerPlaces).room s m args below meth c H locs 0 0 (MQ below (sw_Qv Γ A ξ res μ (sw_wf ξ res.2.2)) args s 0 0 A) (F0 m 43 ls []) := by
  intro g u1 u2 H locs ls hm hw hf hl
  unfold fSx_offerPlaces_43 at hm
  refine lv_aload_n S.1 S.2.1 dSx_offerPlaces_43 rfl (lv_at hl 0 rfl) ?_
  refine get_Sx (v := .ref (ξ.2.2.2.1 49)) S hw (is_0 hf) 10 (by decide) rfl wf_Sx_64 dSx_offerPlaces_44 ?_
  refine lv_iload_n S.1 S.2.1 dSx_offerPlaces_47 rfl (lv_at hl 2 rfl) ?_
  refine lv_bipush (v := (7 : Int32)) S.1 S.2.1 dSx_offerPlaces_48 (by decide) ?_
  refine lv_iconst (v := (0 : Int32)) S.1 S.2.1 dSx_offerPlaces_50 (by decide) ?_
  refine lv_iconst (v := (0 : Int32)) S.1 S.2.1 dSx_offerPlaces_51 (by decide) ?_
  obtain ⟨g9, h8, hm⟩ := ob hm
  refine sw_Vv (q := 49) (rest := []) S hw (cRo_offer l  hf u2 (7 : Int32) (0 : Int32) (0 : Int32) h8) kRo_offer wm_Sx_367 (is_49 hf).1 (e_Ro (is_49 hf)) rfl rfl rfl rfl hl.1 (Nat.le_of_ble_eq_true rfl) ⟨rfl, rfl, Nat.le_of_ble_eq_true rfl, Nat.le_of_ble_eq_true rfl⟩ ⟨Nat.le_of_ble_eq_true rfl, Nat.le_of_ble_eq_true rfl⟩ dSx_offerPlaces_52 (fun H locs hw hf => ?_)
  refine lv_goto (tgt := 157) S.1 S.2.1 dSx_offerPlaces_55 (by decide) ?_
  obtain ⟨x10, ex10, hm⟩ := nm_x hm
  refine lv_iinc (v := x10) (lv' := [(2, .int x10), (0, .ref (ξ.2.2.2.1 0)), (1, .int u1)]) S.1 S.2.1 dSx_offerPlaces_157 hl (k := 2) rfl (by rw [ex10]; rfl) (by decide) rfl (fun ls hl => ?_)
  refine lv_goto (tgt := 9) S.1 S.2.1 dSx_offerPlaces_160 (by decide) ?_
  exact hk9 g9 u1 x10 _ _ _ hm hw hf (lv_sub hl [1, 2, 0] rfl)
set_option maxHeartbeats 4000000 in
set_option maxRecDepth 100000 in
theorem wSx_offerPlaces_148 {l : Launch} {p : Program} {e : Env} {s : State} {m : MethodId} {args : Array Value} {below : List Frame} {meth : Method} {c : Code} {Γ : sw_C} {A : Nat → Prop} {ξ : sw_x} {μ : sw_m} {res : sw_g} (S : CallFix p m c prog_1_method_61_code 6 s args (Cond.code ySx_offerPlaces prog_1_method_61_code 6 (none) :: sw_tb) R_Sx) (hr : meth.sig.returnType = none) (hlk : meth.locks = false) (N : Nat) (k9 : sw_g → Int32 → Int32 → Option (sw_g)) (hk9 : ∀ (g : sw_g) (u1 : Int32) (u2 : Int32) (H : Heap) (locs : List Loc) (ls : Array Slot), k9 g u1 u2 = some res → sw_S Γ A ξ g μ s H locs → sw_wf ξ g.2.2 → lv_has ls 6 [(0, .ref (ξ.2.2.2.1 0)), (1, .int u1), (2, .int u2)] → W p l e (headSpec (Cond.code ySx_offerPlaces prog_1_method_61_code 6 (none) :: sw_tb) rmSx_offerPlaces).room s m args below meth c H locs 0 0 (MQ below (sw_Qv Γ A ξ res μ (sw_wf ξ res.2.2)) args s 0 0 A) (F0 m 9 ls [])) (k61 : sw_g → Int32 → Int32 → Int32 → Int32 → Option (sw_g)) (hk61 : ∀ (g : sw_g) (u1 : Int32) (u2 : Int32) (u3 : Int32) (u4 : Int32) (H : Heap) (locs : List Loc) (ls : Array Slot), k61 g u1 u2 u3 u4 = some res → sw_S Γ A ξ g μ s H locs → sw_wf ξ g.2.2 → lv_has ls 6 [(0, .ref (ξ.2.2.2.1 0)), (1, .int u1), (2, .int u2), (3, .int u3), (4, .int u4)] → W p l e (headSpec (Cond.code ySx_offerPlaces prog_1_method_61_code 6 (none) :: sw_tb) rmSx_offerPlaces).room s m args below meth c H locs 0 0 (MQ below (sw_Qv Γ A ξ res μ (sw_wf ξ res.2.2)) args s 0 0 A) (F0 m 61 ls [])) : ∀ (g : sw_g) (u1 : Int32) (u2 : Int32) (u3 : Int32) (u4 : Int32) (s0 : Int32) (s1 : Int32) (s2 : Int32) (s3 : Int32) (H : Heap) (locs : List Loc) (ls : Array Slot), fSx_offerPlaces_148 N ξ.2.2.1 k9 k61 g u1 u2 u3 u4 s0 s1 s2 s3 = some res → sw_S Γ A ξ g μ s H locs → sw_wf ξ g.2.2 → lv_has ls 6 [(0, .ref (ξ.2.2.2.1 0)), (1, .int u1), (2, .int u2), (3, .int u3), (4, .int u4)] → W p l e (headSpec (Cond.code ySx_offerPlaces prog_1_method_61_code 6 (none) :: sw_tb) rmSx_offerPlaces).room s m args below meth c H locs 0 0 (MQ below (sw_Qv Γ A ξ res μ (sw_wf ξ res.2.2)) args s 0 0 A) (F0 m 148 ls [.int s0, .int s1, .int s2, .int s3, .ref (ξ.2.2.2.1 49)]) := by
  intro g u1 u2 u3 u4 s0 s1 s2 s3 H locs ls hm hw hf hl
  unfold fSx_offerPlaces_148 at hm
  obtain ⟨g16, h15, hm⟩ := ob hm
  refine sw_Vv (q := 49) (rest := []) S hw (cRo_offer l  hf s3 s2 s1 s0 h15) kRo_offer wm_Sx_367 (is_49 hf).1 (e_Ro (is_49 hf)) rfl rfl rfl rfl hl.1 (Nat.le_of_ble_eq_true rfl) ⟨rfl, rfl, Nat.le_of_ble_eq_true rfl, Nat.le_of_ble_eq_true rfl⟩ ⟨Nat.le_of_ble_eq_true rfl, Nat.le_of_ble_eq_true rfl⟩ dSx_offerPlaces_148 (fun H locs hw hf => ?_)
  obtain ⟨x17, ex17, hm⟩ := nm_x hm
  refine lv_iinc (v := x17) (lv' := [(4, .int x17), (0, .ref (ξ.2.2.2.1 0)), (1, .int u1), (2, .int u2), (3, .int u3)]) S.1 S.2.1 dSx_offerPlaces_151 hl (k := 4) rfl (by rw [ex17]; rfl) (by decide) rfl (fun ls hl => ?_)
  refine lv_goto (tgt := 61) S.1 S.2.1 dSx_offerPlaces_154 (by decide) ?_
  exact hk61 g16 u1 u2 u3 x17 _ _ _ hm hw hf (lv_sub hl [1, 2, 3, 4, 0] rfl)
set_option maxHeartbeats 4000000 in
set_option maxRecDepth 100000 in
theorem wSx_offerPlaces_120 {l : Launch} {p : Program} {e : Env} {s : State} {m : MethodId} {args : Array Value} {below : List Frame} {meth : Method} {c : Code} {Γ : sw_C} {A : Nat → Prop} {ξ : sw_x} {μ : sw_m} {res : sw_g} (S : CallFix p m c prog_1_method_61_code 6 s args (Cond.code ySx_offerPlaces prog_1_method_61_code 6 (none) :: sw_tb) R_Sx) (hr : meth.sig.returnType = none) (hlk : meth.locks = false) (N : Nat) (k9 : sw_g → Int32 → Int32 → Option (sw_g)) (hk9 : ∀ (g : sw_g) (u1 : Int32) (u2 : Int32) (H : Heap) (locs : List Loc) (ls : Array Slot), k9 g u1 u2 = some res → sw_S Γ A ξ g μ s H locs → sw_wf ξ g.2.2 → lv_has ls 6 [(0, .ref (ξ.2.2.2.1 0)), (1, .int u1), (2, .int u2)] → W p l e (headSpec (Cond.code ySx_offerPlaces prog_1_method_61_code 6 (none) :: sw_tb) rmSx_offerPlaces).room s m args below meth c H locs 0 0 (MQ below (sw_Qv Γ A ξ res μ (sw_wf ξ res.2.2)) args s 0 0 A) (F0 m 9 ls [])) (k61 : sw_g → Int32 → Int32 → Int32 → Int32 → Option (sw_g)) (hk61 : ∀ (g : sw_g) (u1 : Int32) (u2 : Int32) (u3 : Int32) (u4 : Int32) (H : Heap) (locs : List Loc) (ls : Array Slot), k61 g u1 u2 u3 u4 = some res → sw_S Γ A ξ g μ s H locs → sw_wf ξ g.2.2 → lv_has ls 6 [(0, .ref (ξ.2.2.2.1 0)), (1, .int u1), (2, .int u2), (3, .int u3), (4, .int u4)] → W p l e (headSpec (Cond.code ySx_offerPlaces prog_1_method_61_code 6 (none) :: sw_tb) rmSx_offerPlaces).room s m args below meth c H locs 0 0 (MQ below (sw_Qv Γ A ξ res μ (sw_wf ξ res.2.2)) args s 0 0 A) (F0 m 61 ls [])) : ∀ (g : sw_g) (u1 : Int32) (u2 : Int32) (u3 : Int32) (u4 : Int32) (u5 : Int32) (H : Heap) (locs : List Loc) (ls : Array Slot), fSx_offerPlaces_120 N ξ.2.2.1 k9 k61 g u1 u2 u3 u4 u5 = some res → sw_S Γ A ξ g μ s H locs → sw_wf ξ g.2.2 → lv_has ls 6 [(0, .ref (ξ.2.2.2.1 0)), (1, .int u1), (2, .int u2), (3, .int u3), (4, .int u4), (5, .int u5)] → W p l e (headSpec (Cond.code ySx_offerPlaces prog_1_method_61_code 6 (none) :: sw_tb) rmSx_offerPlaces).room s m args below meth c H locs 0 0 (MQ below (sw_Qv Γ A ξ res μ (sw_wf ξ res.2.2)) args s 0 0 A) (F0 m 120 ls []) := by
  intro g u1 u2 u3 u4 u5 H locs ls hm hw hf hl
  unfold fSx_offerPlaces_120 at hm
  refine lv_aload_n S.1 S.2.1 dSx_offerPlaces_120 rfl (lv_at hl 0 rfl) ?_
  refine get_Sx (v := .ref (ξ.2.2.2.1 49)) S hw (is_0 hf) 10 (by decide) rfl wf_Sx_64 dSx_offerPlaces_121 ?_
  refine lv_iload_n S.1 S.2.1 dSx_offerPlaces_124 rfl (lv_at hl 2 rfl) ?_
  refine lv_iload S.1 S.2.1 dSx_offerPlaces_125 (lv_at hl 4 rfl) ?_
  refine lv_aload_n S.1 S.2.1 dSx_offerPlaces_127 rfl (lv_at hl 0 rfl) ?_
  refine lv_iload_n S.1 S.2.1 dSx_offerPlaces_128 rfl (lv_at hl 2 rfl) ?_
  refine lv_iload S.1 S.2.1 dSx_offerPlaces_129 (lv_at hl 4 rfl) ?_
  obtain ⟨⟨v14, g13⟩, h12, hm⟩ := ob hm
  refine sw_Vi (q := 0) (rest := [.int u4, .int u2, .ref (ξ.2.2.2.1 49)]) S hw (cSx_weightAt l N hf u2 u4 h12) kSx_weightAt wm_Sx_135 (is_0 hf).1 (e_Sx (is_0 hf)) rfl rfl rfl rfl hl.1 (Nat.le_of_ble_eq_true rfl) ⟨rfl, rfl, Nat.le_of_ble_eq_true rfl, Nat.le_of_ble_eq_true rfl⟩ ⟨Nat.le_of_ble_eq_true rfl, Nat.le_of_ble_eq_true rfl⟩ dSx_offerPlaces_131 (fun H locs hw hf => ?_)
  refine lv_iload_n S.1 S.2.1 dSx_offerPlaces_134 rfl (lv_at hl 1 rfl) ?_
  refine bif_eq (tgt := 147) S.1 S.2.1 hm dSx_offerPlaces_135 (by decide) (fun hm => ?_) (fun hm => ?_)
  · refine lv_iconst (v := (0 : Int32)) S.1 S.2.1 dSx_offerPlaces_147 (by decide) ?_
    exact wSx_offerPlaces_148 S hr hlk N k9 hk9 k61 hk61 g13 u1 u2 u3 u4 (0 : Int32) v14 u4 u2 _ _ _ hm hw hf (lv_sub hl [0, 1, 2, 3, 4] rfl)
  · refine lv_iload S.1 S.2.1 dSx_offerPlaces_138 (lv_at hl 5 rfl) ?_
    refine bif_ne (tgt := 147) S.1 S.2.1 hm dSx_offerPlaces_140 (by decide) (fun hm => ?_) (fun hm => ?_)
    · refine lv_iconst (v := (0 : Int32)) S.1 S.2.1 dSx_offerPlaces_147 (by decide) ?_
      exact wSx_offerPlaces_148 S hr hlk N k9 hk9 k61 hk61 g13 u1 u2 u3 u4 (0 : Int32) v14 u4 u2 _ _ _ hm hw hf (lv_sub hl [0, 1, 2, 3, 4] rfl)
    · refine lv_iconst (v := (1 : Int32)) S.1 S.2.1 dSx_offerPlaces_143 (by decide) ?_
      refine lv_goto (tgt := 148) S.1 S.2.1 dSx_offerPlaces_144 (by decide) ?_
      exact wSx_offerPlaces_148 S hr hlk N k9 hk9 k61 hk61 g13 u1 u2 u3 u4 (1 : Int32) v14 u4 u2 _ _ _ hm hw hf (lv_sub hl [0, 1, 2, 3, 4] rfl)
set_option maxHeartbeats 4000000 in
set_option maxRecDepth 100000 in
theorem wSx_offerPlaces_91 {l : Launch} {p : Program} {e : Env} {s : State} {m : MethodId} {args : Array Value} {below : List Frame} {meth : Method} {c : Code} {Γ : sw_C} {A : Nat → Prop} {ξ : sw_x} {μ : sw_m} {res : sw_g} (S : CallFix p m c prog_1_method_61_code 6 s args (Cond.code ySx_offerPlaces prog_1_method_61_code 6 (none) :: sw_tb) R_Sx) (hr : meth.sig.returnType = none) (hlk : meth.locks = false) (N : Nat) (k9 : sw_g → Int32 → Int32 → Option (sw_g)) (hk9 : ∀ (g : sw_g) (u1 : Int32) (u2 : Int32) (H : Heap) (locs : List Loc) (ls : Array Slot), k9 g u1 u2 = some res → sw_S Γ A ξ g μ s H locs → sw_wf ξ g.2.2 → lv_has ls 6 [(0, .ref (ξ.2.2.2.1 0)), (1, .int u1), (2, .int u2)] → W p l e (headSpec (Cond.code ySx_offerPlaces prog_1_method_61_code 6 (none) :: sw_tb) rmSx_offerPlaces).room s m args below meth c H locs 0 0 (MQ below (sw_Qv Γ A ξ res μ (sw_wf ξ res.2.2)) args s 0 0 A) (F0 m 9 ls [])) (k61 : sw_g → Int32 → Int32 → Int32 → Int32 → Option (sw_g)) (hk61 : ∀ (g : sw_g) (u1 : Int32) (u2 : Int32) (u3 : Int32) (u4 : Int32) (H : Heap) (locs : List Loc) (ls : Array Slot), k61 g u1 u2 u3 u4 = some res → sw_S Γ A ξ g μ s H locs → sw_wf ξ g.2.2 → lv_has ls 6 [(0, .ref (ξ.2.2.2.1 0)), (1, .int u1), (2, .int u2), (3, .int u3), (4, .int u4)] → W p l e (headSpec (Cond.code ySx_offerPlaces prog_1_method_61_code 6 (none) :: sw_tb) rmSx_offerPlaces).room s m args below meth c H locs 0 0 (MQ below (sw_Qv Γ A ξ res μ (sw_wf ξ res.2.2)) args s 0 0 A) (F0 m 61 ls [])) : ∀ (g : sw_g) (u1 : Int32) (u2 : Int32) (u3 : Int32) (u4 : Int32) (s0 : Int32) (H : Heap) (locs : List Loc) (ls : Array Slot), fSx_offerPlaces_91 N ξ.2.2.1 k9 k61 g u1 u2 u3 u4 s0 = some res → sw_S Γ A ξ g μ s H locs → sw_wf ξ g.2.2 → lv_has ls 6 [(0, .ref (ξ.2.2.2.1 0)), (1, .int u1), (2, .int u2), (3, .int u3), (4, .int u4)] → W p l e (headSpec (Cond.code ySx_offerPlaces prog_1_method_61_code 6 (none) :: sw_tb) rmSx_offerPlaces).room s m args below meth c H locs 0 0 (MQ below (sw_Qv Γ A ξ res μ (sw_wf ξ res.2.2)) args s 0 0 A) (F0 m 91 ls [.int s0]) := by
  intro g u1 u2 u3 u4 s0 H locs ls hm hw hf hl
  unfold fSx_offerPlaces_91 at hm
  refine lv_istore (lv' := [(5, .int s0), (0, .ref (ξ.2.2.2.1 0)), (1, .int u1), (2, .int u2), (3, .int u3), (4, .int u4)]) S.1 S.2.1 dSx_offerPlaces_91 hl (by decide) rfl (fun ls hl => ?_)
  refine lv_iload S.1 S.2.1 dSx_offerPlaces_93 (lv_at hl 0 rfl) ?_
  refine bif_ne (tgt := 120) S.1 S.2.1 hm dSx_offerPlaces_95 (by decide) (fun hm => ?_) (fun hm => ?_)
  · exact wSx_offerPlaces_120 S hr hlk N k9 hk9 k61 hk61 g u1 u2 u3 u4 s0 _ _ _ hm hw hf (lv_sub hl [1, 2, 3, 4, 5, 0] rfl)
  · refine lv_iload_n S.1 S.2.1 dSx_offerPlaces_98 rfl (lv_at hl 4 rfl) ?_
    refine lv_iload_n S.1 S.2.1 dSx_offerPlaces_99 rfl (lv_at hl 2 rfl) ?_
    refine bicmp_ne (tgt := 151) S.1 S.2.1 hm dSx_offerPlaces_100 (by decide) (fun hm => ?_) (fun hm => ?_)
    · obtain ⟨x18, ex18, hm⟩ := nm_x hm
      refine lv_iinc (v := x18) (lv' := [(4, .int x18), (5, .int s0), (0, .ref (ξ.2.2.2.1 0)), (1, .int u1), (2, .int u2), (3, .int u3)]) S.1 S.2.1 dSx_offerPlaces_151 hl (k := 5) rfl (by rw [ex18]; rfl) (by decide) rfl (fun ls hl => ?_)
      refine lv_goto (tgt := 61) S.1 S.2.1 dSx_offerPlaces_154 (by decide) ?_
      exact hk61 g u1 u2 u3 x18 _ _ _ hm hw hf (lv_sub hl [2, 3, 4, 5, 0] rfl)
    · refine lv_aload_n S.1 S.2.1 dSx_offerPlaces_103 rfl (lv_at hl 1 rfl) ?_
      refine get_Sx (v := .ref (ξ.2.2.2.1 42)) S hw (is_0 hf) 7 (by decide) rfl wf_Sx_46 dSx_offerPlaces_104 ?_
      refine lv_aload_n S.1 S.2.1 dSx_offerPlaces_107 rfl (lv_at hl 1 rfl) ?_
      refine get_Sx (v := .ref (ξ.2.2.2.1 1)) S hw (is_0 hf) 0 (by decide) rfl wf_Sx_12 dSx_offerPlaces_108 ?_
      refine lv_iload_n S.1 S.2.1 dSx_offerPlaces_111 rfl (lv_at hl 3 rfl) ?_
      refine lv_iload S.1 S.2.1 dSx_offerPlaces_112 (lv_at hl 5 rfl) ?_
      obtain ⟨⟨v21, g20⟩, h19, hm⟩ := ob hm
      refine sw_Vi (q := 42) (rest := []) S hw (cJu_barsAt l N hf 1 (is_1 hf) u2 u4 h19) kJu_barsAt wm_Sx_128 (is_42 hf).1 (e_Ju (is_42 hf)) rfl rfl rfl rfl hl.1 (Nat.le_of_ble_eq_true rfl) ⟨rfl, rfl, Nat.le_of_ble_eq_true rfl, Nat.le_of_ble_eq_true rfl⟩ ⟨Nat.le_of_ble_eq_true rfl, Nat.le_of_ble_eq_true rfl⟩ dSx_offerPlaces_114 (fun H locs hw hf => ?_)
      refine bif_ne (tgt := 151) S.1 S.2.1 hm dSx_offerPlaces_117 (by decide) (fun hm => ?_) (fun hm => ?_)
      · obtain ⟨x22, ex22, hm⟩ := nm_x hm
        refine lv_iinc (v := x22) (lv' := [(4, .int x22), (5, .int s0), (0, .ref (ξ.2.2.2.1 0)), (1, .int u1), (2, .int u2), (3, .int u3)]) S.1 S.2.1 dSx_offerPlaces_151 hl (k := 5) rfl (by rw [ex22]; rfl) (by decide) rfl (fun ls hl => ?_)
        refine lv_goto (tgt := 61) S.1 S.2.1 dSx_offerPlaces_154 (by decide) ?_
        exact hk61 g20 u1 u2 u3 x22 _ _ _ hm hw hf (lv_sub hl [2, 3, 4, 5, 0] rfl)
      · exact wSx_offerPlaces_120 S hr hlk N k9 hk9 k61 hk61 g20 u1 u2 u3 u4 s0 _ _ _ hm hw hf (lv_sub hl [1, 2, 3, 4, 5, 0] rfl)
set_option maxHeartbeats 4000000 in
set_option maxRecDepth 100000 in
theorem wSx_offerPlaces_61 {l : Launch} {p : Program} {e : Env} {s : State} {m : MethodId} {args : Array Value} {below : List Frame} {meth : Method} {c : Code} {Γ : sw_C} {A : Nat → Prop} {ξ : sw_x} {μ : sw_m} {res : sw_g} (S : CallFix p m c prog_1_method_61_code 6 s args (Cond.code ySx_offerPlaces prog_1_method_61_code 6 (none) :: sw_tb) R_Sx) (hr : meth.sig.returnType = none) (hlk : meth.locks = false) (N : Nat) (k9 : sw_g → Int32 → Int32 → Option (sw_g)) (hk9 : ∀ (g : sw_g) (u1 : Int32) (u2 : Int32) (H : Heap) (locs : List Loc) (ls : Array Slot), k9 g u1 u2 = some res → sw_S Γ A ξ g μ s H locs → sw_wf ξ g.2.2 → lv_has ls 6 [(0, .ref (ξ.2.2.2.1 0)), (1, .int u1), (2, .int u2)] → W p l e (headSpec (Cond.code ySx_offerPlaces prog_1_method_61_code 6 (none) :: sw_tb) rmSx_offerPlaces).room s m args below meth c H locs 0 0 (MQ below (sw_Qv Γ A ξ res μ (sw_wf ξ res.2.2)) args s 0 0 A) (F0 m 9 ls [])) : ∀ (fu : Nat) (g : sw_g) (u1 : Int32) (u2 : Int32) (u3 : Int32) (u4 : Int32) (H : Heap) (locs : List Loc) (ls : Array Slot), fSx_offerPlaces_61 N ξ.2.2.1 k9 fu g u1 u2 u3 u4 = some res → sw_S Γ A ξ g μ s H locs → sw_wf ξ g.2.2 → lv_has ls 6 [(0, .ref (ξ.2.2.2.1 0)), (1, .int u1), (2, .int u2), (3, .int u3), (4, .int u4)] → W p l e (headSpec (Cond.code ySx_offerPlaces prog_1_method_61_code 6 (none) :: sw_tb) rmSx_offerPlaces).room s m args below meth c H locs 0 0 (MQ below (sw_Qv Γ A ξ res μ (sw_wf ξ res.2.2)) args s 0 0 A) (F0 m 61 ls []) := by
  intro fu
  induction fu with
  | zero => intro g u1 u2 u3 u4 H locs ls hm; rw [fSx_offerPlaces_61.eq_1] at hm; cases hm
  | succ fu ih =>
    intro g u1 u2 u3 u4 H locs ls hm hw hf hl
    rw [fSx_offerPlaces_61.eq_2] at hm
    refine lv_iload S.1 S.2.1 dSx_offerPlaces_61 (lv_at hl 4 rfl) ?_
    refine lv_bipush (v := (7 : Int32)) S.1 S.2.1 dSx_offerPlaces_63 (by decide) ?_
    refine bicmp_ge (tgt := 157) S.1 S.2.1 hm dSx_offerPlaces_65 (by decide) (fun hm => ?_) (fun hm => ?_)
    · obtain ⟨x11, ex11, hm⟩ := nm_x hm
      refine lv_iinc (v := x11) (lv' := [(2, .int x11), (0, .ref (ξ.2.2.2.1 0)), (1, .int u1), (3, .int u3), (4, .int u4)]) S.1 S.2.1 dSx_offerPlaces_157 hl (k := 2) rfl (by rw [ex11]; rfl) (by decide) rfl (fun ls hl => ?_)
      refine lv_goto (tgt := 9) S.1 S.2.1 dSx_offerPlaces_160 (by decide) ?_
      exact hk9 g u1 x11 _ _ _ hm hw hf (lv_sub hl [1, 2, 0] rfl)
    · refine lv_iload_n S.1 S.2.1 dSx_offerPlaces_68 rfl (lv_at hl 3 rfl) ?_
      refine bif_eq (tgt := 90) S.1 S.2.1 hm dSx_offerPlaces_69 (by decide) (fun hm => ?_) (fun hm => ?_)
      · refine lv_iconst (v := (0 : Int32)) S.1 S.2.1 dSx_offerPlaces_90 (by decide) ?_
        exact wSx_offerPlaces_91 S hr hlk N k9 hk9 (fSx_offerPlaces_61 N ξ.2.2.1 k9 fu) ih g u1 u2 u3 u4 (0 : Int32) _ _ _ hm hw hf (lv_sub hl [0, 1, 2, 3, 4] rfl)
      · refine lv_aload_n S.1 S.2.1 dSx_offerPlaces_72 rfl (lv_at hl 0 rfl) ?_
        refine get_Sx (v := .ref (ξ.2.2.2.1 1)) S hw (is_0 hf) 0 (by decide) rfl wf_Sx_12 dSx_offerPlaces_73 ?_
        refine get_Pl (v := .ref (ξ.2.2.2.1 4)) S hw (is_1 hf) 3 (by decide) rfl wf_Sx_106 dSx_offerPlaces_76 ?_
        refine lv_iload_n S.1 S.2.1 dSx_offerPlaces_79 rfl (lv_at hl 2 rfl) ?_
        refine sx_iald S hw (is_4 hf) hm dSx_offerPlaces_80 (fun v23 hm => ?_)
        refine lv_iload S.1 S.2.1 dSx_offerPlaces_81 (lv_at hl 4 rfl) ?_
        refine bicmp_ne (tgt := 90) S.1 S.2.1 hm dSx_offerPlaces_83 (by decide) (fun hm => ?_) (fun hm => ?_)
        · refine lv_iconst (v := (0 : Int32)) S.1 S.2.1 dSx_offerPlaces_90 (by decide) ?_
          exact wSx_offerPlaces_91 S hr hlk N k9 hk9 (fSx_offerPlaces_61 N ξ.2.2.1 k9 fu) ih g u1 u2 u3 u4 (0 : Int32) _ _ _ hm hw hf (lv_sub hl [0, 1, 2, 3, 4] rfl)
        · refine lv_iconst (v := (1 : Int32)) S.1 S.2.1 dSx_offerPlaces_86 (by decide) ?_
          refine lv_goto (tgt := 91) S.1 S.2.1 dSx_offerPlaces_87 (by decide) ?_
          exact wSx_offerPlaces_91 S hr hlk N k9 hk9 (fSx_offerPlaces_61 N ξ.2.2.1 k9 fu) ih g u1 u2 u3 u4 (1 : Int32) _ _ _ hm hw hf (lv_sub hl [0, 1, 2, 3, 4] rfl)
set_option maxHeartbeats 4000000 in
set_option maxRecDepth 100000 in
theorem wSx_offerPlaces_9 {l : Launch} {p : Program} {e : Env} {s : State} {m : MethodId} {args : Array Value} {below : List Frame} {meth : Method} {c : Code} {Γ : sw_C} {A : Nat → Prop} {ξ : sw_x} {μ : sw_m} {res : sw_g} (S : CallFix p m c prog_1_method_61_code 6 s args (Cond.code ySx_offerPlaces prog_1_method_61_code 6 (none) :: sw_tb) R_Sx) (hr : meth.sig.returnType = none) (hlk : meth.locks = false) (N : Nat) : ∀ (fu : Nat) (g : sw_g) (u1 : Int32) (u2 : Int32) (H : Heap) (locs : List Loc) (ls : Array Slot), fSx_offerPlaces_9 N ξ.2.2.1  fu g u1 u2 = some res → sw_S Γ A ξ g μ s H locs → sw_wf ξ g.2.2 → lv_has ls 6 [(0, .ref (ξ.2.2.2.1 0)), (1, .int u1), (2, .int u2)] → W p l e (headSpec (Cond.code ySx_offerPlaces prog_1_method_61_code 6 (none) :: sw_tb) rmSx_offerPlaces).room s m args below meth c H locs 0 0 (MQ below (sw_Qv Γ A ξ res μ (sw_wf ξ res.2.2)) args s 0 0 A) (F0 m 9 ls []) := by
  intro fu
  induction fu with
  | zero => intro g u1 u2 H locs ls hm; rw [fSx_offerPlaces_9.eq_1] at hm; cases hm
  | succ fu ih =>
    intro g u1 u2 H locs ls hm hw hf hl
    rw [fSx_offerPlaces_9.eq_2] at hm
    refine lv_iload_n S.1 S.2.1 dSx_offerPlaces_9 rfl (lv_at hl 2 rfl) ?_
    refine lv_bipush (v := (7 : Int32)) S.1 S.2.1 dSx_offerPlaces_10 (by decide) ?_
    refine bicmp_ge (tgt := 163) S.1 S.2.1 hm dSx_offerPlaces_12 (by decide) (fun hm => ?_) (fun hm => ?_)
    · refine lv_aload_n S.1 S.2.1 dSx_offerPlaces_163 rfl (lv_at hl 0 rfl) ?_
      refine get_Sx (v := .ref (ξ.2.2.2.1 49)) S hw (is_0 hf) 10 (by decide) rfl wf_Sx_64 dSx_offerPlaces_164 ?_
      obtain ⟨g4, h3, hm⟩ := ob hm
      refine sw_Vv (q := 49) (rest := []) S hw (cRo_tallyTails l N hf  h3) kRo_tallyTails wm_Sx_371 (is_49 hf).1 (e_Ro (is_49 hf)) rfl rfl rfl rfl hl.1 (Nat.le_of_ble_eq_true rfl) ⟨rfl, rfl, Nat.le_of_ble_eq_true rfl, Nat.le_of_ble_eq_true rfl⟩ ⟨Nat.le_of_ble_eq_true rfl, Nat.le_of_ble_eq_true rfl⟩ dSx_offerPlaces_167 (fun H locs hw hf => ?_)
      obtain rfl := Option.some.inj hm
      exact sw_vret S hr hlk hw hf dSx_offerPlaces_170
    · refine lv_aload_n S.1 S.2.1 dSx_offerPlaces_15 rfl (lv_at hl 0 rfl) ?_
      refine get_Sx (v := .ref (ξ.2.2.2.1 1)) S hw (is_0 hf) 0 (by decide) rfl wf_Sx_12 dSx_offerPlaces_16 ?_
      refine lv_iload_n S.1 S.2.1 dSx_offerPlaces_19 rfl (lv_at hl 2 rfl) ?_
      obtain ⟨⟨v7, g6⟩, h5, hm⟩ := ob hm
      refine sw_Vi (q := 1) (rest := []) S hw (cPl_isOn l  hf 1 (is_1 hf) u2 h5) kPl_isOn wm_Sx_115 (is_1 hf).1 (e_Pl (is_1 hf)) rfl rfl rfl rfl hl.1 (Nat.le_of_ble_eq_true rfl) ⟨rfl, rfl, Nat.le_of_ble_eq_true rfl, Nat.le_of_ble_eq_true rfl⟩ ⟨Nat.le_of_ble_eq_true rfl, Nat.le_of_ble_eq_true rfl⟩ dSx_offerPlaces_20 (fun H locs hw hf => ?_)
      refine lv_istore_n (lv' := [(3, .int v7), (0, .ref (ξ.2.2.2.1 0)), (1, .int u1), (2, .int u2)]) S.1 S.2.1 dSx_offerPlaces_23 rfl hl (by decide) rfl (fun ls hl => ?_)
      refine lv_iload_n S.1 S.2.1 dSx_offerPlaces_24 rfl (lv_at hl 3 rfl) ?_
      refine lv_aload_n S.1 S.2.1 dSx_offerPlaces_25 rfl (lv_at hl 1 rfl) ?_
      refine get_Sx (v := .ref (ξ.2.2.2.1 1)) S hw (is_0 hf) 0 (by decide) rfl wf_Sx_12 dSx_offerPlaces_26 ?_
      refine get_Pl (v := .int (g6.1 1 0)) S hw (is_1 hf) 0 (by decide) rfl wf_Sx_89 dSx_offerPlaces_29 ?_
      refine bicmp_ge (tgt := 43) S.1 S.2.1 hm dSx_offerPlaces_32 (by decide) (fun hm => ?_) (fun hm => ?_)
      · exact wSx_offerPlaces_43 S hr hlk N (fSx_offerPlaces_9 N ξ.2.2.1  fu) ih g6 u1 u2 _ _ _ hm hw hf (lv_sub hl [1, 2, 3] rfl)
      · refine lv_iload_n S.1 S.2.1 dSx_offerPlaces_35 rfl (lv_at hl 2 rfl) ?_
        refine bif_eq (tgt := 58) S.1 S.2.1 hm dSx_offerPlaces_36 (by decide) (fun hm => ?_) (fun hm => ?_)
        · refine lv_iconst (v := (0 : Int32)) S.1 S.2.1 dSx_offerPlaces_58 (by decide) ?_
          refine lv_istore (lv' := [(4, .int (0 : Int32)), (3, .int v7), (0, .ref (ξ.2.2.2.1 0)), (1, .int u1), (2, .int u2)]) S.1 S.2.1 dSx_offerPlaces_59 hl (by decide) rfl (fun ls hl => ?_)
          exact wSx_offerPlaces_61 S hr hlk N (fSx_offerPlaces_9 N ξ.2.2.1  fu) ih N g6 u1 u2 v7 (0 : Int32) _ _ _ hm hw hf (lv_sub hl [2, 3, 4, 1, 0] rfl)
        · refine lv_iload_n S.1 S.2.1 dSx_offerPlaces_39 rfl (lv_at hl 0 rfl) ?_
          refine bif_ne (tgt := 58) S.1 S.2.1 hm dSx_offerPlaces_40 (by decide) (fun hm => ?_) (fun hm => ?_)
          · refine lv_iconst (v := (0 : Int32)) S.1 S.2.1 dSx_offerPlaces_58 (by decide) ?_
            refine lv_istore (lv' := [(4, .int (0 : Int32)), (3, .int v7), (0, .ref (ξ.2.2.2.1 0)), (1, .int u1), (2, .int u2)]) S.1 S.2.1 dSx_offerPlaces_59 hl (by decide) rfl (fun ls hl => ?_)
            exact wSx_offerPlaces_61 S hr hlk N (fSx_offerPlaces_9 N ξ.2.2.1  fu) ih N g6 u1 u2 v7 (0 : Int32) _ _ _ hm hw hf (lv_sub hl [2, 3, 4, 1, 0] rfl)
          · exact wSx_offerPlaces_43 S hr hlk N (fSx_offerPlaces_9 N ξ.2.2.1  fu) ih g6 u1 u2 _ _ _ hm hw hf (lv_sub hl [1, 2, 3] rfl)
set_option maxHeartbeats 4000000 in
set_option maxRecDepth 100000 in
theorem cSx_offerPlaces (l : Launch) (N : Nat) {Γ : sw_C} {A : Nat → Prop} {ξ : sw_x} {g : sw_g} {μ : sw_m} (hf : sw_wf ξ g.2.2) (a1 : Int32) {res : sw_g} (hm : fSx_offerPlaces N ξ.2.2.1 g a1 = some res) : Met l ySx_offerPlaces (Cond.code ySx_offerPlaces prog_1_method_61_code 6 (none) :: sw_tb) rmSx_offerPlaces (va_Pc [.ref (ξ.2.2.2.1 0), .int a1] (sw_V Γ A ξ g μ)) (sw_Qv Γ A ξ res μ (sw_wf ξ res.2.2)) 0 0 A := by
  refine Met.ofW (cc := prog_1_method_61_code) (maxL := 6) (ret := none) (by decide) rfl ?_
  intro p e s m args below meth c s₁ B hml hv
  obtain ⟨rfl, hv⟩ := hv
  have S : CallFix p m c prog_1_method_61_code 6 s _ (Cond.code ySx_offerPlaces prog_1_method_61_code 6 (none) :: sw_tb) R_Sx := ⟨B.exec, B.bytes, hml, findClass_of_methodNamed B.named, atoms_spec (ws := (Cond.code ySx_offerPlaces prog_1_method_61_code 6 (none) :: sw_tb)) B.pre⟩
  have hr := B.returns
  have hlk := B.notSynchronized
  have hw := sw_begin hv
  have hl := lv_entry [.ref (ξ.2.2.2.1 0), .int a1] (n := 6) (Nat.le_of_ble_eq_true rfl)
  rw [lg_entry_eq]
  generalize (lg_sl [.ref (ξ.2.2.2.1 0), .int a1] ++ List.replicate (6 - (lg_sl [.ref (ξ.2.2.2.1 0), .int a1]).length) Slot.unset).toArray = ls at hl ⊢
  have hl : lv_has ls 6 [(0, .ref (ξ.2.2.2.1 0)), (1, .int a1)] := hl
  unfold fSx_offerPlaces at hm
  refine lv_aload_n S.1 S.2.1 dSx_offerPlaces_0 rfl (lv_at hl 0 rfl) ?_
  refine get_Sx (v := .ref (ξ.2.2.2.1 49)) S hw (is_0 hf) 10 (by decide) rfl wf_Sx_64 dSx_offerPlaces_1 ?_
  obtain ⟨g2, h1, hm⟩ := ob hm
  refine sw_Vv (q := 49) (rest := []) S hw (cRo_clear l N hf  h1) kRo_clear wm_Sx_366 (is_49 hf).1 (e_Ro (is_49 hf)) rfl rfl rfl rfl hl.1 (Nat.le_of_ble_eq_true rfl) ⟨rfl, rfl, Nat.le_of_ble_eq_true rfl, Nat.le_of_ble_eq_true rfl⟩ ⟨Nat.le_of_ble_eq_true rfl, Nat.le_of_ble_eq_true rfl⟩ dSx_offerPlaces_4 (fun H locs hw hf => ?_)
  refine lv_iconst (v := (0 : Int32)) S.1 S.2.1 dSx_offerPlaces_7 (by decide) ?_
  refine lv_istore_n (lv' := [(2, .int (0 : Int32)), (0, .ref (ξ.2.2.2.1 0)), (1, .int a1)]) S.1 S.2.1 dSx_offerPlaces_8 rfl hl (by decide) rfl (fun ls hl => ?_)
  exact wSx_offerPlaces_9 S hr hlk N  N g2 a1 (0 : Int32) _ _ _ hm hw hf (lv_sub hl [1, 2, 0] rfl)
set_option maxHeartbeats 4000000 in
set_option maxRecDepth 100000 in
theorem wSx_sumTilts_39 {l : Launch} {p : Program} {e : Env} {s : State} {m : MethodId} {args : Array Value} {below : List Frame} {meth : Method} {c : Code} {Γ : sw_C} {A : Nat → Prop} {ξ : sw_x} {μ : sw_m} {res : sw_g} (S : CallFix p m c prog_1_method_63_code 2 s args (Cond.code ySx_sumTilts prog_1_method_63_code 2 (none) :: sw_tb) R_Sx) (hr : meth.sig.returnType = none) (hlk : meth.locks = false) (N : Nat) (k2 : sw_g → Int32 → Option (sw_g)) (hk2 : ∀ (g : sw_g) (u1 : Int32) (H : Heap) (locs : List Loc) (ls : Array Slot), k2 g u1 = some res → sw_S Γ A ξ g μ s H locs → sw_wf ξ g.2.2 → lv_has ls 2 [(0, .ref (ξ.2.2.2.1 0)), (1, .int u1)] → W p l e (headSpec (Cond.code ySx_sumTilts prog_1_method_63_code 2 (none) :: sw_tb) rmSx_sumTilts).room s m args below meth c H locs 0 0 (MQ below (sw_Qv Γ A ξ res μ (sw_wf ξ res.2.2)) args s 0 0 A) (F0 m 2 ls [])) : ∀ (g : sw_g) (u1 : Int32) (s0 : Int32) (s1 : Int32) (H : Heap) (locs : List Loc) (ls : Array Slot), fSx_sumTilts_39 N ξ.2.2.1 k2 g u1 s0 s1 = some res → sw_S Γ A ξ g μ s H locs → sw_wf ξ g.2.2 → lv_has ls 2 [(0, .ref (ξ.2.2.2.1 0)), (1, .int u1)] → W p l e (headSpec (Cond.code ySx_sumTilts prog_1_method_63_code 2 (none) :: sw_tb) rmSx_sumTilts).room s m args below meth c H locs 0 0 (MQ below (sw_Qv Γ A ξ res μ (sw_wf ξ res.2.2)) args s 0 0 A) (F0 m 39 ls [.int s0, .int s1, .ref (ξ.2.2.2.1 0)]) := by
  intro g u1 s0 s1 H locs ls hm hw hf hl
  unfold fSx_sumTilts_39 at hm
  obtain ⟨g5, h4, hm⟩ := ob hm
  refine sw_Vv (q := 0) (rest := []) S hw (cSx_sumWith l N hf s1 s0 h4) kSx_sumWith wm_Sx_374 (is_0 hf).1 (e_Sx (is_0 hf)) rfl rfl rfl rfl hl.1 (Nat.le_of_ble_eq_true rfl) ⟨rfl, rfl, Nat.le_of_ble_eq_true rfl, Nat.le_of_ble_eq_true rfl⟩ ⟨Nat.le_of_ble_eq_true rfl, Nat.le_of_ble_eq_true rfl⟩ dSx_sumTilts_39 (fun H locs hw hf => ?_)
  obtain ⟨x6, ex6, hm⟩ := nm_x hm
  refine lv_iinc (v := x6) (lv' := [(1, .int x6), (0, .ref (ξ.2.2.2.1 0))]) S.1 S.2.1 dSx_sumTilts_42 hl (k := 1) rfl (by rw [ex6]; rfl) (by decide) rfl (fun ls hl => ?_)
  refine lv_goto (tgt := 2) S.1 S.2.1 dSx_sumTilts_45 (by decide) ?_
  exact hk2 g5 x6 _ _ _ hm hw hf (lv_sub hl [1, 0] rfl)
set_option maxHeartbeats 4000000 in
set_option maxRecDepth 100000 in
theorem wSx_sumTilts_2 {l : Launch} {p : Program} {e : Env} {s : State} {m : MethodId} {args : Array Value} {below : List Frame} {meth : Method} {c : Code} {Γ : sw_C} {A : Nat → Prop} {ξ : sw_x} {μ : sw_m} {res : sw_g} (S : CallFix p m c prog_1_method_63_code 2 s args (Cond.code ySx_sumTilts prog_1_method_63_code 2 (none) :: sw_tb) R_Sx) (hr : meth.sig.returnType = none) (hlk : meth.locks = false) (N : Nat) : ∀ (fu : Nat) (g : sw_g) (u1 : Int32) (H : Heap) (locs : List Loc) (ls : Array Slot), fSx_sumTilts_2 N ξ.2.2.1  fu g u1 = some res → sw_S Γ A ξ g μ s H locs → sw_wf ξ g.2.2 → lv_has ls 2 [(0, .ref (ξ.2.2.2.1 0)), (1, .int u1)] → W p l e (headSpec (Cond.code ySx_sumTilts prog_1_method_63_code 2 (none) :: sw_tb) rmSx_sumTilts).room s m args below meth c H locs 0 0 (MQ below (sw_Qv Γ A ξ res μ (sw_wf ξ res.2.2)) args s 0 0 A) (F0 m 2 ls []) := by
  intro fu
  induction fu with
  | zero => intro g u1 H locs ls hm; rw [fSx_sumTilts_2.eq_1] at hm; cases hm
  | succ fu ih =>
    intro g u1 H locs ls hm hw hf hl
    rw [fSx_sumTilts_2.eq_2] at hm
    refine lv_iload_n S.1 S.2.1 dSx_sumTilts_2 rfl (lv_at hl 1 rfl) ?_
    refine lv_bipush (v := (7 : Int32)) S.1 S.2.1 dSx_sumTilts_3 (by decide) ?_
    refine bicmp_ge (tgt := 48) S.1 S.2.1 hm dSx_sumTilts_5 (by decide) (fun hm => ?_) (fun hm => ?_)
    · obtain rfl := Option.some.inj hm
      exact sw_vret S hr hlk hw hf dSx_sumTilts_48
    · refine lv_aload_n S.1 S.2.1 dSx_sumTilts_8 rfl (lv_at hl 0 rfl) ?_
      refine lv_iload_n S.1 S.2.1 dSx_sumTilts_9 rfl (lv_at hl 1 rfl) ?_
      refine lv_aload_n S.1 S.2.1 dSx_sumTilts_10 rfl (lv_at hl 0 rfl) ?_
      refine get_Sx (v := .ref (ξ.2.2.2.1 1)) S hw (is_0 hf) 0 (by decide) rfl wf_Sx_12 dSx_sumTilts_11 ?_
      refine lv_iload_n S.1 S.2.1 dSx_sumTilts_14 rfl (lv_at hl 1 rfl) ?_
      obtain ⟨⟨v3, g2⟩, h1, hm⟩ := ob hm
      refine sw_Vi (q := 1) (rest := [.int u1, .ref (ξ.2.2.2.1 0)]) S hw (cPl_isOn l  hf 1 (is_1 hf) u1 h1) kPl_isOn wm_Sx_115 (is_1 hf).1 (e_Pl (is_1 hf)) rfl rfl rfl rfl hl.1 (Nat.le_of_ble_eq_true rfl) ⟨rfl, rfl, Nat.le_of_ble_eq_true rfl, Nat.le_of_ble_eq_true rfl⟩ ⟨Nat.le_of_ble_eq_true rfl, Nat.le_of_ble_eq_true rfl⟩ dSx_sumTilts_15 (fun H locs hw hf => ?_)
      refine bif_eq (tgt := 38) S.1 S.2.1 hm dSx_sumTilts_18 (by decide) (fun hm => ?_) (fun hm => ?_)
      · refine lv_iconst (v := (0 : Int32)) S.1 S.2.1 dSx_sumTilts_38 (by decide) ?_
        exact wSx_sumTilts_39 S hr hlk N (fSx_sumTilts_2 N ξ.2.2.1  fu) ih g2 u1 (0 : Int32) u1 _ _ _ hm hw hf (lv_sub hl [0, 1] rfl)
      · refine lv_aload_n S.1 S.2.1 dSx_sumTilts_21 rfl (lv_at hl 0 rfl) ?_
        refine lv_iload_n S.1 S.2.1 dSx_sumTilts_22 rfl (lv_at hl 1 rfl) ?_
        refine lv_aload_n S.1 S.2.1 dSx_sumTilts_23 rfl (lv_at hl 0 rfl) ?_
        refine get_Sx (v := .ref (ξ.2.2.2.1 1)) S hw (is_0 hf) 0 (by decide) rfl wf_Sx_12 dSx_sumTilts_24 ?_
        refine get_Pl (v := .ref (ξ.2.2.2.1 4)) S hw (is_1 hf) 3 (by decide) rfl wf_Sx_106 dSx_sumTilts_27 ?_
        refine lv_iload_n S.1 S.2.1 dSx_sumTilts_30 rfl (lv_at hl 1 rfl) ?_
        refine sx_iald S hw (is_4 hf) hm dSx_sumTilts_31 (fun v7 hm => ?_)
        obtain ⟨⟨v10, g9⟩, h8, hm⟩ := ob hm
        refine sw_Vi (q := 0) (rest := [.int u1, .ref (ξ.2.2.2.1 0)]) S hw (cSx_weightAt l N hf u1 v7 h8) kSx_weightAt wm_Sx_135 (is_0 hf).1 (e_Sx (is_0 hf)) rfl rfl rfl rfl hl.1 (Nat.le_of_ble_eq_true rfl) ⟨rfl, rfl, Nat.le_of_ble_eq_true rfl, Nat.le_of_ble_eq_true rfl⟩ ⟨Nat.le_of_ble_eq_true rfl, Nat.le_of_ble_eq_true rfl⟩ dSx_sumTilts_32 (fun H locs hw hf => ?_)
        refine lv_goto (tgt := 39) S.1 S.2.1 dSx_sumTilts_35 (by decide) ?_
        exact wSx_sumTilts_39 S hr hlk N (fSx_sumTilts_2 N ξ.2.2.1  fu) ih g9 u1 v10 u1 _ _ _ hm hw hf (lv_sub hl [0, 1] rfl)
set_option maxHeartbeats 4000000 in
set_option maxRecDepth 100000 in
theorem cSx_sumTilts (l : Launch) (N : Nat) {Γ : sw_C} {A : Nat → Prop} {ξ : sw_x} {g : sw_g} {μ : sw_m} (hf : sw_wf ξ g.2.2) {res : sw_g} (hm : fSx_sumTilts N ξ.2.2.1 g = some res) : Met l ySx_sumTilts (Cond.code ySx_sumTilts prog_1_method_63_code 2 (none) :: sw_tb) rmSx_sumTilts (va_Pc [.ref (ξ.2.2.2.1 0)] (sw_V Γ A ξ g μ)) (sw_Qv Γ A ξ res μ (sw_wf ξ res.2.2)) 0 0 A := by
  refine Met.ofW (cc := prog_1_method_63_code) (maxL := 2) (ret := none) (by decide) rfl ?_
  intro p e s m args below meth c s₁ B hml hv
  obtain ⟨rfl, hv⟩ := hv
  have S : CallFix p m c prog_1_method_63_code 2 s _ (Cond.code ySx_sumTilts prog_1_method_63_code 2 (none) :: sw_tb) R_Sx := ⟨B.exec, B.bytes, hml, findClass_of_methodNamed B.named, atoms_spec (ws := (Cond.code ySx_sumTilts prog_1_method_63_code 2 (none) :: sw_tb)) B.pre⟩
  have hr := B.returns
  have hlk := B.notSynchronized
  have hw := sw_begin hv
  have hl := lv_entry [.ref (ξ.2.2.2.1 0)] (n := 2) (Nat.le_of_ble_eq_true rfl)
  rw [lg_entry_eq]
  generalize (lg_sl [.ref (ξ.2.2.2.1 0)] ++ List.replicate (2 - (lg_sl [.ref (ξ.2.2.2.1 0)]).length) Slot.unset).toArray = ls at hl ⊢
  have hl : lv_has ls 2 [(0, .ref (ξ.2.2.2.1 0))] := hl
  unfold fSx_sumTilts at hm
  refine lv_iconst (v := (0 : Int32)) S.1 S.2.1 dSx_sumTilts_0 (by decide) ?_
  refine lv_istore_n (lv' := [(1, .int (0 : Int32)), (0, .ref (ξ.2.2.2.1 0))]) S.1 S.2.1 dSx_sumTilts_1 rfl hl (by decide) rfl (fun ls hl => ?_)
  exact wSx_sumTilts_2 S hr hlk N  N g (0 : Int32) _ _ _ hm hw hf (lv_sub hl [1, 0] rfl)
set_option maxHeartbeats 4000000 in
set_option maxRecDepth 100000 in
theorem wRe_readSum_47 {l : Launch} {p : Program} {e : Env} {s : State} {m : MethodId} {args : Array Value} {below : List Frame} {meth : Method} {c : Code} {Γ : sw_C} {A : Nat → Prop} {ξ : sw_x} {μ : sw_m} {res : sw_g} (S : CallFix p m c prog_5_method_21_code 3 s args (Cond.code yRe_readSum prog_5_method_21_code 3 (none) :: sw_tb) R_Re) (hr : meth.sig.returnType = none) (hlk : meth.locks = false) (rc : sw_g → Option (sw_g)) (rr : Room) (hr0 : rr.cells = 0 ∧ rr.slots = 0) (hrc : ∀ {g : sw_g} {μ : sw_m} (hf : sw_wf ξ g.2.2) {res : sw_g}, rc g  = some res → Met l yRe_readSum (Cond.code yRe_readSum prog_5_method_21_code 3 (none) :: sw_tb) rr (va_Pc [.ref (ξ.2.2.2.1 33)] (sw_V Γ A ξ g μ)) (sw_Qv Γ A ξ res μ (sw_wf ξ res.2.2)) 0 0 A) (N : Nat) (k6 : sw_g → Int32 → Option (sw_g)) (hk6 : ∀ (g : sw_g) (u1 : Int32) (H : Heap) (locs : List Loc) (ls : Array Slot), k6 g u1 = some res → sw_S Γ A ξ g μ s H locs → sw_wf ξ g.2.2 → lv_has ls 3 [(0, .ref (ξ.2.2.2.1 33)), (1, .int u1)] → W p l e (headSpec (Cond.code yRe_readSum prog_5_method_21_code 3 (none) :: sw_tb) (rgRe_readSum rr)).room s m args below meth c H locs 0 0 (MQ below (sw_Qv Γ A ξ res μ (sw_wf ξ res.2.2)) args s 0 0 A) (F0 m 6 ls [])) : ∀ (g : sw_g) (u1 : Int32) (s0 : Int32) (H : Heap) (locs : List Loc) (ls : Array Slot), fRe_readSum_b_47 N rc ξ.2.2.1 k6 g u1 s0 = some res → sw_S Γ A ξ g μ s H locs → sw_wf ξ g.2.2 → lv_has ls 3 [(0, .ref (ξ.2.2.2.1 33)), (1, .int u1)] → W p l e (headSpec (Cond.code yRe_readSum prog_5_method_21_code 3 (none) :: sw_tb) (rgRe_readSum rr)).room s m args below meth c H locs 0 0 (MQ below (sw_Qv Γ A ξ res μ (sw_wf ξ res.2.2)) args s 0 0 A) (F0 m 47 ls [.int s0]) := by
  intro g u1 s0 H locs ls hm hw hf hl
  unfold fRe_readSum_b_47 at hm
  refine lv_istore_n (lv' := [(2, .int s0), (0, .ref (ξ.2.2.2.1 33)), (1, .int u1)]) S.1 S.2.1 dRe_readSum_47 rfl hl (by decide) rfl (fun ls hl => ?_)
  refine lv_aload_n S.1 S.2.1 dRe_readSum_48 rfl (lv_at hl 1 rfl) ?_
  obtain ⟨g10, h9, hm⟩ := ob hm
  refine sw_Vv (q := 33) (rest := []) S hw (cRe_advance l N hf  h9) kRe_advance wm_Re_47 (is_33 hf).1 (e_Re (is_33 hf)) rfl rfl rfl rfl hl.1 (Nat.le_of_ble_eq_true rfl) ⟨rfl, rfl, by show 1 + 1 ≤ rr.frames + _; omega, by show 8 + (3 + 11) + 20 ≤ rr.locals + _; omega⟩ ⟨Nat.le_of_ble_eq_true rfl, Nat.le_of_ble_eq_true rfl⟩ dRe_readSum_49 (fun H locs hw hf => ?_)
  refine lv_aload_n S.1 S.2.1 dRe_readSum_52 rfl (lv_at hl 1 rfl) ?_
  obtain ⟨g12, h11, hm⟩ := ob hm
  refine sw_Vv (q := 33) (rest := []) S hw (cRe_readTerm l N rc rr hr0 hrc hf  h11) kRe_readTerm wm_Re_190 (is_33 hf).1 (e_Re (is_33 hf)) rfl rfl rfl rfl hl.1 (Nat.le_of_ble_eq_true rfl) ⟨rfl, rfl, by show rr.frames + 7 + 1 ≤ rr.frames + _; omega, by show 8 + (3 + 11) + (rr.locals + 185) ≤ rr.locals + _; omega⟩ ⟨Nat.le_of_ble_eq_true rfl, Nat.le_of_ble_eq_true rfl⟩ dRe_readSum_53 (fun H locs hw hf => ?_)
  refine lv_aload_n S.1 S.2.1 dRe_readSum_56 rfl (lv_at hl 1 rfl) ?_
  refine lv_iload_n S.1 S.2.1 dRe_readSum_57 rfl (lv_at hl 0 rfl) ?_
  refine lv_iconst (v := (0 : Int32)) S.1 S.2.1 dRe_readSum_58 (by decide) ?_
  obtain ⟨g14, h13, hm⟩ := ob hm
  refine sw_Vv (q := 33) (rest := []) S hw (cRe_emit l N hf s0 (0 : Int32) h13) kRe_emit wm_Re_146 (is_33 hf).1 (e_Re (is_33 hf)) rfl rfl rfl rfl hl.1 (Nat.le_of_ble_eq_true rfl) ⟨rfl, rfl, by show 1 + 1 ≤ rr.frames + _; omega, by show 8 + (3 + 11) + 20 ≤ rr.locals + _; omega⟩ ⟨Nat.le_of_ble_eq_true rfl, Nat.le_of_ble_eq_true rfl⟩ dRe_readSum_59 (fun H locs hw hf => ?_)
  obtain ⟨x15, ex15, hm⟩ := nm_x hm
  refine lv_iinc (v := x15) (lv' := [(1, .int x15), (2, .int s0), (0, .ref (ξ.2.2.2.1 33))]) S.1 S.2.1 dRe_readSum_62 hl (k := 2) rfl (by rw [ex15]; rfl) (by decide) rfl (fun ls hl => ?_)
  refine lv_goto (tgt := 6) S.1 S.2.1 dRe_readSum_65 (by decide) ?_
  exact hk6 g14 x15 _ _ _ hm hw hf (lv_sub hl [2, 0] rfl)
set_option maxHeartbeats 4000000 in
set_option maxRecDepth 100000 in
theorem wRe_readSum_31 {l : Launch} {p : Program} {e : Env} {s : State} {m : MethodId} {args : Array Value} {below : List Frame} {meth : Method} {c : Code} {Γ : sw_C} {A : Nat → Prop} {ξ : sw_x} {μ : sw_m} {res : sw_g} (S : CallFix p m c prog_5_method_21_code 3 s args (Cond.code yRe_readSum prog_5_method_21_code 3 (none) :: sw_tb) R_Re) (hr : meth.sig.returnType = none) (hlk : meth.locks = false) (rc : sw_g → Option (sw_g)) (rr : Room) (hr0 : rr.cells = 0 ∧ rr.slots = 0) (hrc : ∀ {g : sw_g} {μ : sw_m} (hf : sw_wf ξ g.2.2) {res : sw_g}, rc g  = some res → Met l yRe_readSum (Cond.code yRe_readSum prog_5_method_21_code 3 (none) :: sw_tb) rr (va_Pc [.ref (ξ.2.2.2.1 33)] (sw_V Γ A ξ g μ)) (sw_Qv Γ A ξ res μ (sw_wf ξ res.2.2)) 0 0 A) (N : Nat) (k6 : sw_g → Int32 → Option (sw_g)) (hk6 : ∀ (g : sw_g) (u1 : Int32) (H : Heap) (locs : List Loc) (ls : Array Slot), k6 g u1 = some res → sw_S Γ A ξ g μ s H locs → sw_wf ξ g.2.2 → lv_has ls 3 [(0, .ref (ξ.2.2.2.1 33)), (1, .int u1)] → W p l e (headSpec (Cond.code yRe_readSum prog_5_method_21_code 3 (none) :: sw_tb) (rgRe_readSum rr)).room s m args below meth c H locs 0 0 (MQ below (sw_Qv Γ A ξ res μ (sw_wf ξ res.2.2)) args s 0 0 A) (F0 m 6 ls [])) : ∀ (g : sw_g) (u1 : Int32) (H : Heap) (locs : List Loc) (ls : Array Slot), fRe_readSum_b_31 N rc ξ.2.2.1 k6 g u1 = some res → sw_S Γ A ξ g μ s H locs → sw_wf ξ g.2.2 → lv_has ls 3 [(0, .ref (ξ.2.2.2.1 33)), (1, .int u1)] → W p l e (headSpec (Cond.code yRe_readSum prog_5_method_21_code 3 (none) :: sw_tb) (rgRe_readSum rr)).room s m args below meth c H locs 0 0 (MQ below (sw_Qv Γ A ξ res μ (sw_wf ξ res.2.2)) args s 0 0 A) (F0 m 31 ls []) := by
  intro g u1 H locs ls hm hw hf hl
  unfold fRe_readSum_b_31 at hm
  refine lv_aload_n S.1 S.2.1 dRe_readSum_31 rfl (lv_at hl 0 rfl) ?_
  refine va_ldcS S.1 S.2.1 S.2.2.2.1 (hw.2.2.2.2.2.2.1 19 (by decide)) dRe_readSum_32 ?_
  obtain ⟨⟨v8, g7⟩, h6, hm⟩ := ob hm
  refine sw_Vi (q := 33) (rest := []) S hw (cRe_isToken l N hf 19 (by decide) h6) kRe_isToken wm_Re_90 (is_33 hf).1 (e_Re (is_33 hf)) rfl rfl rfl rfl hl.1 (Nat.le_of_ble_eq_true rfl) ⟨rfl, rfl, by show 4 + 1 ≤ rr.frames + _; omega, by show 8 + (3 + 11) + 120 ≤ rr.locals + _; omega⟩ ⟨Nat.le_of_ble_eq_true rfl, Nat.le_of_ble_eq_true rfl⟩ dRe_readSum_34 (fun H locs hw hf => ?_)
  refine bif_eq (tgt := 45) S.1 S.2.1 hm dRe_readSum_37 (by decide) (fun hm => ?_) (fun hm => ?_)
  · refine lv_bipush (v := (7 : Int32)) S.1 S.2.1 dRe_readSum_45 (by decide) ?_
    exact wRe_readSum_47 S hr hlk rc rr hr0 hrc N k6 hk6 g7 u1 (7 : Int32) _ _ _ hm hw hf (lv_sub hl [0, 1] rfl)
  · refine lv_bipush (v := (6 : Int32)) S.1 S.2.1 dRe_readSum_40 (by decide) ?_
    refine lv_goto (tgt := 47) S.1 S.2.1 dRe_readSum_42 (by decide) ?_
    exact wRe_readSum_47 S hr hlk rc rr hr0 hrc N k6 hk6 g7 u1 (6 : Int32) _ _ _ hm hw hf (lv_sub hl [0, 1] rfl)
set_option maxHeartbeats 4000000 in
set_option maxRecDepth 100000 in
theorem wRe_readSum_6 {l : Launch} {p : Program} {e : Env} {s : State} {m : MethodId} {args : Array Value} {below : List Frame} {meth : Method} {c : Code} {Γ : sw_C} {A : Nat → Prop} {ξ : sw_x} {μ : sw_m} {res : sw_g} (S : CallFix p m c prog_5_method_21_code 3 s args (Cond.code yRe_readSum prog_5_method_21_code 3 (none) :: sw_tb) R_Re) (hr : meth.sig.returnType = none) (hlk : meth.locks = false) (rc : sw_g → Option (sw_g)) (rr : Room) (hr0 : rr.cells = 0 ∧ rr.slots = 0) (hrc : ∀ {g : sw_g} {μ : sw_m} (hf : sw_wf ξ g.2.2) {res : sw_g}, rc g  = some res → Met l yRe_readSum (Cond.code yRe_readSum prog_5_method_21_code 3 (none) :: sw_tb) rr (va_Pc [.ref (ξ.2.2.2.1 33)] (sw_V Γ A ξ g μ)) (sw_Qv Γ A ξ res μ (sw_wf ξ res.2.2)) 0 0 A) (N : Nat) : ∀ (fu : Nat) (g : sw_g) (u1 : Int32) (H : Heap) (locs : List Loc) (ls : Array Slot), fRe_readSum_b_6 N rc ξ.2.2.1  fu g u1 = some res → sw_S Γ A ξ g μ s H locs → sw_wf ξ g.2.2 → lv_has ls 3 [(0, .ref (ξ.2.2.2.1 33)), (1, .int u1)] → W p l e (headSpec (Cond.code yRe_readSum prog_5_method_21_code 3 (none) :: sw_tb) (rgRe_readSum rr)).room s m args below meth c H locs 0 0 (MQ below (sw_Qv Γ A ξ res μ (sw_wf ξ res.2.2)) args s 0 0 A) (F0 m 6 ls []) := by
  intro fu
  induction fu with
  | zero => intro g u1 H locs ls hm; rw [fRe_readSum_b_6.eq_1] at hm; cases hm
  | succ fu ih =>
    intro g u1 H locs ls hm hw hf hl
    rw [fRe_readSum_b_6.eq_2] at hm
    refine lv_iload_n S.1 S.2.1 dRe_readSum_6 rfl (lv_at hl 1 rfl) ?_
    refine lv_sipush (v := (400 : Int32)) S.1 S.2.1 dRe_readSum_7 (by decide) ?_
    refine bicmp_ge (tgt := 68) S.1 S.2.1 hm dRe_readSum_10 (by decide) (fun hm => ?_) (fun hm => ?_)
    · obtain rfl := Option.some.inj hm
      exact sw_vret S hr hlk hw hf dRe_readSum_68
    · refine lv_aload_n S.1 S.2.1 dRe_readSum_13 rfl (lv_at hl 0 rfl) ?_
      refine va_ldcS S.1 S.2.1 S.2.2.2.1 (hw.2.2.2.2.2.2.1 19 (by decide)) dRe_readSum_14 ?_
      obtain ⟨⟨v5, g4⟩, h3, hm⟩ := ob hm
      refine sw_Vi (q := 33) (rest := []) S hw (cRe_isToken l N hf 19 (by decide) h3) kRe_isToken wm_Re_90 (is_33 hf).1 (e_Re (is_33 hf)) rfl rfl rfl rfl hl.1 (Nat.le_of_ble_eq_true rfl) ⟨rfl, rfl, by show 4 + 1 ≤ rr.frames + _; omega, by show 8 + (3 + 11) + 120 ≤ rr.locals + _; omega⟩ ⟨Nat.le_of_ble_eq_true rfl, Nat.le_of_ble_eq_true rfl⟩ dRe_readSum_16 (fun H locs hw hf => ?_)
      refine bif_ne (tgt := 31) S.1 S.2.1 hm dRe_readSum_19 (by decide) (fun hm => ?_) (fun hm => ?_)
      · exact wRe_readSum_31 S hr hlk rc rr hr0 hrc N (fRe_readSum_b_6 N rc ξ.2.2.1  fu) ih g4 u1 _ _ _ hm hw hf (lv_sub hl [0, 1] rfl)
      · refine lv_aload_n S.1 S.2.1 dRe_readSum_22 rfl (lv_at hl 0 rfl) ?_
        refine va_ldcS S.1 S.2.1 S.2.2.2.1 (hw.2.2.2.2.2.2.1 20 (by decide)) dRe_readSum_23 ?_
        obtain ⟨⟨v18, g17⟩, h16, hm⟩ := ob hm
        refine sw_Vi (q := 33) (rest := []) S hw (cRe_isToken l N hf 20 (by decide) h16) kRe_isToken wm_Re_90 (is_33 hf).1 (e_Re (is_33 hf)) rfl rfl rfl rfl hl.1 (Nat.le_of_ble_eq_true rfl) ⟨rfl, rfl, by show 4 + 1 ≤ rr.frames + _; omega, by show 8 + (3 + 11) + 120 ≤ rr.locals + _; omega⟩ ⟨Nat.le_of_ble_eq_true rfl, Nat.le_of_ble_eq_true rfl⟩ dRe_readSum_25 (fun H locs hw hf => ?_)
        refine bif_eq (tgt := 68) S.1 S.2.1 hm dRe_readSum_28 (by decide) (fun hm => ?_) (fun hm => ?_)
        · obtain rfl := Option.some.inj hm
          exact sw_vret S hr hlk hw hf dRe_readSum_68
        · exact wRe_readSum_31 S hr hlk rc rr hr0 hrc N (fRe_readSum_b_6 N rc ξ.2.2.1  fu) ih g17 u1 _ _ _ hm hw hf (lv_sub hl [0, 1] rfl)
set_option maxHeartbeats 4000000 in
set_option maxRecDepth 100000 in
theorem cRe_readSum_b (l : Launch) (N : Nat) {Γ : sw_C} {A : Nat → Prop} {ξ : sw_x} (rc : sw_g → Option (sw_g)) (rr : Room) (hr0 : rr.cells = 0 ∧ rr.slots = 0) (hrc : ∀ {g : sw_g} {μ : sw_m} (hf : sw_wf ξ g.2.2) {res : sw_g}, rc g  = some res → Met l yRe_readSum (Cond.code yRe_readSum prog_5_method_21_code 3 (none) :: sw_tb) rr (va_Pc [.ref (ξ.2.2.2.1 33)] (sw_V Γ A ξ g μ)) (sw_Qv Γ A ξ res μ (sw_wf ξ res.2.2)) 0 0 A) {g : sw_g} {μ : sw_m} (hf : sw_wf ξ g.2.2) {res : sw_g} (hm : fRe_readSum_b N rc ξ.2.2.1 g = some res) : Met l yRe_readSum (Cond.code yRe_readSum prog_5_method_21_code 3 (none) :: sw_tb) (rgRe_readSum rr) (va_Pc [.ref (ξ.2.2.2.1 33)] (sw_V Γ A ξ g μ)) (sw_Qv Γ A ξ res μ (sw_wf ξ res.2.2)) 0 0 A := by
  refine Met.ofW (cc := prog_5_method_21_code) (maxL := 3) (ret := none) (by decide) rfl ?_
  intro p e s m args below meth c s₁ B hml hv
  obtain ⟨rfl, hv⟩ := hv
  have S : CallFix p m c prog_5_method_21_code 3 s _ (Cond.code yRe_readSum prog_5_method_21_code 3 (none) :: sw_tb) R_Re := ⟨B.exec, B.bytes, hml, findClass_of_methodNamed B.named, atoms_spec (ws := (Cond.code yRe_readSum prog_5_method_21_code 3 (none) :: sw_tb)) B.pre⟩
  have hr := B.returns
  have hlk := B.notSynchronized
  have hw := sw_begin hv
  have hl := lv_entry [.ref (ξ.2.2.2.1 33)] (n := 3) (Nat.le_of_ble_eq_true rfl)
  rw [lg_entry_eq]
  generalize (lg_sl [.ref (ξ.2.2.2.1 33)] ++ List.replicate (3 - (lg_sl [.ref (ξ.2.2.2.1 33)]).length) Slot.unset).toArray = ls at hl ⊢
  have hl : lv_has ls 3 [(0, .ref (ξ.2.2.2.1 33))] := hl
  unfold fRe_readSum_b at hm
  refine lv_aload_n S.1 S.2.1 dRe_readSum_0 rfl (lv_at hl 0 rfl) ?_
  obtain ⟨g2, h1, hm⟩ := ob hm
  refine sw_Vv (q := 33) (rest := []) S hw (cRe_readTerm l N rc rr hr0 hrc hf  h1) kRe_readTerm wm_Re_190 (is_33 hf).1 (e_Re (is_33 hf)) rfl rfl rfl rfl hl.1 (Nat.le_of_ble_eq_true rfl) ⟨rfl, rfl, by show rr.frames + 7 + 1 ≤ rr.frames + _; omega, by show 8 + (3 + 11) + (rr.locals + 185) ≤ rr.locals + _; omega⟩ ⟨Nat.le_of_ble_eq_true rfl, Nat.le_of_ble_eq_true rfl⟩ dRe_readSum_1 (fun H locs hw hf => ?_)
  refine lv_iconst (v := (0 : Int32)) S.1 S.2.1 dRe_readSum_4 (by decide) ?_
  refine lv_istore_n (lv' := [(1, .int (0 : Int32)), (0, .ref (ξ.2.2.2.1 33))]) S.1 S.2.1 dRe_readSum_5 rfl hl (by decide) rfl (fun ls hl => ?_)
  exact wRe_readSum_6 S hr hlk rc rr hr0 hrc N  N g2 (0 : Int32) _ _ _ hm hw hf (lv_sub hl [1, 0] rfl)
def rmRe_readSum : Nat → Room
  | 0 => { frames := 0, cells := 0, slots := 0, locals := 0 }
  | d + 1 => rgRe_readSum (rmRe_readSum d)
theorem cRe_readSum (l : Launch) (N : Nat) : ∀ (d : Nat) {Γ : sw_C} {A : Nat → Prop} {ξ : sw_x} {g : sw_g} {μ : sw_m} (hf : sw_wf ξ g.2.2) {res : sw_g} (hm : fRe_readSum N ξ.2.2.1 d g  = some res), Met l yRe_readSum (Cond.code yRe_readSum prog_5_method_21_code 3 (none) :: sw_tb) (rmRe_readSum d) (va_Pc [.ref (ξ.2.2.2.1 33)] (sw_V Γ A ξ g μ)) (sw_Qv Γ A ξ res μ (sw_wf ξ res.2.2)) 0 0 A := by
  intro d
  induction d with
  | zero => intro Γ A ξ g μ hf  res hm; cases hm
  | succ d ih =>
    intro Γ A ξ g μ hf  res hm
    exact cRe_readSum_b l N (fRe_readSum N ξ.2.2.1 d) (rmRe_readSum d) (by cases d <;> exact ⟨rfl, rfl⟩) (fun {g μ} hf  {res} hm => ih hf  hm) hf  hm
set_option maxHeartbeats 4000000 in
set_option maxRecDepth 100000 in
theorem cSx_asks (l : Launch) (N : Nat) {Γ : sw_C} {A : Nat → Prop} {ξ : sw_x} {g : sw_g} {μ : sw_m} (hf : sw_wf ξ g.2.2) (a1 : Int32) (a2 : Int32) (a3 : Int32) {res : Int32 × sw_g} (hm : fSx_asks N ξ.2.2.1 g a1 a2 a3 = some res) : Met l ySx_asks (Cond.code ySx_asks prog_1_method_4_code 4 (some .int) :: sw_tb) rmSx_asks (va_Pc [.ref (ξ.2.2.2.1 0), .int a1, .int a2, .int a3] (sw_V Γ A ξ g μ)) (sw_Qi Γ A ξ res.2 μ res.1 (sw_wf ξ res.2.2.2)) 0 0 A := by
  refine Met.ofW (cc := prog_1_method_4_code) (maxL := 4) (ret := some .int) (by decide) rfl ?_
  intro p e s m args below meth c s₁ B hml hv
  obtain ⟨rfl, hv⟩ := hv
  have S : CallFix p m c prog_1_method_4_code 4 s _ (Cond.code ySx_asks prog_1_method_4_code 4 (some .int) :: sw_tb) R_Sx := ⟨B.exec, B.bytes, hml, findClass_of_methodNamed B.named, atoms_spec (ws := (Cond.code ySx_asks prog_1_method_4_code 4 (some .int) :: sw_tb)) B.pre⟩
  have hr := B.returns
  have hlk := B.notSynchronized
  have hw := sw_begin hv
  have hl := lv_entry [.ref (ξ.2.2.2.1 0), .int a1, .int a2, .int a3] (n := 4) (Nat.le_of_ble_eq_true rfl)
  rw [lg_entry_eq]
  generalize (lg_sl [.ref (ξ.2.2.2.1 0), .int a1, .int a2, .int a3] ++ List.replicate (4 - (lg_sl [.ref (ξ.2.2.2.1 0), .int a1, .int a2, .int a3]).length) Slot.unset).toArray = ls at hl ⊢
  have hl : lv_has ls 4 [(0, .ref (ξ.2.2.2.1 0)), (1, .int a1), (2, .int a2), (3, .int a3)] := hl
  unfold fSx_asks at hm
  refine lv_aload_n S.1 S.2.1 dSx_asks_0 rfl (lv_at hl 0 rfl) ?_
  refine get_Sx (v := .ref (ξ.2.2.2.1 1)) S hw (is_0 hf) 0 (by decide) rfl wf_Sx_12 dSx_asks_1 ?_
  refine lv_iload_n S.1 S.2.1 dSx_asks_4 rfl (lv_at hl 1 rfl) ?_
  obtain ⟨⟨v3, g2⟩, h1, hm⟩ := ob hm
  refine sw_Vi (q := 1) (rest := []) S hw (cPl_hasClaim l  hf 1 (is_1 hf) a1 h1) kPl_hasClaim wm_Sx_102 (is_1 hf).1 (e_Pl (is_1 hf)) rfl rfl rfl rfl hl.1 (Nat.le_of_ble_eq_true rfl) ⟨rfl, rfl, Nat.le_of_ble_eq_true rfl, Nat.le_of_ble_eq_true rfl⟩ ⟨Nat.le_of_ble_eq_true rfl, Nat.le_of_ble_eq_true rfl⟩ dSx_asks_5 (fun H locs hw hf => ?_)
  refine bif_eq (tgt := 18) S.1 S.2.1 hm dSx_asks_8 (by decide) (fun hm => ?_) (fun hm => ?_)
  · refine lv_iconst (v := (-1 : Int32)) S.1 S.2.1 dSx_asks_18 (by decide) ?_
    obtain rfl := Option.some.inj hm
    exact sw_iret S hr hlk hw hf dSx_asks_19
  · refine lv_iload_n S.1 S.2.1 dSx_asks_11 rfl (lv_at hl 2 rfl) ?_
    obtain ⟨v5, h4, hm⟩ := ob hm
    refine sw_Si (rest := []) S hw (cSx_isPlace l  hf a2 h4) kSx_isPlace wm_Sx_125 rfl rfl hl.1 (Nat.le_of_ble_eq_true rfl) ⟨rfl, rfl, Nat.le_of_ble_eq_true rfl, Nat.le_of_ble_eq_true rfl⟩ ⟨Nat.le_of_ble_eq_true rfl, Nat.le_of_ble_eq_true rfl⟩ dSx_asks_12 (fun H locs hw _ => ?_)
    refine bif_ne (tgt := 20) S.1 S.2.1 hm dSx_asks_15 (by decide) (fun hm => ?_) (fun hm => ?_)
    · refine lv_iload_n S.1 S.2.1 dSx_asks_20 rfl (lv_at hl 3 rfl) ?_
      by_cases c0 : a3 = (0 : Int32)
      · have hm := sw_it c0 hm
        refine lv_tableIn (off := 27) (tgt := 48) S.1 S.2.1 dSx_asks_21 (by rw [c0]; decide) (by rw [c0]; decide) (by rw [c0]; decide) (by decide) ?_
        refine lv_aload_n S.1 S.2.1 dSx_asks_48 rfl (lv_at hl 0 rfl) ?_
        refine get_Sx (v := .ref (ξ.2.2.2.1 42)) S hw (is_0 hf) 7 (by decide) rfl wf_Sx_46 dSx_asks_49 ?_
        refine lv_aload_n S.1 S.2.1 dSx_asks_52 rfl (lv_at hl 0 rfl) ?_
        refine get_Sx (v := .ref (ξ.2.2.2.1 1)) S hw (is_0 hf) 0 (by decide) rfl wf_Sx_12 dSx_asks_53 ?_
        refine lv_iload_n S.1 S.2.1 dSx_asks_56 rfl (lv_at hl 1 rfl) ?_
        refine lv_iload_n S.1 S.2.1 dSx_asks_57 rfl (lv_at hl 2 rfl) ?_
        obtain ⟨⟨v8, g7⟩, h6, hm⟩ := ob hm
        refine sw_Vi (q := 42) (rest := []) S hw (cJu_countAt l N hf 1 (is_1 hf) a1 a2 h6) kJu_countAt wm_Sx_118 (is_42 hf).1 (e_Ju (is_42 hf)) rfl rfl rfl rfl hl.1 (Nat.le_of_ble_eq_true rfl) ⟨rfl, rfl, Nat.le_of_ble_eq_true rfl, Nat.le_of_ble_eq_true rfl⟩ ⟨Nat.le_of_ble_eq_true rfl, Nat.le_of_ble_eq_true rfl⟩ dSx_asks_58 (fun H locs hw hf => ?_)
        obtain rfl := Option.some.inj hm
        exact sw_iret S hr hlk hw hf dSx_asks_61
      · have hm := sw_if c0 hm
        by_cases c1 : a3 = (1 : Int32)
        · have hm := sw_it c1 hm
          refine lv_tableIn (off := 41) (tgt := 62) S.1 S.2.1 dSx_asks_21 (by rw [c1]; decide) (by rw [c1]; decide) (by rw [c1]; decide) (by decide) ?_
          refine lv_aload_n S.1 S.2.1 dSx_asks_62 rfl (lv_at hl 0 rfl) ?_
          refine get_Sx (v := .ref (ξ.2.2.2.1 42)) S hw (is_0 hf) 7 (by decide) rfl wf_Sx_46 dSx_asks_63 ?_
          refine lv_aload_n S.1 S.2.1 dSx_asks_66 rfl (lv_at hl 0 rfl) ?_
          refine get_Sx (v := .ref (ξ.2.2.2.1 1)) S hw (is_0 hf) 0 (by decide) rfl wf_Sx_12 dSx_asks_67 ?_
          refine lv_iload_n S.1 S.2.1 dSx_asks_70 rfl (lv_at hl 1 rfl) ?_
          refine lv_iload_n S.1 S.2.1 dSx_asks_71 rfl (lv_at hl 2 rfl) ?_
          obtain ⟨⟨v11, g10⟩, h9, hm⟩ := ob hm
          refine sw_Vi (q := 42) (rest := []) S hw (cJu_barsAt l N hf 1 (is_1 hf) a1 a2 h9) kJu_barsAt wm_Sx_128 (is_42 hf).1 (e_Ju (is_42 hf)) rfl rfl rfl rfl hl.1 (Nat.le_of_ble_eq_true rfl) ⟨rfl, rfl, Nat.le_of_ble_eq_true rfl, Nat.le_of_ble_eq_true rfl⟩ ⟨Nat.le_of_ble_eq_true rfl, Nat.le_of_ble_eq_true rfl⟩ dSx_asks_72 (fun H locs hw hf => ?_)
          refine bif_eq (tgt := 82) S.1 S.2.1 hm dSx_asks_75 (by decide) (fun hm => ?_) (fun hm => ?_)
          · refine lv_iconst (v := (0 : Int32)) S.1 S.2.1 dSx_asks_82 (by decide) ?_
            obtain rfl := Option.some.inj hm
            exact sw_iret S hr hlk hw hf dSx_asks_83
          · refine lv_iconst (v := (1 : Int32)) S.1 S.2.1 dSx_asks_78 (by decide) ?_
            refine lv_goto (tgt := 83) S.1 S.2.1 dSx_asks_79 (by decide) ?_
            obtain rfl := Option.some.inj hm
            exact sw_iret S hr hlk hw hf dSx_asks_83
        · have hm := sw_if c1 hm
          by_cases c2 : a3 = (2 : Int32)
          · have hm := sw_it c2 hm
            refine lv_tableIn (off := 63) (tgt := 84) S.1 S.2.1 dSx_asks_21 (by rw [c2]; decide) (by rw [c2]; decide) (by rw [c2]; decide) (by decide) ?_
            refine lv_aload_n S.1 S.2.1 dSx_asks_84 rfl (lv_at hl 0 rfl) ?_
            refine lv_iload_n S.1 S.2.1 dSx_asks_85 rfl (lv_at hl 1 rfl) ?_
            obtain ⟨⟨v14, g13⟩, h12, hm⟩ := ob hm
            refine sw_Vi (q := 0) (rest := []) S hw (cSx_tiltWithout l N hf a1 h12) kSx_tiltWithout wm_Sx_132 (is_0 hf).1 (e_Sx (is_0 hf)) rfl rfl rfl rfl hl.1 (Nat.le_of_ble_eq_true rfl) ⟨rfl, rfl, Nat.le_of_ble_eq_true rfl, Nat.le_of_ble_eq_true rfl⟩ ⟨Nat.le_of_ble_eq_true rfl, Nat.le_of_ble_eq_true rfl⟩ dSx_asks_86 (fun H locs hw hf => ?_)
            refine lv_aload_n S.1 S.2.1 dSx_asks_89 rfl (lv_at hl 0 rfl) ?_
            refine lv_iload_n S.1 S.2.1 dSx_asks_90 rfl (lv_at hl 1 rfl) ?_
            refine lv_iload_n S.1 S.2.1 dSx_asks_91 rfl (lv_at hl 2 rfl) ?_
            obtain ⟨⟨v17, g16⟩, h15, hm⟩ := ob hm
            refine sw_Vi (q := 0) (rest := [.int v14]) S hw (cSx_weightAt l N hf a1 a2 h15) kSx_weightAt wm_Sx_135 (is_0 hf).1 (e_Sx (is_0 hf)) rfl rfl rfl rfl hl.1 (Nat.le_of_ble_eq_true rfl) ⟨rfl, rfl, Nat.le_of_ble_eq_true rfl, Nat.le_of_ble_eq_true rfl⟩ ⟨Nat.le_of_ble_eq_true rfl, Nat.le_of_ble_eq_true rfl⟩ dSx_asks_92 (fun H locs hw hf => ?_)
            refine lv_iadd S.1 S.2.1 dSx_asks_95 ?_
            refine sw_abs (rest := []) S hl.1 wm_Sx_138 (Nat.le_of_ble_eq_true rfl) (Nat.le_of_ble_eq_true rfl) (Nat.le_of_ble_eq_true rfl) (Nat.le_of_ble_eq_true rfl) dSx_asks_96 ?_
            obtain rfl := Option.some.inj hm
            exact sw_iret S hr hlk hw hf dSx_asks_99
          · have hm := sw_if c2 hm
            refine lv_tableOut (tgt := 100) S.1 S.2.1 dSx_asks_21 (by have := lv_neT c0 (show ((0 : Int32)).toInt = 0 from rfl); have := lv_neT c1 (show ((1 : Int32)).toInt = 1 from rfl); have := lv_neT c2 (show ((2 : Int32)).toInt = 2 from rfl); omega) (by decide) ?_
            refine lv_iconst (v := (-1 : Int32)) S.1 S.2.1 dSx_asks_100 (by decide) ?_
            obtain rfl := Option.some.inj hm
            exact sw_iret S hr hlk hw hf dSx_asks_101
    · refine lv_iconst (v := (-1 : Int32)) S.1 S.2.1 dSx_asks_18 (by decide) ?_
      obtain rfl := Option.some.inj hm
      exact sw_iret S hr hlk hw hf dSx_asks_19
set_option maxHeartbeats 4000000 in
set_option maxRecDepth 100000 in
theorem cSx_tilt (l : Launch) (N : Nat) {Γ : sw_C} {A : Nat → Prop} {ξ : sw_x} {g : sw_g} {μ : sw_m} (hf : sw_wf ξ g.2.2) (a1 : Int32) {res : Int32 × sw_g} (hm : fSx_tilt N ξ.2.2.1 g a1 = some res) : Met l ySx_tilt (Cond.code ySx_tilt prog_1_method_5_code 3 (some .int) :: sw_tb) rmSx_tilt (va_Pc [.ref (ξ.2.2.2.1 0), .int a1] (sw_V Γ A ξ g μ)) (sw_Qi Γ A ξ res.2 μ res.1 (sw_wf ξ res.2.2.2)) 0 0 A := by
  refine Met.ofW (cc := prog_1_method_5_code) (maxL := 3) (ret := some .int) (by decide) rfl ?_
  intro p e s m args below meth c s₁ B hml hv
  obtain ⟨rfl, hv⟩ := hv
  have S : CallFix p m c prog_1_method_5_code 3 s _ (Cond.code ySx_tilt prog_1_method_5_code 3 (some .int) :: sw_tb) R_Sx := ⟨B.exec, B.bytes, hml, findClass_of_methodNamed B.named, atoms_spec (ws := (Cond.code ySx_tilt prog_1_method_5_code 3 (some .int) :: sw_tb)) B.pre⟩
  have hr := B.returns
  have hlk := B.notSynchronized
  have hw := sw_begin hv
  have hl := lv_entry [.ref (ξ.2.2.2.1 0), .int a1] (n := 3) (Nat.le_of_ble_eq_true rfl)
  rw [lg_entry_eq]
  generalize (lg_sl [.ref (ξ.2.2.2.1 0), .int a1] ++ List.replicate (3 - (lg_sl [.ref (ξ.2.2.2.1 0), .int a1]).length) Slot.unset).toArray = ls at hl ⊢
  have hl : lv_has ls 3 [(0, .ref (ξ.2.2.2.1 0)), (1, .int a1)] := hl
  unfold fSx_tilt at hm
  refine lv_aload_n S.1 S.2.1 dSx_tilt_0 rfl (lv_at hl 0 rfl) ?_
  obtain ⟨⟨v3, g2⟩, h1, hm⟩ := ob hm
  refine sw_Vi (q := 0) (rest := []) S hw (cSx_tiltNow l N hf  h1) kSx_tiltNow wm_Sx_143 (is_0 hf).1 (e_Sx (is_0 hf)) rfl rfl rfl rfl hl.1 (Nat.le_of_ble_eq_true rfl) ⟨rfl, rfl, Nat.le_of_ble_eq_true rfl, Nat.le_of_ble_eq_true rfl⟩ ⟨Nat.le_of_ble_eq_true rfl, Nat.le_of_ble_eq_true rfl⟩ dSx_tilt_1 (fun H locs hw hf => ?_)
  refine lv_istore_n (lv' := [(2, .int v3), (0, .ref (ξ.2.2.2.1 0)), (1, .int a1)]) S.1 S.2.1 dSx_tilt_4 rfl hl (by decide) rfl (fun ls hl => ?_)
  refine lv_iload_n S.1 S.2.1 dSx_tilt_5 rfl (lv_at hl 2 rfl) ?_
  by_cases c0 : a1 = (0 : Int32)
  · have hm := sw_it c0 hm
    refine lv_tableIn (off := 26) (tgt := 32) S.1 S.2.1 dSx_tilt_6 (by rw [c0]; decide) (by rw [c0]; decide) (by rw [c0]; decide) (by decide) ?_
    refine lv_iload_n S.1 S.2.1 dSx_tilt_32 rfl (lv_at hl 0 rfl) ?_
    refine sw_abs (rest := []) S hl.1 wm_Sx_138 (Nat.le_of_ble_eq_true rfl) (Nat.le_of_ble_eq_true rfl) (Nat.le_of_ble_eq_true rfl) (Nat.le_of_ble_eq_true rfl) dSx_tilt_33 ?_
    obtain rfl := Option.some.inj hm
    exact sw_iret S hr hlk hw hf dSx_tilt_36
  · have hm := sw_if c0 hm
    by_cases c1 : a1 = (1 : Int32)
    · have hm := sw_it c1 hm
      refine lv_tableIn (off := 31) (tgt := 37) S.1 S.2.1 dSx_tilt_6 (by rw [c1]; decide) (by rw [c1]; decide) (by rw [c1]; decide) (by decide) ?_
      refine lv_iload_n S.1 S.2.1 dSx_tilt_37 rfl (lv_at hl 0 rfl) ?_
      refine bif_ne (tgt := 45) S.1 S.2.1 hm dSx_tilt_38 (by decide) (fun hm => ?_) (fun hm => ?_)
      · refine lv_iload_n S.1 S.2.1 dSx_tilt_45 rfl (lv_at hl 0 rfl) ?_
        refine bif_ge (tgt := 53) S.1 S.2.1 hm dSx_tilt_46 (by decide) (fun hm => ?_) (fun hm => ?_)
        · refine lv_iconst (v := (2 : Int32)) S.1 S.2.1 dSx_tilt_53 (by decide) ?_
          obtain rfl := Option.some.inj hm
          exact sw_iret S hr hlk hw hf dSx_tilt_54
        · refine lv_iconst (v := (1 : Int32)) S.1 S.2.1 dSx_tilt_49 (by decide) ?_
          refine lv_goto (tgt := 54) S.1 S.2.1 dSx_tilt_50 (by decide) ?_
          obtain rfl := Option.some.inj hm
          exact sw_iret S hr hlk hw hf dSx_tilt_54
      · refine lv_iconst (v := (0 : Int32)) S.1 S.2.1 dSx_tilt_41 (by decide) ?_
        refine lv_goto (tgt := 54) S.1 S.2.1 dSx_tilt_42 (by decide) ?_
        obtain rfl := Option.some.inj hm
        exact sw_iret S hr hlk hw hf dSx_tilt_54
    · have hm := sw_if c1 hm
      by_cases c2 : a1 = (2 : Int32)
      · have hm := sw_it c2 hm
        refine lv_tableIn (off := 49) (tgt := 55) S.1 S.2.1 dSx_tilt_6 (by rw [c2]; decide) (by rw [c2]; decide) (by rw [c2]; decide) (by decide) ?_
        refine lv_aload_n S.1 S.2.1 dSx_tilt_55 rfl (lv_at hl 1 rfl) ?_
        refine lv_iload_n S.1 S.2.1 dSx_tilt_56 rfl (lv_at hl 0 rfl) ?_
        obtain ⟨⟨v6, g5⟩, h4, hm⟩ := ob hm
        refine sw_Vi (q := 0) (rest := []) S hw (cSx_isLevel l  hf v3 h4) kSx_isLevel wm_Sx_147 (is_0 hf).1 (e_Sx (is_0 hf)) rfl rfl rfl rfl hl.1 (Nat.le_of_ble_eq_true rfl) ⟨rfl, rfl, Nat.le_of_ble_eq_true rfl, Nat.le_of_ble_eq_true rfl⟩ ⟨Nat.le_of_ble_eq_true rfl, Nat.le_of_ble_eq_true rfl⟩ dSx_tilt_57 (fun H locs hw hf => ?_)
        refine bif_eq (tgt := 67) S.1 S.2.1 hm dSx_tilt_60 (by decide) (fun hm => ?_) (fun hm => ?_)
        · refine lv_iconst (v := (0 : Int32)) S.1 S.2.1 dSx_tilt_67 (by decide) ?_
          obtain rfl := Option.some.inj hm
          exact sw_iret S hr hlk hw hf dSx_tilt_68
        · refine lv_iconst (v := (1 : Int32)) S.1 S.2.1 dSx_tilt_63 (by decide) ?_
          refine lv_goto (tgt := 68) S.1 S.2.1 dSx_tilt_64 (by decide) ?_
          obtain rfl := Option.some.inj hm
          exact sw_iret S hr hlk hw hf dSx_tilt_68
      · have hm := sw_if c2 hm
        refine lv_tableOut (tgt := 69) S.1 S.2.1 dSx_tilt_6 (by have := lv_neT c0 (show ((0 : Int32)).toInt = 0 from rfl); have := lv_neT c1 (show ((1 : Int32)).toInt = 1 from rfl); have := lv_neT c2 (show ((2 : Int32)).toInt = 2 from rfl); omega) (by decide) ?_
        refine lv_iconst (v := (-1 : Int32)) S.1 S.2.1 dSx_tilt_69 (by decide) ?_
        obtain rfl := Option.some.inj hm
        exact sw_iret S hr hlk hw hf dSx_tilt_70
set_option maxHeartbeats 4000000 in
set_option maxRecDepth 100000 in
theorem cSx_put (l : Launch) (N : Nat) {Γ : sw_C} {A : Nat → Prop} {ξ : sw_x} {g : sw_g} {μ : sw_m} (hf : sw_wf ξ g.2.2) (a1 : Int32) (a2 : Int32) {res : Int32 × sw_g} (hm : fSx_put N ξ.2.2.1 g a1 a2 = some res) : Met l ySx_put (Cond.code ySx_put prog_1_method_16_code 4 (some .int) :: sw_tb) rmSx_put (va_Pc [.ref (ξ.2.2.2.1 0), .int a1, .int a2] (sw_V Γ A ξ g μ)) (sw_Qi Γ A ξ res.2 μ res.1 (sw_wf ξ res.2.2.2)) 0 0 A := by
  refine Met.ofW (cc := prog_1_method_16_code) (maxL := 4) (ret := some .int) (by decide) rfl ?_
  intro p e s m args below meth c s₁ B hml hv
  obtain ⟨rfl, hv⟩ := hv
  have S : CallFix p m c prog_1_method_16_code 4 s _ (Cond.code ySx_put prog_1_method_16_code 4 (some .int) :: sw_tb) R_Sx := ⟨B.exec, B.bytes, hml, findClass_of_methodNamed B.named, atoms_spec (ws := (Cond.code ySx_put prog_1_method_16_code 4 (some .int) :: sw_tb)) B.pre⟩
  have hr := B.returns
  have hlk := B.notSynchronized
  have hw := sw_begin hv
  have hl := lv_entry [.ref (ξ.2.2.2.1 0), .int a1, .int a2] (n := 4) (Nat.le_of_ble_eq_true rfl)
  rw [lg_entry_eq]
  generalize (lg_sl [.ref (ξ.2.2.2.1 0), .int a1, .int a2] ++ List.replicate (4 - (lg_sl [.ref (ξ.2.2.2.1 0), .int a1, .int a2]).length) Slot.unset).toArray = ls at hl ⊢
  have hl : lv_has ls 4 [(0, .ref (ξ.2.2.2.1 0)), (1, .int a1), (2, .int a2)] := hl
  unfold fSx_put at hm
  refine lv_aload_n S.1 S.2.1 dSx_put_0 rfl (lv_at hl 0 rfl) ?_
  refine lv_iload_n S.1 S.2.1 dSx_put_1 rfl (lv_at hl 1 rfl) ?_
  refine lv_iload_n S.1 S.2.1 dSx_put_2 rfl (lv_at hl 2 rfl) ?_
  obtain ⟨⟨v3, g2⟩, h1, hm⟩ := ob hm
  refine sw_Vi (q := 0) (rest := []) S hw (cSx_puts l N hf a1 a2 h1) kSx_puts wm_Sx_216 (is_0 hf).1 (e_Sx (is_0 hf)) rfl rfl rfl rfl hl.1 (Nat.le_of_ble_eq_true rfl) ⟨rfl, rfl, Nat.le_of_ble_eq_true rfl, Nat.le_of_ble_eq_true rfl⟩ ⟨Nat.le_of_ble_eq_true rfl, Nat.le_of_ble_eq_true rfl⟩ dSx_put_3 (fun H locs hw hf => ?_)
  refine lv_istore_n (lv' := [(3, .int v3), (0, .ref (ξ.2.2.2.1 0)), (1, .int a1), (2, .int a2)]) S.1 S.2.1 dSx_put_6 rfl hl (by decide) rfl (fun ls hl => ?_)
  refine lv_iload_n S.1 S.2.1 dSx_put_7 rfl (lv_at hl 0 rfl) ?_
  refine bif_ge (tgt := 19) S.1 S.2.1 hm dSx_put_8 (by decide) (fun hm => ?_) (fun hm => ?_)
  · refine lv_aload_n S.1 S.2.1 dSx_put_19 rfl (lv_at hl 1 rfl) ?_
    refine lv_aload_n S.1 S.2.1 dSx_put_20 rfl (lv_at hl 1 rfl) ?_
    obtain ⟨⟨v6, g5⟩, h4, hm⟩ := ob hm
    refine sw_Vi (q := 0) (rest := [.ref (ξ.2.2.2.1 0)]) S hw (cSx_tiltNow l N hf  h4) kSx_tiltNow wm_Sx_143 (is_0 hf).1 (e_Sx (is_0 hf)) rfl rfl rfl rfl hl.1 (Nat.le_of_ble_eq_true rfl) ⟨rfl, rfl, Nat.le_of_ble_eq_true rfl, Nat.le_of_ble_eq_true rfl⟩ ⟨Nat.le_of_ble_eq_true rfl, Nat.le_of_ble_eq_true rfl⟩ dSx_put_21 (fun H locs hw hf => ?_)
    refine sw_abs (rest := [.ref (ξ.2.2.2.1 0)]) S hl.1 wm_Sx_138 (Nat.le_of_ble_eq_true rfl) (Nat.le_of_ble_eq_true rfl) (Nat.le_of_ble_eq_true rfl) (Nat.le_of_ble_eq_true rfl) dSx_put_24 ?_
    obtain ⟨⟨v9, g8⟩, h7, hm⟩ := ob hm
    refine sw_Vi (q := 0) (rest := []) S hw (cSx_told l  hf (jabs v6) h7) kSx_told wm_Sx_99 (is_0 hf).1 (e_Sx (is_0 hf)) rfl rfl rfl rfl hl.1 (Nat.le_of_ble_eq_true rfl) ⟨rfl, rfl, Nat.le_of_ble_eq_true rfl, Nat.le_of_ble_eq_true rfl⟩ ⟨Nat.le_of_ble_eq_true rfl, Nat.le_of_ble_eq_true rfl⟩ dSx_put_27 (fun H locs hw hf => ?_)
    obtain rfl := Option.some.inj hm
    exact sw_iret S hr hlk hw hf dSx_put_30
  · refine lv_aload_n S.1 S.2.1 dSx_put_11 rfl (lv_at hl 1 rfl) ?_
    refine lv_iload_n S.1 S.2.1 dSx_put_12 rfl (lv_at hl 0 rfl) ?_
    obtain ⟨⟨v12, g11⟩, h10, hm⟩ := ob hm
    refine sw_Vi (q := 0) (rest := []) S hw (cSx_refuse l N hf v3 h10) kSx_refuse wm_Sx_85 (is_0 hf).1 (e_Sx (is_0 hf)) rfl rfl rfl rfl hl.1 (Nat.le_of_ble_eq_true rfl) ⟨rfl, rfl, Nat.le_of_ble_eq_true rfl, Nat.le_of_ble_eq_true rfl⟩ ⟨Nat.le_of_ble_eq_true rfl, Nat.le_of_ble_eq_true rfl⟩ dSx_put_13 (fun H locs hw hf => ?_)
    refine lv_goto (tgt := 30) S.1 S.2.1 dSx_put_16 (by decide) ?_
    obtain rfl := Option.some.inj hm
    exact sw_iret S hr hlk hw hf dSx_put_30
set_option maxHeartbeats 4000000 in
set_option maxRecDepth 100000 in
theorem cSx_take (l : Launch) (N : Nat) {Γ : sw_C} {A : Nat → Prop} {ξ : sw_x} {g : sw_g} {μ : sw_m} (hf : sw_wf ξ g.2.2) (a1 : Int32) {res : Int32 × sw_g} (hm : fSx_take N ξ.2.2.1 g a1 = some res) : Met l ySx_take (Cond.code ySx_take prog_1_method_17_code 3 (some .int) :: sw_tb) rmSx_take (va_Pc [.ref (ξ.2.2.2.1 0), .int a1] (sw_V Γ A ξ g μ)) (sw_Qi Γ A ξ res.2 μ res.1 (sw_wf ξ res.2.2.2)) 0 0 A := by
  refine Met.ofW (cc := prog_1_method_17_code) (maxL := 3) (ret := some .int) (by decide) rfl ?_
  intro p e s m args below meth c s₁ B hml hv
  obtain ⟨rfl, hv⟩ := hv
  have S : CallFix p m c prog_1_method_17_code 3 s _ (Cond.code ySx_take prog_1_method_17_code 3 (some .int) :: sw_tb) R_Sx := ⟨B.exec, B.bytes, hml, findClass_of_methodNamed B.named, atoms_spec (ws := (Cond.code ySx_take prog_1_method_17_code 3 (some .int) :: sw_tb)) B.pre⟩
  have hr := B.returns
  have hlk := B.notSynchronized
  have hw := sw_begin hv
  have hl := lv_entry [.ref (ξ.2.2.2.1 0), .int a1] (n := 3) (Nat.le_of_ble_eq_true rfl)
  rw [lg_entry_eq]
  generalize (lg_sl [.ref (ξ.2.2.2.1 0), .int a1] ++ List.replicate (3 - (lg_sl [.ref (ξ.2.2.2.1 0), .int a1]).length) Slot.unset).toArray = ls at hl ⊢
  have hl : lv_has ls 3 [(0, .ref (ξ.2.2.2.1 0)), (1, .int a1)] := hl
  unfold fSx_take at hm
  refine lv_aload_n S.1 S.2.1 dSx_take_0 rfl (lv_at hl 0 rfl) ?_
  refine lv_iload_n S.1 S.2.1 dSx_take_1 rfl (lv_at hl 1 rfl) ?_
  obtain ⟨⟨v3, g2⟩, h1, hm⟩ := ob hm
  refine sw_Vi (q := 0) (rest := []) S hw (cSx_takes l  hf a1 h1) kSx_takes wm_Sx_219 (is_0 hf).1 (e_Sx (is_0 hf)) rfl rfl rfl rfl hl.1 (Nat.le_of_ble_eq_true rfl) ⟨rfl, rfl, Nat.le_of_ble_eq_true rfl, Nat.le_of_ble_eq_true rfl⟩ ⟨Nat.le_of_ble_eq_true rfl, Nat.le_of_ble_eq_true rfl⟩ dSx_take_2 (fun H locs hw hf => ?_)
  refine lv_istore_n (lv' := [(2, .int v3), (0, .ref (ξ.2.2.2.1 0)), (1, .int a1)]) S.1 S.2.1 dSx_take_5 rfl hl (by decide) rfl (fun ls hl => ?_)
  refine lv_iload_n S.1 S.2.1 dSx_take_6 rfl (lv_at hl 0 rfl) ?_
  refine bif_ge (tgt := 18) S.1 S.2.1 hm dSx_take_7 (by decide) (fun hm => ?_) (fun hm => ?_)
  · refine lv_aload_n S.1 S.2.1 dSx_take_18 rfl (lv_at hl 1 rfl) ?_
    refine lv_aload_n S.1 S.2.1 dSx_take_19 rfl (lv_at hl 1 rfl) ?_
    obtain ⟨⟨v6, g5⟩, h4, hm⟩ := ob hm
    refine sw_Vi (q := 0) (rest := [.ref (ξ.2.2.2.1 0)]) S hw (cSx_tiltNow l N hf  h4) kSx_tiltNow wm_Sx_143 (is_0 hf).1 (e_Sx (is_0 hf)) rfl rfl rfl rfl hl.1 (Nat.le_of_ble_eq_true rfl) ⟨rfl, rfl, Nat.le_of_ble_eq_true rfl, Nat.le_of_ble_eq_true rfl⟩ ⟨Nat.le_of_ble_eq_true rfl, Nat.le_of_ble_eq_true rfl⟩ dSx_take_20 (fun H locs hw hf => ?_)
    refine sw_abs (rest := [.ref (ξ.2.2.2.1 0)]) S hl.1 wm_Sx_138 (Nat.le_of_ble_eq_true rfl) (Nat.le_of_ble_eq_true rfl) (Nat.le_of_ble_eq_true rfl) (Nat.le_of_ble_eq_true rfl) dSx_take_23 ?_
    obtain ⟨⟨v9, g8⟩, h7, hm⟩ := ob hm
    refine sw_Vi (q := 0) (rest := []) S hw (cSx_told l  hf (jabs v6) h7) kSx_told wm_Sx_99 (is_0 hf).1 (e_Sx (is_0 hf)) rfl rfl rfl rfl hl.1 (Nat.le_of_ble_eq_true rfl) ⟨rfl, rfl, Nat.le_of_ble_eq_true rfl, Nat.le_of_ble_eq_true rfl⟩ ⟨Nat.le_of_ble_eq_true rfl, Nat.le_of_ble_eq_true rfl⟩ dSx_take_26 (fun H locs hw hf => ?_)
    obtain rfl := Option.some.inj hm
    exact sw_iret S hr hlk hw hf dSx_take_29
  · refine lv_aload_n S.1 S.2.1 dSx_take_10 rfl (lv_at hl 1 rfl) ?_
    refine lv_iload_n S.1 S.2.1 dSx_take_11 rfl (lv_at hl 0 rfl) ?_
    obtain ⟨⟨v12, g11⟩, h10, hm⟩ := ob hm
    refine sw_Vi (q := 0) (rest := []) S hw (cSx_refuse l N hf v3 h10) kSx_refuse wm_Sx_85 (is_0 hf).1 (e_Sx (is_0 hf)) rfl rfl rfl rfl hl.1 (Nat.le_of_ble_eq_true rfl) ⟨rfl, rfl, Nat.le_of_ble_eq_true rfl, Nat.le_of_ble_eq_true rfl⟩ ⟨Nat.le_of_ble_eq_true rfl, Nat.le_of_ble_eq_true rfl⟩ dSx_take_12 (fun H locs hw hf => ?_)
    refine lv_goto (tgt := 29) S.1 S.2.1 dSx_take_15 (by decide) ?_
    obtain rfl := Option.some.inj hm
    exact sw_iret S hr hlk hw hf dSx_take_29
set_option maxHeartbeats 4000000 in
set_option maxRecDepth 100000 in
theorem cSx_pass (l : Launch) (N : Nat) {Γ : sw_C} {A : Nat → Prop} {ξ : sw_x} {g : sw_g} {μ : sw_m} (hf : sw_wf ξ g.2.2) {res : Int32 × sw_g} (hm : fSx_pass N ξ.2.2.1 g = some res) : Met l ySx_pass (Cond.code ySx_pass prog_1_method_19_code 2 (some .int) :: sw_tb) rmSx_pass (va_Pc [.ref (ξ.2.2.2.1 0)] (sw_V Γ A ξ g μ)) (sw_Qi Γ A ξ res.2 μ res.1 (sw_wf ξ res.2.2.2)) 0 0 A := by
  refine Met.ofW (cc := prog_1_method_19_code) (maxL := 2) (ret := some .int) (by decide) rfl ?_
  intro p e s m args below meth c s₁ B hml hv
  obtain ⟨rfl, hv⟩ := hv
  have S : CallFix p m c prog_1_method_19_code 2 s _ (Cond.code ySx_pass prog_1_method_19_code 2 (some .int) :: sw_tb) R_Sx := ⟨B.exec, B.bytes, hml, findClass_of_methodNamed B.named, atoms_spec (ws := (Cond.code ySx_pass prog_1_method_19_code 2 (some .int) :: sw_tb)) B.pre⟩
  have hr := B.returns
  have hlk := B.notSynchronized
  have hw := sw_begin hv
  have hl := lv_entry [.ref (ξ.2.2.2.1 0)] (n := 2) (Nat.le_of_ble_eq_true rfl)
  rw [lg_entry_eq]
  generalize (lg_sl [.ref (ξ.2.2.2.1 0)] ++ List.replicate (2 - (lg_sl [.ref (ξ.2.2.2.1 0)]).length) Slot.unset).toArray = ls at hl ⊢
  have hl : lv_has ls 2 [(0, .ref (ξ.2.2.2.1 0))] := hl
  unfold fSx_pass at hm
  refine lv_aload_n S.1 S.2.1 dSx_pass_0 rfl (lv_at hl 0 rfl) ?_
  obtain ⟨⟨v3, g2⟩, h1, hm⟩ := ob hm
  refine sw_Vi (q := 0) (rest := []) S hw (cSx_passes l N hf  h1) kSx_passes wm_Sx_225 (is_0 hf).1 (e_Sx (is_0 hf)) rfl rfl rfl rfl hl.1 (Nat.le_of_ble_eq_true rfl) ⟨rfl, rfl, Nat.le_of_ble_eq_true rfl, Nat.le_of_ble_eq_true rfl⟩ ⟨Nat.le_of_ble_eq_true rfl, Nat.le_of_ble_eq_true rfl⟩ dSx_pass_1 (fun H locs hw hf => ?_)
  refine lv_istore_n (lv' := [(1, .int v3), (0, .ref (ξ.2.2.2.1 0))]) S.1 S.2.1 dSx_pass_4 rfl hl (by decide) rfl (fun ls hl => ?_)
  refine lv_iload_n S.1 S.2.1 dSx_pass_5 rfl (lv_at hl 0 rfl) ?_
  refine bif_ge (tgt := 17) S.1 S.2.1 hm dSx_pass_6 (by decide) (fun hm => ?_) (fun hm => ?_)
  · refine lv_aload_n S.1 S.2.1 dSx_pass_17 rfl (lv_at hl 1 rfl) ?_
    refine lv_iload_n S.1 S.2.1 dSx_pass_18 rfl (lv_at hl 0 rfl) ?_
    obtain ⟨⟨v6, g5⟩, h4, hm⟩ := ob hm
    refine sw_Vi (q := 0) (rest := []) S hw (cSx_told l  hf v3 h4) kSx_told wm_Sx_99 (is_0 hf).1 (e_Sx (is_0 hf)) rfl rfl rfl rfl hl.1 (Nat.le_of_ble_eq_true rfl) ⟨rfl, rfl, Nat.le_of_ble_eq_true rfl, Nat.le_of_ble_eq_true rfl⟩ ⟨Nat.le_of_ble_eq_true rfl, Nat.le_of_ble_eq_true rfl⟩ dSx_pass_19 (fun H locs hw hf => ?_)
    obtain rfl := Option.some.inj hm
    exact sw_iret S hr hlk hw hf dSx_pass_22
  · refine lv_aload_n S.1 S.2.1 dSx_pass_9 rfl (lv_at hl 1 rfl) ?_
    refine lv_iload_n S.1 S.2.1 dSx_pass_10 rfl (lv_at hl 0 rfl) ?_
    obtain ⟨⟨v9, g8⟩, h7, hm⟩ := ob hm
    refine sw_Vi (q := 0) (rest := []) S hw (cSx_refuse l N hf v3 h7) kSx_refuse wm_Sx_85 (is_0 hf).1 (e_Sx (is_0 hf)) rfl rfl rfl rfl hl.1 (Nat.le_of_ble_eq_true rfl) ⟨rfl, rfl, Nat.le_of_ble_eq_true rfl, Nat.le_of_ble_eq_true rfl⟩ ⟨Nat.le_of_ble_eq_true rfl, Nat.le_of_ble_eq_true rfl⟩ dSx_pass_11 (fun H locs hw hf => ?_)
    refine lv_goto (tgt := 22) S.1 S.2.1 dSx_pass_14 (by decide) ?_
    obtain rfl := Option.some.inj hm
    exact sw_iret S hr hlk hw hf dSx_pass_22
set_option maxHeartbeats 4000000 in
set_option maxRecDepth 100000 in
theorem wSx_settle_18 {l : Launch} {p : Program} {e : Env} {s : State} {m : MethodId} {args : Array Value} {below : List Frame} {meth : Method} {c : Code} {Γ : sw_C} {A : Nat → Prop} {ξ : sw_x} {μ : sw_m} {res : Int32 × sw_g} (S : CallFix p m c prog_1_method_21_code 4 s args (Cond.code ySx_settle prog_1_method_21_code 4 (some .int) :: sw_tb) R_Sx) (hr : meth.sig.returnType = some .int) (hlk : meth.locks = false) (N : Nat) : ∀ (g : sw_g) (u1 : Int32) (H : Heap) (locs : List Loc) (ls : Array Slot), fSx_settle_18 N ξ.2.2.1  g u1 = some res → sw_S Γ A ξ g μ s H locs → sw_wf ξ g.2.2 → lv_has ls 4 [(0, .ref (ξ.2.2.2.1 0)), (1, .int u1)] → W p l e (headSpec (Cond.code ySx_settle prog_1_method_21_code 4 (some .int) :: sw_tb) rmSx_settle).room s m args below meth c H locs 0 0 (MQ below (sw_Qi Γ A ξ res.2 μ res.1 (sw_wf ξ res.2.2.2)) args s 0 0 A) (F0 m 18 ls []) := by
  intro g u1 H locs ls hm hw hf hl
  unfold fSx_settle_18 at hm
  refine lv_aload_n S.1 S.2.1 dSx_settle_18 rfl (lv_at hl 0 rfl) ?_
  refine lv_iconst (v := (0 : Int32)) S.1 S.2.1 dSx_settle_19 (by decide) ?_
  obtain ⟨g2, h1, hm⟩ := ob hm
  refine sw_Vv (q := 0) (rest := []) S hw (cSx_offerPlaces l N hf (0 : Int32) h1) kSx_offerPlaces wm_Sx_235 (is_0 hf).1 (e_Sx (is_0 hf)) rfl rfl rfl rfl hl.1 (Nat.le_of_ble_eq_true rfl) ⟨rfl, rfl, Nat.le_of_ble_eq_true rfl, Nat.le_of_ble_eq_true rfl⟩ ⟨Nat.le_of_ble_eq_true rfl, Nat.le_of_ble_eq_true rfl⟩ dSx_settle_20 (fun H locs hw hf => ?_)
  refine lv_aload_n S.1 S.2.1 dSx_settle_23 rfl (lv_at hl 0 rfl) ?_
  refine get_Sx (v := .ref (ξ.2.2.2.1 1)) S hw (is_0 hf) 0 (by decide) rfl wf_Sx_12 dSx_settle_24 ?_
  refine get_Pl (v := .ref (ξ.2.2.2.1 5)) S hw (is_1 hf) 4 (by decide) rfl wf_Sx_153 dSx_settle_27 ?_
  refine lv_iconst (v := (3 : Int32)) S.1 S.2.1 dSx_settle_30 (by decide) ?_
  refine sx_iald S hw (is_5 hf) hm dSx_settle_31 (fun v3 hm => ?_)
  refine lv_istore_n (lv' := [(2, .int v3), (0, .ref (ξ.2.2.2.1 0)), (1, .int u1)]) S.1 S.2.1 dSx_settle_32 rfl hl (by decide) rfl (fun ls hl => ?_)
  refine lv_iload_n S.1 S.2.1 dSx_settle_33 rfl (lv_at hl 2 rfl) ?_
  refine lv_iconst (v := (-1 : Int32)) S.1 S.2.1 dSx_settle_34 (by decide) ?_
  refine bicmp_ne (tgt := 58) S.1 S.2.1 hm dSx_settle_35 (by decide) (fun hm => ?_) (fun hm => ?_)
  · refine lv_aload_n S.1 S.2.1 dSx_settle_58 rfl (lv_at hl 1 rfl) ?_
    refine get_Sx (v := .ref (ξ.2.2.2.1 49)) S hw (is_0 hf) 10 (by decide) rfl wf_Sx_64 dSx_settle_59 ?_
    refine lv_iconst (v := (0 : Int32)) S.1 S.2.1 dSx_settle_62 (by decide) ?_
    refine lv_iload_n S.1 S.2.1 dSx_settle_63 rfl (lv_at hl 0 rfl) ?_
    obtain ⟨⟨v6, g5⟩, h4, hm⟩ := ob hm
    refine sw_Vi (q := 49) (rest := []) S hw (cRo_finds l N hf (0 : Int32) v3 h4) kRo_finds wm_Sx_242 (is_49 hf).1 (e_Ro (is_49 hf)) rfl rfl rfl rfl hl.1 (Nat.le_of_ble_eq_true rfl) ⟨rfl, rfl, Nat.le_of_ble_eq_true rfl, Nat.le_of_ble_eq_true rfl⟩ ⟨Nat.le_of_ble_eq_true rfl, Nat.le_of_ble_eq_true rfl⟩ dSx_settle_64 (fun H locs hw hf => ?_)
    refine bif_eq (tgt := 82) S.1 S.2.1 hm dSx_settle_67 (by decide) (fun hm => ?_) (fun hm => ?_)
    · refine lv_iconst (v := (-1 : Int32)) S.1 S.2.1 dSx_settle_82 (by decide) ?_
      obtain rfl := Option.some.inj hm
      exact sw_iret S hr hlk hw hf dSx_settle_83
    · refine lv_aload_n S.1 S.2.1 dSx_settle_70 rfl (lv_at hl 1 rfl) ?_
      refine get_Sx (v := .ref (ξ.2.2.2.1 49)) S hw (is_0 hf) 10 (by decide) rfl wf_Sx_64 dSx_settle_71 ?_
      refine get_Ro (v := .ref (ξ.2.2.2.1 50)) S hw (is_49 hf) 0 (by decide) rfl wf_Sx_245 dSx_settle_74 ?_
      refine lv_iload_n S.1 S.2.1 dSx_settle_77 rfl (lv_at hl 2 rfl) ?_
      refine sx_iald S hw (is_50 hf) hm dSx_settle_78 (fun v7 hm => ?_)
      refine lv_goto (tgt := 83) S.1 S.2.1 dSx_settle_79 (by decide) ?_
      obtain rfl := Option.some.inj hm
      exact sw_iret S hr hlk hw hf dSx_settle_83
  · refine lv_aload_n S.1 S.2.1 dSx_settle_38 rfl (lv_at hl 1 rfl) ?_
    refine get_Sx (v := .ref (ξ.2.2.2.1 49)) S hw (is_0 hf) 10 (by decide) rfl wf_Sx_64 dSx_settle_39 ?_
    refine lv_iconst (v := (0 : Int32)) S.1 S.2.1 dSx_settle_42 (by decide) ?_
    refine lv_iload_n S.1 S.2.1 dSx_settle_43 rfl (lv_at hl 0 rfl) ?_
    obtain ⟨⟨v10, g9⟩, h8, hm⟩ := ob hm
    refine sw_Vi (q := 49) (rest := []) S hw (cRo_howMany l N hf (0 : Int32) v3 h8) kRo_howMany wm_Sx_239 (is_49 hf).1 (e_Ro (is_49 hf)) rfl rfl rfl rfl hl.1 (Nat.le_of_ble_eq_true rfl) ⟨rfl, rfl, Nat.le_of_ble_eq_true rfl, Nat.le_of_ble_eq_true rfl⟩ ⟨Nat.le_of_ble_eq_true rfl, Nat.le_of_ble_eq_true rfl⟩ dSx_settle_44 (fun H locs hw hf => ?_)
    refine lv_istore_n (lv' := [(3, .int v10), (2, .int v3), (0, .ref (ξ.2.2.2.1 0)), (1, .int u1)]) S.1 S.2.1 dSx_settle_47 rfl hl (by decide) rfl (fun ls hl => ?_)
    refine lv_iload_n S.1 S.2.1 dSx_settle_48 rfl (lv_at hl 0 rfl) ?_
    refine bif_ne (tgt := 56) S.1 S.2.1 hm dSx_settle_49 (by decide) (fun hm => ?_) (fun hm => ?_)
    · refine lv_iload_n S.1 S.2.1 dSx_settle_56 rfl (lv_at hl 0 rfl) ?_
      obtain rfl := Option.some.inj hm
      exact sw_iret S hr hlk hw hf dSx_settle_57
    · refine lv_iconst (v := (-1 : Int32)) S.1 S.2.1 dSx_settle_52 (by decide) ?_
      refine lv_goto (tgt := 57) S.1 S.2.1 dSx_settle_53 (by decide) ?_
      obtain rfl := Option.some.inj hm
      exact sw_iret S hr hlk hw hf dSx_settle_57
set_option maxHeartbeats 4000000 in
set_option maxRecDepth 100000 in
theorem cSx_settle (l : Launch) (N : Nat) {Γ : sw_C} {A : Nat → Prop} {ξ : sw_x} {g : sw_g} {μ : sw_m} (hf : sw_wf ξ g.2.2) (a1 : Int32) {res : Int32 × sw_g} (hm : fSx_settle N ξ.2.2.1 g a1 = some res) : Met l ySx_settle (Cond.code ySx_settle prog_1_method_21_code 4 (some .int) :: sw_tb) rmSx_settle (va_Pc [.ref (ξ.2.2.2.1 0), .int a1] (sw_V Γ A ξ g μ)) (sw_Qi Γ A ξ res.2 μ res.1 (sw_wf ξ res.2.2.2)) 0 0 A := by
  refine Met.ofW (cc := prog_1_method_21_code) (maxL := 4) (ret := some .int) (by decide) rfl ?_
  intro p e s m args below meth c s₁ B hml hv
  obtain ⟨rfl, hv⟩ := hv
  have S : CallFix p m c prog_1_method_21_code 4 s _ (Cond.code ySx_settle prog_1_method_21_code 4 (some .int) :: sw_tb) R_Sx := ⟨B.exec, B.bytes, hml, findClass_of_methodNamed B.named, atoms_spec (ws := (Cond.code ySx_settle prog_1_method_21_code 4 (some .int) :: sw_tb)) B.pre⟩
  have hr := B.returns
  have hlk := B.notSynchronized
  have hw := sw_begin hv
  have hl := lv_entry [.ref (ξ.2.2.2.1 0), .int a1] (n := 4) (Nat.le_of_ble_eq_true rfl)
  rw [lg_entry_eq]
  generalize (lg_sl [.ref (ξ.2.2.2.1 0), .int a1] ++ List.replicate (4 - (lg_sl [.ref (ξ.2.2.2.1 0), .int a1]).length) Slot.unset).toArray = ls at hl ⊢
  have hl : lv_has ls 4 [(0, .ref (ξ.2.2.2.1 0)), (1, .int a1)] := hl
  unfold fSx_settle at hm
  refine lv_iload_n S.1 S.2.1 dSx_settle_0 rfl (lv_at hl 1 rfl) ?_
  refine lv_iconst (v := (-1 : Int32)) S.1 S.2.1 dSx_settle_1 (by decide) ?_
  refine bicmp_eq (tgt := 18) S.1 S.2.1 hm dSx_settle_2 (by decide) (fun hm => ?_) (fun hm => ?_)
  · exact wSx_settle_18 S hr hlk N  g a1 _ _ _ hm hw hf (lv_sub hl [0, 1] rfl)
  · refine lv_aload_n S.1 S.2.1 dSx_settle_5 rfl (lv_at hl 0 rfl) ?_
    refine get_Sx (v := .ref (ξ.2.2.2.1 1)) S hw (is_0 hf) 0 (by decide) rfl wf_Sx_12 dSx_settle_6 ?_
    refine lv_iload_n S.1 S.2.1 dSx_settle_9 rfl (lv_at hl 1 rfl) ?_
    obtain ⟨⟨v13, g12⟩, h11, hm⟩ := ob hm
    refine sw_Vi (q := 1) (rest := []) S hw (cPl_hasClaim l  hf 1 (is_1 hf) a1 h11) kPl_hasClaim wm_Sx_102 (is_1 hf).1 (e_Pl (is_1 hf)) rfl rfl rfl rfl hl.1 (Nat.le_of_ble_eq_true rfl) ⟨rfl, rfl, Nat.le_of_ble_eq_true rfl, Nat.le_of_ble_eq_true rfl⟩ ⟨Nat.le_of_ble_eq_true rfl, Nat.le_of_ble_eq_true rfl⟩ dSx_settle_10 (fun H locs hw hf => ?_)
    refine bif_ne (tgt := 18) S.1 S.2.1 hm dSx_settle_13 (by decide) (fun hm => ?_) (fun hm => ?_)
    · exact wSx_settle_18 S hr hlk N  g12 a1 _ _ _ hm hw hf (lv_sub hl [0, 1] rfl)
    · refine lv_iconst (v := (-1 : Int32)) S.1 S.2.1 dSx_settle_16 (by decide) ?_
      obtain rfl := Option.some.inj hm
      exact sw_iret S hr hlk hw hf dSx_settle_17
set_option maxHeartbeats 4000000 in
set_option maxRecDepth 100000 in
theorem wSx_least_18 {l : Launch} {p : Program} {e : Env} {s : State} {m : MethodId} {args : Array Value} {below : List Frame} {meth : Method} {c : Code} {Γ : sw_C} {A : Nat → Prop} {ξ : sw_x} {μ : sw_m} {res : Int32 × sw_g} (S : CallFix p m c prog_1_method_22_code 3 s args (Cond.code ySx_least prog_1_method_22_code 3 (some .int) :: sw_tb) R_Sx) (hr : meth.sig.returnType = some .int) (hlk : meth.locks = false) (N : Nat) : ∀ (g : sw_g) (u1 : Int32) (H : Heap) (locs : List Loc) (ls : Array Slot), fSx_least_18 N ξ.2.2.1  g u1 = some res → sw_S Γ A ξ g μ s H locs → sw_wf ξ g.2.2 → lv_has ls 3 [(0, .ref (ξ.2.2.2.1 0)), (1, .int u1)] → W p l e (headSpec (Cond.code ySx_least prog_1_method_22_code 3 (some .int) :: sw_tb) rmSx_least).room s m args below meth c H locs 0 0 (MQ below (sw_Qi Γ A ξ res.2 μ res.1 (sw_wf ξ res.2.2.2)) args s 0 0 A) (F0 m 18 ls []) := by
  intro g u1 H locs ls hm hw hf hl
  unfold fSx_least_18 at hm
  refine lv_aload_n S.1 S.2.1 dSx_least_18 rfl (lv_at hl 0 rfl) ?_
  refine lv_iconst (v := (0 : Int32)) S.1 S.2.1 dSx_least_19 (by decide) ?_
  obtain ⟨g2, h1, hm⟩ := ob hm
  refine sw_Vv (q := 0) (rest := []) S hw (cSx_offerPlaces l N hf (0 : Int32) h1) kSx_offerPlaces wm_Sx_235 (is_0 hf).1 (e_Sx (is_0 hf)) rfl rfl rfl rfl hl.1 (Nat.le_of_ble_eq_true rfl) ⟨rfl, rfl, Nat.le_of_ble_eq_true rfl, Nat.le_of_ble_eq_true rfl⟩ ⟨Nat.le_of_ble_eq_true rfl, Nat.le_of_ble_eq_true rfl⟩ dSx_least_20 (fun H locs hw hf => ?_)
  refine lv_aload_n S.1 S.2.1 dSx_least_23 rfl (lv_at hl 0 rfl) ?_
  refine get_Sx (v := .ref (ξ.2.2.2.1 49)) S hw (is_0 hf) 10 (by decide) rfl wf_Sx_64 dSx_least_24 ?_
  obtain ⟨⟨v5, g4⟩, h3, hm⟩ := ob hm
  refine sw_Vi (q := 49) (rest := []) S hw (cRo_leastWeight l N hf  h3) kRo_leastWeight wm_Sx_248 (is_49 hf).1 (e_Ro (is_49 hf)) rfl rfl rfl rfl hl.1 (Nat.le_of_ble_eq_true rfl) ⟨rfl, rfl, Nat.le_of_ble_eq_true rfl, Nat.le_of_ble_eq_true rfl⟩ ⟨Nat.le_of_ble_eq_true rfl, Nat.le_of_ble_eq_true rfl⟩ dSx_least_27 (fun H locs hw hf => ?_)
  refine lv_istore_n (lv' := [(2, .int v5), (0, .ref (ξ.2.2.2.1 0)), (1, .int u1)]) S.1 S.2.1 dSx_least_30 rfl hl (by decide) rfl (fun ls hl => ?_)
  refine lv_iload_n S.1 S.2.1 dSx_least_31 rfl (lv_at hl 0 rfl) ?_
  refine lv_iconst (v := (-1 : Int32)) S.1 S.2.1 dSx_least_32 (by decide) ?_
  refine bicmp_eq (tgt := 41) S.1 S.2.1 hm dSx_least_33 (by decide) (fun hm => ?_) (fun hm => ?_)
  · refine lv_iload_n S.1 S.2.1 dSx_least_41 rfl (lv_at hl 0 rfl) ?_
    obtain rfl := Option.some.inj hm
    exact sw_iret S hr hlk hw hf dSx_least_42
  · refine lv_iload_n S.1 S.2.1 dSx_least_36 rfl (lv_at hl 2 rfl) ?_
    refine lv_iconst (v := (-1 : Int32)) S.1 S.2.1 dSx_least_37 (by decide) ?_
    refine bicmp_ne (tgt := 43) S.1 S.2.1 hm dSx_least_38 (by decide) (fun hm => ?_) (fun hm => ?_)
    · refine lv_aload_n S.1 S.2.1 dSx_least_43 rfl (lv_at hl 1 rfl) ?_
      refine get_Sx (v := .ref (ξ.2.2.2.1 49)) S hw (is_0 hf) 10 (by decide) rfl wf_Sx_64 dSx_least_44 ?_
      refine lv_iconst (v := (0 : Int32)) S.1 S.2.1 dSx_least_47 (by decide) ?_
      refine lv_iload_n S.1 S.2.1 dSx_least_48 rfl (lv_at hl 0 rfl) ?_
      obtain ⟨⟨v8, g7⟩, h6, hm⟩ := ob hm
      refine sw_Vi (q := 49) (rest := []) S hw (cRo_finds l N hf (0 : Int32) v5 h6) kRo_finds wm_Sx_242 (is_49 hf).1 (e_Ro (is_49 hf)) rfl rfl rfl rfl hl.1 (Nat.le_of_ble_eq_true rfl) ⟨rfl, rfl, Nat.le_of_ble_eq_true rfl, Nat.le_of_ble_eq_true rfl⟩ ⟨Nat.le_of_ble_eq_true rfl, Nat.le_of_ble_eq_true rfl⟩ dSx_least_49 (fun H locs hw hf => ?_)
      refine bif_eq (tgt := 67) S.1 S.2.1 hm dSx_least_52 (by decide) (fun hm => ?_) (fun hm => ?_)
      · refine lv_iconst (v := (-1 : Int32)) S.1 S.2.1 dSx_least_67 (by decide) ?_
        obtain rfl := Option.some.inj hm
        exact sw_iret S hr hlk hw hf dSx_least_68
      · refine lv_aload_n S.1 S.2.1 dSx_least_55 rfl (lv_at hl 1 rfl) ?_
        refine get_Sx (v := .ref (ξ.2.2.2.1 49)) S hw (is_0 hf) 10 (by decide) rfl wf_Sx_64 dSx_least_56 ?_
        refine get_Ro (v := .ref (ξ.2.2.2.1 50)) S hw (is_49 hf) 0 (by decide) rfl wf_Sx_245 dSx_least_59 ?_
        refine lv_iload_n S.1 S.2.1 dSx_least_62 rfl (lv_at hl 2 rfl) ?_
        refine sx_iald S hw (is_50 hf) hm dSx_least_63 (fun v9 hm => ?_)
        refine lv_goto (tgt := 68) S.1 S.2.1 dSx_least_64 (by decide) ?_
        obtain rfl := Option.some.inj hm
        exact sw_iret S hr hlk hw hf dSx_least_68
    · refine lv_iload_n S.1 S.2.1 dSx_least_41 rfl (lv_at hl 0 rfl) ?_
      obtain rfl := Option.some.inj hm
      exact sw_iret S hr hlk hw hf dSx_least_42
set_option maxHeartbeats 4000000 in
set_option maxRecDepth 100000 in
theorem cSx_least (l : Launch) (N : Nat) {Γ : sw_C} {A : Nat → Prop} {ξ : sw_x} {g : sw_g} {μ : sw_m} (hf : sw_wf ξ g.2.2) (a1 : Int32) {res : Int32 × sw_g} (hm : fSx_least N ξ.2.2.1 g a1 = some res) : Met l ySx_least (Cond.code ySx_least prog_1_method_22_code 3 (some .int) :: sw_tb) rmSx_least (va_Pc [.ref (ξ.2.2.2.1 0), .int a1] (sw_V Γ A ξ g μ)) (sw_Qi Γ A ξ res.2 μ res.1 (sw_wf ξ res.2.2.2)) 0 0 A := by
  refine Met.ofW (cc := prog_1_method_22_code) (maxL := 3) (ret := some .int) (by decide) rfl ?_
  intro p e s m args below meth c s₁ B hml hv
  obtain ⟨rfl, hv⟩ := hv
  have S : CallFix p m c prog_1_method_22_code 3 s _ (Cond.code ySx_least prog_1_method_22_code 3 (some .int) :: sw_tb) R_Sx := ⟨B.exec, B.bytes, hml, findClass_of_methodNamed B.named, atoms_spec (ws := (Cond.code ySx_least prog_1_method_22_code 3 (some .int) :: sw_tb)) B.pre⟩
  have hr := B.returns
  have hlk := B.notSynchronized
  have hw := sw_begin hv
  have hl := lv_entry [.ref (ξ.2.2.2.1 0), .int a1] (n := 3) (Nat.le_of_ble_eq_true rfl)
  rw [lg_entry_eq]
  generalize (lg_sl [.ref (ξ.2.2.2.1 0), .int a1] ++ List.replicate (3 - (lg_sl [.ref (ξ.2.2.2.1 0), .int a1]).length) Slot.unset).toArray = ls at hl ⊢
  have hl : lv_has ls 3 [(0, .ref (ξ.2.2.2.1 0)), (1, .int a1)] := hl
  unfold fSx_least at hm
  refine lv_iload_n S.1 S.2.1 dSx_least_0 rfl (lv_at hl 1 rfl) ?_
  refine lv_iconst (v := (-1 : Int32)) S.1 S.2.1 dSx_least_1 (by decide) ?_
  refine bicmp_eq (tgt := 18) S.1 S.2.1 hm dSx_least_2 (by decide) (fun hm => ?_) (fun hm => ?_)
  · exact wSx_least_18 S hr hlk N  g a1 _ _ _ hm hw hf (lv_sub hl [0, 1] rfl)
  · refine lv_aload_n S.1 S.2.1 dSx_least_5 rfl (lv_at hl 0 rfl) ?_
    refine get_Sx (v := .ref (ξ.2.2.2.1 1)) S hw (is_0 hf) 0 (by decide) rfl wf_Sx_12 dSx_least_6 ?_
    refine lv_iload_n S.1 S.2.1 dSx_least_9 rfl (lv_at hl 1 rfl) ?_
    obtain ⟨⟨v12, g11⟩, h10, hm⟩ := ob hm
    refine sw_Vi (q := 1) (rest := []) S hw (cPl_hasClaim l  hf 1 (is_1 hf) a1 h10) kPl_hasClaim wm_Sx_102 (is_1 hf).1 (e_Pl (is_1 hf)) rfl rfl rfl rfl hl.1 (Nat.le_of_ble_eq_true rfl) ⟨rfl, rfl, Nat.le_of_ble_eq_true rfl, Nat.le_of_ble_eq_true rfl⟩ ⟨Nat.le_of_ble_eq_true rfl, Nat.le_of_ble_eq_true rfl⟩ dSx_least_10 (fun H locs hw hf => ?_)
    refine bif_ne (tgt := 18) S.1 S.2.1 hm dSx_least_13 (by decide) (fun hm => ?_) (fun hm => ?_)
    · exact wSx_least_18 S hr hlk N  g11 a1 _ _ _ hm hw hf (lv_sub hl [0, 1] rfl)
    · refine lv_iconst (v := (-1 : Int32)) S.1 S.2.1 dSx_least_16 (by decide) ?_
      obtain rfl := Option.some.inj hm
      exact sw_iret S hr hlk hw hf dSx_least_17
set_option maxHeartbeats 4000000 in
set_option maxRecDepth 100000 in
theorem wSx_moved_25 {l : Launch} {p : Program} {e : Env} {s : State} {m : MethodId} {args : Array Value} {below : List Frame} {meth : Method} {c : Code} {Γ : sw_C} {A : Nat → Prop} {ξ : sw_x} {μ : sw_m} {res : Int32 × sw_g} (S : CallFix p m c prog_1_method_23_code 3 s args (Cond.code ySx_moved prog_1_method_23_code 3 (some .int) :: sw_tb) R_Sx) (hr : meth.sig.returnType = some .int) (hlk : meth.locks = false) (N : Nat) : ∀ (fu : Nat) (g : sw_g) (u1 : Int32) (u2 : Int32) (H : Heap) (locs : List Loc) (ls : Array Slot), fSx_moved_25 N ξ.2.2.1  fu g u1 u2 = some res → sw_S Γ A ξ g μ s H locs → sw_wf ξ g.2.2 → lv_has ls 3 [(0, .ref (ξ.2.2.2.1 0)), (1, .int u1), (2, .int u2)] → W p l e (headSpec (Cond.code ySx_moved prog_1_method_23_code 3 (some .int) :: sw_tb) rmSx_moved).room s m args below meth c H locs 0 0 (MQ below (sw_Qi Γ A ξ res.2 μ res.1 (sw_wf ξ res.2.2.2)) args s 0 0 A) (F0 m 25 ls []) := by
  intro fu
  induction fu with
  | zero => intro g u1 u2 H locs ls hm; rw [fSx_moved_25.eq_1] at hm; cases hm
  | succ fu ih =>
    intro g u1 u2 H locs ls hm hw hf hl
    rw [fSx_moved_25.eq_2] at hm
    refine lv_iload_n S.1 S.2.1 dSx_moved_25 rfl (lv_at hl 2 rfl) ?_
    refine lv_bipush (v := (7 : Int32)) S.1 S.2.1 dSx_moved_26 (by decide) ?_
    refine bicmp_gt (tgt := 76) S.1 S.2.1 hm dSx_moved_28 (by decide) (fun hm => ?_) (fun hm => ?_)
    · refine lv_iconst (v := (-1 : Int32)) S.1 S.2.1 dSx_moved_76 (by decide) ?_
      obtain rfl := Option.some.inj hm
      exact sw_iret S hr hlk hw hf dSx_moved_77
    · refine lv_aload_n S.1 S.2.1 dSx_moved_31 rfl (lv_at hl 0 rfl) ?_
      refine get_Sx (v := .ref (ξ.2.2.2.1 49)) S hw (is_0 hf) 10 (by decide) rfl wf_Sx_64 dSx_moved_32 ?_
      refine lv_iload_n S.1 S.2.1 dSx_moved_35 rfl (lv_at hl 2 rfl) ?_
      refine lv_aload_n S.1 S.2.1 dSx_moved_36 rfl (lv_at hl 0 rfl) ?_
      refine get_Sx (v := .ref (ξ.2.2.2.1 1)) S hw (is_0 hf) 0 (by decide) rfl wf_Sx_12 dSx_moved_37 ?_
      refine get_Pl (v := .ref (ξ.2.2.2.1 5)) S hw (is_1 hf) 4 (by decide) rfl wf_Sx_153 dSx_moved_40 ?_
      refine lv_iconst (v := (3 : Int32)) S.1 S.2.1 dSx_moved_43 (by decide) ?_
      refine sx_iald S hw (is_5 hf) hm dSx_moved_44 (fun v3 hm => ?_)
      obtain ⟨⟨v6, g5⟩, h4, hm⟩ := ob hm
      refine sw_Vi (q := 49) (rest := []) S hw (cRo_finds l N hf u2 v3 h4) kRo_finds wm_Sx_242 (is_49 hf).1 (e_Ro (is_49 hf)) rfl rfl rfl rfl hl.1 (Nat.le_of_ble_eq_true rfl) ⟨rfl, rfl, Nat.le_of_ble_eq_true rfl, Nat.le_of_ble_eq_true rfl⟩ ⟨Nat.le_of_ble_eq_true rfl, Nat.le_of_ble_eq_true rfl⟩ dSx_moved_45 (fun H locs hw hf => ?_)
      refine bif_eq (tgt := 70) S.1 S.2.1 hm dSx_moved_48 (by decide) (fun hm => ?_) (fun hm => ?_)
      · obtain ⟨x7, ex7, hm⟩ := nm_x hm
        refine lv_iinc (v := x7) (lv' := [(2, .int x7), (0, .ref (ξ.2.2.2.1 0)), (1, .int u1)]) S.1 S.2.1 dSx_moved_70 hl (k := 2) rfl (by rw [ex7]; rfl) (by decide) rfl (fun ls hl => ?_)
        refine lv_goto (tgt := 25) S.1 S.2.1 dSx_moved_73 (by decide) ?_
        exact ih g5 u1 x7 _ _ _ hm hw hf (lv_sub hl [1, 2, 0] rfl)
      · refine lv_iload_n S.1 S.2.1 dSx_moved_51 rfl (lv_at hl 1 rfl) ?_
        refine lv_iconst (v := (-1 : Int32)) S.1 S.2.1 dSx_moved_52 (by decide) ?_
        refine bicmp_ne (tgt := 60) S.1 S.2.1 hm dSx_moved_53 (by decide) (fun hm => ?_) (fun hm => ?_)
        · refine lv_aload_n S.1 S.2.1 dSx_moved_60 rfl (lv_at hl 0 rfl) ?_
          refine get_Sx (v := .ref (ξ.2.2.2.1 49)) S hw (is_0 hf) 10 (by decide) rfl wf_Sx_64 dSx_moved_61 ?_
          refine get_Ro (v := .ref (ξ.2.2.2.1 50)) S hw (is_49 hf) 0 (by decide) rfl wf_Sx_245 dSx_moved_64 ?_
          refine lv_iload_n S.1 S.2.1 dSx_moved_67 rfl (lv_at hl 1 rfl) ?_
          refine sx_iald S hw (is_50 hf) hm dSx_moved_68 (fun v8 hm => ?_)
          obtain rfl := Option.some.inj hm
          exact sw_iret S hr hlk hw hf dSx_moved_69
        · refine lv_iload_n S.1 S.2.1 dSx_moved_56 rfl (lv_at hl 2 rfl) ?_
          refine lv_goto (tgt := 69) S.1 S.2.1 dSx_moved_57 (by decide) ?_
          obtain rfl := Option.some.inj hm
          exact sw_iret S hr hlk hw hf dSx_moved_69
set_option maxHeartbeats 4000000 in
set_option maxRecDepth 100000 in
theorem wSx_moved_18 {l : Launch} {p : Program} {e : Env} {s : State} {m : MethodId} {args : Array Value} {below : List Frame} {meth : Method} {c : Code} {Γ : sw_C} {A : Nat → Prop} {ξ : sw_x} {μ : sw_m} {res : Int32 × sw_g} (S : CallFix p m c prog_1_method_23_code 3 s args (Cond.code ySx_moved prog_1_method_23_code 3 (some .int) :: sw_tb) R_Sx) (hr : meth.sig.returnType = some .int) (hlk : meth.locks = false) (N : Nat) : ∀ (g : sw_g) (u1 : Int32) (H : Heap) (locs : List Loc) (ls : Array Slot), fSx_moved_18 N ξ.2.2.1  g u1 = some res → sw_S Γ A ξ g μ s H locs → sw_wf ξ g.2.2 → lv_has ls 3 [(0, .ref (ξ.2.2.2.1 0)), (1, .int u1)] → W p l e (headSpec (Cond.code ySx_moved prog_1_method_23_code 3 (some .int) :: sw_tb) rmSx_moved).room s m args below meth c H locs 0 0 (MQ below (sw_Qi Γ A ξ res.2 μ res.1 (sw_wf ξ res.2.2.2)) args s 0 0 A) (F0 m 18 ls []) := by
  intro g u1 H locs ls hm hw hf hl
  unfold fSx_moved_18 at hm
  refine lv_aload_n S.1 S.2.1 dSx_moved_18 rfl (lv_at hl 0 rfl) ?_
  refine lv_iconst (v := (1 : Int32)) S.1 S.2.1 dSx_moved_19 (by decide) ?_
  obtain ⟨g2, h1, hm⟩ := ob hm
  refine sw_Vv (q := 0) (rest := []) S hw (cSx_offerPlaces l N hf (1 : Int32) h1) kSx_offerPlaces wm_Sx_235 (is_0 hf).1 (e_Sx (is_0 hf)) rfl rfl rfl rfl hl.1 (Nat.le_of_ble_eq_true rfl) ⟨rfl, rfl, Nat.le_of_ble_eq_true rfl, Nat.le_of_ble_eq_true rfl⟩ ⟨Nat.le_of_ble_eq_true rfl, Nat.le_of_ble_eq_true rfl⟩ dSx_moved_20 (fun H locs hw hf => ?_)
  refine lv_iconst (v := (0 : Int32)) S.1 S.2.1 dSx_moved_23 (by decide) ?_
  refine lv_istore_n (lv' := [(2, .int (0 : Int32)), (0, .ref (ξ.2.2.2.1 0)), (1, .int u1)]) S.1 S.2.1 dSx_moved_24 rfl hl (by decide) rfl (fun ls hl => ?_)
  exact wSx_moved_25 S hr hlk N  N g2 u1 (0 : Int32) _ _ _ hm hw hf (lv_sub hl [1, 2, 0] rfl)
set_option maxHeartbeats 4000000 in
set_option maxRecDepth 100000 in
theorem cSx_moved (l : Launch) (N : Nat) {Γ : sw_C} {A : Nat → Prop} {ξ : sw_x} {g : sw_g} {μ : sw_m} (hf : sw_wf ξ g.2.2) (a1 : Int32) {res : Int32 × sw_g} (hm : fSx_moved N ξ.2.2.1 g a1 = some res) : Met l ySx_moved (Cond.code ySx_moved prog_1_method_23_code 3 (some .int) :: sw_tb) rmSx_moved (va_Pc [.ref (ξ.2.2.2.1 0), .int a1] (sw_V Γ A ξ g μ)) (sw_Qi Γ A ξ res.2 μ res.1 (sw_wf ξ res.2.2.2)) 0 0 A := by
  refine Met.ofW (cc := prog_1_method_23_code) (maxL := 3) (ret := some .int) (by decide) rfl ?_
  intro p e s m args below meth c s₁ B hml hv
  obtain ⟨rfl, hv⟩ := hv
  have S : CallFix p m c prog_1_method_23_code 3 s _ (Cond.code ySx_moved prog_1_method_23_code 3 (some .int) :: sw_tb) R_Sx := ⟨B.exec, B.bytes, hml, findClass_of_methodNamed B.named, atoms_spec (ws := (Cond.code ySx_moved prog_1_method_23_code 3 (some .int) :: sw_tb)) B.pre⟩
  have hr := B.returns
  have hlk := B.notSynchronized
  have hw := sw_begin hv
  have hl := lv_entry [.ref (ξ.2.2.2.1 0), .int a1] (n := 3) (Nat.le_of_ble_eq_true rfl)
  rw [lg_entry_eq]
  generalize (lg_sl [.ref (ξ.2.2.2.1 0), .int a1] ++ List.replicate (3 - (lg_sl [.ref (ξ.2.2.2.1 0), .int a1]).length) Slot.unset).toArray = ls at hl ⊢
  have hl : lv_has ls 3 [(0, .ref (ξ.2.2.2.1 0)), (1, .int a1)] := hl
  unfold fSx_moved at hm
  refine lv_iload_n S.1 S.2.1 dSx_moved_0 rfl (lv_at hl 1 rfl) ?_
  refine lv_iconst (v := (-1 : Int32)) S.1 S.2.1 dSx_moved_1 (by decide) ?_
  refine bicmp_eq (tgt := 18) S.1 S.2.1 hm dSx_moved_2 (by decide) (fun hm => ?_) (fun hm => ?_)
  · exact wSx_moved_18 S hr hlk N  g a1 _ _ _ hm hw hf (lv_sub hl [0, 1] rfl)
  · refine lv_aload_n S.1 S.2.1 dSx_moved_5 rfl (lv_at hl 0 rfl) ?_
    refine get_Sx (v := .ref (ξ.2.2.2.1 1)) S hw (is_0 hf) 0 (by decide) rfl wf_Sx_12 dSx_moved_6 ?_
    refine lv_iload_n S.1 S.2.1 dSx_moved_9 rfl (lv_at hl 1 rfl) ?_
    obtain ⟨⟨v11, g10⟩, h9, hm⟩ := ob hm
    refine sw_Vi (q := 1) (rest := []) S hw (cPl_hasClaim l  hf 1 (is_1 hf) a1 h9) kPl_hasClaim wm_Sx_102 (is_1 hf).1 (e_Pl (is_1 hf)) rfl rfl rfl rfl hl.1 (Nat.le_of_ble_eq_true rfl) ⟨rfl, rfl, Nat.le_of_ble_eq_true rfl, Nat.le_of_ble_eq_true rfl⟩ ⟨Nat.le_of_ble_eq_true rfl, Nat.le_of_ble_eq_true rfl⟩ dSx_moved_10 (fun H locs hw hf => ?_)
    refine bif_ne (tgt := 18) S.1 S.2.1 hm dSx_moved_13 (by decide) (fun hm => ?_) (fun hm => ?_)
    · exact wSx_moved_18 S hr hlk N  g10 a1 _ _ _ hm hw hf (lv_sub hl [0, 1] rfl)
    · refine lv_iconst (v := (-1 : Int32)) S.1 S.2.1 dSx_moved_16 (by decide) ?_
      obtain rfl := Option.some.inj hm
      exact sw_iret S hr hlk hw hf dSx_moved_17
