set_option maxHeartbeats 4000000 in
set_option maxRecDepth 100000 in
theorem cIn_bitCount (l : Launch) {Γ : sw_C} {A : Nat → Prop} {ξ : sw_x} {g : sw_g} {μ : sw_m} (hf : sw_wf ξ g.2.2) (a1 : Int32) {res : Int32} (hm : fIn_bitCount a1 = some res) : Met l yIn_bitCount (Cond.code yIn_bitCount prog_11_method_49_code 1 (some .int) :: sw_tb) rmIn_bitCount (va_Pc [.int a1] (sw_V Γ A ξ g μ)) (sw_Qi Γ A ξ g μ res (True)) 0 0 A := by
  refine Met.ofW (cc := prog_11_method_49_code) (maxL := 1) (ret := some .int) (by decide) rfl ?_
  intro p e s m args below meth c s₁ B hml hv
  obtain ⟨rfl, hv⟩ := hv
  have S : CallFix p m c prog_11_method_49_code 1 s _ (Cond.code yIn_bitCount prog_11_method_49_code 1 (some .int) :: sw_tb) R_In := ⟨B.exec, B.bytes, hml, findClass_of_methodNamed B.named, atoms_spec (ws := (Cond.code yIn_bitCount prog_11_method_49_code 1 (some .int) :: sw_tb)) B.pre⟩
  have hr := B.returns
  have hlk := B.notSynchronized
  have hw := sw_begin hv
  have hl := lv_entry [.int a1] (n := 1) (Nat.le_of_ble_eq_true rfl)
  rw [lg_entry_eq]
  generalize (lg_sl [.int a1] ++ List.replicate (1 - (lg_sl [.int a1]).length) Slot.unset).toArray = ls at hl ⊢
  have hl : lv_has ls 1 [(0, .int a1)] := hl
  unfold fIn_bitCount at hm
  refine lv_iload_n S.1 S.2.1 dIn_bitCount_0 rfl (lv_at hl 0 rfl) ?_
  refine lv_iload_n S.1 S.2.1 dIn_bitCount_1 rfl (lv_at hl 0 rfl) ?_
  refine lv_iconst (v := (1 : Int32)) S.1 S.2.1 dIn_bitCount_2 (by decide) ?_
  refine lv_iushr (v := (a1.toUInt32 >>> ((1 : Int32).toUInt32 &&& Int32.toUInt32 31)).toInt32) S.1 S.2.1 dIn_bitCount_3 rfl ?_
  refine lv_ldcw S.1 S.2.1 S.2.2.2.1 (sw_word S wc_In_265) dIn_bitCount_4 ?_
  refine lv_iand S.1 S.2.1 dIn_bitCount_7 ?_
  refine lv_isub S.1 S.2.1 dIn_bitCount_8 ?_
  refine nm_i hm (fun x1 hm => ?_)
  refine lv_istore_n (lv' := [(0, .int x1)]) S.1 S.2.1 dIn_bitCount_9 rfl hl (by decide) rfl (fun ls hl => ?_)
  refine lv_iload_n S.1 S.2.1 dIn_bitCount_10 rfl (lv_at hl 0 rfl) ?_
  refine lv_ldcw S.1 S.2.1 S.2.2.2.1 (sw_word S wc_In_266) dIn_bitCount_11 ?_
  refine lv_iand S.1 S.2.1 dIn_bitCount_14 ?_
  refine lv_iload_n S.1 S.2.1 dIn_bitCount_15 rfl (lv_at hl 0 rfl) ?_
  refine lv_iconst (v := (2 : Int32)) S.1 S.2.1 dIn_bitCount_16 (by decide) ?_
  refine lv_iushr (v := (x1.toUInt32 >>> ((2 : Int32).toUInt32 &&& Int32.toUInt32 31)).toInt32) S.1 S.2.1 dIn_bitCount_17 rfl ?_
  refine lv_ldcw S.1 S.2.1 S.2.2.2.1 (sw_word S wc_In_266) dIn_bitCount_18 ?_
  refine lv_iand S.1 S.2.1 dIn_bitCount_21 ?_
  refine lv_iadd S.1 S.2.1 dIn_bitCount_22 ?_
  refine nm_i hm (fun x2 hm => ?_)
  refine lv_istore_n (lv' := [(0, .int x2)]) S.1 S.2.1 dIn_bitCount_23 rfl hl (by decide) rfl (fun ls hl => ?_)
  refine lv_iload_n S.1 S.2.1 dIn_bitCount_24 rfl (lv_at hl 0 rfl) ?_
  refine lv_iload_n S.1 S.2.1 dIn_bitCount_25 rfl (lv_at hl 0 rfl) ?_
  refine lv_iconst (v := (4 : Int32)) S.1 S.2.1 dIn_bitCount_26 (by decide) ?_
  refine lv_iushr (v := (x2.toUInt32 >>> ((4 : Int32).toUInt32 &&& Int32.toUInt32 31)).toInt32) S.1 S.2.1 dIn_bitCount_27 rfl ?_
  refine lv_iadd S.1 S.2.1 dIn_bitCount_28 ?_
  refine lv_ldcw S.1 S.2.1 S.2.2.2.1 (sw_word S wc_In_267) dIn_bitCount_29 ?_
  refine lv_iand S.1 S.2.1 dIn_bitCount_32 ?_
  refine nm_i hm (fun x3 hm => ?_)
  refine lv_istore_n (lv' := [(0, .int x3)]) S.1 S.2.1 dIn_bitCount_33 rfl hl (by decide) rfl (fun ls hl => ?_)
  refine lv_iload_n S.1 S.2.1 dIn_bitCount_34 rfl (lv_at hl 0 rfl) ?_
  refine lv_iload_n S.1 S.2.1 dIn_bitCount_35 rfl (lv_at hl 0 rfl) ?_
  refine lv_bipush (v := (8 : Int32)) S.1 S.2.1 dIn_bitCount_36 (by decide) ?_
  refine lv_iushr (v := (x3.toUInt32 >>> ((8 : Int32).toUInt32 &&& Int32.toUInt32 31)).toInt32) S.1 S.2.1 dIn_bitCount_38 rfl ?_
  refine lv_iadd S.1 S.2.1 dIn_bitCount_39 ?_
  refine nm_i hm (fun x4 hm => ?_)
  refine lv_istore_n (lv' := [(0, .int x4)]) S.1 S.2.1 dIn_bitCount_40 rfl hl (by decide) rfl (fun ls hl => ?_)
  refine lv_iload_n S.1 S.2.1 dIn_bitCount_41 rfl (lv_at hl 0 rfl) ?_
  refine lv_iload_n S.1 S.2.1 dIn_bitCount_42 rfl (lv_at hl 0 rfl) ?_
  refine lv_bipush (v := (16 : Int32)) S.1 S.2.1 dIn_bitCount_43 (by decide) ?_
  refine lv_iushr (v := (x4.toUInt32 >>> ((16 : Int32).toUInt32 &&& Int32.toUInt32 31)).toInt32) S.1 S.2.1 dIn_bitCount_45 rfl ?_
  refine lv_iadd S.1 S.2.1 dIn_bitCount_46 ?_
  refine nm_i hm (fun x5 hm => ?_)
  refine lv_istore_n (lv' := [(0, .int x5)]) S.1 S.2.1 dIn_bitCount_47 rfl hl (by decide) rfl (fun ls hl => ?_)
  refine lv_iload_n S.1 S.2.1 dIn_bitCount_48 rfl (lv_at hl 0 rfl) ?_
  refine lv_bipush (v := (63 : Int32)) S.1 S.2.1 dIn_bitCount_49 (by decide) ?_
  refine lv_iand S.1 S.2.1 dIn_bitCount_51 ?_
  obtain rfl := Option.some.inj hm
  exact sw_iret S hr hlk hw trivial dIn_bitCount_52
set_option maxHeartbeats 4000000 in
set_option maxRecDepth 100000 in
theorem wAr_fill_5 {l : Launch} {p : Program} {e : Env} {s : State} {m : MethodId} {args : Array Value} {below : List Frame} {meth : Method} {c : Code} {Γ : sw_C} {A : Nat → Prop} {ξ : sw_x} {μ : sw_m} {res : sw_g} (S : CallFix p m c prog_17_method_103_code 4 s args (Cond.code yAr_fill prog_17_method_103_code 4 (none) :: sw_tb) R_Ar) (hr : meth.sig.returnType = none) (hlk : meth.locks = false) (q1 : Nat) (n1 : Nat) (hq1 : sw_is ξ q1 10 n1) (N : Nat) : ∀ (fu : Nat) (g : sw_g) (u1 : Int32) (u2 : Int32) (u3 : Int32) (H : Heap) (locs : List Loc) (ls : Array Slot), fAr_fill_5 N ξ.2.2.1 q1 n1  fu g u1 u2 u3 = some res → sw_S Γ A ξ g μ s H locs → sw_wf ξ g.2.2 → lv_has ls 4 [(0, .ref (ξ.2.2.2.1 q1)), (1, .int u1), (2, .int u2), (3, .int u3)] → W p l e (headSpec (Cond.code yAr_fill prog_17_method_103_code 4 (none) :: sw_tb) rmAr_fill).room s m args below meth c H locs 0 0 (MQ below (sw_Qv Γ A ξ res μ (sw_wf ξ res.2.2)) args s 0 0 A) (F0 m 5 ls []) := by
  intro fu
  induction fu with
  | zero => intro g u1 u2 u3 H locs ls hm; rw [fAr_fill_5.eq_1] at hm; cases hm
  | succ fu ih =>
    intro g u1 u2 u3 H locs ls hm hw hf hl
    rw [fAr_fill_5.eq_2] at hm
    refine lv_iload_n S.1 S.2.1 dAr_fill_5 rfl (lv_at hl 2 rfl) ?_
    refine lv_iload_n S.1 S.2.1 dAr_fill_6 rfl (lv_at hl 3 rfl) ?_
    refine bicmp_ge (tgt := 20) S.1 S.2.1 hm dAr_fill_7 (by decide) (fun hm => ?_) (fun hm => ?_)
    · obtain rfl := Option.some.inj hm
      exact sw_vret S hr hlk hw hf dAr_fill_20
    · refine lv_aload_n S.1 S.2.1 dAr_fill_10 rfl (lv_at hl 0 rfl) ?_
      refine lv_iload_n S.1 S.2.1 dAr_fill_11 rfl (lv_at hl 2 rfl) ?_
      refine lv_iload_n S.1 S.2.1 dAr_fill_12 rfl (lv_at hl 1 rfl) ?_
      refine sx_iast S hw hf hq1 hm dAr_fill_13 (fun g2 H locs hf hm hw => ?_)
      obtain ⟨x3, ex3, hm⟩ := nm_x hm
      refine lv_iinc (v := x3) (lv' := [(2, .int x3), (0, .ref (ξ.2.2.2.1 q1)), (1, .int u1), (3, .int u3)]) S.1 S.2.1 dAr_fill_14 hl (k := 2) rfl (by rw [ex3]; rfl) (by decide) rfl (fun ls hl => ?_)
      refine lv_goto (tgt := 5) S.1 S.2.1 dAr_fill_17 (by decide) ?_
      exact ih g2 u1 x3 u3 _ _ _ hm hw hf (lv_sub hl [1, 2, 0, 3] rfl)
set_option maxHeartbeats 4000000 in
set_option maxRecDepth 100000 in
theorem cAr_fill (l : Launch) (N : Nat) {Γ : sw_C} {A : Nat → Prop} {ξ : sw_x} {g : sw_g} {μ : sw_m} (hf : sw_wf ξ g.2.2) (q1 : Nat) (n1 : Nat) (hq1 : sw_is ξ q1 10 n1) (a2 : Int32) {res : sw_g} (hm : fAr_fill N ξ.2.2.1 g q1 n1 a2 = some res) : Met l yAr_fill (Cond.code yAr_fill prog_17_method_103_code 4 (none) :: sw_tb) rmAr_fill (va_Pc [.ref (ξ.2.2.2.1 q1), .int a2] (sw_V Γ A ξ g μ)) (sw_Qv Γ A ξ res μ (sw_wf ξ res.2.2)) 0 0 A := by
  refine Met.ofW (cc := prog_17_method_103_code) (maxL := 4) (ret := none) (by decide) rfl ?_
  intro p e s m args below meth c s₁ B hml hv
  obtain ⟨rfl, hv⟩ := hv
  have S : CallFix p m c prog_17_method_103_code 4 s _ (Cond.code yAr_fill prog_17_method_103_code 4 (none) :: sw_tb) R_Ar := ⟨B.exec, B.bytes, hml, findClass_of_methodNamed B.named, atoms_spec (ws := (Cond.code yAr_fill prog_17_method_103_code 4 (none) :: sw_tb)) B.pre⟩
  have hr := B.returns
  have hlk := B.notSynchronized
  have hw := sw_begin hv
  have hl := lv_entry [.ref (ξ.2.2.2.1 q1), .int a2] (n := 4) (Nat.le_of_ble_eq_true rfl)
  rw [lg_entry_eq]
  generalize (lg_sl [.ref (ξ.2.2.2.1 q1), .int a2] ++ List.replicate (4 - (lg_sl [.ref (ξ.2.2.2.1 q1), .int a2]).length) Slot.unset).toArray = ls at hl ⊢
  have hl : lv_has ls 4 [(0, .ref (ξ.2.2.2.1 q1)), (1, .int a2)] := hl
  unfold fAr_fill at hm
  refine lv_iconst (v := (0 : Int32)) S.1 S.2.1 dAr_fill_0 (by decide) ?_
  refine lv_istore_n (lv' := [(2, .int (0 : Int32)), (0, .ref (ξ.2.2.2.1 q1)), (1, .int a2)]) S.1 S.2.1 dAr_fill_1 rfl hl (by decide) rfl (fun ls hl => ?_)
  refine lv_aload_n S.1 S.2.1 dAr_fill_2 rfl (lv_at hl 1 rfl) ?_
  refine sx_ilen (v := (Int32.ofNat n1)) S hw hq1 rfl dAr_fill_3 ?_
  refine nm_i hm (fun x1 hm => ?_)
  refine lv_istore_n (lv' := [(3, .int x1), (2, .int (0 : Int32)), (0, .ref (ξ.2.2.2.1 q1)), (1, .int a2)]) S.1 S.2.1 dAr_fill_4 rfl hl (by decide) rfl (fun ls hl => ?_)
  exact wAr_fill_5 S hr hlk q1 n1 hq1 N  N g a2 (0 : Int32) x1 _ _ _ hm hw hf (lv_sub hl [2, 3, 1, 0] rfl)
set_option maxHeartbeats 4000000 in
set_option maxRecDepth 100000 in
theorem cPl_hasClaim (l : Launch) {Γ : sw_C} {A : Nat → Prop} {ξ : sw_x} {g : sw_g} {μ : sw_m} (hf : sw_wf ξ g.2.2) (q0 : Nat) (h0 : sw_ik ξ q0 3) (a1 : Int32) {res : Int32 × sw_g} (hm : fPl_hasClaim ξ.2.2.1 g q0 a1 = some res) : Met l yPl_hasClaim (Cond.code yPl_hasClaim prog_4_method_2_code 2 (some .boolean) :: sw_tb) rmPl_hasClaim (va_Pc [.ref (ξ.2.2.2.1 q0), .int a1] (sw_V Γ A ξ g μ)) (sw_Qi Γ A ξ res.2 μ res.1 (sw_wf ξ res.2.2.2)) 0 0 A := by
  refine Met.ofW (cc := prog_4_method_2_code) (maxL := 2) (ret := some .boolean) (by decide) rfl ?_
  intro p e s m args below meth c s₁ B hml hv
  obtain ⟨rfl, hv⟩ := hv
  have S : CallFix p m c prog_4_method_2_code 2 s _ (Cond.code yPl_hasClaim prog_4_method_2_code 2 (some .boolean) :: sw_tb) R_Pl := ⟨B.exec, B.bytes, hml, findClass_of_methodNamed B.named, atoms_spec (ws := (Cond.code yPl_hasClaim prog_4_method_2_code 2 (some .boolean) :: sw_tb)) B.pre⟩
  have hr := B.returns
  have hlk := B.notSynchronized
  have hw := sw_begin hv
  have hl := lv_entry [.ref (ξ.2.2.2.1 q0), .int a1] (n := 2) (Nat.le_of_ble_eq_true rfl)
  rw [lg_entry_eq]
  generalize (lg_sl [.ref (ξ.2.2.2.1 q0), .int a1] ++ List.replicate (2 - (lg_sl [.ref (ξ.2.2.2.1 q0), .int a1]).length) Slot.unset).toArray = ls at hl ⊢
  have hl : lv_has ls 2 [(0, .ref (ξ.2.2.2.1 q0)), (1, .int a1)] := hl
  unfold fPl_hasClaim at hm
  refine lv_iload_n S.1 S.2.1 dPl_hasClaim_0 rfl (lv_at hl 1 rfl) ?_
  refine bif_lt (tgt := 22) S.1 S.2.1 hm dPl_hasClaim_1 (by decide) (fun hm => ?_) (fun hm => ?_)
  · refine lv_iconst (v := (0 : Int32)) S.1 S.2.1 dPl_hasClaim_22 (by decide) ?_
    obtain rfl := Option.some.inj hm
    exact sw_zret S hr hlk (Or.inl rfl) hw hf dPl_hasClaim_23
  · refine lv_iload_n S.1 S.2.1 dPl_hasClaim_4 rfl (lv_at hl 1 rfl) ?_
    refine lv_aload_n S.1 S.2.1 dPl_hasClaim_5 rfl (lv_at hl 0 rfl) ?_
    refine get_Pl (v := .int (g.1 q0 0)) S hw h0 0 (by decide) rfl wf_Pl_43 dPl_hasClaim_6 ?_
    refine bicmp_ge (tgt := 22) S.1 S.2.1 hm dPl_hasClaim_9 (by decide) (fun hm => ?_) (fun hm => ?_)
    · refine lv_iconst (v := (0 : Int32)) S.1 S.2.1 dPl_hasClaim_22 (by decide) ?_
      obtain rfl := Option.some.inj hm
      exact sw_zret S hr hlk (Or.inl rfl) hw hf dPl_hasClaim_23
    · refine lv_iload_n S.1 S.2.1 dPl_hasClaim_12 rfl (lv_at hl 1 rfl) ?_
      refine lv_bipush (v := (7 : Int32)) S.1 S.2.1 dPl_hasClaim_13 (by decide) ?_
      refine bicmp_ge (tgt := 22) S.1 S.2.1 hm dPl_hasClaim_15 (by decide) (fun hm => ?_) (fun hm => ?_)
      · refine lv_iconst (v := (0 : Int32)) S.1 S.2.1 dPl_hasClaim_22 (by decide) ?_
        obtain rfl := Option.some.inj hm
        exact sw_zret S hr hlk (Or.inl rfl) hw hf dPl_hasClaim_23
      · refine lv_iconst (v := (1 : Int32)) S.1 S.2.1 dPl_hasClaim_18 (by decide) ?_
        refine lv_goto (tgt := 23) S.1 S.2.1 dPl_hasClaim_19 (by decide) ?_
        obtain rfl := Option.some.inj hm
        exact sw_zret S hr hlk (Or.inr rfl) hw hf dPl_hasClaim_23
set_option maxHeartbeats 4000000 in
set_option maxRecDepth 100000 in
theorem cPl_isOn (l : Launch) {Γ : sw_C} {A : Nat → Prop} {ξ : sw_x} {g : sw_g} {μ : sw_m} (hf : sw_wf ξ g.2.2) (q0 : Nat) (h0 : sw_ik ξ q0 3) (a1 : Int32) {res : Int32 × sw_g} (hm : fPl_isOn ξ.2.2.1 g q0 a1 = some res) : Met l yPl_isOn (Cond.code yPl_isOn prog_4_method_3_code 2 (some .boolean) :: sw_tb) rmPl_isOn (va_Pc [.ref (ξ.2.2.2.1 q0), .int a1] (sw_V Γ A ξ g μ)) (sw_Qi Γ A ξ res.2 μ res.1 (sw_wf ξ res.2.2.2)) 0 0 A := by
  refine Met.ofW (cc := prog_4_method_3_code) (maxL := 2) (ret := some .boolean) (by decide) rfl ?_
  intro p e s m args below meth c s₁ B hml hv
  obtain ⟨rfl, hv⟩ := hv
  have S : CallFix p m c prog_4_method_3_code 2 s _ (Cond.code yPl_isOn prog_4_method_3_code 2 (some .boolean) :: sw_tb) R_Pl := ⟨B.exec, B.bytes, hml, findClass_of_methodNamed B.named, atoms_spec (ws := (Cond.code yPl_isOn prog_4_method_3_code 2 (some .boolean) :: sw_tb)) B.pre⟩
  have hr := B.returns
  have hlk := B.notSynchronized
  have hw := sw_begin hv
  have hl := lv_entry [.ref (ξ.2.2.2.1 q0), .int a1] (n := 2) (Nat.le_of_ble_eq_true rfl)
  rw [lg_entry_eq]
  generalize (lg_sl [.ref (ξ.2.2.2.1 q0), .int a1] ++ List.replicate (2 - (lg_sl [.ref (ξ.2.2.2.1 q0), .int a1]).length) Slot.unset).toArray = ls at hl ⊢
  have hl : lv_has ls 2 [(0, .ref (ξ.2.2.2.1 q0)), (1, .int a1)] := hl
  unfold fPl_isOn at hm
  refine lv_aload_n S.1 S.2.1 dPl_isOn_0 rfl (lv_at hl 0 rfl) ?_
  refine lv_iload_n S.1 S.2.1 dPl_isOn_1 rfl (lv_at hl 1 rfl) ?_
  obtain ⟨⟨v3, g2⟩, h1, hm⟩ := ob hm
  refine sw_Vi (q := q0) (rest := []) S hw (cPl_hasClaim l  hf q0 h0 a1 h1) kPl_hasClaim wm_Pl_46 h0.1 (e_Pl h0) rfl rfl rfl rfl hl.1 (Nat.le_of_ble_eq_true rfl) ⟨rfl, rfl, Nat.le_of_ble_eq_true rfl, Nat.le_of_ble_eq_true rfl⟩ ⟨Nat.le_of_ble_eq_true rfl, Nat.le_of_ble_eq_true rfl⟩ dPl_isOn_2 (fun H locs hw hf => ?_)
  refine bif_eq (tgt := 22) S.1 S.2.1 hm dPl_isOn_5 (by decide) (fun hm => ?_) (fun hm => ?_)
  · refine lv_iconst (v := (0 : Int32)) S.1 S.2.1 dPl_isOn_22 (by decide) ?_
    obtain rfl := Option.some.inj hm
    exact sw_zret S hr hlk (Or.inl rfl) hw hf dPl_isOn_23
  · refine lv_aload_n S.1 S.2.1 dPl_isOn_8 rfl (lv_at hl 0 rfl) ?_
    refine get_Pl (v := .ref (ξ.2.2.2.1 (q0 + 3))) S hw h0 3 (by decide) rfl wf_Pl_18 dPl_isOn_9 ?_
    refine lv_iload_n S.1 S.2.1 dPl_isOn_12 rfl (lv_at hl 1 rfl) ?_
    refine sx_iald S hw (is_Pl_place hf h0) hm dPl_isOn_13 (fun v4 hm => ?_)
    refine lv_iconst (v := (-1 : Int32)) S.1 S.2.1 dPl_isOn_14 (by decide) ?_
    refine bicmp_eq (tgt := 22) S.1 S.2.1 hm dPl_isOn_15 (by decide) (fun hm => ?_) (fun hm => ?_)
    · refine lv_iconst (v := (0 : Int32)) S.1 S.2.1 dPl_isOn_22 (by decide) ?_
      obtain rfl := Option.some.inj hm
      exact sw_zret S hr hlk (Or.inl rfl) hw hf dPl_isOn_23
    · refine lv_iconst (v := (1 : Int32)) S.1 S.2.1 dPl_isOn_18 (by decide) ?_
      refine lv_goto (tgt := 23) S.1 S.2.1 dPl_isOn_19 (by decide) ?_
      obtain rfl := Option.some.inj hm
      exact sw_zret S hr hlk (Or.inr rfl) hw hf dPl_isOn_23
set_option maxHeartbeats 4000000 in
set_option maxRecDepth 100000 in
theorem cPl_hasLaw (l : Launch) {Γ : sw_C} {A : Nat → Prop} {ξ : sw_x} {g : sw_g} {μ : sw_m} (hf : sw_wf ξ g.2.2) (q0 : Nat) (h0 : sw_ik ξ q0 3) (a1 : Int32) {res : Int32 × sw_g} (hm : fPl_hasLaw ξ.2.2.1 g q0 a1 = some res) : Met l yPl_hasLaw (Cond.code yPl_hasLaw prog_4_method_4_code 2 (some .boolean) :: sw_tb) rmPl_hasLaw (va_Pc [.ref (ξ.2.2.2.1 q0), .int a1] (sw_V Γ A ξ g μ)) (sw_Qi Γ A ξ res.2 μ res.1 (sw_wf ξ res.2.2.2)) 0 0 A := by
  refine Met.ofW (cc := prog_4_method_4_code) (maxL := 2) (ret := some .boolean) (by decide) rfl ?_
  intro p e s m args below meth c s₁ B hml hv
  obtain ⟨rfl, hv⟩ := hv
  have S : CallFix p m c prog_4_method_4_code 2 s _ (Cond.code yPl_hasLaw prog_4_method_4_code 2 (some .boolean) :: sw_tb) R_Pl := ⟨B.exec, B.bytes, hml, findClass_of_methodNamed B.named, atoms_spec (ws := (Cond.code yPl_hasLaw prog_4_method_4_code 2 (some .boolean) :: sw_tb)) B.pre⟩
  have hr := B.returns
  have hlk := B.notSynchronized
  have hw := sw_begin hv
  have hl := lv_entry [.ref (ξ.2.2.2.1 q0), .int a1] (n := 2) (Nat.le_of_ble_eq_true rfl)
  rw [lg_entry_eq]
  generalize (lg_sl [.ref (ξ.2.2.2.1 q0), .int a1] ++ List.replicate (2 - (lg_sl [.ref (ξ.2.2.2.1 q0), .int a1]).length) Slot.unset).toArray = ls at hl ⊢
  have hl : lv_has ls 2 [(0, .ref (ξ.2.2.2.1 q0)), (1, .int a1)] := hl
  unfold fPl_hasLaw at hm
  refine lv_iload_n S.1 S.2.1 dPl_hasLaw_0 rfl (lv_at hl 1 rfl) ?_
  refine bif_lt (tgt := 22) S.1 S.2.1 hm dPl_hasLaw_1 (by decide) (fun hm => ?_) (fun hm => ?_)
  · refine lv_iconst (v := (0 : Int32)) S.1 S.2.1 dPl_hasLaw_22 (by decide) ?_
    obtain rfl := Option.some.inj hm
    exact sw_zret S hr hlk (Or.inl rfl) hw hf dPl_hasLaw_23
  · refine lv_iload_n S.1 S.2.1 dPl_hasLaw_4 rfl (lv_at hl 1 rfl) ?_
    refine lv_aload_n S.1 S.2.1 dPl_hasLaw_5 rfl (lv_at hl 0 rfl) ?_
    refine get_Pl (v := .int (g.1 q0 9)) S hw h0 9 (by decide) rfl wf_Pl_50 dPl_hasLaw_6 ?_
    refine bicmp_ge (tgt := 22) S.1 S.2.1 hm dPl_hasLaw_9 (by decide) (fun hm => ?_) (fun hm => ?_)
    · refine lv_iconst (v := (0 : Int32)) S.1 S.2.1 dPl_hasLaw_22 (by decide) ?_
      obtain rfl := Option.some.inj hm
      exact sw_zret S hr hlk (Or.inl rfl) hw hf dPl_hasLaw_23
    · refine lv_iload_n S.1 S.2.1 dPl_hasLaw_12 rfl (lv_at hl 1 rfl) ?_
      refine lv_bipush (v := (6 : Int32)) S.1 S.2.1 dPl_hasLaw_13 (by decide) ?_
      refine bicmp_ge (tgt := 22) S.1 S.2.1 hm dPl_hasLaw_15 (by decide) (fun hm => ?_) (fun hm => ?_)
      · refine lv_iconst (v := (0 : Int32)) S.1 S.2.1 dPl_hasLaw_22 (by decide) ?_
        obtain rfl := Option.some.inj hm
        exact sw_zret S hr hlk (Or.inl rfl) hw hf dPl_hasLaw_23
      · refine lv_iconst (v := (1 : Int32)) S.1 S.2.1 dPl_hasLaw_18 (by decide) ?_
        refine lv_goto (tgt := 23) S.1 S.2.1 dPl_hasLaw_19 (by decide) ?_
        obtain rfl := Option.some.inj hm
        exact sw_zret S hr hlk (Or.inr rfl) hw hf dPl_hasLaw_23
set_option maxHeartbeats 4000000 in
set_option maxRecDepth 100000 in
theorem cPl_textOf (l : Launch) {Γ : sw_C} {A : Nat → Prop} {ξ : sw_x} {g : sw_g} {μ : sw_m} (hf : sw_wf ξ g.2.2) (q0 : Nat) (h0 : sw_ik ξ q0 3) (a1 : Int32) {res : Option Nat × sw_g} (hm : fPl_textOf ξ.2.2.1 g q0 a1 = some res) : Met l yPl_textOf (Cond.code yPl_textOf prog_4_method_5_code 2 (some (.object "SeeSaws$Text")) :: sw_tb) rmPl_textOf (va_Pc [.ref (ξ.2.2.2.1 q0), .int a1] (sw_V Γ A ξ g μ)) (sw_Qq Γ A ξ res.2 μ (Option.map ξ.2.2.2.1 res.1) (sw_wf ξ res.2.2.2 ∧ ∀ q, res.1 = some q → sw_ik ξ q 7)) 0 0 A := by
  refine Met.ofW (cc := prog_4_method_5_code) (maxL := 2) (ret := some (.object "SeeSaws$Text")) (by decide) rfl ?_
  intro p e s m args below meth c s₁ B hml hv
  obtain ⟨rfl, hv⟩ := hv
  have S : CallFix p m c prog_4_method_5_code 2 s _ (Cond.code yPl_textOf prog_4_method_5_code 2 (some (.object "SeeSaws$Text")) :: sw_tb) R_Pl := ⟨B.exec, B.bytes, hml, findClass_of_methodNamed B.named, atoms_spec (ws := (Cond.code yPl_textOf prog_4_method_5_code 2 (some (.object "SeeSaws$Text")) :: sw_tb)) B.pre⟩
  have hr := B.returns
  have hlk := B.notSynchronized
  have hw := sw_begin hv
  have hl := lv_entry [.ref (ξ.2.2.2.1 q0), .int a1] (n := 2) (Nat.le_of_ble_eq_true rfl)
  rw [lg_entry_eq]
  generalize (lg_sl [.ref (ξ.2.2.2.1 q0), .int a1] ++ List.replicate (2 - (lg_sl [.ref (ξ.2.2.2.1 q0), .int a1]).length) Slot.unset).toArray = ls at hl ⊢
  have hl : lv_has ls 2 [(0, .ref (ξ.2.2.2.1 q0)), (1, .int a1)] := hl
  unfold fPl_textOf at hm
  refine lv_aload_n S.1 S.2.1 dPl_textOf_0 rfl (lv_at hl 0 rfl) ?_
  refine lv_iload_n S.1 S.2.1 dPl_textOf_1 rfl (lv_at hl 1 rfl) ?_
  obtain ⟨⟨v3, g2⟩, h1, hm⟩ := ob hm
  refine sw_Vi (q := q0) (rest := []) S hw (cPl_hasLaw l  hf q0 h0 a1 h1) kPl_hasLaw wm_Pl_53 h0.1 (e_Pl h0) rfl rfl rfl rfl hl.1 (Nat.le_of_ble_eq_true rfl) ⟨rfl, rfl, Nat.le_of_ble_eq_true rfl, Nat.le_of_ble_eq_true rfl⟩ ⟨Nat.le_of_ble_eq_true rfl, Nat.le_of_ble_eq_true rfl⟩ dPl_textOf_2 (fun H locs hw hf => ?_)
  refine bif_eq (tgt := 17) S.1 S.2.1 hm dPl_textOf_5 (by decide) (fun hm => ?_) (fun hm => ?_)
  · refine lv_null S.1 S.2.1 dPl_textOf_17 ?_
    obtain rfl := Option.some.inj hm
    exact sw_qret (t := none) S hr hlk hw ⟨hf, fun q hq => by cases hq⟩ dPl_textOf_18
  · refine lv_aload_n S.1 S.2.1 dPl_textOf_8 rfl (lv_at hl 0 rfl) ?_
    refine get_Pl (v := .ref (ξ.2.2.2.1 (q0 + 8))) S hw h0 10 (by decide) rfl wf_Pl_35 dPl_textOf_9 ?_
    refine lv_iload_n S.1 S.2.1 dPl_textOf_12 rfl (lv_at hl 1 rfl) ?_
    refine sx_tald S hw (is_Pl_texts hf h0) hm dPl_textOf_13 (fun jt4 t4 et4 hm => ?_)
    cases t4 with
    | none =>
      refine W.eq (g2 := F0 m 14 ls [.null]) rfl ?_
      refine lv_goto (tgt := 18) S.1 S.2.1 dPl_textOf_14 (by decide) ?_
      obtain rfl := Option.some.inj hm
      exact sw_qret (t := none) S hr hlk hw ⟨hf, fun q hq => by cases hq⟩ dPl_textOf_18
    | some p5 =>
      have hp5 : sw_ik ξ p5 7 := hf.2.2.2.2.1 _ _ _ ⟨(is_Pl_texts hf h0).1, (is_Pl_texts hf h0).2.1⟩ et4
      refine W.eq (g2 := F0 m 14 ls [.ref (ξ.2.2.2.1 p5)]) rfl ?_
      refine lv_goto (tgt := 18) S.1 S.2.1 dPl_textOf_14 (by decide) ?_
      obtain rfl := Option.some.inj hm
      exact sw_qret (t := some p5) S hr hlk hw ⟨hf, fun q hq => by cases hq; exact hp5⟩ dPl_textOf_18
set_option maxHeartbeats 4000000 in
set_option maxRecDepth 100000 in
theorem wPl_onBits_4 {l : Launch} {p : Program} {e : Env} {s : State} {m : MethodId} {args : Array Value} {below : List Frame} {meth : Method} {c : Code} {Γ : sw_C} {A : Nat → Prop} {ξ : sw_x} {μ : sw_m} {res : Int32 × sw_g} (S : CallFix p m c prog_4_method_6_code 3 s args (Cond.code yPl_onBits prog_4_method_6_code 3 (some .int) :: sw_tb) R_Pl) (hr : meth.sig.returnType = some .int) (hlk : meth.locks = false) (q0 : Nat) (h0 : sw_ik ξ q0 3) (N : Nat) : ∀ (fu : Nat) (g : sw_g) (u1 : Int32) (u2 : Int32) (H : Heap) (locs : List Loc) (ls : Array Slot), fPl_onBits_4 N ξ.2.2.1 q0  fu g u1 u2 = some res → sw_S Γ A ξ g μ s H locs → sw_wf ξ g.2.2 → lv_has ls 3 [(0, .ref (ξ.2.2.2.1 q0)), (1, .int u1), (2, .int u2)] → W p l e (headSpec (Cond.code yPl_onBits prog_4_method_6_code 3 (some .int) :: sw_tb) rmPl_onBits).room s m args below meth c H locs 0 0 (MQ below (sw_Qi Γ A ξ res.2 μ res.1 (sw_wf ξ res.2.2.2)) args s 0 0 A) (F0 m 4 ls []) := by
  intro fu
  induction fu with
  | zero => intro g u1 u2 H locs ls hm; rw [fPl_onBits_4.eq_1] at hm; cases hm
  | succ fu ih =>
    intro g u1 u2 H locs ls hm hw hf hl
    rw [fPl_onBits_4.eq_2] at hm
    refine lv_iload_n S.1 S.2.1 dPl_onBits_4 rfl (lv_at hl 2 rfl) ?_
    refine lv_bipush (v := (7 : Int32)) S.1 S.2.1 dPl_onBits_5 (by decide) ?_
    refine bicmp_ge (tgt := 30) S.1 S.2.1 hm dPl_onBits_7 (by decide) (fun hm => ?_) (fun hm => ?_)
    · refine lv_iload_n S.1 S.2.1 dPl_onBits_30 rfl (lv_at hl 1 rfl) ?_
      obtain rfl := Option.some.inj hm
      exact sw_iret S hr hlk hw hf dPl_onBits_31
    · refine lv_aload_n S.1 S.2.1 dPl_onBits_10 rfl (lv_at hl 0 rfl) ?_
      refine lv_iload_n S.1 S.2.1 dPl_onBits_11 rfl (lv_at hl 2 rfl) ?_
      obtain ⟨⟨v3, g2⟩, h1, hm⟩ := ob hm
      refine sw_Vi (q := q0) (rest := []) S hw (cPl_isOn l  hf q0 h0 u2 h1) kPl_isOn wm_Pl_56 h0.1 (e_Pl h0) rfl rfl rfl rfl hl.1 (Nat.le_of_ble_eq_true rfl) ⟨rfl, rfl, Nat.le_of_ble_eq_true rfl, Nat.le_of_ble_eq_true rfl⟩ ⟨Nat.le_of_ble_eq_true rfl, Nat.le_of_ble_eq_true rfl⟩ dPl_onBits_12 (fun H locs hw hf => ?_)
      refine bif_eq (tgt := 24) S.1 S.2.1 hm dPl_onBits_15 (by decide) (fun hm => ?_) (fun hm => ?_)
      · obtain ⟨x4, ex4, hm⟩ := nm_x hm
        refine lv_iinc (v := x4) (lv' := [(2, .int x4), (0, .ref (ξ.2.2.2.1 q0)), (1, .int u1)]) S.1 S.2.1 dPl_onBits_24 hl (k := 2) rfl (by rw [ex4]; rfl) (by decide) rfl (fun ls hl => ?_)
        refine lv_goto (tgt := 4) S.1 S.2.1 dPl_onBits_27 (by decide) ?_
        exact ih g2 u1 x4 _ _ _ hm hw hf (lv_sub hl [1, 2, 0] rfl)
      · refine lv_iload_n S.1 S.2.1 dPl_onBits_18 rfl (lv_at hl 1 rfl) ?_
        refine lv_iconst (v := (1 : Int32)) S.1 S.2.1 dPl_onBits_19 (by decide) ?_
        refine lv_iload_n S.1 S.2.1 dPl_onBits_20 rfl (lv_at hl 2 rfl) ?_
        refine lv_ishl S.1 S.2.1 dPl_onBits_21 ?_
        refine lv_ior S.1 S.2.1 dPl_onBits_22 ?_
        refine nm_i hm (fun x5 hm => ?_)
        refine lv_istore_n (lv' := [(1, .int x5), (0, .ref (ξ.2.2.2.1 q0)), (2, .int u2)]) S.1 S.2.1 dPl_onBits_23 rfl hl (by decide) rfl (fun ls hl => ?_)
        obtain ⟨x6, ex6, hm⟩ := nm_x hm
        refine lv_iinc (v := x6) (lv' := [(2, .int x6), (1, .int x5), (0, .ref (ξ.2.2.2.1 q0))]) S.1 S.2.1 dPl_onBits_24 hl (k := 2) rfl (by rw [ex6]; rfl) (by decide) rfl (fun ls hl => ?_)
        refine lv_goto (tgt := 4) S.1 S.2.1 dPl_onBits_27 (by decide) ?_
        exact ih g2 x5 x6 _ _ _ hm hw hf (lv_sub hl [2, 1, 0] rfl)
set_option maxHeartbeats 4000000 in
set_option maxRecDepth 100000 in
theorem cPl_onBits (l : Launch) (N : Nat) {Γ : sw_C} {A : Nat → Prop} {ξ : sw_x} {g : sw_g} {μ : sw_m} (hf : sw_wf ξ g.2.2) (q0 : Nat) (h0 : sw_ik ξ q0 3) {res : Int32 × sw_g} (hm : fPl_onBits N ξ.2.2.1 g q0 = some res) : Met l yPl_onBits (Cond.code yPl_onBits prog_4_method_6_code 3 (some .int) :: sw_tb) rmPl_onBits (va_Pc [.ref (ξ.2.2.2.1 q0)] (sw_V Γ A ξ g μ)) (sw_Qi Γ A ξ res.2 μ res.1 (sw_wf ξ res.2.2.2)) 0 0 A := by
  refine Met.ofW (cc := prog_4_method_6_code) (maxL := 3) (ret := some .int) (by decide) rfl ?_
  intro p e s m args below meth c s₁ B hml hv
  obtain ⟨rfl, hv⟩ := hv
  have S : CallFix p m c prog_4_method_6_code 3 s _ (Cond.code yPl_onBits prog_4_method_6_code 3 (some .int) :: sw_tb) R_Pl := ⟨B.exec, B.bytes, hml, findClass_of_methodNamed B.named, atoms_spec (ws := (Cond.code yPl_onBits prog_4_method_6_code 3 (some .int) :: sw_tb)) B.pre⟩
  have hr := B.returns
  have hlk := B.notSynchronized
  have hw := sw_begin hv
  have hl := lv_entry [.ref (ξ.2.2.2.1 q0)] (n := 3) (Nat.le_of_ble_eq_true rfl)
  rw [lg_entry_eq]
  generalize (lg_sl [.ref (ξ.2.2.2.1 q0)] ++ List.replicate (3 - (lg_sl [.ref (ξ.2.2.2.1 q0)]).length) Slot.unset).toArray = ls at hl ⊢
  have hl : lv_has ls 3 [(0, .ref (ξ.2.2.2.1 q0))] := hl
  unfold fPl_onBits at hm
  refine lv_iconst (v := (0 : Int32)) S.1 S.2.1 dPl_onBits_0 (by decide) ?_
  refine lv_istore_n (lv' := [(1, .int (0 : Int32)), (0, .ref (ξ.2.2.2.1 q0))]) S.1 S.2.1 dPl_onBits_1 rfl hl (by decide) rfl (fun ls hl => ?_)
  refine lv_iconst (v := (0 : Int32)) S.1 S.2.1 dPl_onBits_2 (by decide) ?_
  refine lv_istore_n (lv' := [(2, .int (0 : Int32)), (1, .int (0 : Int32)), (0, .ref (ξ.2.2.2.1 q0))]) S.1 S.2.1 dPl_onBits_3 rfl hl (by decide) rfl (fun ls hl => ?_)
  exact wPl_onBits_4 S hr hlk q0 h0 N  N g (0 : Int32) (0 : Int32) _ _ _ hm hw hf (lv_sub hl [2, 1, 0] rfl)
set_option maxHeartbeats 4000000 in
set_option maxRecDepth 100000 in
theorem wPl_heavyOfAll_4 {l : Launch} {p : Program} {e : Env} {s : State} {m : MethodId} {args : Array Value} {below : List Frame} {meth : Method} {c : Code} {Γ : sw_C} {A : Nat → Prop} {ξ : sw_x} {μ : sw_m} {res : Int32 × sw_g} (S : CallFix p m c prog_4_method_7_code 3 s args (Cond.code yPl_heavyOfAll prog_4_method_7_code 3 (some .int) :: sw_tb) R_Pl) (hr : meth.sig.returnType = some .int) (hlk : meth.locks = false) (q0 : Nat) (h0 : sw_ik ξ q0 3) (N : Nat) : ∀ (fu : Nat) (g : sw_g) (u1 : Int32) (u2 : Int32) (H : Heap) (locs : List Loc) (ls : Array Slot), fPl_heavyOfAll_4 N ξ.2.2.1 q0  fu g u1 u2 = some res → sw_S Γ A ξ g μ s H locs → sw_wf ξ g.2.2 → lv_has ls 3 [(0, .ref (ξ.2.2.2.1 q0)), (1, .int u1), (2, .int u2)] → W p l e (headSpec (Cond.code yPl_heavyOfAll prog_4_method_7_code 3 (some .int) :: sw_tb) rmPl_heavyOfAll).room s m args below meth c H locs 0 0 (MQ below (sw_Qi Γ A ξ res.2 μ res.1 (sw_wf ξ res.2.2.2)) args s 0 0 A) (F0 m 4 ls []) := by
  intro fu
  induction fu with
  | zero => intro g u1 u2 H locs ls hm; rw [fPl_heavyOfAll_4.eq_1] at hm; cases hm
  | succ fu ih =>
    intro g u1 u2 H locs ls hm hw hf hl
    rw [fPl_heavyOfAll_4.eq_2] at hm
    refine lv_iload_n S.1 S.2.1 dPl_heavyOfAll_4 rfl (lv_at hl 2 rfl) ?_
    refine lv_bipush (v := (7 : Int32)) S.1 S.2.1 dPl_heavyOfAll_5 (by decide) ?_
    refine bicmp_ge (tgt := 37) S.1 S.2.1 hm dPl_heavyOfAll_7 (by decide) (fun hm => ?_) (fun hm => ?_)
    · refine lv_iload_n S.1 S.2.1 dPl_heavyOfAll_37 rfl (lv_at hl 1 rfl) ?_
      obtain rfl := Option.some.inj hm
      exact sw_iret S hr hlk hw hf dPl_heavyOfAll_38
    · refine lv_iload_n S.1 S.2.1 dPl_heavyOfAll_10 rfl (lv_at hl 1 rfl) ?_
      refine lv_aload_n S.1 S.2.1 dPl_heavyOfAll_11 rfl (lv_at hl 0 rfl) ?_
      refine lv_iload_n S.1 S.2.1 dPl_heavyOfAll_12 rfl (lv_at hl 2 rfl) ?_
      obtain ⟨⟨v3, g2⟩, h1, hm⟩ := ob hm
      refine sw_Vi (q := q0) (rest := [.int u1]) S hw (cPl_hasClaim l  hf q0 h0 u2 h1) kPl_hasClaim wm_Pl_46 h0.1 (e_Pl h0) rfl rfl rfl rfl hl.1 (Nat.le_of_ble_eq_true rfl) ⟨rfl, rfl, Nat.le_of_ble_eq_true rfl, Nat.le_of_ble_eq_true rfl⟩ ⟨Nat.le_of_ble_eq_true rfl, Nat.le_of_ble_eq_true rfl⟩ dPl_heavyOfAll_13 (fun H locs hw hf => ?_)
      refine bif_eq (tgt := 28) S.1 S.2.1 hm dPl_heavyOfAll_16 (by decide) (fun hm => ?_) (fun hm => ?_)
      · refine lv_iconst (v := (0 : Int32)) S.1 S.2.1 dPl_heavyOfAll_28 (by decide) ?_
        refine lv_iadd S.1 S.2.1 dPl_heavyOfAll_29 ?_
        refine nm_i hm (fun x4 hm => ?_)
        refine lv_istore_n (lv' := [(1, .int x4), (0, .ref (ξ.2.2.2.1 q0)), (2, .int u2)]) S.1 S.2.1 dPl_heavyOfAll_30 rfl hl (by decide) rfl (fun ls hl => ?_)
        obtain ⟨x5, ex5, hm⟩ := nm_x hm
        refine lv_iinc (v := x5) (lv' := [(2, .int x5), (1, .int x4), (0, .ref (ξ.2.2.2.1 q0))]) S.1 S.2.1 dPl_heavyOfAll_31 hl (k := 2) rfl (by rw [ex5]; rfl) (by decide) rfl (fun ls hl => ?_)
        refine lv_goto (tgt := 4) S.1 S.2.1 dPl_heavyOfAll_34 (by decide) ?_
        exact ih g2 x4 x5 _ _ _ hm hw hf (lv_sub hl [2, 1, 0] rfl)
      · refine lv_aload_n S.1 S.2.1 dPl_heavyOfAll_19 rfl (lv_at hl 0 rfl) ?_
        refine get_Pl (v := .ref (ξ.2.2.2.1 (q0 + 1))) S hw h0 1 (by decide) rfl wf_Pl_9 dPl_heavyOfAll_20 ?_
        refine lv_iload_n S.1 S.2.1 dPl_heavyOfAll_23 rfl (lv_at hl 2 rfl) ?_
        refine sx_iald S hw (is_Pl_heavy hf h0) hm dPl_heavyOfAll_24 (fun v6 hm => ?_)
        refine lv_goto (tgt := 29) S.1 S.2.1 dPl_heavyOfAll_25 (by decide) ?_
        refine lv_iadd S.1 S.2.1 dPl_heavyOfAll_29 ?_
        refine nm_i hm (fun x7 hm => ?_)
        refine lv_istore_n (lv' := [(1, .int x7), (0, .ref (ξ.2.2.2.1 q0)), (2, .int u2)]) S.1 S.2.1 dPl_heavyOfAll_30 rfl hl (by decide) rfl (fun ls hl => ?_)
        obtain ⟨x8, ex8, hm⟩ := nm_x hm
        refine lv_iinc (v := x8) (lv' := [(2, .int x8), (1, .int x7), (0, .ref (ξ.2.2.2.1 q0))]) S.1 S.2.1 dPl_heavyOfAll_31 hl (k := 2) rfl (by rw [ex8]; rfl) (by decide) rfl (fun ls hl => ?_)
        refine lv_goto (tgt := 4) S.1 S.2.1 dPl_heavyOfAll_34 (by decide) ?_
        exact ih g2 x7 x8 _ _ _ hm hw hf (lv_sub hl [2, 1, 0] rfl)
set_option maxHeartbeats 4000000 in
set_option maxRecDepth 100000 in
theorem cPl_heavyOfAll (l : Launch) (N : Nat) {Γ : sw_C} {A : Nat → Prop} {ξ : sw_x} {g : sw_g} {μ : sw_m} (hf : sw_wf ξ g.2.2) (q0 : Nat) (h0 : sw_ik ξ q0 3) {res : Int32 × sw_g} (hm : fPl_heavyOfAll N ξ.2.2.1 g q0 = some res) : Met l yPl_heavyOfAll (Cond.code yPl_heavyOfAll prog_4_method_7_code 3 (some .int) :: sw_tb) rmPl_heavyOfAll (va_Pc [.ref (ξ.2.2.2.1 q0)] (sw_V Γ A ξ g μ)) (sw_Qi Γ A ξ res.2 μ res.1 (sw_wf ξ res.2.2.2)) 0 0 A := by
  refine Met.ofW (cc := prog_4_method_7_code) (maxL := 3) (ret := some .int) (by decide) rfl ?_
  intro p e s m args below meth c s₁ B hml hv
  obtain ⟨rfl, hv⟩ := hv
  have S : CallFix p m c prog_4_method_7_code 3 s _ (Cond.code yPl_heavyOfAll prog_4_method_7_code 3 (some .int) :: sw_tb) R_Pl := ⟨B.exec, B.bytes, hml, findClass_of_methodNamed B.named, atoms_spec (ws := (Cond.code yPl_heavyOfAll prog_4_method_7_code 3 (some .int) :: sw_tb)) B.pre⟩
  have hr := B.returns
  have hlk := B.notSynchronized
  have hw := sw_begin hv
  have hl := lv_entry [.ref (ξ.2.2.2.1 q0)] (n := 3) (Nat.le_of_ble_eq_true rfl)
  rw [lg_entry_eq]
  generalize (lg_sl [.ref (ξ.2.2.2.1 q0)] ++ List.replicate (3 - (lg_sl [.ref (ξ.2.2.2.1 q0)]).length) Slot.unset).toArray = ls at hl ⊢
  have hl : lv_has ls 3 [(0, .ref (ξ.2.2.2.1 q0))] := hl
  unfold fPl_heavyOfAll at hm
  refine lv_iconst (v := (0 : Int32)) S.1 S.2.1 dPl_heavyOfAll_0 (by decide) ?_
  refine lv_istore_n (lv' := [(1, .int (0 : Int32)), (0, .ref (ξ.2.2.2.1 q0))]) S.1 S.2.1 dPl_heavyOfAll_1 rfl hl (by decide) rfl (fun ls hl => ?_)
  refine lv_iconst (v := (0 : Int32)) S.1 S.2.1 dPl_heavyOfAll_2 (by decide) ?_
  refine lv_istore_n (lv' := [(2, .int (0 : Int32)), (1, .int (0 : Int32)), (0, .ref (ξ.2.2.2.1 q0))]) S.1 S.2.1 dPl_heavyOfAll_3 rfl hl (by decide) rfl (fun ls hl => ?_)
  exact wPl_heavyOfAll_4 S hr hlk q0 h0 N  N g (0 : Int32) (0 : Int32) _ _ _ hm hw hf (lv_sub hl [2, 1, 0] rfl)
set_option maxHeartbeats 4000000 in
set_option maxRecDepth 100000 in
theorem cPl_addClaim (l : Launch) {Γ : sw_C} {A : Nat → Prop} {ξ : sw_x} {g : sw_g} {μ : sw_m} (hf : sw_wf ξ g.2.2) (q0 : Nat) (h0 : sw_ik ξ q0 3) (a1 : Int32) (a2 : Int32) {res : Int32 × sw_g} (hm : fPl_addClaim ξ.2.2.1 g q0 a1 a2 = some res) : Met l yPl_addClaim (Cond.code yPl_addClaim prog_4_method_8_code 3 (some .int) :: sw_tb) rmPl_addClaim (va_Pc [.ref (ξ.2.2.2.1 q0), .int a1, .int a2] (sw_V Γ A ξ g μ)) (sw_Qi Γ A ξ res.2 μ res.1 (sw_wf ξ res.2.2.2)) 0 0 A := by
  refine Met.ofW (cc := prog_4_method_8_code) (maxL := 3) (ret := some .int) (by decide) rfl ?_
  intro p e s m args below meth c s₁ B hml hv
  obtain ⟨rfl, hv⟩ := hv
  have S : CallFix p m c prog_4_method_8_code 3 s _ (Cond.code yPl_addClaim prog_4_method_8_code 3 (some .int) :: sw_tb) R_Pl := ⟨B.exec, B.bytes, hml, findClass_of_methodNamed B.named, atoms_spec (ws := (Cond.code yPl_addClaim prog_4_method_8_code 3 (some .int) :: sw_tb)) B.pre⟩
  have hr := B.returns
  have hlk := B.notSynchronized
  have hw := sw_begin hv
  have hl := lv_entry [.ref (ξ.2.2.2.1 q0), .int a1, .int a2] (n := 3) (Nat.le_of_ble_eq_true rfl)
  rw [lg_entry_eq]
  generalize (lg_sl [.ref (ξ.2.2.2.1 q0), .int a1, .int a2] ++ List.replicate (3 - (lg_sl [.ref (ξ.2.2.2.1 q0), .int a1, .int a2]).length) Slot.unset).toArray = ls at hl ⊢
  have hl : lv_has ls 3 [(0, .ref (ξ.2.2.2.1 q0)), (1, .int a1), (2, .int a2)] := hl
  unfold fPl_addClaim at hm
  refine lv_aload_n S.1 S.2.1 dPl_addClaim_0 rfl (lv_at hl 0 rfl) ?_
  refine get_Pl (v := .int (g.1 q0 0)) S hw h0 0 (by decide) rfl wf_Pl_43 dPl_addClaim_1 ?_
  refine lv_bipush (v := (7 : Int32)) S.1 S.2.1 dPl_addClaim_4 (by decide) ?_
  refine bicmp_lt (tgt := 11) S.1 S.2.1 hm dPl_addClaim_6 (by decide) (fun hm => ?_) (fun hm => ?_)
  · refine lv_aload_n S.1 S.2.1 dPl_addClaim_11 rfl (lv_at hl 0 rfl) ?_
    refine get_Pl (v := .ref (ξ.2.2.2.1 (q0 + 1))) S hw h0 1 (by decide) rfl wf_Pl_9 dPl_addClaim_12 ?_
    refine lv_aload_n S.1 S.2.1 dPl_addClaim_15 rfl (lv_at hl 0 rfl) ?_
    refine get_Pl (v := .int (g.1 q0 0)) S hw h0 0 (by decide) rfl wf_Pl_43 dPl_addClaim_16 ?_
    refine lv_iload_n S.1 S.2.1 dPl_addClaim_19 rfl (lv_at hl 1 rfl) ?_
    refine sx_iast S hw hf (is_Pl_heavy hf h0) hm dPl_addClaim_20 (fun g1 H locs hf hm hw => ?_)
    refine lv_aload_n S.1 S.2.1 dPl_addClaim_21 rfl (lv_at hl 0 rfl) ?_
    refine get_Pl (v := .ref (ξ.2.2.2.1 (q0 + 2))) S hw h0 2 (by decide) rfl wf_Pl_15 dPl_addClaim_22 ?_
    refine lv_aload_n S.1 S.2.1 dPl_addClaim_25 rfl (lv_at hl 0 rfl) ?_
    refine get_Pl (v := .int (g1.1 q0 0)) S hw h0 0 (by decide) rfl wf_Pl_43 dPl_addClaim_26 ?_
    refine lv_iload_n S.1 S.2.1 dPl_addClaim_29 rfl (lv_at hl 2 rfl) ?_
    refine sx_iast S hw hf (is_Pl_kind hf h0) hm dPl_addClaim_30 (fun g2 H locs hf hm hw => ?_)
    refine lv_aload_n S.1 S.2.1 dPl_addClaim_31 rfl (lv_at hl 0 rfl) ?_
    refine get_Pl (v := .ref (ξ.2.2.2.1 (q0 + 3))) S hw h0 3 (by decide) rfl wf_Pl_18 dPl_addClaim_32 ?_
    refine lv_aload_n S.1 S.2.1 dPl_addClaim_35 rfl (lv_at hl 0 rfl) ?_
    refine get_Pl (v := .int (g2.1 q0 0)) S hw h0 0 (by decide) rfl wf_Pl_43 dPl_addClaim_36 ?_
    refine lv_iconst (v := (-1 : Int32)) S.1 S.2.1 dPl_addClaim_39 (by decide) ?_
    refine sx_iast S hw hf (is_Pl_place hf h0) hm dPl_addClaim_40 (fun g3 H locs hf hm hw => ?_)
    refine lv_aload_n S.1 S.2.1 dPl_addClaim_41 rfl (lv_at hl 0 rfl) ?_
    refine lv_dup S.1 S.2.1 dPl_addClaim_42 rfl ?_
    refine get_Pl (v := .int (g3.1 q0 0)) S hw h0 0 (by decide) rfl wf_Pl_43 dPl_addClaim_43 ?_
    refine lv_iconst (v := (1 : Int32)) S.1 S.2.1 dPl_addClaim_46 (by decide) ?_
    refine lv_iadd S.1 S.2.1 dPl_addClaim_47 ?_
    refine put_Pl S hw hf h0 0 (by decide) ps_Pl_0 rfl rfl rfl wf_Pl_43 hm dPl_addClaim_48 (fun g4 H locs hf hm hw => ?_)
    refine lv_aload_n S.1 S.2.1 dPl_addClaim_51 rfl (lv_at hl 0 rfl) ?_
    refine get_Pl (v := .int (g4.1 q0 0)) S hw h0 0 (by decide) rfl wf_Pl_43 dPl_addClaim_52 ?_
    refine lv_iconst (v := (1 : Int32)) S.1 S.2.1 dPl_addClaim_55 (by decide) ?_
    refine lv_isub S.1 S.2.1 dPl_addClaim_56 ?_
    obtain rfl := Option.some.inj hm
    exact sw_iret S hr hlk hw hf dPl_addClaim_57
  · refine lv_iconst (v := (-1 : Int32)) S.1 S.2.1 dPl_addClaim_9 (by decide) ?_
    obtain rfl := Option.some.inj hm
    exact sw_iret S hr hlk hw hf dPl_addClaim_10
set_option maxHeartbeats 4000000 in
set_option maxRecDepth 100000 in
theorem cPl_addLaw (l : Launch) {Γ : sw_C} {A : Nat → Prop} {ξ : sw_x} {g : sw_g} {μ : sw_m} (hf : sw_wf ξ g.2.2) (q0 : Nat) (q1 : Nat) (h0 : sw_ik ξ q0 3) (hq1 : sw_ik ξ q1 7) {res : Int32 × sw_g} (hm : fPl_addLaw ξ.2.2.1 g q0 q1 = some res) : Met l yPl_addLaw (Cond.code yPl_addLaw prog_4_method_9_code 2 (some .int) :: sw_tb) rmPl_addLaw (va_Pc [.ref (ξ.2.2.2.1 q0), .ref (ξ.2.2.2.1 q1)] (sw_V Γ A ξ g μ)) (sw_Qi Γ A ξ res.2 μ res.1 (sw_wf ξ res.2.2.2)) 0 0 A := by
  refine Met.ofW (cc := prog_4_method_9_code) (maxL := 2) (ret := some .int) (by decide) rfl ?_
  intro p e s m args below meth c s₁ B hml hv
  obtain ⟨rfl, hv⟩ := hv
  have S : CallFix p m c prog_4_method_9_code 2 s _ (Cond.code yPl_addLaw prog_4_method_9_code 2 (some .int) :: sw_tb) R_Pl := ⟨B.exec, B.bytes, hml, findClass_of_methodNamed B.named, atoms_spec (ws := (Cond.code yPl_addLaw prog_4_method_9_code 2 (some .int) :: sw_tb)) B.pre⟩
  have hr := B.returns
  have hlk := B.notSynchronized
  have hw := sw_begin hv
  have hl := lv_entry [.ref (ξ.2.2.2.1 q0), .ref (ξ.2.2.2.1 q1)] (n := 2) (Nat.le_of_ble_eq_true rfl)
  rw [lg_entry_eq]
  generalize (lg_sl [.ref (ξ.2.2.2.1 q0), .ref (ξ.2.2.2.1 q1)] ++ List.replicate (2 - (lg_sl [.ref (ξ.2.2.2.1 q0), .ref (ξ.2.2.2.1 q1)]).length) Slot.unset).toArray = ls at hl ⊢
  have hl : lv_has ls 2 [(0, .ref (ξ.2.2.2.1 q0)), (1, .ref (ξ.2.2.2.1 q1))] := hl
  unfold fPl_addLaw at hm
  refine lv_aload_n S.1 S.2.1 dPl_addLaw_0 rfl (lv_at hl 0 rfl) ?_
  refine get_Pl (v := .int (g.1 q0 9)) S hw h0 9 (by decide) rfl wf_Pl_50 dPl_addLaw_1 ?_
  refine lv_bipush (v := (6 : Int32)) S.1 S.2.1 dPl_addLaw_4 (by decide) ?_
  refine bicmp_lt (tgt := 11) S.1 S.2.1 hm dPl_addLaw_6 (by decide) (fun hm => ?_) (fun hm => ?_)
  · refine lv_aload_n S.1 S.2.1 dPl_addLaw_11 rfl (lv_at hl 0 rfl) ?_
    refine get_Pl (v := .ref (ξ.2.2.2.1 (q0 + 8))) S hw h0 10 (by decide) rfl wf_Pl_35 dPl_addLaw_12 ?_
    refine lv_aload_n S.1 S.2.1 dPl_addLaw_15 rfl (lv_at hl 0 rfl) ?_
    refine get_Pl (v := .int (g.1 q0 9)) S hw h0 9 (by decide) rfl wf_Pl_50 dPl_addLaw_16 ?_
    refine lv_aload_n S.1 S.2.1 dPl_addLaw_19 rfl (lv_at hl 1 rfl) ?_
    refine sx_tast S hw hf (is_Pl_texts hf h0) hq1 hm dPl_addLaw_20 (fun g1 H locs hf hm hw => ?_)
    refine lv_aload_n S.1 S.2.1 dPl_addLaw_21 rfl (lv_at hl 0 rfl) ?_
    refine lv_dup S.1 S.2.1 dPl_addLaw_22 rfl ?_
    refine get_Pl (v := .int (g1.1 q0 9)) S hw h0 9 (by decide) rfl wf_Pl_50 dPl_addLaw_23 ?_
    refine lv_iconst (v := (1 : Int32)) S.1 S.2.1 dPl_addLaw_26 (by decide) ?_
    refine lv_iadd S.1 S.2.1 dPl_addLaw_27 ?_
    refine put_Pl S hw hf h0 9 (by decide) ps_Pl_9 rfl rfl rfl wf_Pl_50 hm dPl_addLaw_28 (fun g2 H locs hf hm hw => ?_)
    refine lv_aload_n S.1 S.2.1 dPl_addLaw_31 rfl (lv_at hl 0 rfl) ?_
    refine get_Pl (v := .int (g2.1 q0 9)) S hw h0 9 (by decide) rfl wf_Pl_50 dPl_addLaw_32 ?_
    refine lv_iconst (v := (1 : Int32)) S.1 S.2.1 dPl_addLaw_35 (by decide) ?_
    refine lv_isub S.1 S.2.1 dPl_addLaw_36 ?_
    obtain rfl := Option.some.inj hm
    exact sw_iret S hr hlk hw hf dPl_addLaw_37
  · refine lv_iconst (v := (-1 : Int32)) S.1 S.2.1 dPl_addLaw_9 (by decide) ?_
    obtain rfl := Option.some.inj hm
    exact sw_iret S hr hlk hw hf dPl_addLaw_10
set_option maxHeartbeats 4000000 in
set_option maxRecDepth 100000 in
theorem cPl_addWeighing (l : Launch) {Γ : sw_C} {A : Nat → Prop} {ξ : sw_x} {g : sw_g} {μ : sw_m} (hf : sw_wf ξ g.2.2) (q0 : Nat) (h0 : sw_ik ξ q0 3) (a1 : Int32) (a2 : Int32) (a3 : Int32) {res : Int32 × sw_g} (hm : fPl_addWeighing ξ.2.2.1 g q0 a1 a2 a3 = some res) : Met l yPl_addWeighing (Cond.code yPl_addWeighing prog_4_method_10_code 4 (some .int) :: sw_tb) rmPl_addWeighing (va_Pc [.ref (ξ.2.2.2.1 q0), .int a1, .int a2, .int a3] (sw_V Γ A ξ g μ)) (sw_Qi Γ A ξ res.2 μ res.1 (sw_wf ξ res.2.2.2)) 0 0 A := by
  refine Met.ofW (cc := prog_4_method_10_code) (maxL := 4) (ret := some .int) (by decide) rfl ?_
  intro p e s m args below meth c s₁ B hml hv
  obtain ⟨rfl, hv⟩ := hv
  have S : CallFix p m c prog_4_method_10_code 4 s _ (Cond.code yPl_addWeighing prog_4_method_10_code 4 (some .int) :: sw_tb) R_Pl := ⟨B.exec, B.bytes, hml, findClass_of_methodNamed B.named, atoms_spec (ws := (Cond.code yPl_addWeighing prog_4_method_10_code 4 (some .int) :: sw_tb)) B.pre⟩
  have hr := B.returns
  have hlk := B.notSynchronized
  have hw := sw_begin hv
  have hl := lv_entry [.ref (ξ.2.2.2.1 q0), .int a1, .int a2, .int a3] (n := 4) (Nat.le_of_ble_eq_true rfl)
  rw [lg_entry_eq]
  generalize (lg_sl [.ref (ξ.2.2.2.1 q0), .int a1, .int a2, .int a3] ++ List.replicate (4 - (lg_sl [.ref (ξ.2.2.2.1 q0), .int a1, .int a2, .int a3]).length) Slot.unset).toArray = ls at hl ⊢
  have hl : lv_has ls 4 [(0, .ref (ξ.2.2.2.1 q0)), (1, .int a1), (2, .int a2), (3, .int a3)] := hl
  unfold fPl_addWeighing at hm
  refine lv_aload_n S.1 S.2.1 dPl_addWeighing_0 rfl (lv_at hl 0 rfl) ?_
  refine get_Pl (v := .int (g.1 q0 5)) S hw h0 5 (by decide) rfl wf_Pl_59 dPl_addWeighing_1 ?_
  refine lv_bipush (v := (6 : Int32)) S.1 S.2.1 dPl_addWeighing_4 (by decide) ?_
  refine bicmp_ge (tgt := 49) S.1 S.2.1 hm dPl_addWeighing_6 (by decide) (fun hm => ?_) (fun hm => ?_)
  · refine lv_aload_n S.1 S.2.1 dPl_addWeighing_49 rfl (lv_at hl 0 rfl) ?_
    refine get_Pl (v := .int (g.1 q0 5)) S hw h0 5 (by decide) rfl wf_Pl_59 dPl_addWeighing_50 ?_
    obtain rfl := Option.some.inj hm
    exact sw_iret S hr hlk hw hf dPl_addWeighing_53
  · refine lv_aload_n S.1 S.2.1 dPl_addWeighing_9 rfl (lv_at hl 0 rfl) ?_
    refine get_Pl (v := .ref (ξ.2.2.2.1 (q0 + 5))) S hw h0 6 (by decide) rfl wf_Pl_24 dPl_addWeighing_10 ?_
    refine lv_aload_n S.1 S.2.1 dPl_addWeighing_13 rfl (lv_at hl 0 rfl) ?_
    refine get_Pl (v := .int (g.1 q0 5)) S hw h0 5 (by decide) rfl wf_Pl_59 dPl_addWeighing_14 ?_
    refine lv_iload_n S.1 S.2.1 dPl_addWeighing_17 rfl (lv_at hl 1 rfl) ?_
    refine sx_iast S hw hf (is_Pl_left hf h0) hm dPl_addWeighing_18 (fun g1 H locs hf hm hw => ?_)
    refine lv_aload_n S.1 S.2.1 dPl_addWeighing_19 rfl (lv_at hl 0 rfl) ?_
    refine get_Pl (v := .ref (ξ.2.2.2.1 (q0 + 6))) S hw h0 7 (by decide) rfl wf_Pl_27 dPl_addWeighing_20 ?_
    refine lv_aload_n S.1 S.2.1 dPl_addWeighing_23 rfl (lv_at hl 0 rfl) ?_
    refine get_Pl (v := .int (g1.1 q0 5)) S hw h0 5 (by decide) rfl wf_Pl_59 dPl_addWeighing_24 ?_
    refine lv_iload_n S.1 S.2.1 dPl_addWeighing_27 rfl (lv_at hl 2 rfl) ?_
    refine sx_iast S hw hf (is_Pl_right hf h0) hm dPl_addWeighing_28 (fun g2 H locs hf hm hw => ?_)
    refine lv_aload_n S.1 S.2.1 dPl_addWeighing_29 rfl (lv_at hl 0 rfl) ?_
    refine get_Pl (v := .ref (ξ.2.2.2.1 (q0 + 7))) S hw h0 8 (by decide) rfl wf_Pl_30 dPl_addWeighing_30 ?_
    refine lv_aload_n S.1 S.2.1 dPl_addWeighing_33 rfl (lv_at hl 0 rfl) ?_
    refine get_Pl (v := .int (g2.1 q0 5)) S hw h0 5 (by decide) rfl wf_Pl_59 dPl_addWeighing_34 ?_
    refine lv_iload_n S.1 S.2.1 dPl_addWeighing_37 rfl (lv_at hl 3 rfl) ?_
    refine sx_iast S hw hf (is_Pl_came hf h0) hm dPl_addWeighing_38 (fun g3 H locs hf hm hw => ?_)
    refine lv_aload_n S.1 S.2.1 dPl_addWeighing_39 rfl (lv_at hl 0 rfl) ?_
    refine lv_dup S.1 S.2.1 dPl_addWeighing_40 rfl ?_
    refine get_Pl (v := .int (g3.1 q0 5)) S hw h0 5 (by decide) rfl wf_Pl_59 dPl_addWeighing_41 ?_
    refine lv_iconst (v := (1 : Int32)) S.1 S.2.1 dPl_addWeighing_44 (by decide) ?_
    refine lv_iadd S.1 S.2.1 dPl_addWeighing_45 ?_
    refine put_Pl S hw hf h0 5 (by decide) ps_Pl_5 rfl rfl rfl wf_Pl_59 hm dPl_addWeighing_46 (fun g4 H locs hf hm hw => ?_)
    refine lv_aload_n S.1 S.2.1 dPl_addWeighing_49 rfl (lv_at hl 0 rfl) ?_
    refine get_Pl (v := .int (g4.1 q0 5)) S hw h0 5 (by decide) rfl wf_Pl_59 dPl_addWeighing_50 ?_
    obtain rfl := Option.some.inj hm
    exact sw_iret S hr hlk hw hf dPl_addWeighing_53
set_option maxHeartbeats 4000000 in
set_option maxRecDepth 100000 in
theorem wPl_become_130 {l : Launch} {p : Program} {e : Env} {s : State} {m : MethodId} {args : Array Value} {below : List Frame} {meth : Method} {c : Code} {Γ : sw_C} {A : Nat → Prop} {ξ : sw_x} {μ : sw_m} {res : sw_g} (S : CallFix p m c prog_4_method_11_code 3 s args (Cond.code yPl_become prog_4_method_11_code 3 (none) :: sw_tb) R_Pl) (hr : meth.sig.returnType = none) (hlk : meth.locks = false) (q0 : Nat) (q1 : Nat) (h0 : sw_ik ξ q0 3) (hq1 : sw_ik ξ q1 3) (N : Nat) : ∀ (fu : Nat) (g : sw_g) (u2 : Int32) (H : Heap) (locs : List Loc) (ls : Array Slot), fPl_become_130 N ξ.2.2.1 q0 q1  fu g u2 = some res → sw_S Γ A ξ g μ s H locs → sw_wf ξ g.2.2 → lv_has ls 3 [(0, .ref (ξ.2.2.2.1 q0)), (1, .ref (ξ.2.2.2.1 q1)), (2, .int u2)] → W p l e (headSpec (Cond.code yPl_become prog_4_method_11_code 3 (none) :: sw_tb) rmPl_become).room s m args below meth c H locs 0 0 (MQ below (sw_Qv Γ A ξ res μ (sw_wf ξ res.2.2)) args s 0 0 A) (F0 m 130 ls []) := by
  intro fu
  induction fu with
  | zero => intro g u2 H locs ls hm; rw [fPl_become_130.eq_1] at hm; cases hm
  | succ fu ih =>
    intro g u2 H locs ls hm hw hf hl
    rw [fPl_become_130.eq_2] at hm
    refine lv_iload_n S.1 S.2.1 dPl_become_130 rfl (lv_at hl 2 rfl) ?_
    refine lv_bipush (v := (6 : Int32)) S.1 S.2.1 dPl_become_131 (by decide) ?_
    refine bicmp_ge (tgt := 154) S.1 S.2.1 hm dPl_become_133 (by decide) (fun hm => ?_) (fun hm => ?_)
    · refine lv_aload_n S.1 S.2.1 dPl_become_154 rfl (lv_at hl 0 rfl) ?_
      refine lv_aload_n S.1 S.2.1 dPl_become_155 rfl (lv_at hl 1 rfl) ?_
      refine get_Pl (v := .int (g.1 q1 11)) S hw hq1 11 (by decide) rfl wf_Pl_39 dPl_become_156 ?_
      refine put_Pl S hw hf h0 11 (by decide) ps_Pl_11 rfl rfl rfl wf_Pl_39 hm dPl_become_159 (fun g11 H locs hf hm hw => ?_)
      obtain rfl := Option.some.inj hm
      exact sw_vret S hr hlk hw hf dPl_become_162
    · refine lv_aload_n S.1 S.2.1 dPl_become_136 rfl (lv_at hl 0 rfl) ?_
      refine get_Pl (v := .ref (ξ.2.2.2.1 (q0 + 8))) S hw h0 10 (by decide) rfl wf_Pl_35 dPl_become_137 ?_
      refine lv_iload_n S.1 S.2.1 dPl_become_140 rfl (lv_at hl 2 rfl) ?_
      refine lv_aload_n S.1 S.2.1 dPl_become_141 rfl (lv_at hl 1 rfl) ?_
      refine get_Pl (v := .ref (ξ.2.2.2.1 (q1 + 8))) S hw hq1 10 (by decide) rfl wf_Pl_35 dPl_become_142 ?_
      refine lv_iload_n S.1 S.2.1 dPl_become_145 rfl (lv_at hl 2 rfl) ?_
      refine sx_tald S hw (is_Pl_texts hf hq1) hm dPl_become_146 (fun jt12 t12 et12 hm => ?_)
      cases t12 with
      | none =>
        refine W.eq (g2 := F0 m 147 ls [.null, .int u2, .ref (ξ.2.2.2.1 (q0 + 8))]) rfl ?_
        refine sx_tastN S hw hf (is_Pl_texts hf h0) hm dPl_become_147 (fun g14 H locs hf hm hw => ?_)
        obtain ⟨x15, ex15, hm⟩ := nm_x hm
        refine lv_iinc (v := x15) (lv' := [(2, .int x15), (0, .ref (ξ.2.2.2.1 q0)), (1, .ref (ξ.2.2.2.1 q1))]) S.1 S.2.1 dPl_become_148 hl (k := 2) rfl (by rw [ex15]; rfl) (by decide) rfl (fun ls hl => ?_)
        refine lv_goto (tgt := 130) S.1 S.2.1 dPl_become_151 (by decide) ?_
        exact ih g14 x15 _ _ _ hm hw hf (lv_sub hl [1, 2, 0] rfl)
      | some p13 =>
        have hp13 : sw_ik ξ p13 7 := hf.2.2.2.2.1 _ _ _ ⟨(is_Pl_texts hf hq1).1, (is_Pl_texts hf hq1).2.1⟩ et12
        refine W.eq (g2 := F0 m 147 ls [.ref (ξ.2.2.2.1 p13), .int u2, .ref (ξ.2.2.2.1 (q0 + 8))]) rfl ?_
        refine sx_tast S hw hf (is_Pl_texts hf h0) hp13 hm dPl_become_147 (fun g16 H locs hf hm hw => ?_)
        obtain ⟨x17, ex17, hm⟩ := nm_x hm
        refine lv_iinc (v := x17) (lv' := [(2, .int x17), (0, .ref (ξ.2.2.2.1 q0)), (1, .ref (ξ.2.2.2.1 q1))]) S.1 S.2.1 dPl_become_148 hl (k := 2) rfl (by rw [ex17]; rfl) (by decide) rfl (fun ls hl => ?_)
        refine lv_goto (tgt := 130) S.1 S.2.1 dPl_become_151 (by decide) ?_
        exact ih g16 x17 _ _ _ hm hw hf (lv_sub hl [1, 2, 0] rfl)
set_option maxHeartbeats 4000000 in
set_option maxRecDepth 100000 in
theorem cPl_become (l : Launch) (N : Nat) {Γ : sw_C} {A : Nat → Prop} {ξ : sw_x} {g : sw_g} {μ : sw_m} (hf : sw_wf ξ g.2.2) (q0 : Nat) (q1 : Nat) (h0 : sw_ik ξ q0 3) (hq1 : sw_ik ξ q1 3) {res : sw_g} (hm : fPl_become N ξ.2.2.1 g q0 q1 = some res) : Met l yPl_become (Cond.code yPl_become prog_4_method_11_code 3 (none) :: sw_tb) rmPl_become (va_Pc [.ref (ξ.2.2.2.1 q0), .ref (ξ.2.2.2.1 q1)] (sw_V Γ A ξ g μ)) (sw_Qv Γ A ξ res μ (sw_wf ξ res.2.2)) 0 0 A := by
  refine Met.ofW (cc := prog_4_method_11_code) (maxL := 3) (ret := none) (by decide) rfl ?_
  intro p e s m args below meth c s₁ B hml hv
  obtain ⟨rfl, hv⟩ := hv
  have S : CallFix p m c prog_4_method_11_code 3 s _ (Cond.code yPl_become prog_4_method_11_code 3 (none) :: sw_tb) R_Pl := ⟨B.exec, B.bytes, hml, findClass_of_methodNamed B.named, atoms_spec (ws := (Cond.code yPl_become prog_4_method_11_code 3 (none) :: sw_tb)) B.pre⟩
  have hr := B.returns
  have hlk := B.notSynchronized
  have hw := sw_begin hv
  have hl := lv_entry [.ref (ξ.2.2.2.1 q0), .ref (ξ.2.2.2.1 q1)] (n := 3) (Nat.le_of_ble_eq_true rfl)
  rw [lg_entry_eq]
  generalize (lg_sl [.ref (ξ.2.2.2.1 q0), .ref (ξ.2.2.2.1 q1)] ++ List.replicate (3 - (lg_sl [.ref (ξ.2.2.2.1 q0), .ref (ξ.2.2.2.1 q1)]).length) Slot.unset).toArray = ls at hl ⊢
  have hl : lv_has ls 3 [(0, .ref (ξ.2.2.2.1 q0)), (1, .ref (ξ.2.2.2.1 q1))] := hl
  unfold fPl_become at hm
  refine lv_aload_n S.1 S.2.1 dPl_become_0 rfl (lv_at hl 0 rfl) ?_
  refine lv_aload_n S.1 S.2.1 dPl_become_1 rfl (lv_at hl 1 rfl) ?_
  refine get_Pl (v := .int (g.1 q1 0)) S hw hq1 0 (by decide) rfl wf_Pl_43 dPl_become_2 ?_
  refine put_Pl S hw hf h0 0 (by decide) ps_Pl_0 rfl rfl rfl wf_Pl_43 hm dPl_become_5 (fun g1 H locs hf hm hw => ?_)
  refine lv_aload_n S.1 S.2.1 dPl_become_8 rfl (lv_at hl 1 rfl) ?_
  refine get_Pl (v := .ref (ξ.2.2.2.1 (q1 + 1))) S hw hq1 1 (by decide) rfl wf_Pl_9 dPl_become_9 ?_
  refine lv_iconst (v := (0 : Int32)) S.1 S.2.1 dPl_become_12 (by decide) ?_
  refine lv_aload_n S.1 S.2.1 dPl_become_13 rfl (lv_at hl 0 rfl) ?_
  refine get_Pl (v := .ref (ξ.2.2.2.1 (q0 + 1))) S hw h0 1 (by decide) rfl wf_Pl_9 dPl_become_14 ?_
  refine lv_iconst (v := (0 : Int32)) S.1 S.2.1 dPl_become_17 (by decide) ?_
  refine lv_bipush (v := (7 : Int32)) S.1 S.2.1 dPl_become_18 (by decide) ?_
  refine sx_copy (rest := []) S hw hf hl.1 wm_Pl_62 (is_Pl_heavy hf hq1) (is_Pl_heavy hf h0) hm (Nat.le_of_ble_eq_true rfl) (Nat.le_of_ble_eq_true rfl) dPl_become_20 (fun g2 H locs hf hm hw => ?_)
  refine lv_aload_n S.1 S.2.1 dPl_become_23 rfl (lv_at hl 1 rfl) ?_
  refine get_Pl (v := .ref (ξ.2.2.2.1 (q1 + 2))) S hw hq1 2 (by decide) rfl wf_Pl_15 dPl_become_24 ?_
  refine lv_iconst (v := (0 : Int32)) S.1 S.2.1 dPl_become_27 (by decide) ?_
  refine lv_aload_n S.1 S.2.1 dPl_become_28 rfl (lv_at hl 0 rfl) ?_
  refine get_Pl (v := .ref (ξ.2.2.2.1 (q0 + 2))) S hw h0 2 (by decide) rfl wf_Pl_15 dPl_become_29 ?_
  refine lv_iconst (v := (0 : Int32)) S.1 S.2.1 dPl_become_32 (by decide) ?_
  refine lv_bipush (v := (7 : Int32)) S.1 S.2.1 dPl_become_33 (by decide) ?_
  refine sx_copy (rest := []) S hw hf hl.1 wm_Pl_62 (is_Pl_kind hf hq1) (is_Pl_kind hf h0) hm (Nat.le_of_ble_eq_true rfl) (Nat.le_of_ble_eq_true rfl) dPl_become_35 (fun g3 H locs hf hm hw => ?_)
  refine lv_aload_n S.1 S.2.1 dPl_become_38 rfl (lv_at hl 1 rfl) ?_
  refine get_Pl (v := .ref (ξ.2.2.2.1 (q1 + 3))) S hw hq1 3 (by decide) rfl wf_Pl_18 dPl_become_39 ?_
  refine lv_iconst (v := (0 : Int32)) S.1 S.2.1 dPl_become_42 (by decide) ?_
  refine lv_aload_n S.1 S.2.1 dPl_become_43 rfl (lv_at hl 0 rfl) ?_
  refine get_Pl (v := .ref (ξ.2.2.2.1 (q0 + 3))) S hw h0 3 (by decide) rfl wf_Pl_18 dPl_become_44 ?_
  refine lv_iconst (v := (0 : Int32)) S.1 S.2.1 dPl_become_47 (by decide) ?_
  refine lv_bipush (v := (7 : Int32)) S.1 S.2.1 dPl_become_48 (by decide) ?_
  refine sx_copy (rest := []) S hw hf hl.1 wm_Pl_62 (is_Pl_place hf hq1) (is_Pl_place hf h0) hm (Nat.le_of_ble_eq_true rfl) (Nat.le_of_ble_eq_true rfl) dPl_become_50 (fun g4 H locs hf hm hw => ?_)
  refine lv_aload_n S.1 S.2.1 dPl_become_53 rfl (lv_at hl 1 rfl) ?_
  refine get_Pl (v := .ref (ξ.2.2.2.1 (q1 + 4))) S hw hq1 4 (by decide) rfl wf_Pl_21 dPl_become_54 ?_
  refine lv_iconst (v := (0 : Int32)) S.1 S.2.1 dPl_become_57 (by decide) ?_
  refine lv_aload_n S.1 S.2.1 dPl_become_58 rfl (lv_at hl 0 rfl) ?_
  refine get_Pl (v := .ref (ξ.2.2.2.1 (q0 + 4))) S hw h0 4 (by decide) rfl wf_Pl_21 dPl_become_59 ?_
  refine lv_iconst (v := (0 : Int32)) S.1 S.2.1 dPl_become_62 (by decide) ?_
  refine lv_iconst (v := (4 : Int32)) S.1 S.2.1 dPl_become_63 (by decide) ?_
  refine sx_copy (rest := []) S hw hf hl.1 wm_Pl_62 (is_Pl_term hf hq1) (is_Pl_term hf h0) hm (Nat.le_of_ble_eq_true rfl) (Nat.le_of_ble_eq_true rfl) dPl_become_64 (fun g5 H locs hf hm hw => ?_)
  refine lv_aload_n S.1 S.2.1 dPl_become_67 rfl (lv_at hl 0 rfl) ?_
  refine lv_aload_n S.1 S.2.1 dPl_become_68 rfl (lv_at hl 1 rfl) ?_
  refine get_Pl (v := .int (g5.1 q1 5)) S hw hq1 5 (by decide) rfl wf_Pl_59 dPl_become_69 ?_
  refine put_Pl S hw hf h0 5 (by decide) ps_Pl_5 rfl rfl rfl wf_Pl_59 hm dPl_become_72 (fun g6 H locs hf hm hw => ?_)
  refine lv_aload_n S.1 S.2.1 dPl_become_75 rfl (lv_at hl 1 rfl) ?_
  refine get_Pl (v := .ref (ξ.2.2.2.1 (q1 + 5))) S hw hq1 6 (by decide) rfl wf_Pl_24 dPl_become_76 ?_
  refine lv_iconst (v := (0 : Int32)) S.1 S.2.1 dPl_become_79 (by decide) ?_
  refine lv_aload_n S.1 S.2.1 dPl_become_80 rfl (lv_at hl 0 rfl) ?_
  refine get_Pl (v := .ref (ξ.2.2.2.1 (q0 + 5))) S hw h0 6 (by decide) rfl wf_Pl_24 dPl_become_81 ?_
  refine lv_iconst (v := (0 : Int32)) S.1 S.2.1 dPl_become_84 (by decide) ?_
  refine lv_bipush (v := (6 : Int32)) S.1 S.2.1 dPl_become_85 (by decide) ?_
  refine sx_copy (rest := []) S hw hf hl.1 wm_Pl_62 (is_Pl_left hf hq1) (is_Pl_left hf h0) hm (Nat.le_of_ble_eq_true rfl) (Nat.le_of_ble_eq_true rfl) dPl_become_87 (fun g7 H locs hf hm hw => ?_)
  refine lv_aload_n S.1 S.2.1 dPl_become_90 rfl (lv_at hl 1 rfl) ?_
  refine get_Pl (v := .ref (ξ.2.2.2.1 (q1 + 6))) S hw hq1 7 (by decide) rfl wf_Pl_27 dPl_become_91 ?_
  refine lv_iconst (v := (0 : Int32)) S.1 S.2.1 dPl_become_94 (by decide) ?_
  refine lv_aload_n S.1 S.2.1 dPl_become_95 rfl (lv_at hl 0 rfl) ?_
  refine get_Pl (v := .ref (ξ.2.2.2.1 (q0 + 6))) S hw h0 7 (by decide) rfl wf_Pl_27 dPl_become_96 ?_
  refine lv_iconst (v := (0 : Int32)) S.1 S.2.1 dPl_become_99 (by decide) ?_
  refine lv_bipush (v := (6 : Int32)) S.1 S.2.1 dPl_become_100 (by decide) ?_
  refine sx_copy (rest := []) S hw hf hl.1 wm_Pl_62 (is_Pl_right hf hq1) (is_Pl_right hf h0) hm (Nat.le_of_ble_eq_true rfl) (Nat.le_of_ble_eq_true rfl) dPl_become_102 (fun g8 H locs hf hm hw => ?_)
  refine lv_aload_n S.1 S.2.1 dPl_become_105 rfl (lv_at hl 1 rfl) ?_
  refine get_Pl (v := .ref (ξ.2.2.2.1 (q1 + 7))) S hw hq1 8 (by decide) rfl wf_Pl_30 dPl_become_106 ?_
  refine lv_iconst (v := (0 : Int32)) S.1 S.2.1 dPl_become_109 (by decide) ?_
  refine lv_aload_n S.1 S.2.1 dPl_become_110 rfl (lv_at hl 0 rfl) ?_
  refine get_Pl (v := .ref (ξ.2.2.2.1 (q0 + 7))) S hw h0 8 (by decide) rfl wf_Pl_30 dPl_become_111 ?_
  refine lv_iconst (v := (0 : Int32)) S.1 S.2.1 dPl_become_114 (by decide) ?_
  refine lv_bipush (v := (6 : Int32)) S.1 S.2.1 dPl_become_115 (by decide) ?_
  refine sx_copy (rest := []) S hw hf hl.1 wm_Pl_62 (is_Pl_came hf hq1) (is_Pl_came hf h0) hm (Nat.le_of_ble_eq_true rfl) (Nat.le_of_ble_eq_true rfl) dPl_become_117 (fun g9 H locs hf hm hw => ?_)
  refine lv_aload_n S.1 S.2.1 dPl_become_120 rfl (lv_at hl 0 rfl) ?_
  refine lv_aload_n S.1 S.2.1 dPl_become_121 rfl (lv_at hl 1 rfl) ?_
  refine get_Pl (v := .int (g9.1 q1 9)) S hw hq1 9 (by decide) rfl wf_Pl_50 dPl_become_122 ?_
  refine put_Pl S hw hf h0 9 (by decide) ps_Pl_9 rfl rfl rfl wf_Pl_50 hm dPl_become_125 (fun g10 H locs hf hm hw => ?_)
  refine lv_iconst (v := (0 : Int32)) S.1 S.2.1 dPl_become_128 (by decide) ?_
  refine lv_istore_n (lv' := [(2, .int (0 : Int32)), (0, .ref (ξ.2.2.2.1 q0)), (1, .ref (ξ.2.2.2.1 q1))]) S.1 S.2.1 dPl_become_129 rfl hl (by decide) rfl (fun ls hl => ?_)
  exact wPl_become_130 S hr hlk q0 q1 h0 hq1 N  N g10 (0 : Int32) _ _ _ hm hw hf (lv_sub hl [1, 2, 0] rfl)
set_option maxHeartbeats 4000000 in
set_option maxRecDepth 100000 in
theorem cHi_clear (l : Launch) {Γ : sw_C} {A : Nat → Prop} {ξ : sw_x} {g : sw_g} {μ : sw_m} (hf : sw_wf ξ g.2.2) (q0 : Nat) (h0 : sw_ik ξ q0 1) (h0r : sw_is ξ (q0 + 1) 10 256) {res : sw_g} (hm : fHi_clear ξ.2.2.1 g q0 = some res) : Met l yHi_clear (Cond.code yHi_clear prog_2_method_2_code 1 (none) :: sw_tb) rmHi_clear (va_Pc [.ref (ξ.2.2.2.1 q0)] (sw_V Γ A ξ g μ)) (sw_Qv Γ A ξ res μ (sw_wf ξ res.2.2)) 0 0 A := by
  refine Met.ofW (cc := prog_2_method_2_code) (maxL := 1) (ret := none) (by decide) rfl ?_
  intro p e s m args below meth c s₁ B hml hv
  obtain ⟨rfl, hv⟩ := hv
  have S : CallFix p m c prog_2_method_2_code 1 s _ (Cond.code yHi_clear prog_2_method_2_code 1 (none) :: sw_tb) R_Hi := ⟨B.exec, B.bytes, hml, findClass_of_methodNamed B.named, atoms_spec (ws := (Cond.code yHi_clear prog_2_method_2_code 1 (none) :: sw_tb)) B.pre⟩
  have hr := B.returns
  have hlk := B.notSynchronized
  have hw := sw_begin hv
  have hl := lv_entry [.ref (ξ.2.2.2.1 q0)] (n := 1) (Nat.le_of_ble_eq_true rfl)
  rw [lg_entry_eq]
  generalize (lg_sl [.ref (ξ.2.2.2.1 q0)] ++ List.replicate (1 - (lg_sl [.ref (ξ.2.2.2.1 q0)]).length) Slot.unset).toArray = ls at hl ⊢
  have hl : lv_has ls 1 [(0, .ref (ξ.2.2.2.1 q0))] := hl
  unfold fHi_clear at hm
  refine lv_aload_n S.1 S.2.1 dHi_clear_0 rfl (lv_at hl 0 rfl) ?_
  refine lv_iconst (v := (0 : Int32)) S.1 S.2.1 dHi_clear_1 (by decide) ?_
  refine put_Hi S hw hf h0 0 (by decide) ps_Hi_0 rfl rfl rfl wf_Hi_15 hm dHi_clear_2 (fun g1 H locs hf hm hw => ?_)
  obtain rfl := Option.some.inj hm
  exact sw_vret S hr hlk hw hf dHi_clear_5
set_option maxHeartbeats 4000000 in
set_option maxRecDepth 100000 in
theorem cHi_keep (l : Launch) {Γ : sw_C} {A : Nat → Prop} {ξ : sw_x} {g : sw_g} {μ : sw_m} (hf : sw_wf ξ g.2.2) (q0 : Nat) (q2 : Nat) (h0 : sw_ik ξ q0 1) (h0r : sw_is ξ (q0 + 1) 10 256) (hq2 : sw_ik ξ q2 3) (a1 : Int32) {res : sw_g} (hm : fHi_keep ξ.2.2.1 g q0 q2 a1 = some res) : Met l yHi_keep (Cond.code yHi_keep prog_2_method_3_code 4 (none) :: sw_tb) rmHi_keep (va_Pc [.ref (ξ.2.2.2.1 q0), .int a1, .ref (ξ.2.2.2.1 q2)] (sw_V Γ A ξ g μ)) (sw_Qv Γ A ξ res μ (sw_wf ξ res.2.2)) 0 0 A := by
  refine Met.ofW (cc := prog_2_method_3_code) (maxL := 4) (ret := none) (by decide) rfl ?_
  intro p e s m args below meth c s₁ B hml hv
  obtain ⟨rfl, hv⟩ := hv
  have S : CallFix p m c prog_2_method_3_code 4 s _ (Cond.code yHi_keep prog_2_method_3_code 4 (none) :: sw_tb) R_Hi := ⟨B.exec, B.bytes, hml, findClass_of_methodNamed B.named, atoms_spec (ws := (Cond.code yHi_keep prog_2_method_3_code 4 (none) :: sw_tb)) B.pre⟩
  have hr := B.returns
  have hlk := B.notSynchronized
  have hw := sw_begin hv
  have hl := lv_entry [.ref (ξ.2.2.2.1 q0), .int a1, .ref (ξ.2.2.2.1 q2)] (n := 4) (Nat.le_of_ble_eq_true rfl)
  rw [lg_entry_eq]
  generalize (lg_sl [.ref (ξ.2.2.2.1 q0), .int a1, .ref (ξ.2.2.2.1 q2)] ++ List.replicate (4 - (lg_sl [.ref (ξ.2.2.2.1 q0), .int a1, .ref (ξ.2.2.2.1 q2)]).length) Slot.unset).toArray = ls at hl ⊢
  have hl : lv_has ls 4 [(0, .ref (ξ.2.2.2.1 q0)), (1, .int a1), (2, .ref (ξ.2.2.2.1 q2))] := hl
  unfold fHi_keep at hm
  refine lv_aload_n S.1 S.2.1 dHi_keep_0 rfl (lv_at hl 0 rfl) ?_
  refine get_Hi (v := .int (g.1 q0 1)) S hw h0 1 (by decide) rfl wf_Hi_19 dHi_keep_1 ?_
  refine lv_bipush (v := (16 : Int32)) S.1 S.2.1 dHi_keep_4 (by decide) ?_
  refine lv_imul S.1 S.2.1 dHi_keep_6 ?_
  refine nm_i hm (fun x1 hm => ?_)
  refine lv_istore_n (lv' := [(3, .int x1), (0, .ref (ξ.2.2.2.1 q0)), (1, .int a1), (2, .ref (ξ.2.2.2.1 q2))]) S.1 S.2.1 dHi_keep_7 rfl hl (by decide) rfl (fun ls hl => ?_)
  refine lv_aload_n S.1 S.2.1 dHi_keep_8 rfl (lv_at hl 3 rfl) ?_
  refine get_Pl (v := .ref (ξ.2.2.2.1 (q2 + 1))) S hw hq2 1 (by decide) rfl wf_Hi_22 dHi_keep_9 ?_
  refine lv_iconst (v := (0 : Int32)) S.1 S.2.1 dHi_keep_12 (by decide) ?_
  refine lv_aload_n S.1 S.2.1 dHi_keep_13 rfl (lv_at hl 1 rfl) ?_
  refine get_Hi (v := .ref (ξ.2.2.2.1 (q0 + 1))) S hw h0 2 (by decide) rfl wf_Hi_11 dHi_keep_14 ?_
  refine lv_iload_n S.1 S.2.1 dHi_keep_17 rfl (lv_at hl 0 rfl) ?_
  refine lv_bipush (v := (7 : Int32)) S.1 S.2.1 dHi_keep_18 (by decide) ?_
  refine sx_copy (rest := []) S hw hf hl.1 wm_Hi_27 (is_Pl_heavy hf hq2) h0r hm (Nat.le_of_ble_eq_true rfl) (Nat.le_of_ble_eq_true rfl) dHi_keep_20 (fun g2 H locs hf hm hw => ?_)
  refine lv_aload_n S.1 S.2.1 dHi_keep_23 rfl (lv_at hl 3 rfl) ?_
  refine get_Pl (v := .ref (ξ.2.2.2.1 (q2 + 3))) S hw hq2 3 (by decide) rfl wf_Hi_33 dHi_keep_24 ?_
  refine lv_iconst (v := (0 : Int32)) S.1 S.2.1 dHi_keep_27 (by decide) ?_
  refine lv_aload_n S.1 S.2.1 dHi_keep_28 rfl (lv_at hl 1 rfl) ?_
  refine get_Hi (v := .ref (ξ.2.2.2.1 (q0 + 1))) S hw h0 2 (by decide) rfl wf_Hi_11 dHi_keep_29 ?_
  refine lv_iload_n S.1 S.2.1 dHi_keep_32 rfl (lv_at hl 0 rfl) ?_
  refine lv_bipush (v := (7 : Int32)) S.1 S.2.1 dHi_keep_33 (by decide) ?_
  refine lv_iadd S.1 S.2.1 dHi_keep_35 ?_
  refine lv_bipush (v := (7 : Int32)) S.1 S.2.1 dHi_keep_36 (by decide) ?_
  refine sx_copy (rest := []) S hw hf hl.1 wm_Hi_27 (is_Pl_place hf hq2) h0r hm (Nat.le_of_ble_eq_true rfl) (Nat.le_of_ble_eq_true rfl) dHi_keep_38 (fun g3 H locs hf hm hw => ?_)
  refine lv_aload_n S.1 S.2.1 dHi_keep_41 rfl (lv_at hl 1 rfl) ?_
  refine get_Hi (v := .ref (ξ.2.2.2.1 (q0 + 1))) S hw h0 2 (by decide) rfl wf_Hi_11 dHi_keep_42 ?_
  refine lv_iload_n S.1 S.2.1 dHi_keep_45 rfl (lv_at hl 0 rfl) ?_
  refine lv_bipush (v := (14 : Int32)) S.1 S.2.1 dHi_keep_46 (by decide) ?_
  refine lv_iadd S.1 S.2.1 dHi_keep_48 ?_
  refine lv_aload_n S.1 S.2.1 dHi_keep_49 rfl (lv_at hl 3 rfl) ?_
  refine get_Pl (v := .ref (ξ.2.2.2.1 (q2 + 4))) S hw hq2 4 (by decide) rfl wf_Hi_36 dHi_keep_50 ?_
  refine lv_iconst (v := (0 : Int32)) S.1 S.2.1 dHi_keep_53 (by decide) ?_
  refine sx_iald S hw (is_Pl_term hf hq2) hm dHi_keep_54 (fun v4 hm => ?_)
  refine sx_iast S hw hf h0r hm dHi_keep_55 (fun g5 H locs hf hm hw => ?_)
  refine lv_aload_n S.1 S.2.1 dHi_keep_56 rfl (lv_at hl 1 rfl) ?_
  refine get_Hi (v := .ref (ξ.2.2.2.1 (q0 + 1))) S hw h0 2 (by decide) rfl wf_Hi_11 dHi_keep_57 ?_
  refine lv_iload_n S.1 S.2.1 dHi_keep_60 rfl (lv_at hl 0 rfl) ?_
  refine lv_bipush (v := (15 : Int32)) S.1 S.2.1 dHi_keep_61 (by decide) ?_
  refine lv_iadd S.1 S.2.1 dHi_keep_63 ?_
  refine lv_iload_n S.1 S.2.1 dHi_keep_64 rfl (lv_at hl 2 rfl) ?_
  refine sx_iast S hw hf h0r hm dHi_keep_65 (fun g6 H locs hf hm hw => ?_)
  refine lv_aload_n S.1 S.2.1 dHi_keep_66 rfl (lv_at hl 1 rfl) ?_
  refine lv_aload_n S.1 S.2.1 dHi_keep_67 rfl (lv_at hl 1 rfl) ?_
  refine get_Hi (v := .int (g6.1 q0 1)) S hw h0 1 (by decide) rfl wf_Hi_19 dHi_keep_68 ?_
  refine lv_iconst (v := (1 : Int32)) S.1 S.2.1 dHi_keep_71 (by decide) ?_
  refine lv_iadd S.1 S.2.1 dHi_keep_72 ?_
  refine lv_bipush (v := (16 : Int32)) S.1 S.2.1 dHi_keep_73 (by decide) ?_
  refine lv_irem S.1 S.2.1 dHi_keep_75 (by decide) ?_
  refine put_Hi S hw hf h0 1 (by decide) ps_Hi_1 rfl rfl rfl wf_Hi_19 hm dHi_keep_76 (fun g7 H locs hf hm hw => ?_)
  refine lv_aload_n S.1 S.2.1 dHi_keep_79 rfl (lv_at hl 1 rfl) ?_
  refine lv_aload_n S.1 S.2.1 dHi_keep_80 rfl (lv_at hl 1 rfl) ?_
  refine get_Hi (v := .int (g7.1 q0 0)) S hw h0 0 (by decide) rfl wf_Hi_15 dHi_keep_81 ?_
  refine lv_iconst (v := (1 : Int32)) S.1 S.2.1 dHi_keep_84 (by decide) ?_
  refine lv_iadd S.1 S.2.1 dHi_keep_85 ?_
  refine lv_bipush (v := (16 : Int32)) S.1 S.2.1 dHi_keep_86 (by decide) ?_
  refine sw_min (rest := [.ref (ξ.2.2.2.1 q0)]) S hl.1 wm_Hi_39 (Nat.le_of_ble_eq_true rfl) (Nat.le_of_ble_eq_true rfl) (Nat.le_of_ble_eq_true rfl) (Nat.le_of_ble_eq_true rfl) dHi_keep_88 ?_
  refine put_Hi S hw hf h0 0 (by decide) ps_Hi_0 rfl rfl rfl wf_Hi_15 hm dHi_keep_91 (fun g8 H locs hf hm hw => ?_)
  obtain rfl := Option.some.inj hm
  exact sw_vret S hr hlk hw hf dHi_keep_94
set_option maxHeartbeats 4000000 in
set_option maxRecDepth 100000 in
theorem cHi_giveBack (l : Launch) {Γ : sw_C} {A : Nat → Prop} {ξ : sw_x} {g : sw_g} {μ : sw_m} (hf : sw_wf ξ g.2.2) (q0 : Nat) (q1 : Nat) (h0 : sw_ik ξ q0 1) (h0r : sw_is ξ (q0 + 1) 10 256) (hq1 : sw_ik ξ q1 3) {res : Int32 × sw_g} (hm : fHi_giveBack ξ.2.2.1 g q0 q1 = some res) : Met l yHi_giveBack (Cond.code yHi_giveBack prog_2_method_4_code 3 (some .int) :: sw_tb) rmHi_giveBack (va_Pc [.ref (ξ.2.2.2.1 q0), .ref (ξ.2.2.2.1 q1)] (sw_V Γ A ξ g μ)) (sw_Qi Γ A ξ res.2 μ res.1 (sw_wf ξ res.2.2.2)) 0 0 A := by
  refine Met.ofW (cc := prog_2_method_4_code) (maxL := 3) (ret := some .int) (by decide) rfl ?_
  intro p e s m args below meth c s₁ B hml hv
  obtain ⟨rfl, hv⟩ := hv
  have S : CallFix p m c prog_2_method_4_code 3 s _ (Cond.code yHi_giveBack prog_2_method_4_code 3 (some .int) :: sw_tb) R_Hi := ⟨B.exec, B.bytes, hml, findClass_of_methodNamed B.named, atoms_spec (ws := (Cond.code yHi_giveBack prog_2_method_4_code 3 (some .int) :: sw_tb)) B.pre⟩
  have hr := B.returns
  have hlk := B.notSynchronized
  have hw := sw_begin hv
  have hl := lv_entry [.ref (ξ.2.2.2.1 q0), .ref (ξ.2.2.2.1 q1)] (n := 3) (Nat.le_of_ble_eq_true rfl)
  rw [lg_entry_eq]
  generalize (lg_sl [.ref (ξ.2.2.2.1 q0), .ref (ξ.2.2.2.1 q1)] ++ List.replicate (3 - (lg_sl [.ref (ξ.2.2.2.1 q0), .ref (ξ.2.2.2.1 q1)]).length) Slot.unset).toArray = ls at hl ⊢
  have hl : lv_has ls 3 [(0, .ref (ξ.2.2.2.1 q0)), (1, .ref (ξ.2.2.2.1 q1))] := hl
  unfold fHi_giveBack at hm
  refine lv_aload_n S.1 S.2.1 dHi_giveBack_0 rfl (lv_at hl 0 rfl) ?_
  refine get_Hi (v := .int (g.1 q0 0)) S hw h0 0 (by decide) rfl wf_Hi_15 dHi_giveBack_1 ?_
  refine bif_ne (tgt := 9) S.1 S.2.1 hm dHi_giveBack_4 (by decide) (fun hm => ?_) (fun hm => ?_)
  · refine lv_aload_n S.1 S.2.1 dHi_giveBack_9 rfl (lv_at hl 0 rfl) ?_
    refine lv_dup S.1 S.2.1 dHi_giveBack_10 rfl ?_
    refine get_Hi (v := .int (g.1 q0 0)) S hw h0 0 (by decide) rfl wf_Hi_15 dHi_giveBack_11 ?_
    refine lv_iconst (v := (1 : Int32)) S.1 S.2.1 dHi_giveBack_14 (by decide) ?_
    refine lv_isub S.1 S.2.1 dHi_giveBack_15 ?_
    refine put_Hi S hw hf h0 0 (by decide) ps_Hi_0 rfl rfl rfl wf_Hi_15 hm dHi_giveBack_16 (fun g1 H locs hf hm hw => ?_)
    refine lv_aload_n S.1 S.2.1 dHi_giveBack_19 rfl (lv_at hl 0 rfl) ?_
    refine lv_aload_n S.1 S.2.1 dHi_giveBack_20 rfl (lv_at hl 0 rfl) ?_
    refine get_Hi (v := .int (g1.1 q0 1)) S hw h0 1 (by decide) rfl wf_Hi_19 dHi_giveBack_21 ?_
    refine lv_bipush (v := (16 : Int32)) S.1 S.2.1 dHi_giveBack_24 (by decide) ?_
    refine lv_iadd S.1 S.2.1 dHi_giveBack_26 ?_
    refine lv_iconst (v := (1 : Int32)) S.1 S.2.1 dHi_giveBack_27 (by decide) ?_
    refine lv_isub S.1 S.2.1 dHi_giveBack_28 ?_
    refine lv_bipush (v := (16 : Int32)) S.1 S.2.1 dHi_giveBack_29 (by decide) ?_
    refine lv_irem S.1 S.2.1 dHi_giveBack_31 (by decide) ?_
    refine put_Hi S hw hf h0 1 (by decide) ps_Hi_1 rfl rfl rfl wf_Hi_19 hm dHi_giveBack_32 (fun g2 H locs hf hm hw => ?_)
    refine lv_aload_n S.1 S.2.1 dHi_giveBack_35 rfl (lv_at hl 0 rfl) ?_
    refine get_Hi (v := .int (g2.1 q0 1)) S hw h0 1 (by decide) rfl wf_Hi_19 dHi_giveBack_36 ?_
    refine lv_bipush (v := (16 : Int32)) S.1 S.2.1 dHi_giveBack_39 (by decide) ?_
    refine lv_imul S.1 S.2.1 dHi_giveBack_41 ?_
    refine nm_i hm (fun x3 hm => ?_)
    refine lv_istore_n (lv' := [(2, .int x3), (0, .ref (ξ.2.2.2.1 q0)), (1, .ref (ξ.2.2.2.1 q1))]) S.1 S.2.1 dHi_giveBack_42 rfl hl (by decide) rfl (fun ls hl => ?_)
    refine lv_aload_n S.1 S.2.1 dHi_giveBack_43 rfl (lv_at hl 1 rfl) ?_
    refine get_Hi (v := .ref (ξ.2.2.2.1 (q0 + 1))) S hw h0 2 (by decide) rfl wf_Hi_11 dHi_giveBack_44 ?_
    refine lv_iload_n S.1 S.2.1 dHi_giveBack_47 rfl (lv_at hl 0 rfl) ?_
    refine lv_aload_n S.1 S.2.1 dHi_giveBack_48 rfl (lv_at hl 2 rfl) ?_
    refine get_Pl (v := .ref (ξ.2.2.2.1 (q1 + 1))) S hw hq1 1 (by decide) rfl wf_Hi_22 dHi_giveBack_49 ?_
    refine lv_iconst (v := (0 : Int32)) S.1 S.2.1 dHi_giveBack_52 (by decide) ?_
    refine lv_bipush (v := (7 : Int32)) S.1 S.2.1 dHi_giveBack_53 (by decide) ?_
    refine sx_copy (rest := []) S hw hf hl.1 wm_Hi_27 h0r (is_Pl_heavy hf hq1) hm (Nat.le_of_ble_eq_true rfl) (Nat.le_of_ble_eq_true rfl) dHi_giveBack_55 (fun g4 H locs hf hm hw => ?_)
    refine lv_aload_n S.1 S.2.1 dHi_giveBack_58 rfl (lv_at hl 1 rfl) ?_
    refine get_Hi (v := .ref (ξ.2.2.2.1 (q0 + 1))) S hw h0 2 (by decide) rfl wf_Hi_11 dHi_giveBack_59 ?_
    refine lv_iload_n S.1 S.2.1 dHi_giveBack_62 rfl (lv_at hl 0 rfl) ?_
    refine lv_bipush (v := (7 : Int32)) S.1 S.2.1 dHi_giveBack_63 (by decide) ?_
    refine lv_iadd S.1 S.2.1 dHi_giveBack_65 ?_
    refine lv_aload_n S.1 S.2.1 dHi_giveBack_66 rfl (lv_at hl 2 rfl) ?_
    refine get_Pl (v := .ref (ξ.2.2.2.1 (q1 + 3))) S hw hq1 3 (by decide) rfl wf_Hi_33 dHi_giveBack_67 ?_
    refine lv_iconst (v := (0 : Int32)) S.1 S.2.1 dHi_giveBack_70 (by decide) ?_
    refine lv_bipush (v := (7 : Int32)) S.1 S.2.1 dHi_giveBack_71 (by decide) ?_
    refine sx_copy (rest := []) S hw hf hl.1 wm_Hi_27 h0r (is_Pl_place hf hq1) hm (Nat.le_of_ble_eq_true rfl) (Nat.le_of_ble_eq_true rfl) dHi_giveBack_73 (fun g5 H locs hf hm hw => ?_)
    refine lv_aload_n S.1 S.2.1 dHi_giveBack_76 rfl (lv_at hl 2 rfl) ?_
    refine get_Pl (v := .ref (ξ.2.2.2.1 (q1 + 4))) S hw hq1 4 (by decide) rfl wf_Hi_36 dHi_giveBack_77 ?_
    refine lv_iconst (v := (0 : Int32)) S.1 S.2.1 dHi_giveBack_80 (by decide) ?_
    refine lv_aload_n S.1 S.2.1 dHi_giveBack_81 rfl (lv_at hl 1 rfl) ?_
    refine get_Hi (v := .ref (ξ.2.2.2.1 (q0 + 1))) S hw h0 2 (by decide) rfl wf_Hi_11 dHi_giveBack_82 ?_
    refine lv_iload_n S.1 S.2.1 dHi_giveBack_85 rfl (lv_at hl 0 rfl) ?_
    refine lv_bipush (v := (14 : Int32)) S.1 S.2.1 dHi_giveBack_86 (by decide) ?_
    refine lv_iadd S.1 S.2.1 dHi_giveBack_88 ?_
    refine sx_iald S hw h0r hm dHi_giveBack_89 (fun v6 hm => ?_)
    refine sx_iast S hw hf (is_Pl_term hf hq1) hm dHi_giveBack_90 (fun g7 H locs hf hm hw => ?_)
    refine lv_aload_n S.1 S.2.1 dHi_giveBack_91 rfl (lv_at hl 1 rfl) ?_
    refine get_Hi (v := .ref (ξ.2.2.2.1 (q0 + 1))) S hw h0 2 (by decide) rfl wf_Hi_11 dHi_giveBack_92 ?_
    refine lv_iload_n S.1 S.2.1 dHi_giveBack_95 rfl (lv_at hl 0 rfl) ?_
    refine lv_bipush (v := (15 : Int32)) S.1 S.2.1 dHi_giveBack_96 (by decide) ?_
    refine lv_iadd S.1 S.2.1 dHi_giveBack_98 ?_
    refine sx_iald S hw h0r hm dHi_giveBack_99 (fun v8 hm => ?_)
    obtain rfl := Option.some.inj hm
    exact sw_iret S hr hlk hw hf dHi_giveBack_100
  · refine lv_iconst (v := (-1 : Int32)) S.1 S.2.1 dHi_giveBack_7 (by decide) ?_
    obtain rfl := Option.some.inj hm
    exact sw_iret S hr hlk hw hf dHi_giveBack_8
set_option maxHeartbeats 4000000 in
set_option maxRecDepth 100000 in
theorem cHi_become (l : Launch) {Γ : sw_C} {A : Nat → Prop} {ξ : sw_x} {g : sw_g} {μ : sw_m} (hf : sw_wf ξ g.2.2) (q0 : Nat) (q1 : Nat) (h0 : sw_ik ξ q0 1) (h0r : sw_is ξ (q0 + 1) 10 256) (hq1 : sw_ik ξ q1 1) (hq1r : sw_is ξ (q1 + 1) 10 256) {res : sw_g} (hm : fHi_become ξ.2.2.1 g q0 q1 = some res) : Met l yHi_become (Cond.code yHi_become prog_2_method_5_code 2 (none) :: sw_tb) rmHi_become (va_Pc [.ref (ξ.2.2.2.1 q0), .ref (ξ.2.2.2.1 q1)] (sw_V Γ A ξ g μ)) (sw_Qv Γ A ξ res μ (sw_wf ξ res.2.2)) 0 0 A := by
  refine Met.ofW (cc := prog_2_method_5_code) (maxL := 2) (ret := none) (by decide) rfl ?_
  intro p e s m args below meth c s₁ B hml hv
  obtain ⟨rfl, hv⟩ := hv
  have S : CallFix p m c prog_2_method_5_code 2 s _ (Cond.code yHi_become prog_2_method_5_code 2 (none) :: sw_tb) R_Hi := ⟨B.exec, B.bytes, hml, findClass_of_methodNamed B.named, atoms_spec (ws := (Cond.code yHi_become prog_2_method_5_code 2 (none) :: sw_tb)) B.pre⟩
  have hr := B.returns
  have hlk := B.notSynchronized
  have hw := sw_begin hv
  have hl := lv_entry [.ref (ξ.2.2.2.1 q0), .ref (ξ.2.2.2.1 q1)] (n := 2) (Nat.le_of_ble_eq_true rfl)
  rw [lg_entry_eq]
  generalize (lg_sl [.ref (ξ.2.2.2.1 q0), .ref (ξ.2.2.2.1 q1)] ++ List.replicate (2 - (lg_sl [.ref (ξ.2.2.2.1 q0), .ref (ξ.2.2.2.1 q1)]).length) Slot.unset).toArray = ls at hl ⊢
  have hl : lv_has ls 2 [(0, .ref (ξ.2.2.2.1 q0)), (1, .ref (ξ.2.2.2.1 q1))] := hl
  unfold fHi_become at hm
  refine lv_aload_n S.1 S.2.1 dHi_become_0 rfl (lv_at hl 0 rfl) ?_
  refine lv_aload_n S.1 S.2.1 dHi_become_1 rfl (lv_at hl 1 rfl) ?_
  refine get_Hi (v := .int (g.1 q1 0)) S hw hq1 0 (by decide) rfl wf_Hi_15 dHi_become_2 ?_
  refine put_Hi S hw hf h0 0 (by decide) ps_Hi_0 rfl rfl rfl wf_Hi_15 hm dHi_become_5 (fun g1 H locs hf hm hw => ?_)
  refine lv_aload_n S.1 S.2.1 dHi_become_8 rfl (lv_at hl 0 rfl) ?_
  refine lv_aload_n S.1 S.2.1 dHi_become_9 rfl (lv_at hl 1 rfl) ?_
  refine get_Hi (v := .int (g1.1 q1 1)) S hw hq1 1 (by decide) rfl wf_Hi_19 dHi_become_10 ?_
  refine put_Hi S hw hf h0 1 (by decide) ps_Hi_1 rfl rfl rfl wf_Hi_19 hm dHi_become_13 (fun g2 H locs hf hm hw => ?_)
  refine lv_aload_n S.1 S.2.1 dHi_become_16 rfl (lv_at hl 1 rfl) ?_
  refine get_Hi (v := .ref (ξ.2.2.2.1 (q1 + 1))) S hw hq1 2 (by decide) rfl wf_Hi_11 dHi_become_17 ?_
  refine lv_iconst (v := (0 : Int32)) S.1 S.2.1 dHi_become_20 (by decide) ?_
  refine lv_aload_n S.1 S.2.1 dHi_become_21 rfl (lv_at hl 0 rfl) ?_
  refine get_Hi (v := .ref (ξ.2.2.2.1 (q0 + 1))) S hw h0 2 (by decide) rfl wf_Hi_11 dHi_become_22 ?_
  refine lv_iconst (v := (0 : Int32)) S.1 S.2.1 dHi_become_25 (by decide) ?_
  refine lv_sipush (v := (256 : Int32)) S.1 S.2.1 dHi_become_26 (by decide) ?_
  refine sx_copy (rest := []) S hw hf hl.1 wm_Hi_27 hq1r h0r hm (Nat.le_of_ble_eq_true rfl) (Nat.le_of_ble_eq_true rfl) dHi_become_29 (fun g3 H locs hf hm hw => ?_)
  obtain rfl := Option.some.inj hm
  exact sw_vret S hr hlk hw hf dHi_become_32
set_option maxHeartbeats 4000000 in
set_option maxRecDepth 100000 in
theorem cRk_combine (l : Launch) {Γ : sw_C} {A : Nat → Prop} {ξ : sw_x} {g : sw_g} {μ : sw_m} (hf : sw_wf ξ g.2.2) (a1 : Int32) (a2 : Int64) (a3 : Int64) {res : Int64} (hm : fRk_combine a1 a2 a3 = some res) : Met l yRk_combine (Cond.code yRk_combine prog_6_method_3_code 5 (some .long) :: sw_tb) rmRk_combine (va_Pc [.int a1, .long a2, .long a3] (sw_V Γ A ξ g μ)) (sw_Ql Γ A ξ g μ res (True)) 0 0 A := by
  refine Met.ofW (cc := prog_6_method_3_code) (maxL := 5) (ret := some .long) (by decide) rfl ?_
  intro p e s m args below meth c s₁ B hml hv
  obtain ⟨rfl, hv⟩ := hv
  have S : CallFix p m c prog_6_method_3_code 5 s _ (Cond.code yRk_combine prog_6_method_3_code 5 (some .long) :: sw_tb) R_Rk := ⟨B.exec, B.bytes, hml, findClass_of_methodNamed B.named, atoms_spec (ws := (Cond.code yRk_combine prog_6_method_3_code 5 (some .long) :: sw_tb)) B.pre⟩
  have hr := B.returns
  have hlk := B.notSynchronized
  have hw := sw_begin hv
  have hl := lv_entry [.int a1, .long a2, .long a3] (n := 5) (Nat.le_of_ble_eq_true rfl)
  rw [lg_entry_eq]
  generalize (lg_sl [.int a1, .long a2, .long a3] ++ List.replicate (5 - (lg_sl [.int a1, .long a2, .long a3]).length) Slot.unset).toArray = ls at hl ⊢
  have hl : lv_has ls 5 [(0, .int a1), (1, .long a2), (3, .long a3)] := hl
  unfold fRk_combine at hm
  refine lv_iload_n S.1 S.2.1 dRk_combine_0 rfl (lv_at hl 0 rfl) ?_
  by_cases c0 : a1 = (6 : Int32)
  · have hm := sw_it c0 hm
    refine lv_tableIn (off := 43) (tgt := 44) S.1 S.2.1 dRk_combine_1 (by rw [c0]; decide) (by rw [c0]; decide) (by rw [c0]; decide) (by decide) ?_
    refine lv_lload_n S.1 S.2.1 dRk_combine_44 rfl (lv_at hl 1 rfl) ?_
    refine lv_lload_n S.1 S.2.1 dRk_combine_45 rfl (lv_at hl 2 rfl) ?_
    refine lv_ladd S.1 S.2.1 dRk_combine_46 ?_
    obtain rfl := Option.some.inj hm
    exact sw_lret S hr hlk hw trivial dRk_combine_47
  · have hm := sw_if c0 hm
    by_cases c1 : a1 = (7 : Int32)
    · have hm := sw_it c1 hm
      refine lv_tableIn (off := 47) (tgt := 48) S.1 S.2.1 dRk_combine_1 (by rw [c1]; decide) (by rw [c1]; decide) (by rw [c1]; decide) (by decide) ?_
      refine lv_lload_n S.1 S.2.1 dRk_combine_48 rfl (lv_at hl 1 rfl) ?_
      refine lv_lload_n S.1 S.2.1 dRk_combine_49 rfl (lv_at hl 2 rfl) ?_
      refine lv_lsub S.1 S.2.1 dRk_combine_50 ?_
      obtain rfl := Option.some.inj hm
      exact sw_lret S hr hlk hw trivial dRk_combine_51
    · have hm := sw_if c1 hm
      by_cases c2 : a1 = (8 : Int32)
      · have hm := sw_it c2 hm
        refine lv_tableIn (off := 51) (tgt := 52) S.1 S.2.1 dRk_combine_1 (by rw [c2]; decide) (by rw [c2]; decide) (by rw [c2]; decide) (by decide) ?_
        refine lv_lload_n S.1 S.2.1 dRk_combine_52 rfl (lv_at hl 1 rfl) ?_
        refine lv_lload_n S.1 S.2.1 dRk_combine_53 rfl (lv_at hl 2 rfl) ?_
        refine lv_lmul S.1 S.2.1 dRk_combine_54 ?_
        obtain rfl := Option.some.inj hm
        exact sw_lret S hr hlk hw trivial dRk_combine_55
      · have hm := sw_if c2 hm
        by_cases c3 : a1 = (9 : Int32)
        · have hm := sw_it c3 hm
          refine lv_tableIn (off := 55) (tgt := 56) S.1 S.2.1 dRk_combine_1 (by rw [c3]; decide) (by rw [c3]; decide) (by rw [c3]; decide) (by decide) ?_
          refine lv_lload_n S.1 S.2.1 dRk_combine_56 rfl (lv_at hl 2 rfl) ?_
          refine lv_lconst (v := (0 : Int64)) S.1 S.2.1 dRk_combine_57 (by decide) ?_
          refine W.lcmp S.1 S.2.1 dRk_combine_58 ?_
          refine bif_ne (tgt := 68) S.1 S.2.1 hm dRk_combine_59 (by decide) (fun hm => ?_) (fun hm => ?_)
          · refine lv_lload_n S.1 S.2.1 dRk_combine_68 rfl (lv_at hl 1 rfl) ?_
            refine lv_lload_n S.1 S.2.1 dRk_combine_69 rfl (lv_at hl 2 rfl) ?_
            obtain ⟨hz, hm⟩ := ob_nzl hm
            refine lv_ldiv S.1 S.2.1 dRk_combine_70 hz ?_
            obtain rfl := Option.some.inj hm
            exact sw_lret S hr hlk hw trivial dRk_combine_71
          · refine lv_ldc2 S.1 S.2.1 S.2.2.2.1 (sw_word S wc_Rk_36) dRk_combine_62 ?_
            refine lv_goto (tgt := 71) S.1 S.2.1 dRk_combine_65 (by decide) ?_
            obtain rfl := Option.some.inj hm
            exact sw_lret S hr hlk hw trivial dRk_combine_71
        · have hm := sw_if c3 hm
          by_cases c4 : a1 = (10 : Int32)
          · have hm := sw_it c4 hm
            refine lv_tableIn (off := 71) (tgt := 72) S.1 S.2.1 dRk_combine_1 (by rw [c4]; decide) (by rw [c4]; decide) (by rw [c4]; decide) (by decide) ?_
            refine lv_lload_n S.1 S.2.1 dRk_combine_72 rfl (lv_at hl 2 rfl) ?_
            refine lv_lconst (v := (0 : Int64)) S.1 S.2.1 dRk_combine_73 (by decide) ?_
            refine W.lcmp S.1 S.2.1 dRk_combine_74 ?_
            refine bif_ne (tgt := 84) S.1 S.2.1 hm dRk_combine_75 (by decide) (fun hm => ?_) (fun hm => ?_)
            · refine lv_lload_n S.1 S.2.1 dRk_combine_84 rfl (lv_at hl 1 rfl) ?_
              refine lv_lload_n S.1 S.2.1 dRk_combine_85 rfl (lv_at hl 2 rfl) ?_
              obtain ⟨hz, hm⟩ := ob_nzl hm
              refine lv_lrem S.1 S.2.1 dRk_combine_86 hz ?_
              obtain rfl := Option.some.inj hm
              exact sw_lret S hr hlk hw trivial dRk_combine_87
            · refine lv_ldc2 S.1 S.2.1 S.2.2.2.1 (sw_word S wc_Rk_36) dRk_combine_78 ?_
              refine lv_goto (tgt := 87) S.1 S.2.1 dRk_combine_81 (by decide) ?_
              obtain rfl := Option.some.inj hm
              exact sw_lret S hr hlk hw trivial dRk_combine_87
          · have hm := sw_if c4 hm
            by_cases c5 : a1 = (11 : Int32)
            · have hm := sw_it c5 hm
              refine lv_tableIn (off := 87) (tgt := 88) S.1 S.2.1 dRk_combine_1 (by rw [c5]; decide) (by rw [c5]; decide) (by rw [c5]; decide) (by decide) ?_
              refine lv_lload_n S.1 S.2.1 dRk_combine_88 rfl (lv_at hl 1 rfl) ?_
              refine lv_lload_n S.1 S.2.1 dRk_combine_89 rfl (lv_at hl 2 rfl) ?_
              refine W.lcmp S.1 S.2.1 dRk_combine_90 ?_
              refine bif_ge (tgt := 98) S.1 S.2.1 hm dRk_combine_91 (by decide) (fun hm => ?_) (fun hm => ?_)
              · refine lv_lconst (v := (0 : Int64)) S.1 S.2.1 dRk_combine_98 (by decide) ?_
                obtain rfl := Option.some.inj hm
                exact sw_lret S hr hlk hw trivial dRk_combine_99
              · refine lv_lconst (v := (1 : Int64)) S.1 S.2.1 dRk_combine_94 (by decide) ?_
                refine lv_goto (tgt := 99) S.1 S.2.1 dRk_combine_95 (by decide) ?_
                obtain rfl := Option.some.inj hm
                exact sw_lret S hr hlk hw trivial dRk_combine_99
            · have hm := sw_if c5 hm
              by_cases c6 : a1 = (12 : Int32)
              · have hm := sw_it c6 hm
                refine lv_tableIn (off := 99) (tgt := 100) S.1 S.2.1 dRk_combine_1 (by rw [c6]; decide) (by rw [c6]; decide) (by rw [c6]; decide) (by decide) ?_
                refine lv_lload_n S.1 S.2.1 dRk_combine_100 rfl (lv_at hl 1 rfl) ?_
                refine lv_lload_n S.1 S.2.1 dRk_combine_101 rfl (lv_at hl 2 rfl) ?_
                refine W.lcmp S.1 S.2.1 dRk_combine_102 ?_
                refine bif_le (tgt := 110) S.1 S.2.1 hm dRk_combine_103 (by decide) (fun hm => ?_) (fun hm => ?_)
                · refine lv_lconst (v := (0 : Int64)) S.1 S.2.1 dRk_combine_110 (by decide) ?_
                  obtain rfl := Option.some.inj hm
                  exact sw_lret S hr hlk hw trivial dRk_combine_111
                · refine lv_lconst (v := (1 : Int64)) S.1 S.2.1 dRk_combine_106 (by decide) ?_
                  refine lv_goto (tgt := 111) S.1 S.2.1 dRk_combine_107 (by decide) ?_
                  obtain rfl := Option.some.inj hm
                  exact sw_lret S hr hlk hw trivial dRk_combine_111
              · have hm := sw_if c6 hm
                refine lv_tableOut (tgt := 112) S.1 S.2.1 dRk_combine_1 (by have := lv_neT c0 (show ((6 : Int32)).toInt = 6 from rfl); have := lv_neT c1 (show ((7 : Int32)).toInt = 7 from rfl); have := lv_neT c2 (show ((8 : Int32)).toInt = 8 from rfl); have := lv_neT c3 (show ((9 : Int32)).toInt = 9 from rfl); have := lv_neT c4 (show ((10 : Int32)).toInt = 10 from rfl); have := lv_neT c5 (show ((11 : Int32)).toInt = 11 from rfl); have := lv_neT c6 (show ((12 : Int32)).toInt = 12 from rfl); omega) (by decide) ?_
                refine lv_lload_n S.1 S.2.1 dRk_combine_112 rfl (lv_at hl 1 rfl) ?_
                refine lv_lload_n S.1 S.2.1 dRk_combine_113 rfl (lv_at hl 2 rfl) ?_
                refine W.lcmp S.1 S.2.1 dRk_combine_114 ?_
                refine bif_ne (tgt := 122) S.1 S.2.1 hm dRk_combine_115 (by decide) (fun hm => ?_) (fun hm => ?_)
                · refine lv_lconst (v := (0 : Int64)) S.1 S.2.1 dRk_combine_122 (by decide) ?_
                  obtain rfl := Option.some.inj hm
                  exact sw_lret S hr hlk hw trivial dRk_combine_123
                · refine lv_lconst (v := (1 : Int64)) S.1 S.2.1 dRk_combine_118 (by decide) ?_
                  refine lv_goto (tgt := 123) S.1 S.2.1 dRk_combine_119 (by decide) ?_
                  obtain rfl := Option.some.inj hm
                  exact sw_lret S hr hlk hw trivial dRk_combine_123
set_option maxHeartbeats 4000000 in
set_option maxRecDepth 100000 in
theorem cJu_ask (l : Launch) {Γ : sw_C} {A : Nat → Prop} {ξ : sw_x} {g : sw_g} {μ : sw_m} (hf : sw_wf ξ g.2.2) (q1 : Nat) (hq1 : sw_ik ξ q1 3) (a2 : Int32) (a3 : Int32) {res : sw_g} (hm : fJu_ask ξ.2.2.1 g q1 a2 a3 = some res) : Met l yJu_ask (Cond.code yJu_ask prog_3_method_7_code 4 (none) :: sw_tb) rmJu_ask (va_Pc [.ref (ξ.2.2.2.1 42), .ref (ξ.2.2.2.1 q1), .int a2, .int a3] (sw_V Γ A ξ g μ)) (sw_Qv Γ A ξ res μ (sw_wf ξ res.2.2)) 0 0 A := by
  refine Met.ofW (cc := prog_3_method_7_code) (maxL := 4) (ret := none) (by decide) rfl ?_
  intro p e s m args below meth c s₁ B hml hv
  obtain ⟨rfl, hv⟩ := hv
  have S : CallFix p m c prog_3_method_7_code 4 s _ (Cond.code yJu_ask prog_3_method_7_code 4 (none) :: sw_tb) R_Ju := ⟨B.exec, B.bytes, hml, findClass_of_methodNamed B.named, atoms_spec (ws := (Cond.code yJu_ask prog_3_method_7_code 4 (none) :: sw_tb)) B.pre⟩
  have hr := B.returns
  have hlk := B.notSynchronized
  have hw := sw_begin hv
  have hl := lv_entry [.ref (ξ.2.2.2.1 42), .ref (ξ.2.2.2.1 q1), .int a2, .int a3] (n := 4) (Nat.le_of_ble_eq_true rfl)
  rw [lg_entry_eq]
  generalize (lg_sl [.ref (ξ.2.2.2.1 42), .ref (ξ.2.2.2.1 q1), .int a2, .int a3] ++ List.replicate (4 - (lg_sl [.ref (ξ.2.2.2.1 42), .ref (ξ.2.2.2.1 q1), .int a2, .int a3]).length) Slot.unset).toArray = ls at hl ⊢
  have hl : lv_has ls 4 [(0, .ref (ξ.2.2.2.1 42)), (1, .ref (ξ.2.2.2.1 q1)), (2, .int a2), (3, .int a3)] := hl
  unfold fJu_ask at hm
  refine lv_aload_n S.1 S.2.1 dJu_ask_0 rfl (lv_at hl 0 rfl) ?_
  refine get_Ju (v := .ref (ξ.2.2.2.1 45)) S hw (is_42 hf) 1 (by decide) rfl wf_Ju_18 dJu_ask_1 ?_
  refine lv_iconst (v := (0 : Int32)) S.1 S.2.1 dJu_ask_4 (by decide) ?_
  refine lv_iload_n S.1 S.2.1 dJu_ask_5 rfl (lv_at hl 2 rfl) ?_
  refine sx_iast S hw hf (is_45 hf) hm dJu_ask_6 (fun g1 H locs hf hm hw => ?_)
  refine lv_aload_n S.1 S.2.1 dJu_ask_7 rfl (lv_at hl 0 rfl) ?_
  refine get_Ju (v := .ref (ξ.2.2.2.1 45)) S hw (is_42 hf) 1 (by decide) rfl wf_Ju_18 dJu_ask_8 ?_
  refine lv_iconst (v := (1 : Int32)) S.1 S.2.1 dJu_ask_11 (by decide) ?_
  refine lv_aload_n S.1 S.2.1 dJu_ask_12 rfl (lv_at hl 1 rfl) ?_
  refine get_Pl (v := .ref (ξ.2.2.2.1 (q1 + 1))) S hw hq1 1 (by decide) rfl wf_Ju_36 dJu_ask_13 ?_
  refine lv_iload_n S.1 S.2.1 dJu_ask_16 rfl (lv_at hl 2 rfl) ?_
  refine sx_iald S hw (is_Pl_heavy hf hq1) hm dJu_ask_17 (fun v2 hm => ?_)
  refine sx_iast S hw hf (is_45 hf) hm dJu_ask_18 (fun g3 H locs hf hm hw => ?_)
  refine lv_aload_n S.1 S.2.1 dJu_ask_19 rfl (lv_at hl 0 rfl) ?_
  refine get_Ju (v := .ref (ξ.2.2.2.1 45)) S hw (is_42 hf) 1 (by decide) rfl wf_Ju_18 dJu_ask_20 ?_
  refine lv_iconst (v := (2 : Int32)) S.1 S.2.1 dJu_ask_23 (by decide) ?_
  refine lv_aload_n S.1 S.2.1 dJu_ask_24 rfl (lv_at hl 1 rfl) ?_
  refine get_Pl (v := .ref (ξ.2.2.2.1 (q1 + 2))) S hw hq1 2 (by decide) rfl wf_Ju_71 dJu_ask_25 ?_
  refine lv_iload_n S.1 S.2.1 dJu_ask_28 rfl (lv_at hl 2 rfl) ?_
  refine sx_iald S hw (is_Pl_kind hf hq1) hm dJu_ask_29 (fun v4 hm => ?_)
  refine sx_iast S hw hf (is_45 hf) hm dJu_ask_30 (fun g5 H locs hf hm hw => ?_)
  refine lv_aload_n S.1 S.2.1 dJu_ask_31 rfl (lv_at hl 0 rfl) ?_
  refine get_Ju (v := .ref (ξ.2.2.2.1 45)) S hw (is_42 hf) 1 (by decide) rfl wf_Ju_18 dJu_ask_32 ?_
  refine lv_iconst (v := (3 : Int32)) S.1 S.2.1 dJu_ask_35 (by decide) ?_
  refine lv_iload_n S.1 S.2.1 dJu_ask_36 rfl (lv_at hl 3 rfl) ?_
  refine sx_iast S hw hf (is_45 hf) hm dJu_ask_37 (fun g6 H locs hf hm hw => ?_)
  refine lv_aload_n S.1 S.2.1 dJu_ask_38 rfl (lv_at hl 0 rfl) ?_
  refine get_Ju (v := .ref (ξ.2.2.2.1 45)) S hw (is_42 hf) 1 (by decide) rfl wf_Ju_18 dJu_ask_39 ?_
  refine lv_iconst (v := (4 : Int32)) S.1 S.2.1 dJu_ask_42 (by decide) ?_
  refine lv_iload_n S.1 S.2.1 dJu_ask_43 rfl (lv_at hl 3 rfl) ?_
  refine lv_iconst (v := (3 : Int32)) S.1 S.2.1 dJu_ask_44 (by decide) ?_
  refine lv_isub S.1 S.2.1 dJu_ask_45 ?_
  refine sx_iast S hw hf (is_45 hf) hm dJu_ask_46 (fun g7 H locs hf hm hw => ?_)
  refine lv_aload_n S.1 S.2.1 dJu_ask_47 rfl (lv_at hl 0 rfl) ?_
  refine get_Ju (v := .ref (ξ.2.2.2.1 45)) S hw (is_42 hf) 1 (by decide) rfl wf_Ju_18 dJu_ask_48 ?_
  refine lv_iconst (v := (5 : Int32)) S.1 S.2.1 dJu_ask_51 (by decide) ?_
  refine lv_aload_n S.1 S.2.1 dJu_ask_52 rfl (lv_at hl 1 rfl) ?_
  refine get_Pl (v := .ref (ξ.2.2.2.1 (q1 + 4))) S hw hq1 4 (by decide) rfl wf_Ju_68 dJu_ask_53 ?_
  refine lv_iconst (v := (0 : Int32)) S.1 S.2.1 dJu_ask_56 (by decide) ?_
  refine sx_iald S hw (is_Pl_term hf hq1) hm dJu_ask_57 (fun v8 hm => ?_)
  refine sx_iast S hw hf (is_45 hf) hm dJu_ask_58 (fun g9 H locs hf hm hw => ?_)
  refine lv_aload_n S.1 S.2.1 dJu_ask_59 rfl (lv_at hl 0 rfl) ?_
  refine get_Ju (v := .ref (ξ.2.2.2.1 45)) S hw (is_42 hf) 1 (by decide) rfl wf_Ju_18 dJu_ask_60 ?_
  refine lv_bipush (v := (6 : Int32)) S.1 S.2.1 dJu_ask_63 (by decide) ?_
  refine lv_aload_n S.1 S.2.1 dJu_ask_65 rfl (lv_at hl 1 rfl) ?_
  refine get_Pl (v := .ref (ξ.2.2.2.1 (q1 + 4))) S hw hq1 4 (by decide) rfl wf_Ju_68 dJu_ask_66 ?_
  refine lv_iconst (v := (2 : Int32)) S.1 S.2.1 dJu_ask_69 (by decide) ?_
  refine sx_iald S hw (is_Pl_term hf hq1) hm dJu_ask_70 (fun v10 hm => ?_)
  refine sx_iast S hw hf (is_45 hf) hm dJu_ask_71 (fun g11 H locs hf hm hw => ?_)
  refine lv_aload_n S.1 S.2.1 dJu_ask_72 rfl (lv_at hl 0 rfl) ?_
  refine get_Ju (v := .ref (ξ.2.2.2.1 45)) S hw (is_42 hf) 1 (by decide) rfl wf_Ju_18 dJu_ask_73 ?_
  refine lv_bipush (v := (7 : Int32)) S.1 S.2.1 dJu_ask_76 (by decide) ?_
  refine lv_aload_n S.1 S.2.1 dJu_ask_78 rfl (lv_at hl 1 rfl) ?_
  refine get_Pl (v := .ref (ξ.2.2.2.1 (q1 + 4))) S hw hq1 4 (by decide) rfl wf_Ju_68 dJu_ask_79 ?_
  refine lv_iconst (v := (3 : Int32)) S.1 S.2.1 dJu_ask_82 (by decide) ?_
  refine sx_iald S hw (is_Pl_term hf hq1) hm dJu_ask_83 (fun v12 hm => ?_)
  refine sx_iast S hw hf (is_45 hf) hm dJu_ask_84 (fun g13 H locs hf hm hw => ?_)
  obtain rfl := Option.some.inj hm
  exact sw_vret S hr hlk hw hf dJu_ask_85
set_option maxHeartbeats 4000000 in
set_option maxRecDepth 100000 in
theorem wRe_append_3 {l : Launch} {p : Program} {e : Env} {s : State} {m : MethodId} {args : Array Value} {below : List Frame} {meth : Method} {c : Code} {Γ : sw_C} {A : Nat → Prop} {ξ : sw_x} {μ : sw_m} {res : sw_g} (S : CallFix p m c prog_5_method_2_code 3 s args (Cond.code yRe_append prog_5_method_2_code 3 (none) :: sw_tb) R_Re) (hr : meth.sig.returnType = none) (hlk : meth.locks = false) (N : Nat) : ∀ (fu : Nat) (g : sw_g) (u1 : Int32) (u2 : Int32) (H : Heap) (locs : List Loc) (ls : Array Slot), fRe_append_3 N ξ.2.2.1  fu g u1 u2 = some res → sw_S Γ A ξ g μ s H locs → sw_wf ξ g.2.2 → lv_has ls 3 [(0, .ref (ξ.2.2.2.1 33)), (1, .int u1), (2, .int u2)] → W p l e (headSpec (Cond.code yRe_append prog_5_method_2_code 3 (none) :: sw_tb) rmRe_append).room s m args below meth c H locs 0 0 (MQ below (sw_Qv Γ A ξ res μ (sw_wf ξ res.2.2)) args s 0 0 A) (F0 m 3 ls []) := by
  intro fu
  induction fu with
  | zero => intro g u1 u2 H locs ls hm; rw [fRe_append_3.eq_1] at hm; cases hm
  | succ fu ih =>
    intro g u1 u2 H locs ls hm hw hf hl
    rw [fRe_append_3.eq_2] at hm
    refine lv_iload_n S.1 S.2.1 dRe_append_3 rfl (lv_at hl 2 rfl) ?_
    refine bif_lt (tgt := 49) S.1 S.2.1 hm dRe_append_4 (by decide) (fun hm => ?_) (fun hm => ?_)
    · obtain rfl := Option.some.inj hm
      exact sw_vret S hr hlk hw hf dRe_append_49
    · refine lv_aload_n S.1 S.2.1 dRe_append_7 rfl (lv_at hl 0 rfl) ?_
      refine get_Re (v := .int (g.1 33 0)) S hw (is_33 hf) 0 (by decide) rfl wf_Re_28 dRe_append_8 ?_
      refine lv_sipush (v := (400 : Int32)) S.1 S.2.1 dRe_append_11 (by decide) ?_
      refine bicmp_ge (tgt := 49) S.1 S.2.1 hm dRe_append_14 (by decide) (fun hm => ?_) (fun hm => ?_)
      · obtain rfl := Option.some.inj hm
        exact sw_vret S hr hlk hw hf dRe_append_49
      · refine lv_aload_n S.1 S.2.1 dRe_append_17 rfl (lv_at hl 0 rfl) ?_
        refine get_Re (v := .ref (ξ.2.2.2.1 34)) S hw (is_33 hf) 1 (by decide) rfl wf_Re_9 dRe_append_18 ?_
        refine lv_aload_n S.1 S.2.1 dRe_append_21 rfl (lv_at hl 0 rfl) ?_
        refine get_Re (v := .int (g.1 33 0)) S hw (is_33 hf) 0 (by decide) rfl wf_Re_28 dRe_append_22 ?_
        refine lv_iload_n S.1 S.2.1 dRe_append_25 rfl (lv_at hl 1 rfl) ?_
        refine lv_iload_n S.1 S.2.1 dRe_append_26 rfl (lv_at hl 2 rfl) ?_
        refine lv_iushr (v := (u1.toUInt32 >>> (u2.toUInt32 &&& Int32.toUInt32 31)).toInt32) S.1 S.2.1 dRe_append_27 rfl ?_
        refine lv_sipush (v := (255 : Int32)) S.1 S.2.1 dRe_append_28 (by decide) ?_
        refine lv_iand S.1 S.2.1 dRe_append_31 ?_
        refine sx_iast S hw hf (is_34 hf) hm dRe_append_32 (fun g1 H locs hf hm hw => ?_)
        refine lv_aload_n S.1 S.2.1 dRe_append_33 rfl (lv_at hl 0 rfl) ?_
        refine lv_dup S.1 S.2.1 dRe_append_34 rfl ?_
        refine get_Re (v := .int (g1.1 33 0)) S hw (is_33 hf) 0 (by decide) rfl wf_Re_28 dRe_append_35 ?_
        refine lv_iconst (v := (1 : Int32)) S.1 S.2.1 dRe_append_38 (by decide) ?_
        refine lv_iadd S.1 S.2.1 dRe_append_39 ?_
        refine put_Re S hw hf (is_33 hf) 0 (by decide) ps_Re_0 rfl rfl rfl wf_Re_28 hm dRe_append_40 (fun g2 H locs hf hm hw => ?_)
        obtain ⟨x3, ex3, hm⟩ := nm_x hm
        refine lv_iinc (v := x3) (lv' := [(2, .int x3), (0, .ref (ξ.2.2.2.1 33)), (1, .int u1)]) S.1 S.2.1 dRe_append_43 hl (k := 2) rfl (by rw [ex3]; rfl) (by decide) rfl (fun ls hl => ?_)
        refine lv_goto (tgt := 3) S.1 S.2.1 dRe_append_46 (by decide) ?_
        exact ih g2 u1 x3 _ _ _ hm hw hf (lv_sub hl [1, 2, 0] rfl)
set_option maxHeartbeats 4000000 in
set_option maxRecDepth 100000 in
theorem cRe_append (l : Launch) (N : Nat) {Γ : sw_C} {A : Nat → Prop} {ξ : sw_x} {g : sw_g} {μ : sw_m} (hf : sw_wf ξ g.2.2) (a1 : Int32) {res : sw_g} (hm : fRe_append N ξ.2.2.1 g a1 = some res) : Met l yRe_append (Cond.code yRe_append prog_5_method_2_code 3 (none) :: sw_tb) rmRe_append (va_Pc [.ref (ξ.2.2.2.1 33), .int a1] (sw_V Γ A ξ g μ)) (sw_Qv Γ A ξ res μ (sw_wf ξ res.2.2)) 0 0 A := by
  refine Met.ofW (cc := prog_5_method_2_code) (maxL := 3) (ret := none) (by decide) rfl ?_
  intro p e s m args below meth c s₁ B hml hv
  obtain ⟨rfl, hv⟩ := hv
  have S : CallFix p m c prog_5_method_2_code 3 s _ (Cond.code yRe_append prog_5_method_2_code 3 (none) :: sw_tb) R_Re := ⟨B.exec, B.bytes, hml, findClass_of_methodNamed B.named, atoms_spec (ws := (Cond.code yRe_append prog_5_method_2_code 3 (none) :: sw_tb)) B.pre⟩
  have hr := B.returns
  have hlk := B.notSynchronized
  have hw := sw_begin hv
  have hl := lv_entry [.ref (ξ.2.2.2.1 33), .int a1] (n := 3) (Nat.le_of_ble_eq_true rfl)
  rw [lg_entry_eq]
  generalize (lg_sl [.ref (ξ.2.2.2.1 33), .int a1] ++ List.replicate (3 - (lg_sl [.ref (ξ.2.2.2.1 33), .int a1]).length) Slot.unset).toArray = ls at hl ⊢
  have hl : lv_has ls 3 [(0, .ref (ξ.2.2.2.1 33)), (1, .int a1)] := hl
  unfold fRe_append at hm
  refine lv_bipush (v := (24 : Int32)) S.1 S.2.1 dRe_append_0 (by decide) ?_
  refine lv_istore_n (lv' := [(2, .int (24 : Int32)), (0, .ref (ξ.2.2.2.1 33)), (1, .int a1)]) S.1 S.2.1 dRe_append_2 rfl hl (by decide) rfl (fun ls hl => ?_)
  exact wRe_append_3 S hr hlk N  N g a1 (24 : Int32) _ _ _ hm hw hf (lv_sub hl [1, 2, 0] rfl)
set_option maxHeartbeats 4000000 in
set_option maxRecDepth 100000 in
theorem wRe_fail_16 {l : Launch} {p : Program} {e : Env} {s : State} {m : MethodId} {args : Array Value} {below : List Frame} {meth : Method} {c : Code} {Γ : sw_C} {A : Nat → Prop} {ξ : sw_x} {μ : sw_m} {res : sw_g} (S : CallFix p m c prog_5_method_4_code 1 s args (Cond.code yRe_fail prog_5_method_4_code 1 (none) :: sw_tb) R_Re) (hr : meth.sig.returnType = none) (hlk : meth.locks = false) (N : Nat) : ∀ (g : sw_g)  (H : Heap) (locs : List Loc) (ls : Array Slot), fRe_fail_16 N ξ.2.2.1  g = some res → sw_S Γ A ξ g μ s H locs → sw_wf ξ g.2.2 → lv_has ls 1 [(0, .ref (ξ.2.2.2.1 33))] → W p l e (headSpec (Cond.code yRe_fail prog_5_method_4_code 1 (none) :: sw_tb) rmRe_fail).room s m args below meth c H locs 0 0 (MQ below (sw_Qv Γ A ξ res μ (sw_wf ξ res.2.2)) args s 0 0 A) (F0 m 16 ls []) := by
  intro g H locs ls hm hw hf hl
  unfold fRe_fail_16 at hm
  refine lv_aload_n S.1 S.2.1 dRe_fail_16 rfl (lv_at hl 0 rfl) ?_
  refine lv_aload_n S.1 S.2.1 dRe_fail_17 rfl (lv_at hl 0 rfl) ?_
  refine get_Re (v := .int (g.1 33 0)) S hw (is_33 hf) 0 (by decide) rfl wf_Re_28 dRe_fail_18 ?_
  refine put_Re S hw hf (is_33 hf) 5 (by decide) ps_Re_5 rfl rfl rfl wf_Re_71 hm dRe_fail_21 (fun g1 H locs hf hm hw => ?_)
  refine lv_aload_n S.1 S.2.1 dRe_fail_24 rfl (lv_at hl 0 rfl) ?_
  refine lv_aload_n S.1 S.2.1 dRe_fail_25 rfl (lv_at hl 0 rfl) ?_
  refine get_Re (v := .int (g1.1 33 0)) S hw (is_33 hf) 0 (by decide) rfl wf_Re_28 dRe_fail_26 ?_
  refine put_Re S hw hf (is_33 hf) 6 (by decide) ps_Re_6 rfl rfl rfl wf_Re_35 hm dRe_fail_29 (fun g2 H locs hf hm hw => ?_)
  obtain rfl := Option.some.inj hm
  exact sw_vret S hr hlk hw hf dRe_fail_32
set_option maxHeartbeats 4000000 in
set_option maxRecDepth 100000 in
theorem cRe_fail (l : Launch) (N : Nat) {Γ : sw_C} {A : Nat → Prop} {ξ : sw_x} {g : sw_g} {μ : sw_m} (hf : sw_wf ξ g.2.2) {res : sw_g} (hm : fRe_fail N ξ.2.2.1 g = some res) : Met l yRe_fail (Cond.code yRe_fail prog_5_method_4_code 1 (none) :: sw_tb) rmRe_fail (va_Pc [.ref (ξ.2.2.2.1 33)] (sw_V Γ A ξ g μ)) (sw_Qv Γ A ξ res μ (sw_wf ξ res.2.2)) 0 0 A := by
  refine Met.ofW (cc := prog_5_method_4_code) (maxL := 1) (ret := none) (by decide) rfl ?_
  intro p e s m args below meth c s₁ B hml hv
  obtain ⟨rfl, hv⟩ := hv
  have S : CallFix p m c prog_5_method_4_code 1 s _ (Cond.code yRe_fail prog_5_method_4_code 1 (none) :: sw_tb) R_Re := ⟨B.exec, B.bytes, hml, findClass_of_methodNamed B.named, atoms_spec (ws := (Cond.code yRe_fail prog_5_method_4_code 1 (none) :: sw_tb)) B.pre⟩
  have hr := B.returns
  have hlk := B.notSynchronized
  have hw := sw_begin hv
  have hl := lv_entry [.ref (ξ.2.2.2.1 33)] (n := 1) (Nat.le_of_ble_eq_true rfl)
  rw [lg_entry_eq]
  generalize (lg_sl [.ref (ξ.2.2.2.1 33)] ++ List.replicate (1 - (lg_sl [.ref (ξ.2.2.2.1 33)]).length) Slot.unset).toArray = ls at hl ⊢
  have hl : lv_has ls 1 [(0, .ref (ξ.2.2.2.1 33))] := hl
  unfold fRe_fail at hm
  refine lv_aload_n S.1 S.2.1 dRe_fail_0 rfl (lv_at hl 0 rfl) ?_
  refine get_Re (v := .int (g.1 33 2)) S hw (is_33 hf) 2 (by decide) rfl wf_Re_24 dRe_fail_1 ?_
  refine lv_iconst (v := (-1 : Int32)) S.1 S.2.1 dRe_fail_4 (by decide) ?_
  refine bicmp_ne (tgt := 16) S.1 S.2.1 hm dRe_fail_5 (by decide) (fun hm => ?_) (fun hm => ?_)
  · exact wRe_fail_16 S hr hlk N  g _ _ _ hm hw hf (lv_sub hl [0] rfl)
  · refine lv_aload_n S.1 S.2.1 dRe_fail_8 rfl (lv_at hl 0 rfl) ?_
    refine lv_aload_n S.1 S.2.1 dRe_fail_9 rfl (lv_at hl 0 rfl) ?_
    refine get_Re (v := .int (g.1 33 5)) S hw (is_33 hf) 5 (by decide) rfl wf_Re_71 dRe_fail_10 ?_
    refine put_Re S hw hf (is_33 hf) 2 (by decide) ps_Re_2 rfl rfl rfl wf_Re_24 hm dRe_fail_13 (fun g3 H locs hf hm hw => ?_)
    exact wRe_fail_16 S hr hlk N  g3 _ _ _ hm hw hf (lv_sub hl [0] rfl)
set_option maxHeartbeats 4000000 in
set_option maxRecDepth 100000 in
theorem wRe_sortOf_14 {l : Launch} {p : Program} {e : Env} {s : State} {m : MethodId} {args : Array Value} {below : List Frame} {meth : Method} {c : Code} {Γ : sw_C} {A : Nat → Prop} {ξ : sw_x} {g : sw_g} {μ : sw_m} {res : Int32} (S : CallFix p m c prog_5_method_6_code 1 s args (Cond.code yRe_sortOf prog_5_method_6_code 1 (some .int) :: sw_tb) R_Re) (hr : meth.sig.returnType = some .int) (hlk : meth.locks = false) (hf : sw_wf ξ g.2.2) (N : Nat) : ∀ (u0 : Int32) (H : Heap) (locs : List Loc) (ls : Array Slot), fRe_sortOf_14 N   u0 = some res → sw_S Γ A ξ g μ s H locs → lv_has ls 1 [(0, .int u0)] → W p l e (headSpec (Cond.code yRe_sortOf prog_5_method_6_code 1 (some .int) :: sw_tb) rmRe_sortOf).room s m args below meth c H locs 0 0 (MQ below (sw_Qi Γ A ξ g μ res (True)) args s 0 0 A) (F0 m 14 ls []) := by
  intro u0 H locs ls hm hw hl
  unfold fRe_sortOf_14 at hm
  refine lv_iload_n S.1 S.2.1 dRe_sortOf_14 rfl (lv_at hl 0 rfl) ?_
  refine lv_bipush (v := (48 : Int32)) S.1 S.2.1 dRe_sortOf_15 (by decide) ?_
  refine bicmp_lt (tgt := 30) S.1 S.2.1 hm dRe_sortOf_17 (by decide) (fun hm => ?_) (fun hm => ?_)
  · refine lv_iconst (v := (0 : Int32)) S.1 S.2.1 dRe_sortOf_30 (by decide) ?_
    obtain rfl := Option.some.inj hm
    exact sw_iret S hr hlk hw trivial dRe_sortOf_31
  · refine lv_iload_n S.1 S.2.1 dRe_sortOf_20 rfl (lv_at hl 0 rfl) ?_
    refine lv_bipush (v := (57 : Int32)) S.1 S.2.1 dRe_sortOf_21 (by decide) ?_
    refine bicmp_gt (tgt := 30) S.1 S.2.1 hm dRe_sortOf_23 (by decide) (fun hm => ?_) (fun hm => ?_)
    · refine lv_iconst (v := (0 : Int32)) S.1 S.2.1 dRe_sortOf_30 (by decide) ?_
      obtain rfl := Option.some.inj hm
      exact sw_iret S hr hlk hw trivial dRe_sortOf_31
    · refine lv_iconst (v := (2 : Int32)) S.1 S.2.1 dRe_sortOf_26 (by decide) ?_
      refine lv_goto (tgt := 31) S.1 S.2.1 dRe_sortOf_27 (by decide) ?_
      obtain rfl := Option.some.inj hm
      exact sw_iret S hr hlk hw trivial dRe_sortOf_31
set_option maxHeartbeats 4000000 in
set_option maxRecDepth 100000 in
theorem cRe_sortOf (l : Launch) (N : Nat) {Γ : sw_C} {A : Nat → Prop} {ξ : sw_x} {g : sw_g} {μ : sw_m} (hf : sw_wf ξ g.2.2) (a1 : Int32) {res : Int32} (hm : fRe_sortOf N a1 = some res) : Met l yRe_sortOf (Cond.code yRe_sortOf prog_5_method_6_code 1 (some .int) :: sw_tb) rmRe_sortOf (va_Pc [.int a1] (sw_V Γ A ξ g μ)) (sw_Qi Γ A ξ g μ res (True)) 0 0 A := by
  refine Met.ofW (cc := prog_5_method_6_code) (maxL := 1) (ret := some .int) (by decide) rfl ?_
  intro p e s m args below meth c s₁ B hml hv
  obtain ⟨rfl, hv⟩ := hv
  have S : CallFix p m c prog_5_method_6_code 1 s _ (Cond.code yRe_sortOf prog_5_method_6_code 1 (some .int) :: sw_tb) R_Re := ⟨B.exec, B.bytes, hml, findClass_of_methodNamed B.named, atoms_spec (ws := (Cond.code yRe_sortOf prog_5_method_6_code 1 (some .int) :: sw_tb)) B.pre⟩
  have hr := B.returns
  have hlk := B.notSynchronized
  have hw := sw_begin hv
  have hl := lv_entry [.int a1] (n := 1) (Nat.le_of_ble_eq_true rfl)
  rw [lg_entry_eq]
  generalize (lg_sl [.int a1] ++ List.replicate (1 - (lg_sl [.int a1]).length) Slot.unset).toArray = ls at hl ⊢
  have hl : lv_has ls 1 [(0, .int a1)] := hl
  unfold fRe_sortOf at hm
  refine lv_iload_n S.1 S.2.1 dRe_sortOf_0 rfl (lv_at hl 0 rfl) ?_
  refine lv_bipush (v := (97 : Int32)) S.1 S.2.1 dRe_sortOf_1 (by decide) ?_
  refine bicmp_lt (tgt := 14) S.1 S.2.1 hm dRe_sortOf_3 (by decide) (fun hm => ?_) (fun hm => ?_)
  · exact wRe_sortOf_14 S hr hlk hf N  a1 _ _ _ hm hw (lv_sub hl [0] rfl)
  · refine lv_iload_n S.1 S.2.1 dRe_sortOf_6 rfl (lv_at hl 0 rfl) ?_
    refine lv_bipush (v := (122 : Int32)) S.1 S.2.1 dRe_sortOf_7 (by decide) ?_
    refine bicmp_gt (tgt := 14) S.1 S.2.1 hm dRe_sortOf_9 (by decide) (fun hm => ?_) (fun hm => ?_)
    · exact wRe_sortOf_14 S hr hlk hf N  a1 _ _ _ hm hw (lv_sub hl [0] rfl)
    · refine lv_iconst (v := (1 : Int32)) S.1 S.2.1 dRe_sortOf_12 (by decide) ?_
      obtain rfl := Option.some.inj hm
      exact sw_iret S hr hlk hw trivial dRe_sortOf_13
set_option maxHeartbeats 4000000 in
set_option maxRecDepth 100000 in
theorem wRe_isToken_20 {l : Launch} {p : Program} {e : Env} {s : State} {m : MethodId} {args : Array Value} {below : List Frame} {meth : Method} {c : Code} {Γ : sw_C} {A : Nat → Prop} {ξ : sw_x} {μ : sw_m} {res : Int32 × sw_g} (S : CallFix p m c prog_5_method_7_code 3 s args (Cond.code yRe_isToken prog_5_method_7_code 3 (some .boolean) :: sw_tb) R_Re) (hr : meth.sig.returnType = some .boolean) (hlk : meth.locks = false) (i1 : Nat) (hi1 : i1 < 39) (N : Nat) : ∀ (fu : Nat) (g : sw_g) (u2 : Int32) (H : Heap) (locs : List Loc) (ls : Array Slot), fRe_isToken_20 N ξ.2.2.1 i1  fu g u2 = some res → sw_S Γ A ξ g μ s H locs → sw_wf ξ g.2.2 → lv_has ls 3 [(0, .ref (ξ.2.2.2.1 33)), (1, .ref (Γ.2.2.1 i1)), (2, .int u2)] → W p l e (headSpec (Cond.code yRe_isToken prog_5_method_7_code 3 (some .boolean) :: sw_tb) rmRe_isToken).room s m args below meth c H locs 0 0 (MQ below (sw_Qi Γ A ξ res.2 μ res.1 (sw_wf ξ res.2.2.2)) args s 0 0 A) (F0 m 20 ls []) := by
  intro fu
  induction fu with
  | zero => intro g u2 H locs ls hm; rw [fRe_isToken_20.eq_1] at hm; cases hm
  | succ fu ih =>
    intro g u2 H locs ls hm hw hf hl
    rw [fRe_isToken_20.eq_2] at hm
    refine lv_iload_n S.1 S.2.1 dRe_isToken_20 rfl (lv_at hl 2 rfl) ?_
    refine lv_aload_n S.1 S.2.1 dRe_isToken_21 rfl (lv_at hl 1 rfl) ?_
    refine sw_slen (i := i1) (rest := [.int u2]) S hw wm_Re_81 hi1 hl.1 (Nat.le_of_ble_eq_true rfl) (Nat.le_of_ble_eq_true rfl) (Nat.le_of_ble_eq_true rfl) ⟨Nat.le_of_ble_eq_true rfl, Nat.le_of_ble_eq_true rfl⟩ dRe_isToken_22 (fun H locs hw => ?_)
    refine bicmp_ge (tgt := 55) S.1 S.2.1 hm dRe_isToken_25 (by decide) (fun hm => ?_) (fun hm => ?_)
    · refine lv_iconst (v := (1 : Int32)) S.1 S.2.1 dRe_isToken_55 (by decide) ?_
      obtain rfl := Option.some.inj hm
      exact sw_zret S hr hlk (Or.inr rfl) hw hf dRe_isToken_56
    · refine lv_aload_n S.1 S.2.1 dRe_isToken_28 rfl (lv_at hl 0 rfl) ?_
      refine get_Re (v := .ref (ξ.2.2.2.1 34)) S hw (is_33 hf) 1 (by decide) rfl wf_Re_9 dRe_isToken_29 ?_
      refine lv_aload_n S.1 S.2.1 dRe_isToken_32 rfl (lv_at hl 0 rfl) ?_
      refine get_Re (v := .int (g.1 33 5)) S hw (is_33 hf) 5 (by decide) rfl wf_Re_71 dRe_isToken_33 ?_
      refine lv_iload_n S.1 S.2.1 dRe_isToken_36 rfl (lv_at hl 2 rfl) ?_
      refine lv_iadd S.1 S.2.1 dRe_isToken_37 ?_
      refine sx_iald S hw (is_34 hf) hm dRe_isToken_38 (fun v1 hm => ?_)
      refine lv_aload_n S.1 S.2.1 dRe_isToken_39 rfl (lv_at hl 1 rfl) ?_
      refine lv_iload_n S.1 S.2.1 dRe_isToken_40 rfl (lv_at hl 2 rfl) ?_
      refine sw_schr (i := i1) (rest := [.int v1]) S hw wm_Re_86 hi1 hm hl.1 (Nat.le_of_ble_eq_true rfl) (Nat.le_of_ble_eq_true rfl) (Nat.le_of_ble_eq_true rfl) ⟨Nat.le_of_ble_eq_true rfl, Nat.le_of_ble_eq_true rfl⟩ dRe_isToken_41 (fun v2 H locs hm hw => ?_)
      refine bicmp_eq (tgt := 49) S.1 S.2.1 hm dRe_isToken_44 (by decide) (fun hm => ?_) (fun hm => ?_)
      · obtain ⟨x3, ex3, hm⟩ := nm_x hm
        refine lv_iinc (v := x3) (lv' := [(2, .int x3), (0, .ref (ξ.2.2.2.1 33)), (1, .ref (Γ.2.2.1 i1))]) S.1 S.2.1 dRe_isToken_49 hl (k := 2) rfl (by rw [ex3]; rfl) (by decide) rfl (fun ls hl => ?_)
        refine lv_goto (tgt := 20) S.1 S.2.1 dRe_isToken_52 (by decide) ?_
        exact ih g x3 _ _ _ hm hw hf (lv_sub hl [1, 2, 0] rfl)
      · refine lv_iconst (v := (0 : Int32)) S.1 S.2.1 dRe_isToken_47 (by decide) ?_
        obtain rfl := Option.some.inj hm
        exact sw_zret S hr hlk (Or.inl rfl) hw hf dRe_isToken_48
set_option maxHeartbeats 4000000 in
set_option maxRecDepth 100000 in
theorem cRe_isToken (l : Launch) (N : Nat) {Γ : sw_C} {A : Nat → Prop} {ξ : sw_x} {g : sw_g} {μ : sw_m} (hf : sw_wf ξ g.2.2) (i1 : Nat) (hi1 : i1 < 39) {res : Int32 × sw_g} (hm : fRe_isToken N ξ.2.2.1 g i1 = some res) : Met l yRe_isToken (Cond.code yRe_isToken prog_5_method_7_code 3 (some .boolean) :: sw_tb) rmRe_isToken (va_Pc [.ref (ξ.2.2.2.1 33), .ref (Γ.2.2.1 i1)] (sw_V Γ A ξ g μ)) (sw_Qi Γ A ξ res.2 μ res.1 (sw_wf ξ res.2.2.2)) 0 0 A := by
  refine Met.ofW (cc := prog_5_method_7_code) (maxL := 3) (ret := some .boolean) (by decide) rfl ?_
  intro p e s m args below meth c s₁ B hml hv
  obtain ⟨rfl, hv⟩ := hv
  have S : CallFix p m c prog_5_method_7_code 3 s _ (Cond.code yRe_isToken prog_5_method_7_code 3 (some .boolean) :: sw_tb) R_Re := ⟨B.exec, B.bytes, hml, findClass_of_methodNamed B.named, atoms_spec (ws := (Cond.code yRe_isToken prog_5_method_7_code 3 (some .boolean) :: sw_tb)) B.pre⟩
  have hr := B.returns
  have hlk := B.notSynchronized
  have hw := sw_begin hv
  have hl := lv_entry [.ref (ξ.2.2.2.1 33), .ref (Γ.2.2.1 i1)] (n := 3) (Nat.le_of_ble_eq_true rfl)
  rw [lg_entry_eq]
  generalize (lg_sl [.ref (ξ.2.2.2.1 33), .ref (Γ.2.2.1 i1)] ++ List.replicate (3 - (lg_sl [.ref (ξ.2.2.2.1 33), .ref (Γ.2.2.1 i1)]).length) Slot.unset).toArray = ls at hl ⊢
  have hl : lv_has ls 3 [(0, .ref (ξ.2.2.2.1 33)), (1, .ref (Γ.2.2.1 i1))] := hl
  unfold fRe_isToken at hm
  refine lv_aload_n S.1 S.2.1 dRe_isToken_0 rfl (lv_at hl 0 rfl) ?_
  refine get_Re (v := .int (g.1 33 6)) S hw (is_33 hf) 6 (by decide) rfl wf_Re_35 dRe_isToken_1 ?_
  refine lv_aload_n S.1 S.2.1 dRe_isToken_4 rfl (lv_at hl 0 rfl) ?_
  refine get_Re (v := .int (g.1 33 5)) S hw (is_33 hf) 5 (by decide) rfl wf_Re_71 dRe_isToken_5 ?_
  refine lv_isub S.1 S.2.1 dRe_isToken_8 ?_
  refine lv_aload_n S.1 S.2.1 dRe_isToken_9 rfl (lv_at hl 1 rfl) ?_
  refine sw_slen (i := i1) (rest := [.int ((g.1 33 6) - (g.1 33 5))]) S hw wm_Re_81 hi1 hl.1 (Nat.le_of_ble_eq_true rfl) (Nat.le_of_ble_eq_true rfl) (Nat.le_of_ble_eq_true rfl) ⟨Nat.le_of_ble_eq_true rfl, Nat.le_of_ble_eq_true rfl⟩ dRe_isToken_10 (fun H locs hw => ?_)
  refine bicmp_eq (tgt := 18) S.1 S.2.1 hm dRe_isToken_13 (by decide) (fun hm => ?_) (fun hm => ?_)
  · refine lv_iconst (v := (0 : Int32)) S.1 S.2.1 dRe_isToken_18 (by decide) ?_
    refine lv_istore_n (lv' := [(2, .int (0 : Int32)), (0, .ref (ξ.2.2.2.1 33)), (1, .ref (Γ.2.2.1 i1))]) S.1 S.2.1 dRe_isToken_19 rfl hl (by decide) rfl (fun ls hl => ?_)
    exact wRe_isToken_20 S hr hlk i1 hi1 N  N g (0 : Int32) _ _ _ hm hw hf (lv_sub hl [1, 2, 0] rfl)
  · refine lv_iconst (v := (0 : Int32)) S.1 S.2.1 dRe_isToken_16 (by decide) ?_
    obtain rfl := Option.some.inj hm
    exact sw_zret S hr hlk (Or.inl rfl) hw hf dRe_isToken_17
set_option maxHeartbeats 4000000 in
set_option maxRecDepth 100000 in
theorem wRe_numberFrom_37 {l : Launch} {p : Program} {e : Env} {s : State} {m : MethodId} {args : Array Value} {below : List Frame} {meth : Method} {c : Code} {Γ : sw_C} {A : Nat → Prop} {ξ : sw_x} {μ : sw_m} {res : Int32 × sw_g} (S : CallFix p m c prog_5_method_10_code 5 s args (Cond.code yRe_numberFrom prog_5_method_10_code 5 (some .int) :: sw_tb) R_Re) (hr : meth.sig.returnType = some .int) (hlk : meth.locks = false) (N : Nat) : ∀ (fu : Nat) (g : sw_g) (u1 : Int32) (u2 : Int32) (u3 : Int32) (u4 : Int32) (H : Heap) (locs : List Loc) (ls : Array Slot), fRe_numberFrom_37 N ξ.2.2.1  fu g u1 u2 u3 u4 = some res → sw_S Γ A ξ g μ s H locs → sw_wf ξ g.2.2 → lv_has ls 5 [(0, .ref (ξ.2.2.2.1 33)), (1, .int u1), (2, .int u2), (3, .int u3), (4, .int u4)] → W p l e (headSpec (Cond.code yRe_numberFrom prog_5_method_10_code 5 (some .int) :: sw_tb) rmRe_numberFrom).room s m args below meth c H locs 0 0 (MQ below (sw_Qi Γ A ξ res.2 μ res.1 (sw_wf ξ res.2.2.2)) args s 0 0 A) (F0 m 37 ls []) := by
  intro fu
  induction fu with
  | zero => intro g u1 u2 u3 u4 H locs ls hm; rw [fRe_numberFrom_37.eq_1] at hm; cases hm
  | succ fu ih =>
    intro g u1 u2 u3 u4 H locs ls hm hw hf hl
    rw [fRe_numberFrom_37.eq_2] at hm
    refine lv_iload S.1 S.2.1 dRe_numberFrom_37 (lv_at hl 4 rfl) ?_
    refine lv_aload_n S.1 S.2.1 dRe_numberFrom_39 rfl (lv_at hl 0 rfl) ?_
    refine get_Re (v := .int (g.1 33 6)) S hw (is_33 hf) 6 (by decide) rfl wf_Re_35 dRe_numberFrom_40 ?_
    refine bicmp_ge (tgt := 74) S.1 S.2.1 hm dRe_numberFrom_43 (by decide) (fun hm => ?_) (fun hm => ?_)
    · refine lv_iload_n S.1 S.2.1 dRe_numberFrom_74 rfl (lv_at hl 3 rfl) ?_
      refine lv_iload_n S.1 S.2.1 dRe_numberFrom_75 rfl (lv_at hl 1 rfl) ?_
      refine bicmp_lt (tgt := 88) S.1 S.2.1 hm dRe_numberFrom_76 (by decide) (fun hm => ?_) (fun hm => ?_)
      · refine lv_iconst (v := (-1 : Int32)) S.1 S.2.1 dRe_numberFrom_88 (by decide) ?_
        obtain rfl := Option.some.inj hm
        exact sw_iret S hr hlk hw hf dRe_numberFrom_89
      · refine lv_iload_n S.1 S.2.1 dRe_numberFrom_79 rfl (lv_at hl 3 rfl) ?_
        refine lv_iload_n S.1 S.2.1 dRe_numberFrom_80 rfl (lv_at hl 2 rfl) ?_
        refine bicmp_gt (tgt := 88) S.1 S.2.1 hm dRe_numberFrom_81 (by decide) (fun hm => ?_) (fun hm => ?_)
        · refine lv_iconst (v := (-1 : Int32)) S.1 S.2.1 dRe_numberFrom_88 (by decide) ?_
          obtain rfl := Option.some.inj hm
          exact sw_iret S hr hlk hw hf dRe_numberFrom_89
        · refine lv_iload_n S.1 S.2.1 dRe_numberFrom_84 rfl (lv_at hl 3 rfl) ?_
          refine lv_goto (tgt := 89) S.1 S.2.1 dRe_numberFrom_85 (by decide) ?_
          obtain rfl := Option.some.inj hm
          exact sw_iret S hr hlk hw hf dRe_numberFrom_89
    · refine lv_iload_n S.1 S.2.1 dRe_numberFrom_46 rfl (lv_at hl 3 rfl) ?_
      refine lv_bipush (v := (10 : Int32)) S.1 S.2.1 dRe_numberFrom_47 (by decide) ?_
      refine lv_imul S.1 S.2.1 dRe_numberFrom_49 ?_
      refine lv_aload_n S.1 S.2.1 dRe_numberFrom_50 rfl (lv_at hl 0 rfl) ?_
      refine get_Re (v := .ref (ξ.2.2.2.1 34)) S hw (is_33 hf) 1 (by decide) rfl wf_Re_9 dRe_numberFrom_51 ?_
      refine lv_iload S.1 S.2.1 dRe_numberFrom_54 (lv_at hl 4 rfl) ?_
      refine sx_iald S hw (is_34 hf) hm dRe_numberFrom_56 (fun v5 hm => ?_)
      refine lv_iadd S.1 S.2.1 dRe_numberFrom_57 ?_
      refine lv_bipush (v := (48 : Int32)) S.1 S.2.1 dRe_numberFrom_58 (by decide) ?_
      refine lv_isub S.1 S.2.1 dRe_numberFrom_60 ?_
      refine lv_sipush (v := (1001 : Int32)) S.1 S.2.1 dRe_numberFrom_61 (by decide) ?_
      refine sw_min (rest := []) S hl.1 wm_Re_93 (Nat.le_of_ble_eq_true rfl) (Nat.le_of_ble_eq_true rfl) (Nat.le_of_ble_eq_true rfl) (Nat.le_of_ble_eq_true rfl) dRe_numberFrom_64 ?_
      refine nm_i hm (fun x6 hm => ?_)
      refine lv_istore_n (lv' := [(3, .int x6), (0, .ref (ξ.2.2.2.1 33)), (1, .int u1), (2, .int u2), (4, .int u4)]) S.1 S.2.1 dRe_numberFrom_67 rfl hl (by decide) rfl (fun ls hl => ?_)
      obtain ⟨x7, ex7, hm⟩ := nm_x hm
      refine lv_iinc (v := x7) (lv' := [(4, .int x7), (3, .int x6), (0, .ref (ξ.2.2.2.1 33)), (1, .int u1), (2, .int u2)]) S.1 S.2.1 dRe_numberFrom_68 hl (k := 4) rfl (by rw [ex7]; rfl) (by decide) rfl (fun ls hl => ?_)
      refine lv_goto (tgt := 37) S.1 S.2.1 dRe_numberFrom_71 (by decide) ?_
      exact ih g u1 u2 x6 x7 _ _ _ hm hw hf (lv_sub hl [2, 3, 4, 1, 0] rfl)
set_option maxHeartbeats 4000000 in
set_option maxRecDepth 100000 in
theorem cRe_numberFrom (l : Launch) (N : Nat) {Γ : sw_C} {A : Nat → Prop} {ξ : sw_x} {g : sw_g} {μ : sw_m} (hf : sw_wf ξ g.2.2) (a1 : Int32) (a2 : Int32) {res : Int32 × sw_g} (hm : fRe_numberFrom N ξ.2.2.1 g a1 a2 = some res) : Met l yRe_numberFrom (Cond.code yRe_numberFrom prog_5_method_10_code 5 (some .int) :: sw_tb) rmRe_numberFrom (va_Pc [.ref (ξ.2.2.2.1 33), .int a1, .int a2] (sw_V Γ A ξ g μ)) (sw_Qi Γ A ξ res.2 μ res.1 (sw_wf ξ res.2.2.2)) 0 0 A := by
  refine Met.ofW (cc := prog_5_method_10_code) (maxL := 5) (ret := some .int) (by decide) rfl ?_
  intro p e s m args below meth c s₁ B hml hv
  obtain ⟨rfl, hv⟩ := hv
  have S : CallFix p m c prog_5_method_10_code 5 s _ (Cond.code yRe_numberFrom prog_5_method_10_code 5 (some .int) :: sw_tb) R_Re := ⟨B.exec, B.bytes, hml, findClass_of_methodNamed B.named, atoms_spec (ws := (Cond.code yRe_numberFrom prog_5_method_10_code 5 (some .int) :: sw_tb)) B.pre⟩
  have hr := B.returns
  have hlk := B.notSynchronized
  have hw := sw_begin hv
  have hl := lv_entry [.ref (ξ.2.2.2.1 33), .int a1, .int a2] (n := 5) (Nat.le_of_ble_eq_true rfl)
  rw [lg_entry_eq]
  generalize (lg_sl [.ref (ξ.2.2.2.1 33), .int a1, .int a2] ++ List.replicate (5 - (lg_sl [.ref (ξ.2.2.2.1 33), .int a1, .int a2]).length) Slot.unset).toArray = ls at hl ⊢
  have hl : lv_has ls 5 [(0, .ref (ξ.2.2.2.1 33)), (1, .int a1), (2, .int a2)] := hl
  unfold fRe_numberFrom at hm
  refine lv_aload_n S.1 S.2.1 dRe_numberFrom_0 rfl (lv_at hl 0 rfl) ?_
  refine get_Re (v := .int (g.1 33 5)) S hw (is_33 hf) 5 (by decide) rfl wf_Re_71 dRe_numberFrom_1 ?_
  refine lv_aload_n S.1 S.2.1 dRe_numberFrom_4 rfl (lv_at hl 0 rfl) ?_
  refine get_Re (v := .int (g.1 33 0)) S hw (is_33 hf) 0 (by decide) rfl wf_Re_28 dRe_numberFrom_5 ?_
  refine bicmp_ge (tgt := 27) S.1 S.2.1 hm dRe_numberFrom_8 (by decide) (fun hm => ?_) (fun hm => ?_)
  · refine lv_iconst (v := (-1 : Int32)) S.1 S.2.1 dRe_numberFrom_27 (by decide) ?_
    obtain rfl := Option.some.inj hm
    exact sw_iret S hr hlk hw hf dRe_numberFrom_28
  · refine lv_aload_n S.1 S.2.1 dRe_numberFrom_11 rfl (lv_at hl 0 rfl) ?_
    refine get_Re (v := .ref (ξ.2.2.2.1 34)) S hw (is_33 hf) 1 (by decide) rfl wf_Re_9 dRe_numberFrom_12 ?_
    refine lv_aload_n S.1 S.2.1 dRe_numberFrom_15 rfl (lv_at hl 0 rfl) ?_
    refine get_Re (v := .int (g.1 33 5)) S hw (is_33 hf) 5 (by decide) rfl wf_Re_71 dRe_numberFrom_16 ?_
    refine sx_iald S hw (is_34 hf) hm dRe_numberFrom_19 (fun v1 hm => ?_)
    obtain ⟨v3, h2, hm⟩ := ob hm
    refine sw_Si (rest := []) S hw (cRe_sortOf l N hf v1 h2) kRe_sortOf wm_Re_77 rfl rfl hl.1 (Nat.le_of_ble_eq_true rfl) ⟨rfl, rfl, Nat.le_of_ble_eq_true rfl, Nat.le_of_ble_eq_true rfl⟩ ⟨Nat.le_of_ble_eq_true rfl, Nat.le_of_ble_eq_true rfl⟩ dRe_numberFrom_20 (fun H locs hw _ => ?_)
    refine lv_iconst (v := (2 : Int32)) S.1 S.2.1 dRe_numberFrom_23 (by decide) ?_
    refine bicmp_eq (tgt := 29) S.1 S.2.1 hm dRe_numberFrom_24 (by decide) (fun hm => ?_) (fun hm => ?_)
    · refine lv_iconst (v := (0 : Int32)) S.1 S.2.1 dRe_numberFrom_29 (by decide) ?_
      refine lv_istore_n (lv' := [(3, .int (0 : Int32)), (0, .ref (ξ.2.2.2.1 33)), (1, .int a1), (2, .int a2)]) S.1 S.2.1 dRe_numberFrom_30 rfl hl (by decide) rfl (fun ls hl => ?_)
      refine lv_aload_n S.1 S.2.1 dRe_numberFrom_31 rfl (lv_at hl 1 rfl) ?_
      refine get_Re (v := .int (g.1 33 5)) S hw (is_33 hf) 5 (by decide) rfl wf_Re_71 dRe_numberFrom_32 ?_
      refine nm_i hm (fun x4 hm => ?_)
      refine lv_istore (lv' := [(4, .int x4), (3, .int (0 : Int32)), (0, .ref (ξ.2.2.2.1 33)), (1, .int a1), (2, .int a2)]) S.1 S.2.1 dRe_numberFrom_35 hl (by decide) rfl (fun ls hl => ?_)
      exact wRe_numberFrom_37 S hr hlk N  N g a1 a2 (0 : Int32) x4 _ _ _ hm hw hf (lv_sub hl [2, 3, 4, 1, 0] rfl)
    · refine lv_iconst (v := (-1 : Int32)) S.1 S.2.1 dRe_numberFrom_27 (by decide) ?_
      obtain rfl := Option.some.inj hm
      exact sw_iret S hr hlk hw hf dRe_numberFrom_28
set_option maxHeartbeats 4000000 in
set_option maxRecDepth 100000 in
theorem cRe_emit (l : Launch) (N : Nat) {Γ : sw_C} {A : Nat → Prop} {ξ : sw_x} {g : sw_g} {μ : sw_m} (hf : sw_wf ξ g.2.2) (a1 : Int32) (a2 : Int32) {res : sw_g} (hm : fRe_emit N ξ.2.2.1 g a1 a2 = some res) : Met l yRe_emit (Cond.code yRe_emit prog_5_method_12_code 3 (none) :: sw_tb) rmRe_emit (va_Pc [.ref (ξ.2.2.2.1 33), .int a1, .int a2] (sw_V Γ A ξ g μ)) (sw_Qv Γ A ξ res μ (sw_wf ξ res.2.2)) 0 0 A := by
  refine Met.ofW (cc := prog_5_method_12_code) (maxL := 3) (ret := none) (by decide) rfl ?_
  intro p e s m args below meth c s₁ B hml hv
  obtain ⟨rfl, hv⟩ := hv
  have S : CallFix p m c prog_5_method_12_code 3 s _ (Cond.code yRe_emit prog_5_method_12_code 3 (none) :: sw_tb) R_Re := ⟨B.exec, B.bytes, hml, findClass_of_methodNamed B.named, atoms_spec (ws := (Cond.code yRe_emit prog_5_method_12_code 3 (none) :: sw_tb)) B.pre⟩
  have hr := B.returns
  have hlk := B.notSynchronized
  have hw := sw_begin hv
  have hl := lv_entry [.ref (ξ.2.2.2.1 33), .int a1, .int a2] (n := 3) (Nat.le_of_ble_eq_true rfl)
  rw [lg_entry_eq]
  generalize (lg_sl [.ref (ξ.2.2.2.1 33), .int a1, .int a2] ++ List.replicate (3 - (lg_sl [.ref (ξ.2.2.2.1 33), .int a1, .int a2]).length) Slot.unset).toArray = ls at hl ⊢
  have hl : lv_has ls 3 [(0, .ref (ξ.2.2.2.1 33)), (1, .int a1), (2, .int a2)] := hl
  unfold fRe_emit at hm
  refine lv_aload_n S.1 S.2.1 dRe_emit_0 rfl (lv_at hl 0 rfl) ?_
  refine get_Re (v := .ref (ξ.2.2.2.1 35)) S hw (is_33 hf) 3 (by decide) rfl wf_Re_20 dRe_emit_1 ?_
  refine get_Te (v := .int (g.1 35 6)) S hw (is_35 hf) 6 (by decide) rfl wf_Re_44 dRe_emit_4 ?_
  refine lv_sipush (v := (512 : Int32)) S.1 S.2.1 dRe_emit_7 (by decide) ?_
  refine bicmp_ge (tgt := 51) S.1 S.2.1 hm dRe_emit_10 (by decide) (fun hm => ?_) (fun hm => ?_)
  · refine lv_aload_n S.1 S.2.1 dRe_emit_51 rfl (lv_at hl 0 rfl) ?_
    obtain ⟨g2, h1, hm⟩ := ob hm
    refine sw_Vv (q := 33) (rest := []) S hw (cRe_fail l N hf  h1) kRe_fail wm_Re_74 (is_33 hf).1 (e_Re (is_33 hf)) rfl rfl rfl rfl hl.1 (Nat.le_of_ble_eq_true rfl) ⟨rfl, rfl, Nat.le_of_ble_eq_true rfl, Nat.le_of_ble_eq_true rfl⟩ ⟨Nat.le_of_ble_eq_true rfl, Nat.le_of_ble_eq_true rfl⟩ dRe_emit_52 (fun H locs hw hf => ?_)
    obtain rfl := Option.some.inj hm
    exact sw_vret S hr hlk hw hf dRe_emit_55
  · refine lv_aload_n S.1 S.2.1 dRe_emit_13 rfl (lv_at hl 0 rfl) ?_
    refine get_Re (v := .ref (ξ.2.2.2.1 35)) S hw (is_33 hf) 3 (by decide) rfl wf_Re_20 dRe_emit_14 ?_
    refine get_Te (v := .ref (ξ.2.2.2.1 41)) S hw (is_35 hf) 7 (by decide) rfl wf_Re_102 dRe_emit_17 ?_
    refine lv_aload_n S.1 S.2.1 dRe_emit_20 rfl (lv_at hl 0 rfl) ?_
    refine get_Re (v := .ref (ξ.2.2.2.1 35)) S hw (is_33 hf) 3 (by decide) rfl wf_Re_20 dRe_emit_21 ?_
    refine get_Te (v := .int (g.1 35 6)) S hw (is_35 hf) 6 (by decide) rfl wf_Re_44 dRe_emit_24 ?_
    refine lv_iload_n S.1 S.2.1 dRe_emit_27 rfl (lv_at hl 1 rfl) ?_
    refine lv_sipush (v := (2048 : Int32)) S.1 S.2.1 dRe_emit_28 (by decide) ?_
    refine lv_imul S.1 S.2.1 dRe_emit_31 ?_
    refine lv_iload_n S.1 S.2.1 dRe_emit_32 rfl (lv_at hl 2 rfl) ?_
    refine lv_iadd S.1 S.2.1 dRe_emit_33 ?_
    refine sx_iast S hw hf (is_41 hf) hm dRe_emit_34 (fun g3 H locs hf hm hw => ?_)
    refine lv_aload_n S.1 S.2.1 dRe_emit_35 rfl (lv_at hl 0 rfl) ?_
    refine get_Re (v := .ref (ξ.2.2.2.1 35)) S hw (is_33 hf) 3 (by decide) rfl wf_Re_20 dRe_emit_36 ?_
    refine lv_dup S.1 S.2.1 dRe_emit_39 rfl ?_
    refine get_Te (v := .int (g3.1 35 6)) S hw (is_35 hf) 6 (by decide) rfl wf_Re_44 dRe_emit_40 ?_
    refine lv_iconst (v := (1 : Int32)) S.1 S.2.1 dRe_emit_43 (by decide) ?_
    refine lv_iadd S.1 S.2.1 dRe_emit_44 ?_
    refine put_Te S hw hf (is_35 hf) 6 (by decide) ps_Te_6 rfl rfl rfl wf_Re_44 hm dRe_emit_45 (fun g4 H locs hf hm hw => ?_)
    refine lv_goto (tgt := 55) S.1 S.2.1 dRe_emit_48 (by decide) ?_
    obtain rfl := Option.some.inj hm
    exact sw_vret S hr hlk hw hf dRe_emit_55
set_option maxHeartbeats 4000000 in
set_option maxRecDepth 100000 in
theorem cRe_leadHere (l : Launch) {Γ : sw_C} {A : Nat → Prop} {ξ : sw_x} {g : sw_g} {μ : sw_m} (hf : sw_wf ξ g.2.2) (a1 : Int32) (a2 : Int32) {res : sw_g} (hm : fRe_leadHere ξ.2.2.1 g a1 a2 = some res) : Met l yRe_leadHere (Cond.code yRe_leadHere prog_5_method_13_code 3 (none) :: sw_tb) rmRe_leadHere (va_Pc [.ref (ξ.2.2.2.1 33), .int a1, .int a2] (sw_V Γ A ξ g μ)) (sw_Qv Γ A ξ res μ (sw_wf ξ res.2.2)) 0 0 A := by
  refine Met.ofW (cc := prog_5_method_13_code) (maxL := 3) (ret := none) (by decide) rfl ?_
  intro p e s m args below meth c s₁ B hml hv
  obtain ⟨rfl, hv⟩ := hv
  have S : CallFix p m c prog_5_method_13_code 3 s _ (Cond.code yRe_leadHere prog_5_method_13_code 3 (none) :: sw_tb) R_Re := ⟨B.exec, B.bytes, hml, findClass_of_methodNamed B.named, atoms_spec (ws := (Cond.code yRe_leadHere prog_5_method_13_code 3 (none) :: sw_tb)) B.pre⟩
  have hr := B.returns
  have hlk := B.notSynchronized
  have hw := sw_begin hv
  have hl := lv_entry [.ref (ξ.2.2.2.1 33), .int a1, .int a2] (n := 3) (Nat.le_of_ble_eq_true rfl)
  rw [lg_entry_eq]
  generalize (lg_sl [.ref (ξ.2.2.2.1 33), .int a1, .int a2] ++ List.replicate (3 - (lg_sl [.ref (ξ.2.2.2.1 33), .int a1, .int a2]).length) Slot.unset).toArray = ls at hl ⊢
  have hl : lv_has ls 3 [(0, .ref (ξ.2.2.2.1 33)), (1, .int a1), (2, .int a2)] := hl
  unfold fRe_leadHere at hm
  refine lv_iload_n S.1 S.2.1 dRe_leadHere_0 rfl (lv_at hl 1 rfl) ?_
  refine lv_sipush (v := (512 : Int32)) S.1 S.2.1 dRe_leadHere_1 (by decide) ?_
  refine bicmp_ge (tgt := 29) S.1 S.2.1 hm dRe_leadHere_4 (by decide) (fun hm => ?_) (fun hm => ?_)
  · obtain rfl := Option.some.inj hm
    exact sw_vret S hr hlk hw hf dRe_leadHere_29
  · refine lv_aload_n S.1 S.2.1 dRe_leadHere_7 rfl (lv_at hl 0 rfl) ?_
    refine get_Re (v := .ref (ξ.2.2.2.1 35)) S hw (is_33 hf) 3 (by decide) rfl wf_Re_20 dRe_leadHere_8 ?_
    refine get_Te (v := .ref (ξ.2.2.2.1 41)) S hw (is_35 hf) 7 (by decide) rfl wf_Re_102 dRe_leadHere_11 ?_
    refine lv_iload_n S.1 S.2.1 dRe_leadHere_14 rfl (lv_at hl 1 rfl) ?_
    refine lv_iload_n S.1 S.2.1 dRe_leadHere_15 rfl (lv_at hl 2 rfl) ?_
    refine lv_sipush (v := (2048 : Int32)) S.1 S.2.1 dRe_leadHere_16 (by decide) ?_
    refine lv_imul S.1 S.2.1 dRe_leadHere_19 ?_
    refine lv_aload_n S.1 S.2.1 dRe_leadHere_20 rfl (lv_at hl 0 rfl) ?_
    refine get_Re (v := .ref (ξ.2.2.2.1 35)) S hw (is_33 hf) 3 (by decide) rfl wf_Re_20 dRe_leadHere_21 ?_
    refine get_Te (v := .int (g.1 35 6)) S hw (is_35 hf) 6 (by decide) rfl wf_Re_44 dRe_leadHere_24 ?_
    refine lv_iadd S.1 S.2.1 dRe_leadHere_27 ?_
    refine sx_iast S hw hf (is_41 hf) hm dRe_leadHere_28 (fun g1 H locs hf hm hw => ?_)
    obtain rfl := Option.some.inj hm
    exact sw_vret S hr hlk hw hf dRe_leadHere_29
set_option maxHeartbeats 4000000 in
set_option maxRecDepth 100000 in
theorem cRe_lawWord (l : Launch) (N : Nat) {Γ : sw_C} {A : Nat → Prop} {ξ : sw_x} {g : sw_g} {μ : sw_m} (hf : sw_wf ξ g.2.2) {res : Int32 × sw_g} (hm : fRe_lawWord N ξ.2.2.1 g = some res) : Met l yRe_lawWord (Cond.code yRe_lawWord prog_5_method_26_code 1 (some .int) :: sw_tb) rmRe_lawWord (va_Pc [.ref (ξ.2.2.2.1 33)] (sw_V Γ A ξ g μ)) (sw_Qi Γ A ξ res.2 μ res.1 (sw_wf ξ res.2.2.2)) 0 0 A := by
  refine Met.ofW (cc := prog_5_method_26_code) (maxL := 1) (ret := some .int) (by decide) rfl ?_
  intro p e s m args below meth c s₁ B hml hv
  obtain ⟨rfl, hv⟩ := hv
  have S : CallFix p m c prog_5_method_26_code 1 s _ (Cond.code yRe_lawWord prog_5_method_26_code 1 (some .int) :: sw_tb) R_Re := ⟨B.exec, B.bytes, hml, findClass_of_methodNamed B.named, atoms_spec (ws := (Cond.code yRe_lawWord prog_5_method_26_code 1 (some .int) :: sw_tb)) B.pre⟩
  have hr := B.returns
  have hlk := B.notSynchronized
  have hw := sw_begin hv
  have hl := lv_entry [.ref (ξ.2.2.2.1 33)] (n := 1) (Nat.le_of_ble_eq_true rfl)
  rw [lg_entry_eq]
  generalize (lg_sl [.ref (ξ.2.2.2.1 33)] ++ List.replicate (1 - (lg_sl [.ref (ξ.2.2.2.1 33)]).length) Slot.unset).toArray = ls at hl ⊢
  have hl : lv_has ls 1 [(0, .ref (ξ.2.2.2.1 33))] := hl
  unfold fRe_lawWord at hm
  refine lv_aload_n S.1 S.2.1 dRe_lawWord_0 rfl (lv_at hl 0 rfl) ?_
  refine va_ldcS S.1 S.2.1 S.2.2.2.1 (hw.2.2.2.2.2.2.1 3 (by decide)) dRe_lawWord_1 ?_
  obtain ⟨⟨v3, g2⟩, h1, hm⟩ := ob hm
  refine sw_Vi (q := 33) (rest := []) S hw (cRe_isToken l N hf 3 (by decide) h1) kRe_isToken wm_Re_90 (is_33 hf).1 (e_Re (is_33 hf)) rfl rfl rfl rfl hl.1 (Nat.le_of_ble_eq_true rfl) ⟨rfl, rfl, Nat.le_of_ble_eq_true rfl, Nat.le_of_ble_eq_true rfl⟩ ⟨Nat.le_of_ble_eq_true rfl, Nat.le_of_ble_eq_true rfl⟩ dRe_lawWord_3 (fun H locs hw hf => ?_)
  refine bif_eq (tgt := 11) S.1 S.2.1 hm dRe_lawWord_6 (by decide) (fun hm => ?_) (fun hm => ?_)
  · refine lv_aload_n S.1 S.2.1 dRe_lawWord_11 rfl (lv_at hl 0 rfl) ?_
    refine va_ldcS S.1 S.2.1 S.2.2.2.1 (hw.2.2.2.2.2.2.1 4 (by decide)) dRe_lawWord_12 ?_
    obtain ⟨⟨v6, g5⟩, h4, hm⟩ := ob hm
    refine sw_Vi (q := 33) (rest := []) S hw (cRe_isToken l N hf 4 (by decide) h4) kRe_isToken wm_Re_90 (is_33 hf).1 (e_Re (is_33 hf)) rfl rfl rfl rfl hl.1 (Nat.le_of_ble_eq_true rfl) ⟨rfl, rfl, Nat.le_of_ble_eq_true rfl, Nat.le_of_ble_eq_true rfl⟩ ⟨Nat.le_of_ble_eq_true rfl, Nat.le_of_ble_eq_true rfl⟩ dRe_lawWord_14 (fun H locs hw hf => ?_)
    refine bif_eq (tgt := 22) S.1 S.2.1 hm dRe_lawWord_17 (by decide) (fun hm => ?_) (fun hm => ?_)
    · refine lv_aload_n S.1 S.2.1 dRe_lawWord_22 rfl (lv_at hl 0 rfl) ?_
      refine va_ldcS S.1 S.2.1 S.2.2.2.1 (hw.2.2.2.2.2.2.1 5 (by decide)) dRe_lawWord_23 ?_
      obtain ⟨⟨v9, g8⟩, h7, hm⟩ := ob hm
      refine sw_Vi (q := 33) (rest := []) S hw (cRe_isToken l N hf 5 (by decide) h7) kRe_isToken wm_Re_90 (is_33 hf).1 (e_Re (is_33 hf)) rfl rfl rfl rfl hl.1 (Nat.le_of_ble_eq_true rfl) ⟨rfl, rfl, Nat.le_of_ble_eq_true rfl, Nat.le_of_ble_eq_true rfl⟩ ⟨Nat.le_of_ble_eq_true rfl, Nat.le_of_ble_eq_true rfl⟩ dRe_lawWord_25 (fun H locs hw hf => ?_)
      refine bif_eq (tgt := 33) S.1 S.2.1 hm dRe_lawWord_28 (by decide) (fun hm => ?_) (fun hm => ?_)
      · refine lv_aload_n S.1 S.2.1 dRe_lawWord_33 rfl (lv_at hl 0 rfl) ?_
        refine va_ldcS S.1 S.2.1 S.2.2.2.1 (hw.2.2.2.2.2.2.1 6 (by decide)) dRe_lawWord_34 ?_
        obtain ⟨⟨v12, g11⟩, h10, hm⟩ := ob hm
        refine sw_Vi (q := 33) (rest := []) S hw (cRe_isToken l N hf 6 (by decide) h10) kRe_isToken wm_Re_90 (is_33 hf).1 (e_Re (is_33 hf)) rfl rfl rfl rfl hl.1 (Nat.le_of_ble_eq_true rfl) ⟨rfl, rfl, Nat.le_of_ble_eq_true rfl, Nat.le_of_ble_eq_true rfl⟩ ⟨Nat.le_of_ble_eq_true rfl, Nat.le_of_ble_eq_true rfl⟩ dRe_lawWord_36 (fun H locs hw hf => ?_)
        refine bif_eq (tgt := 44) S.1 S.2.1 hm dRe_lawWord_39 (by decide) (fun hm => ?_) (fun hm => ?_)
        · refine lv_aload_n S.1 S.2.1 dRe_lawWord_44 rfl (lv_at hl 0 rfl) ?_
          refine va_ldcS S.1 S.2.1 S.2.2.2.1 (hw.2.2.2.2.2.2.1 7 (by decide)) dRe_lawWord_45 ?_
          obtain ⟨⟨v15, g14⟩, h13, hm⟩ := ob hm
          refine sw_Vi (q := 33) (rest := []) S hw (cRe_isToken l N hf 7 (by decide) h13) kRe_isToken wm_Re_90 (is_33 hf).1 (e_Re (is_33 hf)) rfl rfl rfl rfl hl.1 (Nat.le_of_ble_eq_true rfl) ⟨rfl, rfl, Nat.le_of_ble_eq_true rfl, Nat.le_of_ble_eq_true rfl⟩ ⟨Nat.le_of_ble_eq_true rfl, Nat.le_of_ble_eq_true rfl⟩ dRe_lawWord_47 (fun H locs hw hf => ?_)
          refine bif_eq (tgt := 55) S.1 S.2.1 hm dRe_lawWord_50 (by decide) (fun hm => ?_) (fun hm => ?_)
          · refine lv_aload_n S.1 S.2.1 dRe_lawWord_55 rfl (lv_at hl 0 rfl) ?_
            refine va_ldcS S.1 S.2.1 S.2.2.2.1 (hw.2.2.2.2.2.2.1 8 (by decide)) dRe_lawWord_56 ?_
            obtain ⟨⟨v18, g17⟩, h16, hm⟩ := ob hm
            refine sw_Vi (q := 33) (rest := []) S hw (cRe_isToken l N hf 8 (by decide) h16) kRe_isToken wm_Re_90 (is_33 hf).1 (e_Re (is_33 hf)) rfl rfl rfl rfl hl.1 (Nat.le_of_ble_eq_true rfl) ⟨rfl, rfl, Nat.le_of_ble_eq_true rfl, Nat.le_of_ble_eq_true rfl⟩ ⟨Nat.le_of_ble_eq_true rfl, Nat.le_of_ble_eq_true rfl⟩ dRe_lawWord_58 (fun H locs hw hf => ?_)
            refine bif_eq (tgt := 66) S.1 S.2.1 hm dRe_lawWord_61 (by decide) (fun hm => ?_) (fun hm => ?_)
            · refine lv_aload_n S.1 S.2.1 dRe_lawWord_66 rfl (lv_at hl 0 rfl) ?_
              refine va_ldcS S.1 S.2.1 S.2.2.2.1 (hw.2.2.2.2.2.2.1 9 (by decide)) dRe_lawWord_67 ?_
              obtain ⟨⟨v21, g20⟩, h19, hm⟩ := ob hm
              refine sw_Vi (q := 33) (rest := []) S hw (cRe_isToken l N hf 9 (by decide) h19) kRe_isToken wm_Re_90 (is_33 hf).1 (e_Re (is_33 hf)) rfl rfl rfl rfl hl.1 (Nat.le_of_ble_eq_true rfl) ⟨rfl, rfl, Nat.le_of_ble_eq_true rfl, Nat.le_of_ble_eq_true rfl⟩ ⟨Nat.le_of_ble_eq_true rfl, Nat.le_of_ble_eq_true rfl⟩ dRe_lawWord_69 (fun H locs hw hf => ?_)
              refine bif_eq (tgt := 78) S.1 S.2.1 hm dRe_lawWord_72 (by decide) (fun hm => ?_) (fun hm => ?_)
              · refine lv_aload_n S.1 S.2.1 dRe_lawWord_78 rfl (lv_at hl 0 rfl) ?_
                refine va_ldcS S.1 S.2.1 S.2.2.2.1 (hw.2.2.2.2.2.2.1 10 (by decide)) dRe_lawWord_79 ?_
                obtain ⟨⟨v24, g23⟩, h22, hm⟩ := ob hm
                refine sw_Vi (q := 33) (rest := []) S hw (cRe_isToken l N hf 10 (by decide) h22) kRe_isToken wm_Re_90 (is_33 hf).1 (e_Re (is_33 hf)) rfl rfl rfl rfl hl.1 (Nat.le_of_ble_eq_true rfl) ⟨rfl, rfl, Nat.le_of_ble_eq_true rfl, Nat.le_of_ble_eq_true rfl⟩ ⟨Nat.le_of_ble_eq_true rfl, Nat.le_of_ble_eq_true rfl⟩ dRe_lawWord_81 (fun H locs hw hf => ?_)
                refine bif_eq (tgt := 92) S.1 S.2.1 hm dRe_lawWord_84 (by decide) (fun hm => ?_) (fun hm => ?_)
                · refine lv_iconst (v := (-1 : Int32)) S.1 S.2.1 dRe_lawWord_92 (by decide) ?_
                  obtain rfl := Option.some.inj hm
                  exact sw_iret S hr hlk hw hf dRe_lawWord_93
                · refine lv_bipush (v := (7 : Int32)) S.1 S.2.1 dRe_lawWord_87 (by decide) ?_
                  refine lv_goto (tgt := 93) S.1 S.2.1 dRe_lawWord_89 (by decide) ?_
                  obtain rfl := Option.some.inj hm
                  exact sw_iret S hr hlk hw hf dRe_lawWord_93
              · refine lv_bipush (v := (6 : Int32)) S.1 S.2.1 dRe_lawWord_75 (by decide) ?_
                obtain rfl := Option.some.inj hm
                exact sw_iret S hr hlk hw hf dRe_lawWord_77
            · refine lv_iconst (v := (5 : Int32)) S.1 S.2.1 dRe_lawWord_64 (by decide) ?_
              obtain rfl := Option.some.inj hm
              exact sw_iret S hr hlk hw hf dRe_lawWord_65
          · refine lv_iconst (v := (4 : Int32)) S.1 S.2.1 dRe_lawWord_53 (by decide) ?_
            obtain rfl := Option.some.inj hm
            exact sw_iret S hr hlk hw hf dRe_lawWord_54
        · refine lv_iconst (v := (3 : Int32)) S.1 S.2.1 dRe_lawWord_42 (by decide) ?_
          obtain rfl := Option.some.inj hm
          exact sw_iret S hr hlk hw hf dRe_lawWord_43
      · refine lv_iconst (v := (2 : Int32)) S.1 S.2.1 dRe_lawWord_31 (by decide) ?_
        obtain rfl := Option.some.inj hm
        exact sw_iret S hr hlk hw hf dRe_lawWord_32
    · refine lv_iconst (v := (1 : Int32)) S.1 S.2.1 dRe_lawWord_20 (by decide) ?_
      obtain rfl := Option.some.inj hm
      exact sw_iret S hr hlk hw hf dRe_lawWord_21
  · refine lv_iconst (v := (0 : Int32)) S.1 S.2.1 dRe_lawWord_9 (by decide) ?_
    obtain rfl := Option.some.inj hm
    exact sw_iret S hr hlk hw hf dRe_lawWord_10
set_option maxHeartbeats 4000000 in
set_option maxRecDepth 100000 in
theorem cRe_orderWord (l : Launch) (N : Nat) {Γ : sw_C} {A : Nat → Prop} {ξ : sw_x} {g : sw_g} {μ : sw_m} (hf : sw_wf ξ g.2.2) {res : Int32 × sw_g} (hm : fRe_orderWord N ξ.2.2.1 g = some res) : Met l yRe_orderWord (Cond.code yRe_orderWord prog_5_method_27_code 1 (some .int) :: sw_tb) rmRe_orderWord (va_Pc [.ref (ξ.2.2.2.1 33)] (sw_V Γ A ξ g μ)) (sw_Qi Γ A ξ res.2 μ res.1 (sw_wf ξ res.2.2.2)) 0 0 A := by
  refine Met.ofW (cc := prog_5_method_27_code) (maxL := 1) (ret := some .int) (by decide) rfl ?_
  intro p e s m args below meth c s₁ B hml hv
  obtain ⟨rfl, hv⟩ := hv
  have S : CallFix p m c prog_5_method_27_code 1 s _ (Cond.code yRe_orderWord prog_5_method_27_code 1 (some .int) :: sw_tb) R_Re := ⟨B.exec, B.bytes, hml, findClass_of_methodNamed B.named, atoms_spec (ws := (Cond.code yRe_orderWord prog_5_method_27_code 1 (some .int) :: sw_tb)) B.pre⟩
  have hr := B.returns
  have hlk := B.notSynchronized
  have hw := sw_begin hv
  have hl := lv_entry [.ref (ξ.2.2.2.1 33)] (n := 1) (Nat.le_of_ble_eq_true rfl)
  rw [lg_entry_eq]
  generalize (lg_sl [.ref (ξ.2.2.2.1 33)] ++ List.replicate (1 - (lg_sl [.ref (ξ.2.2.2.1 33)]).length) Slot.unset).toArray = ls at hl ⊢
  have hl : lv_has ls 1 [(0, .ref (ξ.2.2.2.1 33))] := hl
  unfold fRe_orderWord at hm
  refine lv_aload_n S.1 S.2.1 dRe_orderWord_0 rfl (lv_at hl 0 rfl) ?_
  refine va_ldcS S.1 S.2.1 S.2.2.2.1 (hw.2.2.2.2.2.2.1 8 (by decide)) dRe_orderWord_1 ?_
  obtain ⟨⟨v3, g2⟩, h1, hm⟩ := ob hm
  refine sw_Vi (q := 33) (rest := []) S hw (cRe_isToken l N hf 8 (by decide) h1) kRe_isToken wm_Re_90 (is_33 hf).1 (e_Re (is_33 hf)) rfl rfl rfl rfl hl.1 (Nat.le_of_ble_eq_true rfl) ⟨rfl, rfl, Nat.le_of_ble_eq_true rfl, Nat.le_of_ble_eq_true rfl⟩ ⟨Nat.le_of_ble_eq_true rfl, Nat.le_of_ble_eq_true rfl⟩ dRe_orderWord_3 (fun H locs hw hf => ?_)
  refine bif_eq (tgt := 11) S.1 S.2.1 hm dRe_orderWord_6 (by decide) (fun hm => ?_) (fun hm => ?_)
  · refine lv_aload_n S.1 S.2.1 dRe_orderWord_11 rfl (lv_at hl 0 rfl) ?_
    refine va_ldcS S.1 S.2.1 S.2.2.2.1 (hw.2.2.2.2.2.2.1 11 (by decide)) dRe_orderWord_12 ?_
    obtain ⟨⟨v6, g5⟩, h4, hm⟩ := ob hm
    refine sw_Vi (q := 33) (rest := []) S hw (cRe_isToken l N hf 11 (by decide) h4) kRe_isToken wm_Re_90 (is_33 hf).1 (e_Re (is_33 hf)) rfl rfl rfl rfl hl.1 (Nat.le_of_ble_eq_true rfl) ⟨rfl, rfl, Nat.le_of_ble_eq_true rfl, Nat.le_of_ble_eq_true rfl⟩ ⟨Nat.le_of_ble_eq_true rfl, Nat.le_of_ble_eq_true rfl⟩ dRe_orderWord_14 (fun H locs hw hf => ?_)
    refine bif_eq (tgt := 22) S.1 S.2.1 hm dRe_orderWord_17 (by decide) (fun hm => ?_) (fun hm => ?_)
    · refine lv_aload_n S.1 S.2.1 dRe_orderWord_22 rfl (lv_at hl 0 rfl) ?_
      refine va_ldcS S.1 S.2.1 S.2.2.2.1 (hw.2.2.2.2.2.2.1 12 (by decide)) dRe_orderWord_23 ?_
      obtain ⟨⟨v9, g8⟩, h7, hm⟩ := ob hm
      refine sw_Vi (q := 33) (rest := []) S hw (cRe_isToken l N hf 12 (by decide) h7) kRe_isToken wm_Re_90 (is_33 hf).1 (e_Re (is_33 hf)) rfl rfl rfl rfl hl.1 (Nat.le_of_ble_eq_true rfl) ⟨rfl, rfl, Nat.le_of_ble_eq_true rfl, Nat.le_of_ble_eq_true rfl⟩ ⟨Nat.le_of_ble_eq_true rfl, Nat.le_of_ble_eq_true rfl⟩ dRe_orderWord_25 (fun H locs hw hf => ?_)
      refine bif_eq (tgt := 33) S.1 S.2.1 hm dRe_orderWord_28 (by decide) (fun hm => ?_) (fun hm => ?_)
      · refine lv_aload_n S.1 S.2.1 dRe_orderWord_33 rfl (lv_at hl 0 rfl) ?_
        refine va_ldcS S.1 S.2.1 S.2.2.2.1 (hw.2.2.2.2.2.2.1 13 (by decide)) dRe_orderWord_34 ?_
        obtain ⟨⟨v12, g11⟩, h10, hm⟩ := ob hm
        refine sw_Vi (q := 33) (rest := []) S hw (cRe_isToken l N hf 13 (by decide) h10) kRe_isToken wm_Re_90 (is_33 hf).1 (e_Re (is_33 hf)) rfl rfl rfl rfl hl.1 (Nat.le_of_ble_eq_true rfl) ⟨rfl, rfl, Nat.le_of_ble_eq_true rfl, Nat.le_of_ble_eq_true rfl⟩ ⟨Nat.le_of_ble_eq_true rfl, Nat.le_of_ble_eq_true rfl⟩ dRe_orderWord_36 (fun H locs hw hf => ?_)
        refine bif_eq (tgt := 44) S.1 S.2.1 hm dRe_orderWord_39 (by decide) (fun hm => ?_) (fun hm => ?_)
        · refine lv_aload_n S.1 S.2.1 dRe_orderWord_44 rfl (lv_at hl 0 rfl) ?_
          refine va_ldcS S.1 S.2.1 S.2.2.2.1 (hw.2.2.2.2.2.2.1 14 (by decide)) dRe_orderWord_45 ?_
          obtain ⟨⟨v15, g14⟩, h13, hm⟩ := ob hm
          refine sw_Vi (q := 33) (rest := []) S hw (cRe_isToken l N hf 14 (by decide) h13) kRe_isToken wm_Re_90 (is_33 hf).1 (e_Re (is_33 hf)) rfl rfl rfl rfl hl.1 (Nat.le_of_ble_eq_true rfl) ⟨rfl, rfl, Nat.le_of_ble_eq_true rfl, Nat.le_of_ble_eq_true rfl⟩ ⟨Nat.le_of_ble_eq_true rfl, Nat.le_of_ble_eq_true rfl⟩ dRe_orderWord_47 (fun H locs hw hf => ?_)
          refine bif_eq (tgt := 55) S.1 S.2.1 hm dRe_orderWord_50 (by decide) (fun hm => ?_) (fun hm => ?_)
          · refine lv_aload_n S.1 S.2.1 dRe_orderWord_55 rfl (lv_at hl 0 rfl) ?_
            refine va_ldcS S.1 S.2.1 S.2.2.2.1 (hw.2.2.2.2.2.2.1 4 (by decide)) dRe_orderWord_56 ?_
            obtain ⟨⟨v18, g17⟩, h16, hm⟩ := ob hm
            refine sw_Vi (q := 33) (rest := []) S hw (cRe_isToken l N hf 4 (by decide) h16) kRe_isToken wm_Re_90 (is_33 hf).1 (e_Re (is_33 hf)) rfl rfl rfl rfl hl.1 (Nat.le_of_ble_eq_true rfl) ⟨rfl, rfl, Nat.le_of_ble_eq_true rfl, Nat.le_of_ble_eq_true rfl⟩ ⟨Nat.le_of_ble_eq_true rfl, Nat.le_of_ble_eq_true rfl⟩ dRe_orderWord_58 (fun H locs hw hf => ?_)
            refine bif_eq (tgt := 66) S.1 S.2.1 hm dRe_orderWord_61 (by decide) (fun hm => ?_) (fun hm => ?_)
            · refine lv_aload_n S.1 S.2.1 dRe_orderWord_66 rfl (lv_at hl 0 rfl) ?_
              refine va_ldcS S.1 S.2.1 S.2.2.2.1 (hw.2.2.2.2.2.2.1 15 (by decide)) dRe_orderWord_67 ?_
              obtain ⟨⟨v21, g20⟩, h19, hm⟩ := ob hm
              refine sw_Vi (q := 33) (rest := []) S hw (cRe_isToken l N hf 15 (by decide) h19) kRe_isToken wm_Re_90 (is_33 hf).1 (e_Re (is_33 hf)) rfl rfl rfl rfl hl.1 (Nat.le_of_ble_eq_true rfl) ⟨rfl, rfl, Nat.le_of_ble_eq_true rfl, Nat.le_of_ble_eq_true rfl⟩ ⟨Nat.le_of_ble_eq_true rfl, Nat.le_of_ble_eq_true rfl⟩ dRe_orderWord_69 (fun H locs hw hf => ?_)
              refine bif_eq (tgt := 80) S.1 S.2.1 hm dRe_orderWord_72 (by decide) (fun hm => ?_) (fun hm => ?_)
              · refine lv_iconst (v := (-1 : Int32)) S.1 S.2.1 dRe_orderWord_80 (by decide) ?_
                obtain rfl := Option.some.inj hm
                exact sw_iret S hr hlk hw hf dRe_orderWord_81
              · refine lv_bipush (v := (12 : Int32)) S.1 S.2.1 dRe_orderWord_75 (by decide) ?_
                refine lv_goto (tgt := 81) S.1 S.2.1 dRe_orderWord_77 (by decide) ?_
                obtain rfl := Option.some.inj hm
                exact sw_iret S hr hlk hw hf dRe_orderWord_81
            · refine lv_iconst (v := (5 : Int32)) S.1 S.2.1 dRe_orderWord_64 (by decide) ?_
              obtain rfl := Option.some.inj hm
              exact sw_iret S hr hlk hw hf dRe_orderWord_65
          · refine lv_iconst (v := (4 : Int32)) S.1 S.2.1 dRe_orderWord_53 (by decide) ?_
            obtain rfl := Option.some.inj hm
            exact sw_iret S hr hlk hw hf dRe_orderWord_54
        · refine lv_iconst (v := (3 : Int32)) S.1 S.2.1 dRe_orderWord_42 (by decide) ?_
          obtain rfl := Option.some.inj hm
          exact sw_iret S hr hlk hw hf dRe_orderWord_43
      · refine lv_iconst (v := (2 : Int32)) S.1 S.2.1 dRe_orderWord_31 (by decide) ?_
        obtain rfl := Option.some.inj hm
        exact sw_iret S hr hlk hw hf dRe_orderWord_32
    · refine lv_iconst (v := (1 : Int32)) S.1 S.2.1 dRe_orderWord_20 (by decide) ?_
      obtain rfl := Option.some.inj hm
      exact sw_iret S hr hlk hw hf dRe_orderWord_21
  · refine lv_iconst (v := (0 : Int32)) S.1 S.2.1 dRe_orderWord_9 (by decide) ?_
    obtain rfl := Option.some.inj hm
    exact sw_iret S hr hlk hw hf dRe_orderWord_10
set_option maxHeartbeats 4000000 in
set_option maxRecDepth 100000 in
theorem cRo_clear (l : Launch) (N : Nat) {Γ : sw_C} {A : Nat → Prop} {ξ : sw_x} {g : sw_g} {μ : sw_m} (hf : sw_wf ξ g.2.2) {res : sw_g} (hm : fRo_clear N ξ.2.2.1 g = some res) : Met l yRo_clear (Cond.code yRo_clear prog_7_method_2_code 1 (none) :: sw_tb) rmRo_clear (va_Pc [.ref (ξ.2.2.2.1 49)] (sw_V Γ A ξ g μ)) (sw_Qv Γ A ξ res μ (sw_wf ξ res.2.2)) 0 0 A := by
  refine Met.ofW (cc := prog_7_method_2_code) (maxL := 1) (ret := none) (by decide) rfl ?_
  intro p e s m args below meth c s₁ B hml hv
  obtain ⟨rfl, hv⟩ := hv
  have S : CallFix p m c prog_7_method_2_code 1 s _ (Cond.code yRo_clear prog_7_method_2_code 1 (none) :: sw_tb) R_Ro := ⟨B.exec, B.bytes, hml, findClass_of_methodNamed B.named, atoms_spec (ws := (Cond.code yRo_clear prog_7_method_2_code 1 (none) :: sw_tb)) B.pre⟩
  have hr := B.returns
  have hlk := B.notSynchronized
  have hw := sw_begin hv
  have hl := lv_entry [.ref (ξ.2.2.2.1 49)] (n := 1) (Nat.le_of_ble_eq_true rfl)
  rw [lg_entry_eq]
  generalize (lg_sl [.ref (ξ.2.2.2.1 49)] ++ List.replicate (1 - (lg_sl [.ref (ξ.2.2.2.1 49)]).length) Slot.unset).toArray = ls at hl ⊢
  have hl : lv_has ls 1 [(0, .ref (ξ.2.2.2.1 49))] := hl
  unfold fRo_clear at hm
  refine lv_aload_n S.1 S.2.1 dRo_clear_0 rfl (lv_at hl 0 rfl) ?_
  refine get_Ro (v := .ref (ξ.2.2.2.1 51)) S hw (is_49 hf) 1 (by decide) rfl wf_Ro_15 dRo_clear_1 ?_
  refine lv_iconst (v := (0 : Int32)) S.1 S.2.1 dRo_clear_4 (by decide) ?_
  obtain ⟨g2, h1, hm⟩ := ob hm
  refine sw_Sv (rest := []) S hw (cAr_fill l N hf 51 7 (is_51 hf) (0 : Int32) h1) kAr_fill wm_Ro_32 rfl rfl hl.1 (Nat.le_of_ble_eq_true rfl) ⟨rfl, rfl, Nat.le_of_ble_eq_true rfl, Nat.le_of_ble_eq_true rfl⟩ ⟨Nat.le_of_ble_eq_true rfl, Nat.le_of_ble_eq_true rfl⟩ dRo_clear_5 (fun H locs hw hf => ?_)
  obtain rfl := Option.some.inj hm
  exact sw_vret S hr hlk hw hf dRo_clear_8
set_option maxHeartbeats 4000000 in
set_option maxRecDepth 100000 in
theorem cRo_offer (l : Launch) {Γ : sw_C} {A : Nat → Prop} {ξ : sw_x} {g : sw_g} {μ : sw_m} (hf : sw_wf ξ g.2.2) (a1 : Int32) (a2 : Int32) (a3 : Int32) (a4 : Int32) {res : sw_g} (hm : fRo_offer ξ.2.2.1 g a1 a2 a3 a4 = some res) : Met l yRo_offer (Cond.code yRo_offer prog_7_method_3_code 6 (none) :: sw_tb) rmRo_offer (va_Pc [.ref (ξ.2.2.2.1 49), .int a1, .int a2, .int a3, .int a4] (sw_V Γ A ξ g μ)) (sw_Qv Γ A ξ res μ (sw_wf ξ res.2.2)) 0 0 A := by
  refine Met.ofW (cc := prog_7_method_3_code) (maxL := 6) (ret := none) (by decide) rfl ?_
  intro p e s m args below meth c s₁ B hml hv
  obtain ⟨rfl, hv⟩ := hv
  have S : CallFix p m c prog_7_method_3_code 6 s _ (Cond.code yRo_offer prog_7_method_3_code 6 (none) :: sw_tb) R_Ro := ⟨B.exec, B.bytes, hml, findClass_of_methodNamed B.named, atoms_spec (ws := (Cond.code yRo_offer prog_7_method_3_code 6 (none) :: sw_tb)) B.pre⟩
  have hr := B.returns
  have hlk := B.notSynchronized
  have hw := sw_begin hv
  have hl := lv_entry [.ref (ξ.2.2.2.1 49), .int a1, .int a2, .int a3, .int a4] (n := 6) (Nat.le_of_ble_eq_true rfl)
  rw [lg_entry_eq]
  generalize (lg_sl [.ref (ξ.2.2.2.1 49), .int a1, .int a2, .int a3, .int a4] ++ List.replicate (6 - (lg_sl [.ref (ξ.2.2.2.1 49), .int a1, .int a2, .int a3, .int a4]).length) Slot.unset).toArray = ls at hl ⊢
  have hl : lv_has ls 6 [(0, .ref (ξ.2.2.2.1 49)), (1, .int a1), (2, .int a2), (3, .int a3), (4, .int a4)] := hl
  unfold fRo_offer at hm
  refine lv_aload_n S.1 S.2.1 dRo_offer_0 rfl (lv_at hl 0 rfl) ?_
  refine get_Ro (v := .ref (ξ.2.2.2.1 51)) S hw (is_49 hf) 1 (by decide) rfl wf_Ro_15 dRo_offer_1 ?_
  refine lv_iload_n S.1 S.2.1 dRo_offer_4 rfl (lv_at hl 1 rfl) ?_
  refine sx_iald S hw (is_51 hf) hm dRo_offer_5 (fun v1 hm => ?_)
  refine lv_istore (lv' := [(5, .int v1), (0, .ref (ξ.2.2.2.1 49)), (1, .int a1), (2, .int a2), (3, .int a3), (4, .int a4)]) S.1 S.2.1 dRo_offer_6 hl (by decide) rfl (fun ls hl => ?_)
  refine lv_iload S.1 S.2.1 dRo_offer_8 (lv_at hl 0 rfl) ?_
  refine lv_bipush (v := (7 : Int32)) S.1 S.2.1 dRo_offer_10 (by decide) ?_
  refine bicmp_ge (tgt := 56) S.1 S.2.1 hm dRo_offer_12 (by decide) (fun hm => ?_) (fun hm => ?_)
  · obtain rfl := Option.some.inj hm
    exact sw_vret S hr hlk hw hf dRo_offer_56
  · refine lv_aload_n S.1 S.2.1 dRo_offer_15 rfl (lv_at hl 1 rfl) ?_
    refine get_Ro (v := .ref (ξ.2.2.2.1 52)) S hw (is_49 hf) 2 (by decide) rfl wf_Ro_20 dRo_offer_16 ?_
    refine lv_iload_n S.1 S.2.1 dRo_offer_19 rfl (lv_at hl 2 rfl) ?_
    refine sx_rald S hw (is_52 hf) hm dRo_offer_20 (fun j2 hj2 hm => ?_)
    refine lv_iload S.1 S.2.1 dRo_offer_21 (lv_at hl 0 rfl) ?_
    refine lv_iload_n S.1 S.2.1 dRo_offer_23 rfl (lv_at hl 3 rfl) ?_
    refine sx_iast S hw hf (is_r52 hf hj2) hm dRo_offer_24 (fun g3 H locs hf hm hw => ?_)
    refine lv_aload_n S.1 S.2.1 dRo_offer_25 rfl (lv_at hl 1 rfl) ?_
    refine get_Ro (v := .ref (ξ.2.2.2.1 60)) S hw (is_49 hf) 3 (by decide) rfl wf_Ro_23 dRo_offer_26 ?_
    refine lv_iload_n S.1 S.2.1 dRo_offer_29 rfl (lv_at hl 2 rfl) ?_
    refine sx_rald S hw (is_60 hf) hm dRo_offer_30 (fun j4 hj4 hm => ?_)
    refine lv_iload S.1 S.2.1 dRo_offer_31 (lv_at hl 0 rfl) ?_
    refine lv_iload_n S.1 S.2.1 dRo_offer_33 rfl (lv_at hl 4 rfl) ?_
    refine sx_iast S hw hf (is_r60 hf hj4) hm dRo_offer_34 (fun g5 H locs hf hm hw => ?_)
    refine lv_aload_n S.1 S.2.1 dRo_offer_35 rfl (lv_at hl 1 rfl) ?_
    refine get_Ro (v := .ref (ξ.2.2.2.1 68)) S hw (is_49 hf) 4 (by decide) rfl wf_Ro_26 dRo_offer_36 ?_
    refine lv_iload_n S.1 S.2.1 dRo_offer_39 rfl (lv_at hl 2 rfl) ?_
    refine sx_rald S hw (is_68 hf) hm dRo_offer_40 (fun j6 hj6 hm => ?_)
    refine lv_iload S.1 S.2.1 dRo_offer_41 (lv_at hl 0 rfl) ?_
    refine lv_iload S.1 S.2.1 dRo_offer_43 (lv_at hl 5 rfl) ?_
    refine sx_iast S hw hf (is_r68 hf hj6) hm dRo_offer_45 (fun g7 H locs hf hm hw => ?_)
    refine lv_aload_n S.1 S.2.1 dRo_offer_46 rfl (lv_at hl 1 rfl) ?_
    refine get_Ro (v := .ref (ξ.2.2.2.1 51)) S hw (is_49 hf) 1 (by decide) rfl wf_Ro_15 dRo_offer_47 ?_
    refine lv_iload_n S.1 S.2.1 dRo_offer_50 rfl (lv_at hl 2 rfl) ?_
    refine lv_iload S.1 S.2.1 dRo_offer_51 (lv_at hl 0 rfl) ?_
    refine lv_iconst (v := (1 : Int32)) S.1 S.2.1 dRo_offer_53 (by decide) ?_
    refine lv_iadd S.1 S.2.1 dRo_offer_54 ?_
    refine sx_iast S hw hf (is_51 hf) hm dRo_offer_55 (fun g8 H locs hf hm hw => ?_)
    obtain rfl := Option.some.inj hm
    exact sw_vret S hr hlk hw hf dRo_offer_56
set_option maxHeartbeats 4000000 in
set_option maxRecDepth 100000 in
theorem wRo_tallyFrom_54 {l : Launch} {p : Program} {e : Env} {s : State} {m : MethodId} {args : Array Value} {below : List Frame} {meth : Method} {c : Code} {Γ : sw_C} {A : Nat → Prop} {ξ : sw_x} {μ : sw_m} {res : sw_g} (S : CallFix p m c prog_7_method_5_code 5 s args (Cond.code yRo_tallyFrom prog_7_method_5_code 5 (none) :: sw_tb) R_Ro) (hr : meth.sig.returnType = none) (hlk : meth.locks = false) (rc : sw_g → Int32 → Int32 → Int32 → Option (sw_g)) (rr : Room) (hr0 : rr.cells = 0 ∧ rr.slots = 0) (hrc : ∀ {g : sw_g} {μ : sw_m} (hf : sw_wf ξ g.2.2) (a1 : Int32) (a2 : Int32) (a3 : Int32) {res : sw_g}, rc g a1 a2 a3 = some res → Met l yRo_tallyFrom (Cond.code yRo_tallyFrom prog_7_method_5_code 5 (none) :: sw_tb) rr (va_Pc [.ref (ξ.2.2.2.1 49), .int a1, .int a2, .int a3] (sw_V Γ A ξ g μ)) (sw_Qv Γ A ξ res μ (sw_wf ξ res.2.2)) 0 0 A) (N : Nat) : ∀ (fu : Nat) (g : sw_g) (u1 : Int32) (u2 : Int32) (u3 : Int32) (u4 : Int32) (H : Heap) (locs : List Loc) (ls : Array Slot), fRo_tallyFrom_b_54 N rc ξ.2.2.1  fu g u1 u2 u3 u4 = some res → sw_S Γ A ξ g μ s H locs → sw_wf ξ g.2.2 → lv_has ls 5 [(0, .ref (ξ.2.2.2.1 49)), (1, .int u1), (2, .int u2), (3, .int u3), (4, .int u4)] → W p l e (headSpec (Cond.code yRo_tallyFrom prog_7_method_5_code 5 (none) :: sw_tb) (rgRo_tallyFrom rr)).room s m args below meth c H locs 0 0 (MQ below (sw_Qv Γ A ξ res μ (sw_wf ξ res.2.2)) args s 0 0 A) (F0 m 54 ls []) := by
  intro fu
  induction fu with
  | zero => intro g u1 u2 u3 u4 H locs ls hm; rw [fRo_tallyFrom_b_54.eq_1] at hm; cases hm
  | succ fu ih =>
    intro g u1 u2 u3 u4 H locs ls hm hw hf hl
    rw [fRo_tallyFrom_b_54.eq_2] at hm
    refine lv_iload S.1 S.2.1 dRo_tallyFrom_54 (lv_at hl 4 rfl) ?_
    refine lv_aload_n S.1 S.2.1 dRo_tallyFrom_56 rfl (lv_at hl 0 rfl) ?_
    refine get_Ro (v := .ref (ξ.2.2.2.1 51)) S hw (is_49 hf) 1 (by decide) rfl wf_Ro_15 dRo_tallyFrom_57 ?_
    refine lv_iload_n S.1 S.2.1 dRo_tallyFrom_60 rfl (lv_at hl 1 rfl) ?_
    refine sx_iald S hw (is_51 hf) hm dRo_tallyFrom_61 (fun v1 hm => ?_)
    refine bicmp_ge (tgt := 100) S.1 S.2.1 hm dRo_tallyFrom_62 (by decide) (fun hm => ?_) (fun hm => ?_)
    · obtain rfl := Option.some.inj hm
      exact sw_vret S hr hlk hw hf dRo_tallyFrom_100
    · refine lv_aload_n S.1 S.2.1 dRo_tallyFrom_65 rfl (lv_at hl 0 rfl) ?_
      refine lv_iload_n S.1 S.2.1 dRo_tallyFrom_66 rfl (lv_at hl 1 rfl) ?_
      refine lv_iconst (v := (1 : Int32)) S.1 S.2.1 dRo_tallyFrom_67 (by decide) ?_
      refine lv_iadd S.1 S.2.1 dRo_tallyFrom_68 ?_
      refine lv_iload_n S.1 S.2.1 dRo_tallyFrom_69 rfl (lv_at hl 2 rfl) ?_
      refine lv_aload_n S.1 S.2.1 dRo_tallyFrom_70 rfl (lv_at hl 0 rfl) ?_
      refine get_Ro (v := .ref (ξ.2.2.2.1 60)) S hw (is_49 hf) 3 (by decide) rfl wf_Ro_23 dRo_tallyFrom_71 ?_
      refine lv_iload_n S.1 S.2.1 dRo_tallyFrom_74 rfl (lv_at hl 1 rfl) ?_
      refine sx_rald S hw (is_60 hf) hm dRo_tallyFrom_75 (fun j2 hj2 hm => ?_)
      refine lv_iload S.1 S.2.1 dRo_tallyFrom_76 (lv_at hl 4 rfl) ?_
      refine sx_iald S hw (is_r60 hf hj2) hm dRo_tallyFrom_78 (fun v3 hm => ?_)
      refine lv_iadd S.1 S.2.1 dRo_tallyFrom_79 ?_
      refine lv_iload_n S.1 S.2.1 dRo_tallyFrom_80 rfl (lv_at hl 3 rfl) ?_
      refine lv_aload_n S.1 S.2.1 dRo_tallyFrom_81 rfl (lv_at hl 0 rfl) ?_
      refine get_Ro (v := .ref (ξ.2.2.2.1 68)) S hw (is_49 hf) 4 (by decide) rfl wf_Ro_26 dRo_tallyFrom_82 ?_
      refine lv_iload_n S.1 S.2.1 dRo_tallyFrom_85 rfl (lv_at hl 1 rfl) ?_
      refine sx_rald S hw (is_68 hf) hm dRo_tallyFrom_86 (fun j4 hj4 hm => ?_)
      refine lv_iload S.1 S.2.1 dRo_tallyFrom_87 (lv_at hl 4 rfl) ?_
      refine sx_iald S hw (is_r68 hf hj4) hm dRo_tallyFrom_89 (fun v5 hm => ?_)
      refine lv_iadd S.1 S.2.1 dRo_tallyFrom_90 ?_
      obtain ⟨g7, h6, hm⟩ := ob hm
      refine sw_Vv (q := 49) (rest := []) S hw (hrc hf (u1 + (1 : Int32)) (u2 + v3) (u3 + v5) h6) kRo_tallyFrom wm_Ro_38 (is_49 hf).1 (e_Ro (is_49 hf)) rfl rfl rfl rfl hl.1 (Nat.le_of_ble_eq_true rfl) ⟨hr0.1, hr0.2, by show rr.frames + 1 ≤ rr.frames + _; omega, by show 8 + (5 + 11) + rr.locals ≤ rr.locals + _; omega⟩ ⟨Nat.le_of_ble_eq_true rfl, Nat.le_of_ble_eq_true rfl⟩ dRo_tallyFrom_91 (fun H locs hw hf => ?_)
      obtain ⟨x8, ex8, hm⟩ := nm_x hm
      refine lv_iinc (v := x8) (lv' := [(4, .int x8), (0, .ref (ξ.2.2.2.1 49)), (1, .int u1), (2, .int u2), (3, .int u3)]) S.1 S.2.1 dRo_tallyFrom_94 hl (k := 4) rfl (by rw [ex8]; rfl) (by decide) rfl (fun ls hl => ?_)
      refine lv_goto (tgt := 54) S.1 S.2.1 dRo_tallyFrom_97 (by decide) ?_
      exact ih g7 u1 u2 u3 x8 _ _ _ hm hw hf (lv_sub hl [1, 2, 3, 4, 0] rfl)
set_option maxHeartbeats 4000000 in
set_option maxRecDepth 100000 in
theorem cRo_tallyFrom_b (l : Launch) (N : Nat) {Γ : sw_C} {A : Nat → Prop} {ξ : sw_x} (rc : sw_g → Int32 → Int32 → Int32 → Option (sw_g)) (rr : Room) (hr0 : rr.cells = 0 ∧ rr.slots = 0) (hrc : ∀ {g : sw_g} {μ : sw_m} (hf : sw_wf ξ g.2.2) (a1 : Int32) (a2 : Int32) (a3 : Int32) {res : sw_g}, rc g a1 a2 a3 = some res → Met l yRo_tallyFrom (Cond.code yRo_tallyFrom prog_7_method_5_code 5 (none) :: sw_tb) rr (va_Pc [.ref (ξ.2.2.2.1 49), .int a1, .int a2, .int a3] (sw_V Γ A ξ g μ)) (sw_Qv Γ A ξ res μ (sw_wf ξ res.2.2)) 0 0 A) {g : sw_g} {μ : sw_m} (hf : sw_wf ξ g.2.2) (a1 : Int32) (a2 : Int32) (a3 : Int32) {res : sw_g} (hm : fRo_tallyFrom_b N rc ξ.2.2.1 g a1 a2 a3 = some res) : Met l yRo_tallyFrom (Cond.code yRo_tallyFrom prog_7_method_5_code 5 (none) :: sw_tb) (rgRo_tallyFrom rr) (va_Pc [.ref (ξ.2.2.2.1 49), .int a1, .int a2, .int a3] (sw_V Γ A ξ g μ)) (sw_Qv Γ A ξ res μ (sw_wf ξ res.2.2)) 0 0 A := by
  refine Met.ofW (cc := prog_7_method_5_code) (maxL := 5) (ret := none) (by decide) rfl ?_
  intro p e s m args below meth c s₁ B hml hv
  obtain ⟨rfl, hv⟩ := hv
  have S : CallFix p m c prog_7_method_5_code 5 s _ (Cond.code yRo_tallyFrom prog_7_method_5_code 5 (none) :: sw_tb) R_Ro := ⟨B.exec, B.bytes, hml, findClass_of_methodNamed B.named, atoms_spec (ws := (Cond.code yRo_tallyFrom prog_7_method_5_code 5 (none) :: sw_tb)) B.pre⟩
  have hr := B.returns
  have hlk := B.notSynchronized
  have hw := sw_begin hv
  have hl := lv_entry [.ref (ξ.2.2.2.1 49), .int a1, .int a2, .int a3] (n := 5) (Nat.le_of_ble_eq_true rfl)
  rw [lg_entry_eq]
  generalize (lg_sl [.ref (ξ.2.2.2.1 49), .int a1, .int a2, .int a3] ++ List.replicate (5 - (lg_sl [.ref (ξ.2.2.2.1 49), .int a1, .int a2, .int a3]).length) Slot.unset).toArray = ls at hl ⊢
  have hl : lv_has ls 5 [(0, .ref (ξ.2.2.2.1 49)), (1, .int a1), (2, .int a2), (3, .int a3)] := hl
  unfold fRo_tallyFrom_b at hm
  refine lv_iload_n S.1 S.2.1 dRo_tallyFrom_0 rfl (lv_at hl 1 rfl) ?_
  refine lv_bipush (v := (7 : Int32)) S.1 S.2.1 dRo_tallyFrom_1 (by decide) ?_
  refine bicmp_lt (tgt := 51) S.1 S.2.1 hm dRo_tallyFrom_3 (by decide) (fun hm => ?_) (fun hm => ?_)
  · refine lv_iconst (v := (0 : Int32)) S.1 S.2.1 dRo_tallyFrom_51 (by decide) ?_
    refine lv_istore (lv' := [(4, .int (0 : Int32)), (0, .ref (ξ.2.2.2.1 49)), (1, .int a1), (2, .int a2), (3, .int a3)]) S.1 S.2.1 dRo_tallyFrom_52 hl (by decide) rfl (fun ls hl => ?_)
    exact wRo_tallyFrom_54 S hr hlk rc rr hr0 hrc N  N g a1 a2 a3 (0 : Int32) _ _ _ hm hw hf (lv_sub hl [1, 2, 3, 4, 0] rfl)
  · refine lv_iload_n S.1 S.2.1 dRo_tallyFrom_6 rfl (lv_at hl 2 rfl) ?_
    refine lv_sipush (v := (891 : Int32)) S.1 S.2.1 dRo_tallyFrom_7 (by decide) ?_
    refine lv_iadd S.1 S.2.1 dRo_tallyFrom_10 ?_
    refine lv_iconst (v := (1 : Int32)) S.1 S.2.1 dRo_tallyFrom_11 (by decide) ?_
    refine lv_iadd S.1 S.2.1 dRo_tallyFrom_12 ?_
    refine nm_i hm (fun x9 hm => ?_)
    refine lv_istore (lv' := [(4, .int x9), (0, .ref (ξ.2.2.2.1 49)), (1, .int a1), (2, .int a2), (3, .int a3)]) S.1 S.2.1 dRo_tallyFrom_13 hl (by decide) rfl (fun ls hl => ?_)
    refine lv_iload S.1 S.2.1 dRo_tallyFrom_15 (lv_at hl 0 rfl) ?_
    refine bif_le (tgt := 50) S.1 S.2.1 hm dRo_tallyFrom_17 (by decide) (fun hm => ?_) (fun hm => ?_)
    · obtain rfl := Option.some.inj hm
      exact sw_vret S hr hlk hw hf dRo_tallyFrom_50
    · refine lv_iload S.1 S.2.1 dRo_tallyFrom_20 (lv_at hl 0 rfl) ?_
      refine lv_sipush (v := (1784 : Int32)) S.1 S.2.1 dRo_tallyFrom_22 (by decide) ?_
      refine bicmp_ge (tgt := 50) S.1 S.2.1 hm dRo_tallyFrom_25 (by decide) (fun hm => ?_) (fun hm => ?_)
      · obtain rfl := Option.some.inj hm
        exact sw_vret S hr hlk hw hf dRo_tallyFrom_50
      · refine lv_iload_n S.1 S.2.1 dRo_tallyFrom_28 rfl (lv_at hl 4 rfl) ?_
        refine bif_lt (tgt := 50) S.1 S.2.1 hm dRo_tallyFrom_29 (by decide) (fun hm => ?_) (fun hm => ?_)
        · obtain rfl := Option.some.inj hm
          exact sw_vret S hr hlk hw hf dRo_tallyFrom_50
        · refine lv_iload_n S.1 S.2.1 dRo_tallyFrom_32 rfl (lv_at hl 4 rfl) ?_
          refine lv_iconst (v := (3 : Int32)) S.1 S.2.1 dRo_tallyFrom_33 (by decide) ?_
          refine bicmp_gt (tgt := 50) S.1 S.2.1 hm dRo_tallyFrom_34 (by decide) (fun hm => ?_) (fun hm => ?_)
          · obtain rfl := Option.some.inj hm
            exact sw_vret S hr hlk hw hf dRo_tallyFrom_50
          · refine lv_aload_n S.1 S.2.1 dRo_tallyFrom_37 rfl (lv_at hl 1 rfl) ?_
            refine get_Ro (v := .ref (ξ.2.2.2.1 76)) S hw (is_49 hf) 5 (by decide) rfl wf_Ro_29 dRo_tallyFrom_38 ?_
            refine lv_iload_n S.1 S.2.1 dRo_tallyFrom_41 rfl (lv_at hl 4 rfl) ?_
            refine sx_rald S hw (is_76 hf) hm dRo_tallyFrom_42 (fun j10 hj10 hm => ?_)
            refine lv_iload S.1 S.2.1 dRo_tallyFrom_43 (lv_at hl 0 rfl) ?_
            refine lv_dup2_11 S.1 S.2.1 dRo_tallyFrom_45 rfl rfl ?_
            refine sx_iald S hw (is_r76 hf hj10) hm dRo_tallyFrom_46 (fun v11 hm => ?_)
            refine lv_iconst (v := (1 : Int32)) S.1 S.2.1 dRo_tallyFrom_47 (by decide) ?_
            refine lv_iadd S.1 S.2.1 dRo_tallyFrom_48 ?_
            refine sx_iast S hw hf (is_r76 hf hj10) hm dRo_tallyFrom_49 (fun g12 H locs hf hm hw => ?_)
            obtain rfl := Option.some.inj hm
            exact sw_vret S hr hlk hw hf dRo_tallyFrom_50
def rmRo_tallyFrom : Nat → Room
  | 0 => { frames := 0, cells := 0, slots := 0, locals := 0 }
  | d + 1 => rgRo_tallyFrom (rmRo_tallyFrom d)
theorem cRo_tallyFrom (l : Launch) (N : Nat) : ∀ (d : Nat) {Γ : sw_C} {A : Nat → Prop} {ξ : sw_x} {g : sw_g} {μ : sw_m} (hf : sw_wf ξ g.2.2) (a1 : Int32) (a2 : Int32) (a3 : Int32) {res : sw_g} (hm : fRo_tallyFrom N ξ.2.2.1 d g a1 a2 a3 = some res), Met l yRo_tallyFrom (Cond.code yRo_tallyFrom prog_7_method_5_code 5 (none) :: sw_tb) (rmRo_tallyFrom d) (va_Pc [.ref (ξ.2.2.2.1 49), .int a1, .int a2, .int a3] (sw_V Γ A ξ g μ)) (sw_Qv Γ A ξ res μ (sw_wf ξ res.2.2)) 0 0 A := by
  intro d
  induction d with
  | zero => intro Γ A ξ g μ hf a1 a2 a3 res hm; cases hm
  | succ d ih =>
    intro Γ A ξ g μ hf a1 a2 a3 res hm
    exact cRo_tallyFrom_b l N (fRo_tallyFrom N ξ.2.2.1 d) (rmRo_tallyFrom d) (by cases d <;> exact ⟨rfl, rfl⟩) (fun {g μ} hf a1 a2 a3 {res} hm => ih hf a1 a2 a3 hm) hf a1 a2 a3 hm
set_option maxHeartbeats 4000000 in
set_option maxRecDepth 100000 in
theorem cRo_manyTails (l : Launch) {Γ : sw_C} {A : Nat → Prop} {ξ : sw_x} {g : sw_g} {μ : sw_m} (hf : sw_wf ξ g.2.2) (a1 : Int32) (a2 : Int32) {res : Int32 × sw_g} (hm : fRo_manyTails ξ.2.2.1 g a1 a2 = some res) : Met l yRo_manyTails (Cond.code yRo_manyTails prog_7_method_8_code 6 (some .int) :: sw_tb) rmRo_manyTails (va_Pc [.ref (ξ.2.2.2.1 49), .int a1, .int a2] (sw_V Γ A ξ g μ)) (sw_Qi Γ A ξ res.2 μ res.1 (sw_wf ξ res.2.2.2)) 0 0 A := by
  refine Met.ofW (cc := prog_7_method_8_code) (maxL := 6) (ret := some .int) (by decide) rfl ?_
  intro p e s m args below meth c s₁ B hml hv
  obtain ⟨rfl, hv⟩ := hv
  have S : CallFix p m c prog_7_method_8_code 6 s _ (Cond.code yRo_manyTails prog_7_method_8_code 6 (some .int) :: sw_tb) R_Ro := ⟨B.exec, B.bytes, hml, findClass_of_methodNamed B.named, atoms_spec (ws := (Cond.code yRo_manyTails prog_7_method_8_code 6 (some .int) :: sw_tb)) B.pre⟩
  have hr := B.returns
  have hlk := B.notSynchronized
  have hw := sw_begin hv
  have hl := lv_entry [.ref (ξ.2.2.2.1 49), .int a1, .int a2] (n := 6) (Nat.le_of_ble_eq_true rfl)
  rw [lg_entry_eq]
  generalize (lg_sl [.ref (ξ.2.2.2.1 49), .int a1, .int a2] ++ List.replicate (6 - (lg_sl [.ref (ξ.2.2.2.1 49), .int a1, .int a2]).length) Slot.unset).toArray = ls at hl ⊢
  have hl : lv_has ls 6 [(0, .ref (ξ.2.2.2.1 49)), (1, .int a1), (2, .int a2)] := hl
  unfold fRo_manyTails at hm
  refine lv_aload_n S.1 S.2.1 dRo_manyTails_0 rfl (lv_at hl 0 rfl) ?_
  refine get_Ro (v := .int (g.1 49 6)) S hw (is_49 hf) 6 (by decide) rfl wf_Ro_42 dRo_manyTails_1 ?_
  refine lv_iload_n S.1 S.2.1 dRo_manyTails_4 rfl (lv_at hl 2 rfl) ?_
  refine lv_isub S.1 S.2.1 dRo_manyTails_5 ?_
  refine nm_i hm (fun x1 hm => ?_)
  refine lv_istore_n (lv' := [(3, .int x1), (0, .ref (ξ.2.2.2.1 49)), (1, .int a1), (2, .int a2)]) S.1 S.2.1 dRo_manyTails_6 rfl hl (by decide) rfl (fun ls hl => ?_)
  refine lv_aload_n S.1 S.2.1 dRo_manyTails_7 rfl (lv_at hl 1 rfl) ?_
  refine get_Ro (v := .int (g.1 49 7)) S hw (is_49 hf) 7 (by decide) rfl wf_Ro_46 dRo_manyTails_8 ?_
  refine lv_ineg S.1 S.2.1 dRo_manyTails_11 ?_
  refine lv_iload_n S.1 S.2.1 dRo_manyTails_12 rfl (lv_at hl 2 rfl) ?_
  refine lv_isub S.1 S.2.1 dRo_manyTails_13 ?_
  refine lv_sipush (v := (-891 : Int32)) S.1 S.2.1 dRo_manyTails_14 (by decide) ?_
  refine sw_max (rest := []) S hl.1 wm_Ro_57 (Nat.le_of_ble_eq_true rfl) (Nat.le_of_ble_eq_true rfl) (Nat.le_of_ble_eq_true rfl) (Nat.le_of_ble_eq_true rfl) dRo_manyTails_17 ?_
  refine lv_sipush (v := (891 : Int32)) S.1 S.2.1 dRo_manyTails_20 (by decide) ?_
  refine lv_iadd S.1 S.2.1 dRo_manyTails_23 ?_
  refine nm_i hm (fun x2 hm => ?_)
  refine lv_istore (lv' := [(4, .int x2), (3, .int x1), (0, .ref (ξ.2.2.2.1 49)), (1, .int a1), (2, .int a2)]) S.1 S.2.1 dRo_manyTails_24 hl (by decide) rfl (fun ls hl => ?_)
  refine lv_aload_n S.1 S.2.1 dRo_manyTails_26 rfl (lv_at hl 2 rfl) ?_
  refine get_Ro (v := .int (g.1 49 7)) S hw (is_49 hf) 7 (by decide) rfl wf_Ro_46 dRo_manyTails_27 ?_
  refine lv_iload_n S.1 S.2.1 dRo_manyTails_30 rfl (lv_at hl 3 rfl) ?_
  refine lv_isub S.1 S.2.1 dRo_manyTails_31 ?_
  refine lv_sipush (v := (891 : Int32)) S.1 S.2.1 dRo_manyTails_32 (by decide) ?_
  refine sw_min (rest := []) S hl.1 wm_Ro_62 (Nat.le_of_ble_eq_true rfl) (Nat.le_of_ble_eq_true rfl) (Nat.le_of_ble_eq_true rfl) (Nat.le_of_ble_eq_true rfl) dRo_manyTails_35 ?_
  refine lv_sipush (v := (891 : Int32)) S.1 S.2.1 dRo_manyTails_38 (by decide) ?_
  refine lv_iadd S.1 S.2.1 dRo_manyTails_41 ?_
  refine lv_iconst (v := (1 : Int32)) S.1 S.2.1 dRo_manyTails_42 (by decide) ?_
  refine lv_iadd S.1 S.2.1 dRo_manyTails_43 ?_
  refine nm_i hm (fun x3 hm => ?_)
  refine lv_istore (lv' := [(5, .int x3), (4, .int x2), (3, .int x1), (0, .ref (ξ.2.2.2.1 49)), (1, .int a1), (2, .int a2)]) S.1 S.2.1 dRo_manyTails_44 hl (by decide) rfl (fun ls hl => ?_)
  refine lv_iload_n S.1 S.2.1 dRo_manyTails_46 rfl (lv_at hl 2 rfl) ?_
  refine bif_lt (tgt := 75) S.1 S.2.1 hm dRo_manyTails_47 (by decide) (fun hm => ?_) (fun hm => ?_)
  · refine lv_iconst (v := (0 : Int32)) S.1 S.2.1 dRo_manyTails_75 (by decide) ?_
    obtain rfl := Option.some.inj hm
    exact sw_iret S hr hlk hw hf dRo_manyTails_76
  · refine lv_iload_n S.1 S.2.1 dRo_manyTails_50 rfl (lv_at hl 2 rfl) ?_
    refine lv_iconst (v := (3 : Int32)) S.1 S.2.1 dRo_manyTails_51 (by decide) ?_
    refine bicmp_gt (tgt := 75) S.1 S.2.1 hm dRo_manyTails_52 (by decide) (fun hm => ?_) (fun hm => ?_)
    · refine lv_iconst (v := (0 : Int32)) S.1 S.2.1 dRo_manyTails_75 (by decide) ?_
      obtain rfl := Option.some.inj hm
      exact sw_iret S hr hlk hw hf dRo_manyTails_76
    · refine lv_iload S.1 S.2.1 dRo_manyTails_55 (lv_at hl 1 rfl) ?_
      refine bif_lt (tgt := 75) S.1 S.2.1 hm dRo_manyTails_57 (by decide) (fun hm => ?_) (fun hm => ?_)
      · refine lv_iconst (v := (0 : Int32)) S.1 S.2.1 dRo_manyTails_75 (by decide) ?_
        obtain rfl := Option.some.inj hm
        exact sw_iret S hr hlk hw hf dRo_manyTails_76
      · refine lv_iload S.1 S.2.1 dRo_manyTails_60 (lv_at hl 1 rfl) ?_
        refine lv_iload S.1 S.2.1 dRo_manyTails_62 (lv_at hl 0 rfl) ?_
        refine bicmp_ge (tgt := 75) S.1 S.2.1 hm dRo_manyTails_64 (by decide) (fun hm => ?_) (fun hm => ?_)
        · refine lv_iconst (v := (0 : Int32)) S.1 S.2.1 dRo_manyTails_75 (by decide) ?_
          obtain rfl := Option.some.inj hm
          exact sw_iret S hr hlk hw hf dRo_manyTails_76
        · refine lv_iload S.1 S.2.1 dRo_manyTails_67 (lv_at hl 0 rfl) ?_
          refine lv_sipush (v := (1784 : Int32)) S.1 S.2.1 dRo_manyTails_69 (by decide) ?_
          refine bicmp_lt (tgt := 77) S.1 S.2.1 hm dRo_manyTails_72 (by decide) (fun hm => ?_) (fun hm => ?_)
          · refine lv_aload_n S.1 S.2.1 dRo_manyTails_77 rfl (lv_at hl 3 rfl) ?_
            refine get_Ro (v := .ref (ξ.2.2.2.1 76)) S hw (is_49 hf) 5 (by decide) rfl wf_Ro_29 dRo_manyTails_78 ?_
            refine lv_iload_n S.1 S.2.1 dRo_manyTails_81 rfl (lv_at hl 2 rfl) ?_
            refine sx_rald S hw (is_76 hf) hm dRo_manyTails_82 (fun j4 hj4 hm => ?_)
            refine lv_iload S.1 S.2.1 dRo_manyTails_83 (lv_at hl 0 rfl) ?_
            refine sx_iald S hw (is_r76 hf hj4) hm dRo_manyTails_85 (fun v5 hm => ?_)
            refine lv_aload_n S.1 S.2.1 dRo_manyTails_86 rfl (lv_at hl 3 rfl) ?_
            refine get_Ro (v := .ref (ξ.2.2.2.1 76)) S hw (is_49 hf) 5 (by decide) rfl wf_Ro_29 dRo_manyTails_87 ?_
            refine lv_iload_n S.1 S.2.1 dRo_manyTails_90 rfl (lv_at hl 2 rfl) ?_
            refine sx_rald S hw (is_76 hf) hm dRo_manyTails_91 (fun j6 hj6 hm => ?_)
            refine lv_iload S.1 S.2.1 dRo_manyTails_92 (lv_at hl 1 rfl) ?_
            refine sx_iald S hw (is_r76 hf hj6) hm dRo_manyTails_94 (fun v7 hm => ?_)
            refine lv_isub S.1 S.2.1 dRo_manyTails_95 ?_
            obtain rfl := Option.some.inj hm
            exact sw_iret S hr hlk hw hf dRo_manyTails_96
          · refine lv_iconst (v := (0 : Int32)) S.1 S.2.1 dRo_manyTails_75 (by decide) ?_
            obtain rfl := Option.some.inj hm
            exact sw_iret S hr hlk hw hf dRo_manyTails_76
set_option maxHeartbeats 4000000 in
set_option maxRecDepth 100000 in
theorem wRo_findsFrom_50 {l : Launch} {p : Program} {e : Env} {s : State} {m : MethodId} {args : Array Value} {below : List Frame} {meth : Method} {c : Code} {Γ : sw_C} {A : Nat → Prop} {ξ : sw_x} {μ : sw_m} {res : Int32 × sw_g} (S : CallFix p m c prog_7_method_10_code 5 s args (Cond.code yRo_findsFrom prog_7_method_10_code 5 (some .boolean) :: sw_tb) R_Ro) (hr : meth.sig.returnType = some .boolean) (hlk : meth.locks = false) (rc : sw_g → Int32 → Int32 → Int32 → Option (Int32 × sw_g)) (rr : Room) (hr0 : rr.cells = 0 ∧ rr.slots = 0) (hrc : ∀ {g : sw_g} {μ : sw_m} (hf : sw_wf ξ g.2.2) (a1 : Int32) (a2 : Int32) (a3 : Int32) {res : Int32 × sw_g}, rc g a1 a2 a3 = some res → Met l yRo_findsFrom (Cond.code yRo_findsFrom prog_7_method_10_code 5 (some .boolean) :: sw_tb) rr (va_Pc [.ref (ξ.2.2.2.1 49), .int a1, .int a2, .int a3] (sw_V Γ A ξ g μ)) (sw_Qi Γ A ξ res.2 μ res.1 (sw_wf ξ res.2.2.2)) 0 0 A) (N : Nat) : ∀ (fu : Nat) (g : sw_g) (u1 : Int32) (u2 : Int32) (u3 : Int32) (u4 : Int32) (H : Heap) (locs : List Loc) (ls : Array Slot), fRo_findsFrom_b_50 N rc ξ.2.2.1  fu g u1 u2 u3 u4 = some res → sw_S Γ A ξ g μ s H locs → sw_wf ξ g.2.2 → lv_has ls 5 [(0, .ref (ξ.2.2.2.1 49)), (1, .int u1), (2, .int u2), (3, .int u3), (4, .int u4)] → W p l e (headSpec (Cond.code yRo_findsFrom prog_7_method_10_code 5 (some .boolean) :: sw_tb) (rgRo_findsFrom rr)).room s m args below meth c H locs 0 0 (MQ below (sw_Qi Γ A ξ res.2 μ res.1 (sw_wf ξ res.2.2.2)) args s 0 0 A) (F0 m 50 ls []) := by
  intro fu
  induction fu with
  | zero => intro g u1 u2 u3 u4 H locs ls hm; rw [fRo_findsFrom_b_50.eq_1] at hm; cases hm
  | succ fu ih =>
    intro g u1 u2 u3 u4 H locs ls hm hw hf hl
    rw [fRo_findsFrom_b_50.eq_2] at hm
    refine lv_iload S.1 S.2.1 dRo_findsFrom_50 (lv_at hl 4 rfl) ?_
    refine lv_aload_n S.1 S.2.1 dRo_findsFrom_52 rfl (lv_at hl 0 rfl) ?_
    refine get_Ro (v := .ref (ξ.2.2.2.1 51)) S hw (is_49 hf) 1 (by decide) rfl wf_Ro_15 dRo_findsFrom_53 ?_
    refine lv_iload_n S.1 S.2.1 dRo_findsFrom_56 rfl (lv_at hl 1 rfl) ?_
    refine sx_iald S hw (is_51 hf) hm dRo_findsFrom_57 (fun v1 hm => ?_)
    refine bicmp_ge (tgt := 116) S.1 S.2.1 hm dRo_findsFrom_58 (by decide) (fun hm => ?_) (fun hm => ?_)
    · refine lv_iconst (v := (0 : Int32)) S.1 S.2.1 dRo_findsFrom_116 (by decide) ?_
      obtain rfl := Option.some.inj hm
      exact sw_zret S hr hlk (Or.inl rfl) hw hf dRo_findsFrom_117
    · refine lv_aload_n S.1 S.2.1 dRo_findsFrom_61 rfl (lv_at hl 0 rfl) ?_
      refine get_Ro (v := .ref (ξ.2.2.2.1 50)) S hw (is_49 hf) 0 (by decide) rfl wf_Ro_11 dRo_findsFrom_62 ?_
      refine lv_iload_n S.1 S.2.1 dRo_findsFrom_65 rfl (lv_at hl 1 rfl) ?_
      refine lv_aload_n S.1 S.2.1 dRo_findsFrom_66 rfl (lv_at hl 0 rfl) ?_
      refine get_Ro (v := .ref (ξ.2.2.2.1 52)) S hw (is_49 hf) 2 (by decide) rfl wf_Ro_20 dRo_findsFrom_67 ?_
      refine lv_iload_n S.1 S.2.1 dRo_findsFrom_70 rfl (lv_at hl 1 rfl) ?_
      refine sx_rald S hw (is_52 hf) hm dRo_findsFrom_71 (fun j2 hj2 hm => ?_)
      refine lv_iload S.1 S.2.1 dRo_findsFrom_72 (lv_at hl 4 rfl) ?_
      refine sx_iald S hw (is_r52 hf hj2) hm dRo_findsFrom_74 (fun v3 hm => ?_)
      refine sx_iast S hw hf (is_50 hf) hm dRo_findsFrom_75 (fun g4 H locs hf hm hw => ?_)
      refine lv_aload_n S.1 S.2.1 dRo_findsFrom_76 rfl (lv_at hl 0 rfl) ?_
      refine lv_iload_n S.1 S.2.1 dRo_findsFrom_77 rfl (lv_at hl 1 rfl) ?_
      refine lv_iconst (v := (1 : Int32)) S.1 S.2.1 dRo_findsFrom_78 (by decide) ?_
      refine lv_iadd S.1 S.2.1 dRo_findsFrom_79 ?_
      refine lv_iload_n S.1 S.2.1 dRo_findsFrom_80 rfl (lv_at hl 2 rfl) ?_
      refine lv_aload_n S.1 S.2.1 dRo_findsFrom_81 rfl (lv_at hl 0 rfl) ?_
      refine get_Ro (v := .ref (ξ.2.2.2.1 60)) S hw (is_49 hf) 3 (by decide) rfl wf_Ro_23 dRo_findsFrom_82 ?_
      refine lv_iload_n S.1 S.2.1 dRo_findsFrom_85 rfl (lv_at hl 1 rfl) ?_
      refine sx_rald S hw (is_60 hf) hm dRo_findsFrom_86 (fun j5 hj5 hm => ?_)
      refine lv_iload S.1 S.2.1 dRo_findsFrom_87 (lv_at hl 4 rfl) ?_
      refine sx_iald S hw (is_r60 hf hj5) hm dRo_findsFrom_89 (fun v6 hm => ?_)
      refine lv_iadd S.1 S.2.1 dRo_findsFrom_90 ?_
      refine lv_iload_n S.1 S.2.1 dRo_findsFrom_91 rfl (lv_at hl 3 rfl) ?_
      refine lv_aload_n S.1 S.2.1 dRo_findsFrom_92 rfl (lv_at hl 0 rfl) ?_
      refine get_Ro (v := .ref (ξ.2.2.2.1 68)) S hw (is_49 hf) 4 (by decide) rfl wf_Ro_26 dRo_findsFrom_93 ?_
      refine lv_iload_n S.1 S.2.1 dRo_findsFrom_96 rfl (lv_at hl 1 rfl) ?_
      refine sx_rald S hw (is_68 hf) hm dRo_findsFrom_97 (fun j7 hj7 hm => ?_)
      refine lv_iload S.1 S.2.1 dRo_findsFrom_98 (lv_at hl 4 rfl) ?_
      refine sx_iald S hw (is_r68 hf hj7) hm dRo_findsFrom_100 (fun v8 hm => ?_)
      refine lv_iadd S.1 S.2.1 dRo_findsFrom_101 ?_
      obtain ⟨⟨v11, g10⟩, h9, hm⟩ := ob hm
      refine sw_Vi (q := 49) (rest := []) S hw (hrc hf (u1 + (1 : Int32)) (u2 + v6) (u3 + v8) h9) kRo_findsFrom wm_Ro_65 (is_49 hf).1 (e_Ro (is_49 hf)) rfl rfl rfl rfl hl.1 (Nat.le_of_ble_eq_true rfl) ⟨hr0.1, hr0.2, by show rr.frames + 1 ≤ rr.frames + _; omega, by show 8 + (5 + 11) + rr.locals ≤ rr.locals + _; omega⟩ ⟨Nat.le_of_ble_eq_true rfl, Nat.le_of_ble_eq_true rfl⟩ dRo_findsFrom_102 (fun H locs hw hf => ?_)
      refine bif_eq (tgt := 110) S.1 S.2.1 hm dRo_findsFrom_105 (by decide) (fun hm => ?_) (fun hm => ?_)
      · obtain ⟨x12, ex12, hm⟩ := nm_x hm
        refine lv_iinc (v := x12) (lv' := [(4, .int x12), (0, .ref (ξ.2.2.2.1 49)), (1, .int u1), (2, .int u2), (3, .int u3)]) S.1 S.2.1 dRo_findsFrom_110 hl (k := 4) rfl (by rw [ex12]; rfl) (by decide) rfl (fun ls hl => ?_)
        refine lv_goto (tgt := 50) S.1 S.2.1 dRo_findsFrom_113 (by decide) ?_
        exact ih g10 u1 u2 u3 x12 _ _ _ hm hw hf (lv_sub hl [1, 2, 3, 4, 0] rfl)
      · refine lv_iconst (v := (1 : Int32)) S.1 S.2.1 dRo_findsFrom_108 (by decide) ?_
        obtain rfl := Option.some.inj hm
        exact sw_zret S hr hlk (Or.inr rfl) hw hf dRo_findsFrom_109
set_option maxHeartbeats 4000000 in
set_option maxRecDepth 100000 in
theorem cRo_findsFrom_b (l : Launch) (N : Nat) {Γ : sw_C} {A : Nat → Prop} {ξ : sw_x} (rc : sw_g → Int32 → Int32 → Int32 → Option (Int32 × sw_g)) (rr : Room) (hr0 : rr.cells = 0 ∧ rr.slots = 0) (hrc : ∀ {g : sw_g} {μ : sw_m} (hf : sw_wf ξ g.2.2) (a1 : Int32) (a2 : Int32) (a3 : Int32) {res : Int32 × sw_g}, rc g a1 a2 a3 = some res → Met l yRo_findsFrom (Cond.code yRo_findsFrom prog_7_method_10_code 5 (some .boolean) :: sw_tb) rr (va_Pc [.ref (ξ.2.2.2.1 49), .int a1, .int a2, .int a3] (sw_V Γ A ξ g μ)) (sw_Qi Γ A ξ res.2 μ res.1 (sw_wf ξ res.2.2.2)) 0 0 A) {g : sw_g} {μ : sw_m} (hf : sw_wf ξ g.2.2) (a1 : Int32) (a2 : Int32) (a3 : Int32) {res : Int32 × sw_g} (hm : fRo_findsFrom_b N rc ξ.2.2.1 g a1 a2 a3 = some res) : Met l yRo_findsFrom (Cond.code yRo_findsFrom prog_7_method_10_code 5 (some .boolean) :: sw_tb) (rgRo_findsFrom rr) (va_Pc [.ref (ξ.2.2.2.1 49), .int a1, .int a2, .int a3] (sw_V Γ A ξ g μ)) (sw_Qi Γ A ξ res.2 μ res.1 (sw_wf ξ res.2.2.2)) 0 0 A := by
  refine Met.ofW (cc := prog_7_method_10_code) (maxL := 5) (ret := some .boolean) (by decide) rfl ?_
  intro p e s m args below meth c s₁ B hml hv
  obtain ⟨rfl, hv⟩ := hv
  have S : CallFix p m c prog_7_method_10_code 5 s _ (Cond.code yRo_findsFrom prog_7_method_10_code 5 (some .boolean) :: sw_tb) R_Ro := ⟨B.exec, B.bytes, hml, findClass_of_methodNamed B.named, atoms_spec (ws := (Cond.code yRo_findsFrom prog_7_method_10_code 5 (some .boolean) :: sw_tb)) B.pre⟩
  have hr := B.returns
  have hlk := B.notSynchronized
  have hw := sw_begin hv
  have hl := lv_entry [.ref (ξ.2.2.2.1 49), .int a1, .int a2, .int a3] (n := 5) (Nat.le_of_ble_eq_true rfl)
  rw [lg_entry_eq]
  generalize (lg_sl [.ref (ξ.2.2.2.1 49), .int a1, .int a2, .int a3] ++ List.replicate (5 - (lg_sl [.ref (ξ.2.2.2.1 49), .int a1, .int a2, .int a3]).length) Slot.unset).toArray = ls at hl ⊢
  have hl : lv_has ls 5 [(0, .ref (ξ.2.2.2.1 49)), (1, .int a1), (2, .int a2), (3, .int a3)] := hl
  unfold fRo_findsFrom_b at hm
  refine lv_iload_n S.1 S.2.1 dRo_findsFrom_0 rfl (lv_at hl 1 rfl) ?_
  refine lv_bipush (v := (7 : Int32)) S.1 S.2.1 dRo_findsFrom_1 (by decide) ?_
  refine bicmp_lt (tgt := 31) S.1 S.2.1 hm dRo_findsFrom_3 (by decide) (fun hm => ?_) (fun hm => ?_)
  · refine lv_iload_n S.1 S.2.1 dRo_findsFrom_31 rfl (lv_at hl 1 rfl) ?_
    refine lv_iconst (v := (4 : Int32)) S.1 S.2.1 dRo_findsFrom_32 (by decide) ?_
    refine bicmp_ne (tgt := 47) S.1 S.2.1 hm dRo_findsFrom_33 (by decide) (fun hm => ?_) (fun hm => ?_)
    · refine lv_iconst (v := (0 : Int32)) S.1 S.2.1 dRo_findsFrom_47 (by decide) ?_
      refine lv_istore (lv' := [(4, .int (0 : Int32)), (0, .ref (ξ.2.2.2.1 49)), (1, .int a1), (2, .int a2), (3, .int a3)]) S.1 S.2.1 dRo_findsFrom_48 hl (by decide) rfl (fun ls hl => ?_)
      exact wRo_findsFrom_50 S hr hlk rc rr hr0 hrc N  N g a1 a2 a3 (0 : Int32) _ _ _ hm hw hf (lv_sub hl [1, 2, 3, 4, 0] rfl)
    · refine lv_aload_n S.1 S.2.1 dRo_findsFrom_36 rfl (lv_at hl 0 rfl) ?_
      refine lv_iload_n S.1 S.2.1 dRo_findsFrom_37 rfl (lv_at hl 2 rfl) ?_
      refine lv_iload_n S.1 S.2.1 dRo_findsFrom_38 rfl (lv_at hl 3 rfl) ?_
      obtain ⟨⟨v15, g14⟩, h13, hm⟩ := ob hm
      refine sw_Vi (q := 49) (rest := []) S hw (cRo_manyTails l  hf a2 a3 h13) kRo_manyTails wm_Ro_53 (is_49 hf).1 (e_Ro (is_49 hf)) rfl rfl rfl rfl hl.1 (Nat.le_of_ble_eq_true rfl) ⟨rfl, rfl, by show 1 + 1 ≤ rr.frames + _; omega, by show 8 + (6 + 11) + 21 ≤ rr.locals + _; omega⟩ ⟨Nat.le_of_ble_eq_true rfl, Nat.le_of_ble_eq_true rfl⟩ dRo_findsFrom_39 (fun H locs hw hf => ?_)
      refine bif_ne (tgt := 47) S.1 S.2.1 hm dRo_findsFrom_42 (by decide) (fun hm => ?_) (fun hm => ?_)
      · refine lv_iconst (v := (0 : Int32)) S.1 S.2.1 dRo_findsFrom_47 (by decide) ?_
        refine lv_istore (lv' := [(4, .int (0 : Int32)), (0, .ref (ξ.2.2.2.1 49)), (1, .int a1), (2, .int a2), (3, .int a3)]) S.1 S.2.1 dRo_findsFrom_48 hl (by decide) rfl (fun ls hl => ?_)
        exact wRo_findsFrom_50 S hr hlk rc rr hr0 hrc N  N g14 a1 a2 a3 (0 : Int32) _ _ _ hm hw hf (lv_sub hl [1, 2, 3, 4, 0] rfl)
      · refine lv_iconst (v := (0 : Int32)) S.1 S.2.1 dRo_findsFrom_45 (by decide) ?_
        obtain rfl := Option.some.inj hm
        exact sw_zret S hr hlk (Or.inl rfl) hw hf dRo_findsFrom_46
  · refine lv_iload_n S.1 S.2.1 dRo_findsFrom_6 rfl (lv_at hl 3 rfl) ?_
    refine lv_aload_n S.1 S.2.1 dRo_findsFrom_7 rfl (lv_at hl 0 rfl) ?_
    refine get_Ro (v := .int (g.1 49 6)) S hw (is_49 hf) 6 (by decide) rfl wf_Ro_42 dRo_findsFrom_8 ?_
    refine bicmp_ne (tgt := 29) S.1 S.2.1 hm dRo_findsFrom_11 (by decide) (fun hm => ?_) (fun hm => ?_)
    · refine lv_iconst (v := (0 : Int32)) S.1 S.2.1 dRo_findsFrom_29 (by decide) ?_
      obtain rfl := Option.some.inj hm
      exact sw_zret S hr hlk (Or.inl rfl) hw hf dRo_findsFrom_30
    · refine lv_iload_n S.1 S.2.1 dRo_findsFrom_14 rfl (lv_at hl 2 rfl) ?_
      refine sw_abs (rest := []) S hl.1 wm_Ro_69 (by show 1 ≤ rr.frames + _; omega) (by show 0 + 13 ≤ rr.locals + _; omega) (Nat.le_of_ble_eq_true rfl) (Nat.le_of_ble_eq_true rfl) dRo_findsFrom_15 ?_
      refine lv_aload_n S.1 S.2.1 dRo_findsFrom_18 rfl (lv_at hl 0 rfl) ?_
      refine get_Ro (v := .int (g.1 49 7)) S hw (is_49 hf) 7 (by decide) rfl wf_Ro_46 dRo_findsFrom_19 ?_
      refine bicmp_gt (tgt := 29) S.1 S.2.1 hm dRo_findsFrom_22 (by decide) (fun hm => ?_) (fun hm => ?_)
      · refine lv_iconst (v := (0 : Int32)) S.1 S.2.1 dRo_findsFrom_29 (by decide) ?_
        obtain rfl := Option.some.inj hm
        exact sw_zret S hr hlk (Or.inl rfl) hw hf dRo_findsFrom_30
      · refine lv_iconst (v := (1 : Int32)) S.1 S.2.1 dRo_findsFrom_25 (by decide) ?_
        refine lv_goto (tgt := 30) S.1 S.2.1 dRo_findsFrom_26 (by decide) ?_
        obtain rfl := Option.some.inj hm
        exact sw_zret S hr hlk (Or.inr rfl) hw hf dRo_findsFrom_30
def rmRo_findsFrom : Nat → Room
  | 0 => { frames := 0, cells := 0, slots := 0, locals := 0 }
  | d + 1 => rgRo_findsFrom (rmRo_findsFrom d)
theorem cRo_findsFrom (l : Launch) (N : Nat) : ∀ (d : Nat) {Γ : sw_C} {A : Nat → Prop} {ξ : sw_x} {g : sw_g} {μ : sw_m} (hf : sw_wf ξ g.2.2) (a1 : Int32) (a2 : Int32) (a3 : Int32) {res : Int32 × sw_g} (hm : fRo_findsFrom N ξ.2.2.1 d g a1 a2 a3 = some res), Met l yRo_findsFrom (Cond.code yRo_findsFrom prog_7_method_10_code 5 (some .boolean) :: sw_tb) (rmRo_findsFrom d) (va_Pc [.ref (ξ.2.2.2.1 49), .int a1, .int a2, .int a3] (sw_V Γ A ξ g μ)) (sw_Qi Γ A ξ res.2 μ res.1 (sw_wf ξ res.2.2.2)) 0 0 A := by
  intro d
  induction d with
  | zero => intro Γ A ξ g μ hf a1 a2 a3 res hm; cases hm
  | succ d ih =>
    intro Γ A ξ g μ hf a1 a2 a3 res hm
    exact cRo_findsFrom_b l N (fRo_findsFrom N ξ.2.2.1 d) (rmRo_findsFrom d) (by cases d <;> exact ⟨rfl, rfl⟩) (fun {g μ} hf a1 a2 a3 {res} hm => ih hf a1 a2 a3 hm) hf a1 a2 a3 hm
set_option maxHeartbeats 4000000 in
set_option maxRecDepth 100000 in
theorem cSx_feed (l : Launch) (N : Nat) {Γ : sw_C} {A : Nat → Prop} {ξ : sw_x} {g : sw_g} {μ : sw_m} (hf : sw_wf ξ g.2.2) (a1 : Int32) (a2 : Int32) (a3 : Int32) (a4 : Int32) (a5 : Int32) {res : Int32 × sw_g} (hm : fSx_feed N ξ.2.2.1 g a1 a2 a3 a4 a5 = some res) : Met l ySx_feed (Cond.code ySx_feed prog_1_method_7_code 6 (some .int) :: sw_tb) rmSx_feed (va_Pc [.ref (ξ.2.2.2.1 0), .int a1, .int a2, .int a3, .int a4, .int a5] (sw_V Γ A ξ g μ)) (sw_Qi Γ A ξ res.2 μ res.1 (sw_wf ξ res.2.2.2)) 0 0 A := by
  refine Met.ofW (cc := prog_1_method_7_code) (maxL := 6) (ret := some .int) (by decide) rfl ?_
  intro p e s m args below meth c s₁ B hml hv
  obtain ⟨rfl, hv⟩ := hv
  have S : CallFix p m c prog_1_method_7_code 6 s _ (Cond.code ySx_feed prog_1_method_7_code 6 (some .int) :: sw_tb) R_Sx := ⟨B.exec, B.bytes, hml, findClass_of_methodNamed B.named, atoms_spec (ws := (Cond.code ySx_feed prog_1_method_7_code 6 (some .int) :: sw_tb)) B.pre⟩
  have hr := B.returns
  have hlk := B.notSynchronized
  have hw := sw_begin hv
  have hl := lv_entry [.ref (ξ.2.2.2.1 0), .int a1, .int a2, .int a3, .int a4, .int a5] (n := 6) (Nat.le_of_ble_eq_true rfl)
  rw [lg_entry_eq]
  generalize (lg_sl [.ref (ξ.2.2.2.1 0), .int a1, .int a2, .int a3, .int a4, .int a5] ++ List.replicate (6 - (lg_sl [.ref (ξ.2.2.2.1 0), .int a1, .int a2, .int a3, .int a4, .int a5]).length) Slot.unset).toArray = ls at hl ⊢
  have hl : lv_has ls 6 [(0, .ref (ξ.2.2.2.1 0)), (1, .int a1), (2, .int a2), (3, .int a3), (4, .int a4), (5, .int a5)] := hl
  unfold fSx_feed at hm
  refine lv_aload_n S.1 S.2.1 dSx_feed_0 rfl (lv_at hl 0 rfl) ?_
  refine get_Sx (v := .ref (ξ.2.2.2.1 33)) S hw (is_0 hf) 6 (by decide) rfl wf_Sx_39 dSx_feed_1 ?_
  refine get_Re (v := .int (g.1 33 0)) S hw (is_33 hf) 0 (by decide) rfl wf_Sx_156 dSx_feed_4 ?_
  refine lv_bipush (v := (20 : Int32)) S.1 S.2.1 dSx_feed_7 (by decide) ?_
  refine lv_iadd S.1 S.2.1 dSx_feed_9 ?_
  refine lv_sipush (v := (400 : Int32)) S.1 S.2.1 dSx_feed_10 (by decide) ?_
  refine bicmp_le (tgt := 18) S.1 S.2.1 hm dSx_feed_13 (by decide) (fun hm => ?_) (fun hm => ?_)
  · refine lv_aload_n S.1 S.2.1 dSx_feed_18 rfl (lv_at hl 0 rfl) ?_
    refine get_Sx (v := .ref (ξ.2.2.2.1 33)) S hw (is_0 hf) 6 (by decide) rfl wf_Sx_39 dSx_feed_19 ?_
    refine lv_iload_n S.1 S.2.1 dSx_feed_22 rfl (lv_at hl 1 rfl) ?_
    obtain ⟨g2, h1, hm⟩ := ob hm
    refine sw_Vv (q := 33) (rest := []) S hw (cRe_append l N hf a1 h1) kRe_append wm_Sx_159 (is_33 hf).1 (e_Re (is_33 hf)) rfl rfl rfl rfl hl.1 (Nat.le_of_ble_eq_true rfl) ⟨rfl, rfl, Nat.le_of_ble_eq_true rfl, Nat.le_of_ble_eq_true rfl⟩ ⟨Nat.le_of_ble_eq_true rfl, Nat.le_of_ble_eq_true rfl⟩ dSx_feed_23 (fun H locs hw hf => ?_)
    refine lv_aload_n S.1 S.2.1 dSx_feed_26 rfl (lv_at hl 0 rfl) ?_
    refine get_Sx (v := .ref (ξ.2.2.2.1 33)) S hw (is_0 hf) 6 (by decide) rfl wf_Sx_39 dSx_feed_27 ?_
    refine lv_iload_n S.1 S.2.1 dSx_feed_30 rfl (lv_at hl 2 rfl) ?_
    obtain ⟨g4, h3, hm⟩ := ob hm
    refine sw_Vv (q := 33) (rest := []) S hw (cRe_append l N hf a2 h3) kRe_append wm_Sx_159 (is_33 hf).1 (e_Re (is_33 hf)) rfl rfl rfl rfl hl.1 (Nat.le_of_ble_eq_true rfl) ⟨rfl, rfl, Nat.le_of_ble_eq_true rfl, Nat.le_of_ble_eq_true rfl⟩ ⟨Nat.le_of_ble_eq_true rfl, Nat.le_of_ble_eq_true rfl⟩ dSx_feed_31 (fun H locs hw hf => ?_)
    refine lv_aload_n S.1 S.2.1 dSx_feed_34 rfl (lv_at hl 0 rfl) ?_
    refine get_Sx (v := .ref (ξ.2.2.2.1 33)) S hw (is_0 hf) 6 (by decide) rfl wf_Sx_39 dSx_feed_35 ?_
    refine lv_iload_n S.1 S.2.1 dSx_feed_38 rfl (lv_at hl 3 rfl) ?_
    obtain ⟨g6, h5, hm⟩ := ob hm
    refine sw_Vv (q := 33) (rest := []) S hw (cRe_append l N hf a3 h5) kRe_append wm_Sx_159 (is_33 hf).1 (e_Re (is_33 hf)) rfl rfl rfl rfl hl.1 (Nat.le_of_ble_eq_true rfl) ⟨rfl, rfl, Nat.le_of_ble_eq_true rfl, Nat.le_of_ble_eq_true rfl⟩ ⟨Nat.le_of_ble_eq_true rfl, Nat.le_of_ble_eq_true rfl⟩ dSx_feed_39 (fun H locs hw hf => ?_)
    refine lv_aload_n S.1 S.2.1 dSx_feed_42 rfl (lv_at hl 0 rfl) ?_
    refine get_Sx (v := .ref (ξ.2.2.2.1 33)) S hw (is_0 hf) 6 (by decide) rfl wf_Sx_39 dSx_feed_43 ?_
    refine lv_iload S.1 S.2.1 dSx_feed_46 (lv_at hl 4 rfl) ?_
    obtain ⟨g8, h7, hm⟩ := ob hm
    refine sw_Vv (q := 33) (rest := []) S hw (cRe_append l N hf a4 h7) kRe_append wm_Sx_159 (is_33 hf).1 (e_Re (is_33 hf)) rfl rfl rfl rfl hl.1 (Nat.le_of_ble_eq_true rfl) ⟨rfl, rfl, Nat.le_of_ble_eq_true rfl, Nat.le_of_ble_eq_true rfl⟩ ⟨Nat.le_of_ble_eq_true rfl, Nat.le_of_ble_eq_true rfl⟩ dSx_feed_48 (fun H locs hw hf => ?_)
    refine lv_aload_n S.1 S.2.1 dSx_feed_51 rfl (lv_at hl 0 rfl) ?_
    refine get_Sx (v := .ref (ξ.2.2.2.1 33)) S hw (is_0 hf) 6 (by decide) rfl wf_Sx_39 dSx_feed_52 ?_
    refine lv_iload S.1 S.2.1 dSx_feed_55 (lv_at hl 5 rfl) ?_
    obtain ⟨g10, h9, hm⟩ := ob hm
    refine sw_Vv (q := 33) (rest := []) S hw (cRe_append l N hf a5 h9) kRe_append wm_Sx_159 (is_33 hf).1 (e_Re (is_33 hf)) rfl rfl rfl rfl hl.1 (Nat.le_of_ble_eq_true rfl) ⟨rfl, rfl, Nat.le_of_ble_eq_true rfl, Nat.le_of_ble_eq_true rfl⟩ ⟨Nat.le_of_ble_eq_true rfl, Nat.le_of_ble_eq_true rfl⟩ dSx_feed_57 (fun H locs hw hf => ?_)
    refine lv_aload_n S.1 S.2.1 dSx_feed_60 rfl (lv_at hl 0 rfl) ?_
    refine get_Sx (v := .ref (ξ.2.2.2.1 33)) S hw (is_0 hf) 6 (by decide) rfl wf_Sx_39 dSx_feed_61 ?_
    refine get_Re (v := .int (g10.1 33 0)) S hw (is_33 hf) 0 (by decide) rfl wf_Sx_156 dSx_feed_64 ?_
    obtain rfl := Option.some.inj hm
    exact sw_iret S hr hlk hw hf dSx_feed_67
  · refine lv_iconst (v := (-1 : Int32)) S.1 S.2.1 dSx_feed_16 (by decide) ?_
    obtain rfl := Option.some.inj hm
    exact sw_iret S hr hlk hw hf dSx_feed_17
