set_option maxHeartbeats 4000000 in
set_option maxRecDepth 100000 in
theorem cMo_lies (l : Launch) {Γ : sw_C} {A : Nat → Prop} {ξ : sw_x} {g : sw_g} {μ : sw_m} (hf : sw_wf ξ g.2.2) (a1 : Int32) (a2 : Int32) (a3 : Int32) {res : Int32} (hm : fMo_lies a1 a2 a3 = some res) : Met l yMo_lies (Cond.code yMo_lies prog_10_method_1_code 3 (some .boolean) :: sw_tb) rmMo_lies (va_Pc [.int a1, .int a2, .int a3] (sw_V Γ A ξ g μ)) (sw_Qi Γ A ξ g μ res (True)) 0 0 A := by
  refine Met.ofW (cc := prog_10_method_1_code) (maxL := 3) (ret := some .boolean) (by decide) rfl ?_
  intro p e s m args below meth c s₁ B hml hv
  obtain ⟨rfl, hv⟩ := hv
  have S : CallFix p m c prog_10_method_1_code 3 s _ (Cond.code yMo_lies prog_10_method_1_code 3 (some .boolean) :: sw_tb) R_Mo := ⟨B.exec, B.bytes, hml, findClass_of_methodNamed B.named, atoms_spec (ws := (Cond.code yMo_lies prog_10_method_1_code 3 (some .boolean) :: sw_tb)) B.pre⟩
  have hr := B.returns
  have hlk := B.notSynchronized
  have hw := sw_begin hv
  have hl := lv_entry [.int a1, .int a2, .int a3] (n := 3) (Nat.le_of_ble_eq_true rfl)
  rw [lg_entry_eq]
  generalize (lg_sl [.int a1, .int a2, .int a3] ++ List.replicate (3 - (lg_sl [.int a1, .int a2, .int a3]).length) Slot.unset).toArray = ls at hl ⊢
  have hl : lv_has ls 3 [(0, .int a1), (1, .int a2), (2, .int a3)] := hl
  unfold fMo_lies at hm
  refine lv_iload_n S.1 S.2.1 dMo_lies_0 rfl (lv_at hl 0 rfl) ?_
  refine lv_iload_n S.1 S.2.1 dMo_lies_1 rfl (lv_at hl 1 rfl) ?_
  refine bicmp_lt (tgt := 14) S.1 S.2.1 hm dMo_lies_2 (by decide) (fun hm => ?_) (fun hm => ?_)
  · refine lv_iconst (v := (0 : Int32)) S.1 S.2.1 dMo_lies_14 (by decide) ?_
    obtain rfl := Option.some.inj hm
    exact sw_zret S hr hlk (Or.inl rfl) hw trivial dMo_lies_15
  · refine lv_iload_n S.1 S.2.1 dMo_lies_5 rfl (lv_at hl 0 rfl) ?_
    refine lv_iload_n S.1 S.2.1 dMo_lies_6 rfl (lv_at hl 2 rfl) ?_
    refine bicmp_gt (tgt := 14) S.1 S.2.1 hm dMo_lies_7 (by decide) (fun hm => ?_) (fun hm => ?_)
    · refine lv_iconst (v := (0 : Int32)) S.1 S.2.1 dMo_lies_14 (by decide) ?_
      obtain rfl := Option.some.inj hm
      exact sw_zret S hr hlk (Or.inl rfl) hw trivial dMo_lies_15
    · refine lv_iconst (v := (1 : Int32)) S.1 S.2.1 dMo_lies_10 (by decide) ?_
      refine lv_goto (tgt := 15) S.1 S.2.1 dMo_lies_11 (by decide) ?_
      obtain rfl := Option.some.inj hm
      exact sw_zret S hr hlk (Or.inr rfl) hw trivial dMo_lies_15
set_option maxHeartbeats 4000000 in
set_option maxRecDepth 100000 in
theorem cMo_lesser (l : Launch) {Γ : sw_C} {A : Nat → Prop} {ξ : sw_x} {g : sw_g} {μ : sw_m} (hf : sw_wf ξ g.2.2) (a1 : Int32) (a2 : Int32) {res : Int32} (hm : fMo_lesser a1 a2 = some res) : Met l yMo_lesser (Cond.code yMo_lesser prog_10_method_2_code 2 (some .int) :: sw_tb) rmMo_lesser (va_Pc [.int a1, .int a2] (sw_V Γ A ξ g μ)) (sw_Qi Γ A ξ g μ res (True)) 0 0 A := by
  refine Met.ofW (cc := prog_10_method_2_code) (maxL := 2) (ret := some .int) (by decide) rfl ?_
  intro p e s m args below meth c s₁ B hml hv
  obtain ⟨rfl, hv⟩ := hv
  have S : CallFix p m c prog_10_method_2_code 2 s _ (Cond.code yMo_lesser prog_10_method_2_code 2 (some .int) :: sw_tb) R_Mo := ⟨B.exec, B.bytes, hml, findClass_of_methodNamed B.named, atoms_spec (ws := (Cond.code yMo_lesser prog_10_method_2_code 2 (some .int) :: sw_tb)) B.pre⟩
  have hr := B.returns
  have hlk := B.notSynchronized
  have hw := sw_begin hv
  have hl := lv_entry [.int a1, .int a2] (n := 2) (Nat.le_of_ble_eq_true rfl)
  rw [lg_entry_eq]
  generalize (lg_sl [.int a1, .int a2] ++ List.replicate (2 - (lg_sl [.int a1, .int a2]).length) Slot.unset).toArray = ls at hl ⊢
  have hl : lv_has ls 2 [(0, .int a1), (1, .int a2)] := hl
  unfold fMo_lesser at hm
  refine lv_iload_n S.1 S.2.1 dMo_lesser_0 rfl (lv_at hl 0 rfl) ?_
  refine lv_iload_n S.1 S.2.1 dMo_lesser_1 rfl (lv_at hl 1 rfl) ?_
  refine bicmp_ge (tgt := 9) S.1 S.2.1 hm dMo_lesser_2 (by decide) (fun hm => ?_) (fun hm => ?_)
  · refine lv_iload_n S.1 S.2.1 dMo_lesser_9 rfl (lv_at hl 1 rfl) ?_
    obtain rfl := Option.some.inj hm
    exact sw_iret S hr hlk hw trivial dMo_lesser_10
  · refine lv_iload_n S.1 S.2.1 dMo_lesser_5 rfl (lv_at hl 0 rfl) ?_
    refine lv_goto (tgt := 10) S.1 S.2.1 dMo_lesser_6 (by decide) ?_
    obtain rfl := Option.some.inj hm
    exact sw_iret S hr hlk hw trivial dMo_lesser_10
set_option maxHeartbeats 4000000 in
set_option maxRecDepth 100000 in
theorem cMo_greater (l : Launch) {Γ : sw_C} {A : Nat → Prop} {ξ : sw_x} {g : sw_g} {μ : sw_m} (hf : sw_wf ξ g.2.2) (a1 : Int32) (a2 : Int32) {res : Int32} (hm : fMo_greater a1 a2 = some res) : Met l yMo_greater (Cond.code yMo_greater prog_10_method_3_code 2 (some .int) :: sw_tb) rmMo_greater (va_Pc [.int a1, .int a2] (sw_V Γ A ξ g μ)) (sw_Qi Γ A ξ g μ res (True)) 0 0 A := by
  refine Met.ofW (cc := prog_10_method_3_code) (maxL := 2) (ret := some .int) (by decide) rfl ?_
  intro p e s m args below meth c s₁ B hml hv
  obtain ⟨rfl, hv⟩ := hv
  have S : CallFix p m c prog_10_method_3_code 2 s _ (Cond.code yMo_greater prog_10_method_3_code 2 (some .int) :: sw_tb) R_Mo := ⟨B.exec, B.bytes, hml, findClass_of_methodNamed B.named, atoms_spec (ws := (Cond.code yMo_greater prog_10_method_3_code 2 (some .int) :: sw_tb)) B.pre⟩
  have hr := B.returns
  have hlk := B.notSynchronized
  have hw := sw_begin hv
  have hl := lv_entry [.int a1, .int a2] (n := 2) (Nat.le_of_ble_eq_true rfl)
  rw [lg_entry_eq]
  generalize (lg_sl [.int a1, .int a2] ++ List.replicate (2 - (lg_sl [.int a1, .int a2]).length) Slot.unset).toArray = ls at hl ⊢
  have hl : lv_has ls 2 [(0, .int a1), (1, .int a2)] := hl
  unfold fMo_greater at hm
  refine lv_iload_n S.1 S.2.1 dMo_greater_0 rfl (lv_at hl 0 rfl) ?_
  refine lv_iload_n S.1 S.2.1 dMo_greater_1 rfl (lv_at hl 1 rfl) ?_
  refine bicmp_le (tgt := 9) S.1 S.2.1 hm dMo_greater_2 (by decide) (fun hm => ?_) (fun hm => ?_)
  · refine lv_iload_n S.1 S.2.1 dMo_greater_9 rfl (lv_at hl 1 rfl) ?_
    obtain rfl := Option.some.inj hm
    exact sw_iret S hr hlk hw trivial dMo_greater_10
  · refine lv_iload_n S.1 S.2.1 dMo_greater_5 rfl (lv_at hl 0 rfl) ?_
    refine lv_goto (tgt := 10) S.1 S.2.1 dMo_greater_6 (by decide) ?_
    obtain rfl := Option.some.inj hm
    exact sw_iret S hr hlk hw trivial dMo_greater_10
set_option maxHeartbeats 4000000 in
set_option maxRecDepth 100000 in
theorem cMo_either (l : Launch) {Γ : sw_C} {A : Nat → Prop} {ξ : sw_x} {g : sw_g} {μ : sw_m} (hf : sw_wf ξ g.2.2) (a1 : Int32) {res : Int32} (hm : fMo_either a1 = some res) : Met l yMo_either (Cond.code yMo_either prog_10_method_4_code 1 (some .int) :: sw_tb) rmMo_either (va_Pc [.int a1] (sw_V Γ A ξ g μ)) (sw_Qi Γ A ξ g μ res (True)) 0 0 A := by
  refine Met.ofW (cc := prog_10_method_4_code) (maxL := 1) (ret := some .int) (by decide) rfl ?_
  intro p e s m args below meth c s₁ B hml hv
  obtain ⟨rfl, hv⟩ := hv
  have S : CallFix p m c prog_10_method_4_code 1 s _ (Cond.code yMo_either prog_10_method_4_code 1 (some .int) :: sw_tb) R_Mo := ⟨B.exec, B.bytes, hml, findClass_of_methodNamed B.named, atoms_spec (ws := (Cond.code yMo_either prog_10_method_4_code 1 (some .int) :: sw_tb)) B.pre⟩
  have hr := B.returns
  have hlk := B.notSynchronized
  have hw := sw_begin hv
  have hl := lv_entry [.int a1] (n := 1) (Nat.le_of_ble_eq_true rfl)
  rw [lg_entry_eq]
  generalize (lg_sl [.int a1] ++ List.replicate (1 - (lg_sl [.int a1]).length) Slot.unset).toArray = ls at hl ⊢
  have hl : lv_has ls 1 [(0, .int a1)] := hl
  unfold fMo_either at hm
  refine lv_iload_n S.1 S.2.1 dMo_either_0 rfl (lv_at hl 0 rfl) ?_
  refine bif_ge (tgt := 9) S.1 S.2.1 hm dMo_either_1 (by decide) (fun hm => ?_) (fun hm => ?_)
  · refine lv_iload_n S.1 S.2.1 dMo_either_9 rfl (lv_at hl 0 rfl) ?_
    obtain rfl := Option.some.inj hm
    exact sw_iret S hr hlk hw trivial dMo_either_10
  · refine lv_iload_n S.1 S.2.1 dMo_either_4 rfl (lv_at hl 0 rfl) ?_
    refine lv_ineg S.1 S.2.1 dMo_either_5 ?_
    refine lv_goto (tgt := 10) S.1 S.2.1 dMo_either_6 (by decide) ?_
    obtain rfl := Option.some.inj hm
    exact sw_iret S hr hlk hw trivial dMo_either_10
set_option maxHeartbeats 4000000 in
set_option maxRecDepth 100000 in
theorem cMo_refuses (l : Launch) {Γ : sw_C} {A : Nat → Prop} {ξ : sw_x} {g : sw_g} {μ : sw_m} (hf : sw_wf ξ g.2.2) (a1 : Int32) {res : Int32 × sw_m} (hm : fMo_refuses μ a1 = some res) : Met l yMo_refuses (Cond.code yMo_refuses prog_10_method_5_code 2 (some .int) :: sw_tb) rmMo_refuses (va_Pc [.ref (ξ.2.2.2.1 84), .int a1] (sw_V Γ A ξ g μ)) (sw_Qi Γ A ξ g res.2 res.1 (True)) 0 0 A := by
  refine Met.ofW (cc := prog_10_method_5_code) (maxL := 2) (ret := some .int) (by decide) rfl ?_
  intro p e s m args below meth c s₁ B hml hv
  obtain ⟨rfl, hv⟩ := hv
  have S : CallFix p m c prog_10_method_5_code 2 s _ (Cond.code yMo_refuses prog_10_method_5_code 2 (some .int) :: sw_tb) R_Mo := ⟨B.exec, B.bytes, hml, findClass_of_methodNamed B.named, atoms_spec (ws := (Cond.code yMo_refuses prog_10_method_5_code 2 (some .int) :: sw_tb)) B.pre⟩
  have hr := B.returns
  have hlk := B.notSynchronized
  have hw := sw_begin hv
  have hl := lv_entry [.ref (ξ.2.2.2.1 84), .int a1] (n := 2) (Nat.le_of_ble_eq_true rfl)
  rw [lg_entry_eq]
  generalize (lg_sl [.ref (ξ.2.2.2.1 84), .int a1] ++ List.replicate (2 - (lg_sl [.ref (ξ.2.2.2.1 84), .int a1]).length) Slot.unset).toArray = ls at hl ⊢
  have hl : lv_has ls 2 [(0, .ref (ξ.2.2.2.1 84)), (1, .int a1)] := hl
  unfold fMo_refuses at hm
  refine lv_aload_n S.1 S.2.1 dMo_refuses_0 rfl (lv_at hl 0 rfl) ?_
  refine lv_iload_n S.1 S.2.1 dMo_refuses_1 rfl (lv_at hl 1 rfl) ?_
  refine put_Mo S hw (is_84 hf) 0 (by decide) ps_Mo_0 rfl rfl rfl wf_Mo_3 hm dMo_refuses_2 (fun μ1 H locs hm hw => ?_)
  refine lv_aload_n S.1 S.2.1 dMo_refuses_5 rfl (lv_at hl 0 rfl) ?_
  refine get_Mo (v := .ref (ξ.2.2.2.1 85)) S hw (is_84 hf) 1 (by decide) rfl wf_Mo_7 dMo_refuses_6 ?_
  refine lv_iload_n S.1 S.2.1 dMo_refuses_9 rfl (lv_at hl 1 rfl) ?_
  refine lv_ineg S.1 S.2.1 dMo_refuses_10 ?_
  refine nm_i hm (fun x2 hm => ?_)
  refine lv_dup2_11 S.1 S.2.1 dMo_refuses_11 rfl rfl ?_
  refine sm_iald S hw (is_85 hf) hm dMo_refuses_12 (fun v3 hm => ?_)
  refine lv_iconst (v := (1 : Int32)) S.1 S.2.1 dMo_refuses_13 (by decide) ?_
  refine lv_iadd S.1 S.2.1 dMo_refuses_14 ?_
  refine sm_iast S hw (is_85 hf) hm dMo_refuses_15 (fun μ4 H locs hm hw => ?_)
  refine lv_iload_n S.1 S.2.1 dMo_refuses_16 rfl (lv_at hl 1 rfl) ?_
  obtain rfl := Option.some.inj hm
  exact sw_iret S hr hlk hw trivial dMo_refuses_17
set_option maxHeartbeats 4000000 in
set_option maxRecDepth 100000 in
theorem cMo_good (l : Launch) {Γ : sw_C} {A : Nat → Prop} {ξ : sw_x} {g : sw_g} {μ : sw_m} (hf : sw_wf ξ g.2.2) (a1 : Int32) {res : Int32 × sw_m} (hm : fMo_good μ a1 = some res) : Met l yMo_good (Cond.code yMo_good prog_10_method_6_code 2 (some .int) :: sw_tb) rmMo_good (va_Pc [.ref (ξ.2.2.2.1 84), .int a1] (sw_V Γ A ξ g μ)) (sw_Qi Γ A ξ g res.2 res.1 (True)) 0 0 A := by
  refine Met.ofW (cc := prog_10_method_6_code) (maxL := 2) (ret := some .int) (by decide) rfl ?_
  intro p e s m args below meth c s₁ B hml hv
  obtain ⟨rfl, hv⟩ := hv
  have S : CallFix p m c prog_10_method_6_code 2 s _ (Cond.code yMo_good prog_10_method_6_code 2 (some .int) :: sw_tb) R_Mo := ⟨B.exec, B.bytes, hml, findClass_of_methodNamed B.named, atoms_spec (ws := (Cond.code yMo_good prog_10_method_6_code 2 (some .int) :: sw_tb)) B.pre⟩
  have hr := B.returns
  have hlk := B.notSynchronized
  have hw := sw_begin hv
  have hl := lv_entry [.ref (ξ.2.2.2.1 84), .int a1] (n := 2) (Nat.le_of_ble_eq_true rfl)
  rw [lg_entry_eq]
  generalize (lg_sl [.ref (ξ.2.2.2.1 84), .int a1] ++ List.replicate (2 - (lg_sl [.ref (ξ.2.2.2.1 84), .int a1]).length) Slot.unset).toArray = ls at hl ⊢
  have hl : lv_has ls 2 [(0, .ref (ξ.2.2.2.1 84)), (1, .int a1)] := hl
  unfold fMo_good at hm
  refine lv_aload_n S.1 S.2.1 dMo_good_0 rfl (lv_at hl 0 rfl) ?_
  refine lv_iconst (v := (0 : Int32)) S.1 S.2.1 dMo_good_1 (by decide) ?_
  refine put_Mo S hw (is_84 hf) 0 (by decide) ps_Mo_0 rfl rfl rfl wf_Mo_3 hm dMo_good_2 (fun μ1 H locs hm hw => ?_)
  refine lv_iload_n S.1 S.2.1 dMo_good_5 rfl (lv_at hl 1 rfl) ?_
  obtain rfl := Option.some.inj hm
  exact sw_iret S hr hlk hw trivial dMo_good_6
set_option maxHeartbeats 4000000 in
set_option maxRecDepth 100000 in
theorem cMo_settled (l : Launch) {Γ : sw_C} {A : Nat → Prop} {ξ : sw_x} {g : sw_g} {μ : sw_m} (hf : sw_wf ξ g.2.2) (a1 : Int32) {res : Int32 × sw_m} (hm : fMo_settled μ a1 = some res) : Met l yMo_settled (Cond.code yMo_settled prog_10_method_7_code 2 (some .int) :: sw_tb) rmMo_settled (va_Pc [.ref (ξ.2.2.2.1 84), .int a1] (sw_V Γ A ξ g μ)) (sw_Qi Γ A ξ g res.2 res.1 (True)) 0 0 A := by
  refine Met.ofW (cc := prog_10_method_7_code) (maxL := 2) (ret := some .int) (by decide) rfl ?_
  intro p e s m args below meth c s₁ B hml hv
  obtain ⟨rfl, hv⟩ := hv
  have S : CallFix p m c prog_10_method_7_code 2 s _ (Cond.code yMo_settled prog_10_method_7_code 2 (some .int) :: sw_tb) R_Mo := ⟨B.exec, B.bytes, hml, findClass_of_methodNamed B.named, atoms_spec (ws := (Cond.code yMo_settled prog_10_method_7_code 2 (some .int) :: sw_tb)) B.pre⟩
  have hr := B.returns
  have hlk := B.notSynchronized
  have hw := sw_begin hv
  have hl := lv_entry [.ref (ξ.2.2.2.1 84), .int a1] (n := 2) (Nat.le_of_ble_eq_true rfl)
  rw [lg_entry_eq]
  generalize (lg_sl [.ref (ξ.2.2.2.1 84), .int a1] ++ List.replicate (2 - (lg_sl [.ref (ξ.2.2.2.1 84), .int a1]).length) Slot.unset).toArray = ls at hl ⊢
  have hl : lv_has ls 2 [(0, .ref (ξ.2.2.2.1 84)), (1, .int a1)] := hl
  unfold fMo_settled at hm
  refine lv_aload_n S.1 S.2.1 dMo_settled_0 rfl (lv_at hl 0 rfl) ?_
  refine lv_iconst (v := (0 : Int32)) S.1 S.2.1 dMo_settled_1 (by decide) ?_
  refine put_Mo S hw (is_84 hf) 33 (by decide) ps_Mo_33 rfl rfl rfl wf_Mo_11 hm dMo_settled_2 (fun μ1 H locs hm hw => ?_)
  refine lv_aload_n S.1 S.2.1 dMo_settled_5 rfl (lv_at hl 0 rfl) ?_
  refine lv_iload_n S.1 S.2.1 dMo_settled_6 rfl (lv_at hl 1 rfl) ?_
  obtain ⟨⟨v4, μ3⟩, h2, hm⟩ := ob hm
  refine sw_Vi (q := 84) (rest := []) S hw (cMo_good l  hf a1 h2) kMo_good wm_Mo_14 (is_84 hf).1 (e_Mo (is_84 hf)) rfl rfl rfl rfl hl.1 (Nat.le_of_ble_eq_true rfl) ⟨rfl, rfl, Nat.le_of_ble_eq_true rfl, Nat.le_of_ble_eq_true rfl⟩ ⟨Nat.le_of_ble_eq_true rfl, Nat.le_of_ble_eq_true rfl⟩ dMo_settled_7 (fun H locs hw _ => ?_)
  obtain rfl := Option.some.inj hm
  exact sw_iret S hr hlk hw trivial dMo_settled_10
set_option maxHeartbeats 4000000 in
set_option maxRecDepth 100000 in
theorem cMo_isIn (l : Launch) {Γ : sw_C} {A : Nat → Prop} {ξ : sw_x} {g : sw_g} {μ : sw_m} (hf : sw_wf ξ g.2.2) (a1 : Int32) (a2 : Int32) {res : Int32} (hm : fMo_isIn a1 a2 = some res) : Met l yMo_isIn (Cond.code yMo_isIn prog_10_method_8_code 2 (some .boolean) :: sw_tb) rmMo_isIn (va_Pc [.int a1, .int a2] (sw_V Γ A ξ g μ)) (sw_Qi Γ A ξ g μ res (True)) 0 0 A := by
  refine Met.ofW (cc := prog_10_method_8_code) (maxL := 2) (ret := some .boolean) (by decide) rfl ?_
  intro p e s m args below meth c s₁ B hml hv
  obtain ⟨rfl, hv⟩ := hv
  have S : CallFix p m c prog_10_method_8_code 2 s _ (Cond.code yMo_isIn prog_10_method_8_code 2 (some .boolean) :: sw_tb) R_Mo := ⟨B.exec, B.bytes, hml, findClass_of_methodNamed B.named, atoms_spec (ws := (Cond.code yMo_isIn prog_10_method_8_code 2 (some .boolean) :: sw_tb)) B.pre⟩
  have hr := B.returns
  have hlk := B.notSynchronized
  have hw := sw_begin hv
  have hl := lv_entry [.int a1, .int a2] (n := 2) (Nat.le_of_ble_eq_true rfl)
  rw [lg_entry_eq]
  generalize (lg_sl [.int a1, .int a2] ++ List.replicate (2 - (lg_sl [.int a1, .int a2]).length) Slot.unset).toArray = ls at hl ⊢
  have hl : lv_has ls 2 [(0, .int a1), (1, .int a2)] := hl
  unfold fMo_isIn at hm
  refine lv_iload_n S.1 S.2.1 dMo_isIn_0 rfl (lv_at hl 0 rfl) ?_
  refine lv_iload_n S.1 S.2.1 dMo_isIn_1 rfl (lv_at hl 1 rfl) ?_
  refine lv_ishr S.1 S.2.1 dMo_isIn_2 ?_
  refine lv_iconst (v := (1 : Int32)) S.1 S.2.1 dMo_isIn_3 (by decide) ?_
  refine lv_iand S.1 S.2.1 dMo_isIn_4 ?_
  refine lv_iconst (v := (1 : Int32)) S.1 S.2.1 dMo_isIn_5 (by decide) ?_
  refine bicmp_ne (tgt := 13) S.1 S.2.1 hm dMo_isIn_6 (by decide) (fun hm => ?_) (fun hm => ?_)
  · refine lv_iconst (v := (0 : Int32)) S.1 S.2.1 dMo_isIn_13 (by decide) ?_
    obtain rfl := Option.some.inj hm
    exact sw_zret S hr hlk (Or.inl rfl) hw trivial dMo_isIn_14
  · refine lv_iconst (v := (1 : Int32)) S.1 S.2.1 dMo_isIn_9 (by decide) ?_
    refine lv_goto (tgt := 14) S.1 S.2.1 dMo_isIn_10 (by decide) ?_
    obtain rfl := Option.some.inj hm
    exact sw_zret S hr hlk (Or.inr rfl) hw trivial dMo_isIn_14
set_option maxHeartbeats 4000000 in
set_option maxRecDepth 100000 in
theorem cMo_isPlace (l : Launch) {Γ : sw_C} {A : Nat → Prop} {ξ : sw_x} {g : sw_g} {μ : sw_m} (hf : sw_wf ξ g.2.2) (a1 : Int32) {res : Int32} (hm : fMo_isPlace a1 = some res) : Met l yMo_isPlace (Cond.code yMo_isPlace prog_10_method_9_code 1 (some .boolean) :: sw_tb) rmMo_isPlace (va_Pc [.int a1] (sw_V Γ A ξ g μ)) (sw_Qi Γ A ξ g μ res (True)) 0 0 A := by
  refine Met.ofW (cc := prog_10_method_9_code) (maxL := 1) (ret := some .boolean) (by decide) rfl ?_
  intro p e s m args below meth c s₁ B hml hv
  obtain ⟨rfl, hv⟩ := hv
  have S : CallFix p m c prog_10_method_9_code 1 s _ (Cond.code yMo_isPlace prog_10_method_9_code 1 (some .boolean) :: sw_tb) R_Mo := ⟨B.exec, B.bytes, hml, findClass_of_methodNamed B.named, atoms_spec (ws := (Cond.code yMo_isPlace prog_10_method_9_code 1 (some .boolean) :: sw_tb)) B.pre⟩
  have hr := B.returns
  have hlk := B.notSynchronized
  have hw := sw_begin hv
  have hl := lv_entry [.int a1] (n := 1) (Nat.le_of_ble_eq_true rfl)
  rw [lg_entry_eq]
  generalize (lg_sl [.int a1] ++ List.replicate (1 - (lg_sl [.int a1]).length) Slot.unset).toArray = ls at hl ⊢
  have hl : lv_has ls 1 [(0, .int a1)] := hl
  unfold fMo_isPlace at hm
  refine lv_iload_n S.1 S.2.1 dMo_isPlace_0 rfl (lv_at hl 0 rfl) ?_
  refine lv_iconst (v := (0 : Int32)) S.1 S.2.1 dMo_isPlace_1 (by decide) ?_
  refine lv_bipush (v := (6 : Int32)) S.1 S.2.1 dMo_isPlace_2 (by decide) ?_
  obtain ⟨v2, h1, hm⟩ := ob hm
  refine sw_Si (rest := []) S hw (cMo_lies l  hf a1 (0 : Int32) (6 : Int32) h1) kMo_lies wm_Mo_18 rfl rfl hl.1 (Nat.le_of_ble_eq_true rfl) ⟨rfl, rfl, Nat.le_of_ble_eq_true rfl, Nat.le_of_ble_eq_true rfl⟩ ⟨Nat.le_of_ble_eq_true rfl, Nat.le_of_ble_eq_true rfl⟩ dMo_isPlace_4 (fun H locs hw _ => ?_)
  obtain ⟨hz, hm⟩ := ob_tz hm
  obtain rfl := Option.some.inj hm
  exact sw_zret S hr hlk hz hw trivial dMo_isPlace_7
set_option maxHeartbeats 4000000 in
set_option maxRecDepth 100000 in
theorem cMo_isHeavy (l : Launch) {Γ : sw_C} {A : Nat → Prop} {ξ : sw_x} {g : sw_g} {μ : sw_m} (hf : sw_wf ξ g.2.2) (a1 : Int32) {res : Int32} (hm : fMo_isHeavy a1 = some res) : Met l yMo_isHeavy (Cond.code yMo_isHeavy prog_10_method_10_code 1 (some .boolean) :: sw_tb) rmMo_isHeavy (va_Pc [.int a1] (sw_V Γ A ξ g μ)) (sw_Qi Γ A ξ g μ res (True)) 0 0 A := by
  refine Met.ofW (cc := prog_10_method_10_code) (maxL := 1) (ret := some .boolean) (by decide) rfl ?_
  intro p e s m args below meth c s₁ B hml hv
  obtain ⟨rfl, hv⟩ := hv
  have S : CallFix p m c prog_10_method_10_code 1 s _ (Cond.code yMo_isHeavy prog_10_method_10_code 1 (some .boolean) :: sw_tb) R_Mo := ⟨B.exec, B.bytes, hml, findClass_of_methodNamed B.named, atoms_spec (ws := (Cond.code yMo_isHeavy prog_10_method_10_code 1 (some .boolean) :: sw_tb)) B.pre⟩
  have hr := B.returns
  have hlk := B.notSynchronized
  have hw := sw_begin hv
  have hl := lv_entry [.int a1] (n := 1) (Nat.le_of_ble_eq_true rfl)
  rw [lg_entry_eq]
  generalize (lg_sl [.int a1] ++ List.replicate (1 - (lg_sl [.int a1]).length) Slot.unset).toArray = ls at hl ⊢
  have hl : lv_has ls 1 [(0, .int a1)] := hl
  unfold fMo_isHeavy at hm
  refine lv_iload_n S.1 S.2.1 dMo_isHeavy_0 rfl (lv_at hl 0 rfl) ?_
  refine lv_iconst (v := (1 : Int32)) S.1 S.2.1 dMo_isHeavy_1 (by decide) ?_
  refine lv_bipush (v := (30 : Int32)) S.1 S.2.1 dMo_isHeavy_2 (by decide) ?_
  obtain ⟨v2, h1, hm⟩ := ob hm
  refine sw_Si (rest := []) S hw (cMo_lies l  hf a1 (1 : Int32) (30 : Int32) h1) kMo_lies wm_Mo_18 rfl rfl hl.1 (Nat.le_of_ble_eq_true rfl) ⟨rfl, rfl, Nat.le_of_ble_eq_true rfl, Nat.le_of_ble_eq_true rfl⟩ ⟨Nat.le_of_ble_eq_true rfl, Nat.le_of_ble_eq_true rfl⟩ dMo_isHeavy_4 (fun H locs hw _ => ?_)
  obtain ⟨hz, hm⟩ := ob_tz hm
  obtain rfl := Option.some.inj hm
  exact sw_zret S hr hlk hz hw trivial dMo_isHeavy_7
set_option maxHeartbeats 4000000 in
set_option maxRecDepth 100000 in
theorem cMo_armOf (l : Launch) {Γ : sw_C} {A : Nat → Prop} {ξ : sw_x} {g : sw_g} {μ : sw_m} (hf : sw_wf ξ g.2.2) (a1 : Int32) {res : Int32} (hm : fMo_armOf a1 = some res) : Met l yMo_armOf (Cond.code yMo_armOf prog_10_method_11_code 1 (some .int) :: sw_tb) rmMo_armOf (va_Pc [.int a1] (sw_V Γ A ξ g μ)) (sw_Qi Γ A ξ g μ res (True)) 0 0 A := by
  refine Met.ofW (cc := prog_10_method_11_code) (maxL := 1) (ret := some .int) (by decide) rfl ?_
  intro p e s m args below meth c s₁ B hml hv
  obtain ⟨rfl, hv⟩ := hv
  have S : CallFix p m c prog_10_method_11_code 1 s _ (Cond.code yMo_armOf prog_10_method_11_code 1 (some .int) :: sw_tb) R_Mo := ⟨B.exec, B.bytes, hml, findClass_of_methodNamed B.named, atoms_spec (ws := (Cond.code yMo_armOf prog_10_method_11_code 1 (some .int) :: sw_tb)) B.pre⟩
  have hr := B.returns
  have hlk := B.notSynchronized
  have hw := sw_begin hv
  have hl := lv_entry [.int a1] (n := 1) (Nat.le_of_ble_eq_true rfl)
  rw [lg_entry_eq]
  generalize (lg_sl [.int a1] ++ List.replicate (1 - (lg_sl [.int a1]).length) Slot.unset).toArray = ls at hl ⊢
  have hl : lv_has ls 1 [(0, .int a1)] := hl
  unfold fMo_armOf at hm
  refine lv_iload_n S.1 S.2.1 dMo_armOf_0 rfl (lv_at hl 0 rfl) ?_
  refine lv_iconst (v := (3 : Int32)) S.1 S.2.1 dMo_armOf_1 (by decide) ?_
  refine lv_isub S.1 S.2.1 dMo_armOf_2 ?_
  obtain rfl := Option.some.inj hm
  exact sw_iret S hr hlk hw trivial dMo_armOf_3
set_option maxHeartbeats 4000000 in
set_option maxRecDepth 100000 in
theorem wMo_laysAside_2 {l : Launch} {p : Program} {e : Env} {s : State} {m : MethodId} {args : Array Value} {below : List Frame} {meth : Method} {c : Code} {Γ : sw_C} {A : Nat → Prop} {ξ : sw_x} {g : sw_g} {res : sw_m} (S : CallFix p m c prog_10_method_13_code 3 s args (Cond.code yMo_laysAside prog_10_method_13_code 3 (none) :: sw_tb) R_Mo) (hr : meth.sig.returnType = none) (hlk : meth.locks = false) (hf : sw_wf ξ g.2.2) (N : Nat) : ∀ (fu : Nat) (μ : sw_m) (u1 : Int32) (u2 : Int32) (H : Heap) (locs : List Loc) (ls : Array Slot), fMo_laysAside_2 N   fu μ u1 u2 = some res → sw_S Γ A ξ g μ s H locs → lv_has ls 3 [(0, .ref (ξ.2.2.2.1 84)), (1, .int u1), (2, .int u2)] → W p l e (headSpec (Cond.code yMo_laysAside prog_10_method_13_code 3 (none) :: sw_tb) rmMo_laysAside).room s m args below meth c H locs 0 0 (MQ below (sw_Qv Γ A ξ g res (True)) args s 0 0 A) (F0 m 2 ls []) := by
  intro fu
  induction fu with
  | zero => intro μ u1 u2 H locs ls hm; rw [fMo_laysAside_2.eq_1] at hm; cases hm
  | succ fu ih =>
    intro μ u1 u2 H locs ls hm hw hl
    rw [fMo_laysAside_2.eq_2] at hm
    refine lv_iload_n S.1 S.2.1 dMo_laysAside_2 rfl (lv_at hl 2 rfl) ?_
    refine lv_bipush (v := (15 : Int32)) S.1 S.2.1 dMo_laysAside_3 (by decide) ?_
    refine bicmp_ge (tgt := 31) S.1 S.2.1 hm dMo_laysAside_5 (by decide) (fun hm => ?_) (fun hm => ?_)
    · obtain rfl := Option.some.inj hm
      exact sw_vret S hr hlk hw trivial dMo_laysAside_31
    · refine lv_aload_n S.1 S.2.1 dMo_laysAside_8 rfl (lv_at hl 0 rfl) ?_
      refine get_Mo (v := .ref (ξ.2.2.2.1 89)) S hw (is_84 hf) 5 (by decide) rfl wf_Mo_38 dMo_laysAside_9 ?_
      refine lv_bipush (v := (15 : Int32)) S.1 S.2.1 dMo_laysAside_12 (by decide) ?_
      refine lv_iload_n S.1 S.2.1 dMo_laysAside_14 rfl (lv_at hl 1 rfl) ?_
      refine lv_imul S.1 S.2.1 dMo_laysAside_15 ?_
      refine lv_iload_n S.1 S.2.1 dMo_laysAside_16 rfl (lv_at hl 2 rfl) ?_
      refine lv_iadd S.1 S.2.1 dMo_laysAside_17 ?_
      refine lv_aload_n S.1 S.2.1 dMo_laysAside_18 rfl (lv_at hl 0 rfl) ?_
      refine get_Mo (v := .ref (ξ.2.2.2.1 86)) S hw (is_84 hf) 2 (by decide) rfl wf_Mo_28 dMo_laysAside_19 ?_
      refine lv_iload_n S.1 S.2.1 dMo_laysAside_22 rfl (lv_at hl 2 rfl) ?_
      refine sm_iald S hw (is_86 hf) hm dMo_laysAside_23 (fun v1 hm => ?_)
      refine sm_iast S hw (is_89 hf) hm dMo_laysAside_24 (fun μ2 H locs hm hw => ?_)
      obtain ⟨x3, ex3, hm⟩ := nm_x hm
      refine lv_iinc (v := x3) (lv' := [(2, .int x3), (0, .ref (ξ.2.2.2.1 84)), (1, .int u1)]) S.1 S.2.1 dMo_laysAside_25 hl (k := 2) rfl (by rw [ex3]; rfl) (by decide) rfl (fun ls hl => ?_)
      refine lv_goto (tgt := 2) S.1 S.2.1 dMo_laysAside_28 (by decide) ?_
      exact ih μ2 u1 x3 _ _ _ hm hw (lv_sub hl [1, 2, 0] rfl)
set_option maxHeartbeats 4000000 in
set_option maxRecDepth 100000 in
theorem cMo_laysAside (l : Launch) (N : Nat) {Γ : sw_C} {A : Nat → Prop} {ξ : sw_x} {g : sw_g} {μ : sw_m} (hf : sw_wf ξ g.2.2) (a1 : Int32) {res : sw_m} (hm : fMo_laysAside N μ a1 = some res) : Met l yMo_laysAside (Cond.code yMo_laysAside prog_10_method_13_code 3 (none) :: sw_tb) rmMo_laysAside (va_Pc [.ref (ξ.2.2.2.1 84), .int a1] (sw_V Γ A ξ g μ)) (sw_Qv Γ A ξ g res (True)) 0 0 A := by
  refine Met.ofW (cc := prog_10_method_13_code) (maxL := 3) (ret := none) (by decide) rfl ?_
  intro p e s m args below meth c s₁ B hml hv
  obtain ⟨rfl, hv⟩ := hv
  have S : CallFix p m c prog_10_method_13_code 3 s _ (Cond.code yMo_laysAside prog_10_method_13_code 3 (none) :: sw_tb) R_Mo := ⟨B.exec, B.bytes, hml, findClass_of_methodNamed B.named, atoms_spec (ws := (Cond.code yMo_laysAside prog_10_method_13_code 3 (none) :: sw_tb)) B.pre⟩
  have hr := B.returns
  have hlk := B.notSynchronized
  have hw := sw_begin hv
  have hl := lv_entry [.ref (ξ.2.2.2.1 84), .int a1] (n := 3) (Nat.le_of_ble_eq_true rfl)
  rw [lg_entry_eq]
  generalize (lg_sl [.ref (ξ.2.2.2.1 84), .int a1] ++ List.replicate (3 - (lg_sl [.ref (ξ.2.2.2.1 84), .int a1]).length) Slot.unset).toArray = ls at hl ⊢
  have hl : lv_has ls 3 [(0, .ref (ξ.2.2.2.1 84)), (1, .int a1)] := hl
  unfold fMo_laysAside at hm
  refine lv_iconst (v := (0 : Int32)) S.1 S.2.1 dMo_laysAside_0 (by decide) ?_
  refine lv_istore_n (lv' := [(2, .int (0 : Int32)), (0, .ref (ξ.2.2.2.1 84)), (1, .int a1)]) S.1 S.2.1 dMo_laysAside_1 rfl hl (by decide) rfl (fun ls hl => ?_)
  exact wMo_laysAside_2 S hr hlk hf N  N μ a1 (0 : Int32) _ _ _ hm hw (lv_sub hl [1, 2, 0] rfl)
set_option maxHeartbeats 4000000 in
set_option maxRecDepth 100000 in
theorem wMo_takesBack_2 {l : Launch} {p : Program} {e : Env} {s : State} {m : MethodId} {args : Array Value} {below : List Frame} {meth : Method} {c : Code} {Γ : sw_C} {A : Nat → Prop} {ξ : sw_x} {g : sw_g} {res : sw_m} (S : CallFix p m c prog_10_method_14_code 3 s args (Cond.code yMo_takesBack prog_10_method_14_code 3 (none) :: sw_tb) R_Mo) (hr : meth.sig.returnType = none) (hlk : meth.locks = false) (hf : sw_wf ξ g.2.2) (N : Nat) : ∀ (fu : Nat) (μ : sw_m) (u1 : Int32) (u2 : Int32) (H : Heap) (locs : List Loc) (ls : Array Slot), fMo_takesBack_2 N   fu μ u1 u2 = some res → sw_S Γ A ξ g μ s H locs → lv_has ls 3 [(0, .ref (ξ.2.2.2.1 84)), (1, .int u1), (2, .int u2)] → W p l e (headSpec (Cond.code yMo_takesBack prog_10_method_14_code 3 (none) :: sw_tb) rmMo_takesBack).room s m args below meth c H locs 0 0 (MQ below (sw_Qv Γ A ξ g res (True)) args s 0 0 A) (F0 m 2 ls []) := by
  intro fu
  induction fu with
  | zero => intro μ u1 u2 H locs ls hm; rw [fMo_takesBack_2.eq_1] at hm; cases hm
  | succ fu ih =>
    intro μ u1 u2 H locs ls hm hw hl
    rw [fMo_takesBack_2.eq_2] at hm
    refine lv_iload_n S.1 S.2.1 dMo_takesBack_2 rfl (lv_at hl 2 rfl) ?_
    refine lv_bipush (v := (15 : Int32)) S.1 S.2.1 dMo_takesBack_3 (by decide) ?_
    refine bicmp_ge (tgt := 31) S.1 S.2.1 hm dMo_takesBack_5 (by decide) (fun hm => ?_) (fun hm => ?_)
    · obtain rfl := Option.some.inj hm
      exact sw_vret S hr hlk hw trivial dMo_takesBack_31
    · refine lv_aload_n S.1 S.2.1 dMo_takesBack_8 rfl (lv_at hl 0 rfl) ?_
      refine get_Mo (v := .ref (ξ.2.2.2.1 86)) S hw (is_84 hf) 2 (by decide) rfl wf_Mo_28 dMo_takesBack_9 ?_
      refine lv_iload_n S.1 S.2.1 dMo_takesBack_12 rfl (lv_at hl 2 rfl) ?_
      refine lv_aload_n S.1 S.2.1 dMo_takesBack_13 rfl (lv_at hl 0 rfl) ?_
      refine get_Mo (v := .ref (ξ.2.2.2.1 89)) S hw (is_84 hf) 5 (by decide) rfl wf_Mo_38 dMo_takesBack_14 ?_
      refine lv_bipush (v := (15 : Int32)) S.1 S.2.1 dMo_takesBack_17 (by decide) ?_
      refine lv_iload_n S.1 S.2.1 dMo_takesBack_19 rfl (lv_at hl 1 rfl) ?_
      refine lv_imul S.1 S.2.1 dMo_takesBack_20 ?_
      refine lv_iload_n S.1 S.2.1 dMo_takesBack_21 rfl (lv_at hl 2 rfl) ?_
      refine lv_iadd S.1 S.2.1 dMo_takesBack_22 ?_
      refine sm_iald S hw (is_89 hf) hm dMo_takesBack_23 (fun v1 hm => ?_)
      refine sm_iast S hw (is_86 hf) hm dMo_takesBack_24 (fun μ2 H locs hm hw => ?_)
      obtain ⟨x3, ex3, hm⟩ := nm_x hm
      refine lv_iinc (v := x3) (lv' := [(2, .int x3), (0, .ref (ξ.2.2.2.1 84)), (1, .int u1)]) S.1 S.2.1 dMo_takesBack_25 hl (k := 2) rfl (by rw [ex3]; rfl) (by decide) rfl (fun ls hl => ?_)
      refine lv_goto (tgt := 2) S.1 S.2.1 dMo_takesBack_28 (by decide) ?_
      exact ih μ2 u1 x3 _ _ _ hm hw (lv_sub hl [1, 2, 0] rfl)
set_option maxHeartbeats 4000000 in
set_option maxRecDepth 100000 in
theorem cMo_takesBack (l : Launch) (N : Nat) {Γ : sw_C} {A : Nat → Prop} {ξ : sw_x} {g : sw_g} {μ : sw_m} (hf : sw_wf ξ g.2.2) (a1 : Int32) {res : sw_m} (hm : fMo_takesBack N μ a1 = some res) : Met l yMo_takesBack (Cond.code yMo_takesBack prog_10_method_14_code 3 (none) :: sw_tb) rmMo_takesBack (va_Pc [.ref (ξ.2.2.2.1 84), .int a1] (sw_V Γ A ξ g μ)) (sw_Qv Γ A ξ g res (True)) 0 0 A := by
  refine Met.ofW (cc := prog_10_method_14_code) (maxL := 3) (ret := none) (by decide) rfl ?_
  intro p e s m args below meth c s₁ B hml hv
  obtain ⟨rfl, hv⟩ := hv
  have S : CallFix p m c prog_10_method_14_code 3 s _ (Cond.code yMo_takesBack prog_10_method_14_code 3 (none) :: sw_tb) R_Mo := ⟨B.exec, B.bytes, hml, findClass_of_methodNamed B.named, atoms_spec (ws := (Cond.code yMo_takesBack prog_10_method_14_code 3 (none) :: sw_tb)) B.pre⟩
  have hr := B.returns
  have hlk := B.notSynchronized
  have hw := sw_begin hv
  have hl := lv_entry [.ref (ξ.2.2.2.1 84), .int a1] (n := 3) (Nat.le_of_ble_eq_true rfl)
  rw [lg_entry_eq]
  generalize (lg_sl [.ref (ξ.2.2.2.1 84), .int a1] ++ List.replicate (3 - (lg_sl [.ref (ξ.2.2.2.1 84), .int a1]).length) Slot.unset).toArray = ls at hl ⊢
  have hl : lv_has ls 3 [(0, .ref (ξ.2.2.2.1 84)), (1, .int a1)] := hl
  unfold fMo_takesBack at hm
  refine lv_iconst (v := (0 : Int32)) S.1 S.2.1 dMo_takesBack_0 (by decide) ?_
  refine lv_istore_n (lv' := [(2, .int (0 : Int32)), (0, .ref (ξ.2.2.2.1 84)), (1, .int a1)]) S.1 S.2.1 dMo_takesBack_1 rfl hl (by decide) rfl (fun ls hl => ?_)
  exact wMo_takesBack_2 S hr hlk hf N  N μ a1 (0 : Int32) _ _ _ hm hw (lv_sub hl [1, 2, 0] rfl)
set_option maxHeartbeats 4000000 in
set_option maxRecDepth 100000 in
theorem wMo_image_17 {l : Launch} {p : Program} {e : Env} {s : State} {m : MethodId} {args : Array Value} {below : List Frame} {meth : Method} {c : Code} {Γ : sw_C} {A : Nat → Prop} {ξ : sw_x} {g : sw_g} {res : Int32 × sw_m} (S : CallFix p m c prog_10_method_15_code 3 s args (Cond.code yMo_image prog_10_method_15_code 3 (some .int) :: sw_tb) R_Mo) (hr : meth.sig.returnType = some .int) (hlk : meth.locks = false) (hf : sw_wf ξ g.2.2) (N : Nat) : ∀ (fu : Nat) (μ : sw_m) (u1 : Int32) (u2 : Int32) (H : Heap) (locs : List Loc) (ls : Array Slot), fMo_image_17 N   fu μ u1 u2 = some res → sw_S Γ A ξ g μ s H locs → lv_has ls 3 [(0, .ref (ξ.2.2.2.1 84)), (1, .int u1), (2, .int u2)] → W p l e (headSpec (Cond.code yMo_image prog_10_method_15_code 3 (some .int) :: sw_tb) rmMo_image).room s m args below meth c H locs 0 0 (MQ below (sw_Qi Γ A ξ g res.2 res.1 (True)) args s 0 0 A) (F0 m 17 ls []) := by
  intro fu
  induction fu with
  | zero => intro μ u1 u2 H locs ls hm; rw [fMo_image_17.eq_1] at hm; cases hm
  | succ fu ih =>
    intro μ u1 u2 H locs ls hm hw hl
    rw [fMo_image_17.eq_2] at hm
    refine lv_iload_n S.1 S.2.1 dMo_image_17 rfl (lv_at hl 2 rfl) ?_
    refine lv_sipush (v := (5654 : Int32)) S.1 S.2.1 dMo_image_18 (by decide) ?_
    refine bicmp_ge (tgt := 48) S.1 S.2.1 hm dMo_image_21 (by decide) (fun hm => ?_) (fun hm => ?_)
    · refine lv_aload_n S.1 S.2.1 dMo_image_48 rfl (lv_at hl 0 rfl) ?_
      refine get_Mo (v := .ref (ξ.2.2.2.1 88)) S hw (is_84 hf) 4 (by decide) rfl wf_Mo_34 dMo_image_49 ?_
      refine lv_iload_n S.1 S.2.1 dMo_image_52 rfl (lv_at hl 1 rfl) ?_
      refine lv_iconst (v := (1 : Int32)) S.1 S.2.1 dMo_image_53 (by decide) ?_
      refine sm_zast S hw (is_88 hf) hm dMo_image_54 (fun μ3 H locs hm hw => ?_)
      refine lv_aload_n S.1 S.2.1 dMo_image_55 rfl (lv_at hl 0 rfl) ?_
      refine lv_iconst (v := (0 : Int32)) S.1 S.2.1 dMo_image_56 (by decide) ?_
      obtain ⟨⟨v6, μ5⟩, h4, hm⟩ := ob hm
      refine sw_Vi (q := 84) (rest := []) S hw (cMo_good l  hf (0 : Int32) h4) kMo_good wm_Mo_14 (is_84 hf).1 (e_Mo (is_84 hf)) rfl rfl rfl rfl hl.1 (Nat.le_of_ble_eq_true rfl) ⟨rfl, rfl, Nat.le_of_ble_eq_true rfl, Nat.le_of_ble_eq_true rfl⟩ ⟨Nat.le_of_ble_eq_true rfl, Nat.le_of_ble_eq_true rfl⟩ dMo_image_57 (fun H locs hw _ => ?_)
      obtain rfl := Option.some.inj hm
      exact sw_iret S hr hlk hw trivial dMo_image_60
    · refine lv_aload_n S.1 S.2.1 dMo_image_24 rfl (lv_at hl 0 rfl) ?_
      refine get_Mo (v := .ref (ξ.2.2.2.1 87)) S hw (is_84 hf) 3 (by decide) rfl wf_Mo_31 dMo_image_25 ?_
      refine lv_sipush (v := (5654 : Int32)) S.1 S.2.1 dMo_image_28 (by decide) ?_
      refine lv_iload_n S.1 S.2.1 dMo_image_31 rfl (lv_at hl 1 rfl) ?_
      refine lv_imul S.1 S.2.1 dMo_image_32 ?_
      refine lv_iload_n S.1 S.2.1 dMo_image_33 rfl (lv_at hl 2 rfl) ?_
      refine lv_iadd S.1 S.2.1 dMo_image_34 ?_
      refine lv_aload_n S.1 S.2.1 dMo_image_35 rfl (lv_at hl 0 rfl) ?_
      refine get_Mo (v := .ref (ξ.2.2.2.1 86)) S hw (is_84 hf) 2 (by decide) rfl wf_Mo_28 dMo_image_36 ?_
      refine lv_iload_n S.1 S.2.1 dMo_image_39 rfl (lv_at hl 2 rfl) ?_
      refine sm_iald S hw (is_86 hf) hm dMo_image_40 (fun v7 hm => ?_)
      refine sm_iast S hw (is_87 hf) hm dMo_image_41 (fun μ8 H locs hm hw => ?_)
      obtain ⟨x9, ex9, hm⟩ := nm_x hm
      refine lv_iinc (v := x9) (lv' := [(2, .int x9), (0, .ref (ξ.2.2.2.1 84)), (1, .int u1)]) S.1 S.2.1 dMo_image_42 hl (k := 2) rfl (by rw [ex9]; rfl) (by decide) rfl (fun ls hl => ?_)
      refine lv_goto (tgt := 17) S.1 S.2.1 dMo_image_45 (by decide) ?_
      exact ih μ8 u1 x9 _ _ _ hm hw (lv_sub hl [1, 2, 0] rfl)
set_option maxHeartbeats 4000000 in
set_option maxRecDepth 100000 in
theorem cMo_image (l : Launch) (N : Nat) {Γ : sw_C} {A : Nat → Prop} {ξ : sw_x} {g : sw_g} {μ : sw_m} (hf : sw_wf ξ g.2.2) (a1 : Int32) {res : Int32 × sw_m} (hm : fMo_image N μ a1 = some res) : Met l yMo_image (Cond.code yMo_image prog_10_method_15_code 3 (some .int) :: sw_tb) rmMo_image (va_Pc [.ref (ξ.2.2.2.1 84), .int a1] (sw_V Γ A ξ g μ)) (sw_Qi Γ A ξ g res.2 res.1 (True)) 0 0 A := by
  refine Met.ofW (cc := prog_10_method_15_code) (maxL := 3) (ret := some .int) (by decide) rfl ?_
  intro p e s m args below meth c s₁ B hml hv
  obtain ⟨rfl, hv⟩ := hv
  have S : CallFix p m c prog_10_method_15_code 3 s _ (Cond.code yMo_image prog_10_method_15_code 3 (some .int) :: sw_tb) R_Mo := ⟨B.exec, B.bytes, hml, findClass_of_methodNamed B.named, atoms_spec (ws := (Cond.code yMo_image prog_10_method_15_code 3 (some .int) :: sw_tb)) B.pre⟩
  have hr := B.returns
  have hlk := B.notSynchronized
  have hw := sw_begin hv
  have hl := lv_entry [.ref (ξ.2.2.2.1 84), .int a1] (n := 3) (Nat.le_of_ble_eq_true rfl)
  rw [lg_entry_eq]
  generalize (lg_sl [.ref (ξ.2.2.2.1 84), .int a1] ++ List.replicate (3 - (lg_sl [.ref (ξ.2.2.2.1 84), .int a1]).length) Slot.unset).toArray = ls at hl ⊢
  have hl : lv_has ls 3 [(0, .ref (ξ.2.2.2.1 84)), (1, .int a1)] := hl
  unfold fMo_image at hm
  refine lv_iload_n S.1 S.2.1 dMo_image_0 rfl (lv_at hl 1 rfl) ?_
  refine lv_iconst (v := (0 : Int32)) S.1 S.2.1 dMo_image_1 (by decide) ?_
  refine lv_iconst (v := (1 : Int32)) S.1 S.2.1 dMo_image_2 (by decide) ?_
  obtain ⟨v2, h1, hm⟩ := ob hm
  refine sw_Si (rest := []) S hw (cMo_lies l  hf a1 (0 : Int32) (1 : Int32) h1) kMo_lies wm_Mo_18 rfl rfl hl.1 (Nat.le_of_ble_eq_true rfl) ⟨rfl, rfl, Nat.le_of_ble_eq_true rfl, Nat.le_of_ble_eq_true rfl⟩ ⟨Nat.le_of_ble_eq_true rfl, Nat.le_of_ble_eq_true rfl⟩ dMo_image_3 (fun H locs hw _ => ?_)
  refine bif_ne (tgt := 15) S.1 S.2.1 hm dMo_image_6 (by decide) (fun hm => ?_) (fun hm => ?_)
  · refine lv_iconst (v := (0 : Int32)) S.1 S.2.1 dMo_image_15 (by decide) ?_
    refine lv_istore_n (lv' := [(2, .int (0 : Int32)), (0, .ref (ξ.2.2.2.1 84)), (1, .int a1)]) S.1 S.2.1 dMo_image_16 rfl hl (by decide) rfl (fun ls hl => ?_)
    exact wMo_image_17 S hr hlk hf N  N μ a1 (0 : Int32) _ _ _ hm hw (lv_sub hl [1, 2, 0] rfl)
  · refine lv_aload_n S.1 S.2.1 dMo_image_9 rfl (lv_at hl 0 rfl) ?_
    refine lv_iconst (v := (-1 : Int32)) S.1 S.2.1 dMo_image_10 (by decide) ?_
    obtain ⟨⟨v12, μ11⟩, h10, hm⟩ := ob hm
    refine sw_Vi (q := 84) (rest := []) S hw (cMo_refuses l  hf (-1 : Int32) h10) kMo_refuses wm_Mo_113 (is_84 hf).1 (e_Mo (is_84 hf)) rfl rfl rfl rfl hl.1 (Nat.le_of_ble_eq_true rfl) ⟨rfl, rfl, Nat.le_of_ble_eq_true rfl, Nat.le_of_ble_eq_true rfl⟩ ⟨Nat.le_of_ble_eq_true rfl, Nat.le_of_ble_eq_true rfl⟩ dMo_image_11 (fun H locs hw _ => ?_)
    obtain rfl := Option.some.inj hm
    exact sw_iret S hr hlk hw trivial dMo_image_14
set_option maxHeartbeats 4000000 in
set_option maxRecDepth 100000 in
theorem wMo_back_33 {l : Launch} {p : Program} {e : Env} {s : State} {m : MethodId} {args : Array Value} {below : List Frame} {meth : Method} {c : Code} {Γ : sw_C} {A : Nat → Prop} {ξ : sw_x} {g : sw_g} {res : Int32 × sw_m} (S : CallFix p m c prog_10_method_16_code 3 s args (Cond.code yMo_back prog_10_method_16_code 3 (some .int) :: sw_tb) R_Mo) (hr : meth.sig.returnType = some .int) (hlk : meth.locks = false) (hf : sw_wf ξ g.2.2) (N : Nat) : ∀ (fu : Nat) (μ : sw_m) (u1 : Int32) (u2 : Int32) (H : Heap) (locs : List Loc) (ls : Array Slot), fMo_back_33 N   fu μ u1 u2 = some res → sw_S Γ A ξ g μ s H locs → lv_has ls 3 [(0, .ref (ξ.2.2.2.1 84)), (1, .int u1), (2, .int u2)] → W p l e (headSpec (Cond.code yMo_back prog_10_method_16_code 3 (some .int) :: sw_tb) rmMo_back).room s m args below meth c H locs 0 0 (MQ below (sw_Qi Γ A ξ g res.2 res.1 (True)) args s 0 0 A) (F0 m 33 ls []) := by
  intro fu
  induction fu with
  | zero => intro μ u1 u2 H locs ls hm; rw [fMo_back_33.eq_1] at hm; cases hm
  | succ fu ih =>
    intro μ u1 u2 H locs ls hm hw hl
    rw [fMo_back_33.eq_2] at hm
    refine lv_iload_n S.1 S.2.1 dMo_back_33 rfl (lv_at hl 2 rfl) ?_
    refine lv_sipush (v := (5654 : Int32)) S.1 S.2.1 dMo_back_34 (by decide) ?_
    refine bicmp_ge (tgt := 64) S.1 S.2.1 hm dMo_back_37 (by decide) (fun hm => ?_) (fun hm => ?_)
    · refine lv_aload_n S.1 S.2.1 dMo_back_64 rfl (lv_at hl 0 rfl) ?_
      refine lv_iconst (v := (0 : Int32)) S.1 S.2.1 dMo_back_65 (by decide) ?_
      obtain ⟨⟨v6, μ5⟩, h4, hm⟩ := ob hm
      refine sw_Vi (q := 84) (rest := []) S hw (cMo_settled l  hf (0 : Int32) h4) kMo_settled wm_Mo_116 (is_84 hf).1 (e_Mo (is_84 hf)) rfl rfl rfl rfl hl.1 (Nat.le_of_ble_eq_true rfl) ⟨rfl, rfl, Nat.le_of_ble_eq_true rfl, Nat.le_of_ble_eq_true rfl⟩ ⟨Nat.le_of_ble_eq_true rfl, Nat.le_of_ble_eq_true rfl⟩ dMo_back_66 (fun H locs hw _ => ?_)
      obtain rfl := Option.some.inj hm
      exact sw_iret S hr hlk hw trivial dMo_back_69
    · refine lv_aload_n S.1 S.2.1 dMo_back_40 rfl (lv_at hl 0 rfl) ?_
      refine get_Mo (v := .ref (ξ.2.2.2.1 86)) S hw (is_84 hf) 2 (by decide) rfl wf_Mo_28 dMo_back_41 ?_
      refine lv_iload_n S.1 S.2.1 dMo_back_44 rfl (lv_at hl 2 rfl) ?_
      refine lv_aload_n S.1 S.2.1 dMo_back_45 rfl (lv_at hl 0 rfl) ?_
      refine get_Mo (v := .ref (ξ.2.2.2.1 87)) S hw (is_84 hf) 3 (by decide) rfl wf_Mo_31 dMo_back_46 ?_
      refine lv_sipush (v := (5654 : Int32)) S.1 S.2.1 dMo_back_49 (by decide) ?_
      refine lv_iload_n S.1 S.2.1 dMo_back_52 rfl (lv_at hl 1 rfl) ?_
      refine lv_imul S.1 S.2.1 dMo_back_53 ?_
      refine lv_iload_n S.1 S.2.1 dMo_back_54 rfl (lv_at hl 2 rfl) ?_
      refine lv_iadd S.1 S.2.1 dMo_back_55 ?_
      refine sm_iald S hw (is_87 hf) hm dMo_back_56 (fun v7 hm => ?_)
      refine sm_iast S hw (is_86 hf) hm dMo_back_57 (fun μ8 H locs hm hw => ?_)
      obtain ⟨x9, ex9, hm⟩ := nm_x hm
      refine lv_iinc (v := x9) (lv' := [(2, .int x9), (0, .ref (ξ.2.2.2.1 84)), (1, .int u1)]) S.1 S.2.1 dMo_back_58 hl (k := 2) rfl (by rw [ex9]; rfl) (by decide) rfl (fun ls hl => ?_)
      refine lv_goto (tgt := 33) S.1 S.2.1 dMo_back_61 (by decide) ?_
      exact ih μ8 u1 x9 _ _ _ hm hw (lv_sub hl [1, 2, 0] rfl)
set_option maxHeartbeats 4000000 in
set_option maxRecDepth 100000 in
theorem cMo_back (l : Launch) (N : Nat) {Γ : sw_C} {A : Nat → Prop} {ξ : sw_x} {g : sw_g} {μ : sw_m} (hf : sw_wf ξ g.2.2) (a1 : Int32) {res : Int32 × sw_m} (hm : fMo_back N μ a1 = some res) : Met l yMo_back (Cond.code yMo_back prog_10_method_16_code 3 (some .int) :: sw_tb) rmMo_back (va_Pc [.ref (ξ.2.2.2.1 84), .int a1] (sw_V Γ A ξ g μ)) (sw_Qi Γ A ξ g res.2 res.1 (True)) 0 0 A := by
  refine Met.ofW (cc := prog_10_method_16_code) (maxL := 3) (ret := some .int) (by decide) rfl ?_
  intro p e s m args below meth c s₁ B hml hv
  obtain ⟨rfl, hv⟩ := hv
  have S : CallFix p m c prog_10_method_16_code 3 s _ (Cond.code yMo_back prog_10_method_16_code 3 (some .int) :: sw_tb) R_Mo := ⟨B.exec, B.bytes, hml, findClass_of_methodNamed B.named, atoms_spec (ws := (Cond.code yMo_back prog_10_method_16_code 3 (some .int) :: sw_tb)) B.pre⟩
  have hr := B.returns
  have hlk := B.notSynchronized
  have hw := sw_begin hv
  have hl := lv_entry [.ref (ξ.2.2.2.1 84), .int a1] (n := 3) (Nat.le_of_ble_eq_true rfl)
  rw [lg_entry_eq]
  generalize (lg_sl [.ref (ξ.2.2.2.1 84), .int a1] ++ List.replicate (3 - (lg_sl [.ref (ξ.2.2.2.1 84), .int a1]).length) Slot.unset).toArray = ls at hl ⊢
  have hl : lv_has ls 3 [(0, .ref (ξ.2.2.2.1 84)), (1, .int a1)] := hl
  unfold fMo_back at hm
  refine lv_iload_n S.1 S.2.1 dMo_back_0 rfl (lv_at hl 1 rfl) ?_
  refine lv_iconst (v := (0 : Int32)) S.1 S.2.1 dMo_back_1 (by decide) ?_
  refine lv_iconst (v := (1 : Int32)) S.1 S.2.1 dMo_back_2 (by decide) ?_
  obtain ⟨v2, h1, hm⟩ := ob hm
  refine sw_Si (rest := []) S hw (cMo_lies l  hf a1 (0 : Int32) (1 : Int32) h1) kMo_lies wm_Mo_18 rfl rfl hl.1 (Nat.le_of_ble_eq_true rfl) ⟨rfl, rfl, Nat.le_of_ble_eq_true rfl, Nat.le_of_ble_eq_true rfl⟩ ⟨Nat.le_of_ble_eq_true rfl, Nat.le_of_ble_eq_true rfl⟩ dMo_back_3 (fun H locs hw _ => ?_)
  refine bif_ne (tgt := 15) S.1 S.2.1 hm dMo_back_6 (by decide) (fun hm => ?_) (fun hm => ?_)
  · refine lv_aload_n S.1 S.2.1 dMo_back_15 rfl (lv_at hl 0 rfl) ?_
    refine get_Mo (v := .ref (ξ.2.2.2.1 88)) S hw (is_84 hf) 4 (by decide) rfl wf_Mo_34 dMo_back_16 ?_
    refine lv_iload_n S.1 S.2.1 dMo_back_19 rfl (lv_at hl 1 rfl) ?_
    refine sm_zald S hw (is_88 hf) hm dMo_back_20 (fun v3 hm => ?_)
    refine bif_ne (tgt := 31) S.1 S.2.1 hm dMo_back_21 (by decide) (fun hm => ?_) (fun hm => ?_)
    · refine lv_iconst (v := (0 : Int32)) S.1 S.2.1 dMo_back_31 (by decide) ?_
      refine lv_istore_n (lv' := [(2, .int (0 : Int32)), (0, .ref (ξ.2.2.2.1 84)), (1, .int a1)]) S.1 S.2.1 dMo_back_32 rfl hl (by decide) rfl (fun ls hl => ?_)
      exact wMo_back_33 S hr hlk hf N  N μ a1 (0 : Int32) _ _ _ hm hw (lv_sub hl [1, 2, 0] rfl)
    · refine lv_aload_n S.1 S.2.1 dMo_back_24 rfl (lv_at hl 0 rfl) ?_
      refine lv_bipush (v := (-2 : Int32)) S.1 S.2.1 dMo_back_25 (by decide) ?_
      obtain ⟨⟨v12, μ11⟩, h10, hm⟩ := ob hm
      refine sw_Vi (q := 84) (rest := []) S hw (cMo_refuses l  hf (-2 : Int32) h10) kMo_refuses wm_Mo_113 (is_84 hf).1 (e_Mo (is_84 hf)) rfl rfl rfl rfl hl.1 (Nat.le_of_ble_eq_true rfl) ⟨rfl, rfl, Nat.le_of_ble_eq_true rfl, Nat.le_of_ble_eq_true rfl⟩ ⟨Nat.le_of_ble_eq_true rfl, Nat.le_of_ble_eq_true rfl⟩ dMo_back_27 (fun H locs hw _ => ?_)
      obtain rfl := Option.some.inj hm
      exact sw_iret S hr hlk hw trivial dMo_back_30
  · refine lv_aload_n S.1 S.2.1 dMo_back_9 rfl (lv_at hl 0 rfl) ?_
    refine lv_iconst (v := (-1 : Int32)) S.1 S.2.1 dMo_back_10 (by decide) ?_
    obtain ⟨⟨v15, μ14⟩, h13, hm⟩ := ob hm
    refine sw_Vi (q := 84) (rest := []) S hw (cMo_refuses l  hf (-1 : Int32) h13) kMo_refuses wm_Mo_113 (is_84 hf).1 (e_Mo (is_84 hf)) rfl rfl rfl rfl hl.1 (Nat.le_of_ble_eq_true rfl) ⟨rfl, rfl, Nat.le_of_ble_eq_true rfl, Nat.le_of_ble_eq_true rfl⟩ ⟨Nat.le_of_ble_eq_true rfl, Nat.le_of_ble_eq_true rfl⟩ dMo_back_11 (fun H locs hw _ => ?_)
    obtain rfl := Option.some.inj hm
    exact sw_iret S hr hlk hw trivial dMo_back_14
set_option maxHeartbeats 4000000 in
set_option maxRecDepth 100000 in
theorem cMo_many (l : Launch) {Γ : sw_C} {A : Nat → Prop} {ξ : sw_x} {g : sw_g} {μ : sw_m} (hf : sw_wf ξ g.2.2) {res : Int32 × sw_m} (hm : fMo_many μ = some res) : Met l yMo_many (Cond.code yMo_many prog_10_method_17_code 1 (some .int) :: sw_tb) rmMo_many (va_Pc [.ref (ξ.2.2.2.1 84)] (sw_V Γ A ξ g μ)) (sw_Qi Γ A ξ g res.2 res.1 (True)) 0 0 A := by
  refine Met.ofW (cc := prog_10_method_17_code) (maxL := 1) (ret := some .int) (by decide) rfl ?_
  intro p e s m args below meth c s₁ B hml hv
  obtain ⟨rfl, hv⟩ := hv
  have S : CallFix p m c prog_10_method_17_code 1 s _ (Cond.code yMo_many prog_10_method_17_code 1 (some .int) :: sw_tb) R_Mo := ⟨B.exec, B.bytes, hml, findClass_of_methodNamed B.named, atoms_spec (ws := (Cond.code yMo_many prog_10_method_17_code 1 (some .int) :: sw_tb)) B.pre⟩
  have hr := B.returns
  have hlk := B.notSynchronized
  have hw := sw_begin hv
  have hl := lv_entry [.ref (ξ.2.2.2.1 84)] (n := 1) (Nat.le_of_ble_eq_true rfl)
  rw [lg_entry_eq]
  generalize (lg_sl [.ref (ξ.2.2.2.1 84)] ++ List.replicate (1 - (lg_sl [.ref (ξ.2.2.2.1 84)]).length) Slot.unset).toArray = ls at hl ⊢
  have hl : lv_has ls 1 [(0, .ref (ξ.2.2.2.1 84))] := hl
  unfold fMo_many at hm
  refine lv_aload_n S.1 S.2.1 dMo_many_0 rfl (lv_at hl 0 rfl) ?_
  refine get_Mo (v := .ref (ξ.2.2.2.1 86)) S hw (is_84 hf) 2 (by decide) rfl wf_Mo_28 dMo_many_1 ?_
  refine lv_bipush (v := (43 : Int32)) S.1 S.2.1 dMo_many_4 (by decide) ?_
  refine sm_iald S hw (is_86 hf) hm dMo_many_6 (fun v1 hm => ?_)
  obtain rfl := Option.some.inj hm
  exact sw_iret S hr hlk hw trivial dMo_many_7
set_option maxHeartbeats 4000000 in
set_option maxRecDepth 100000 in
theorem cMo_everything (l : Launch) {Γ : sw_C} {A : Nat → Prop} {ξ : sw_x} {g : sw_g} {μ : sw_m} (hf : sw_wf ξ g.2.2) {res : Int32 × sw_m} (hm : fMo_everything μ = some res) : Met l yMo_everything (Cond.code yMo_everything prog_10_method_18_code 1 (some .int) :: sw_tb) rmMo_everything (va_Pc [.ref (ξ.2.2.2.1 84)] (sw_V Γ A ξ g μ)) (sw_Qi Γ A ξ g res.2 res.1 (True)) 0 0 A := by
  refine Met.ofW (cc := prog_10_method_18_code) (maxL := 1) (ret := some .int) (by decide) rfl ?_
  intro p e s m args below meth c s₁ B hml hv
  obtain ⟨rfl, hv⟩ := hv
  have S : CallFix p m c prog_10_method_18_code 1 s _ (Cond.code yMo_everything prog_10_method_18_code 1 (some .int) :: sw_tb) R_Mo := ⟨B.exec, B.bytes, hml, findClass_of_methodNamed B.named, atoms_spec (ws := (Cond.code yMo_everything prog_10_method_18_code 1 (some .int) :: sw_tb)) B.pre⟩
  have hr := B.returns
  have hlk := B.notSynchronized
  have hw := sw_begin hv
  have hl := lv_entry [.ref (ξ.2.2.2.1 84)] (n := 1) (Nat.le_of_ble_eq_true rfl)
  rw [lg_entry_eq]
  generalize (lg_sl [.ref (ξ.2.2.2.1 84)] ++ List.replicate (1 - (lg_sl [.ref (ξ.2.2.2.1 84)]).length) Slot.unset).toArray = ls at hl ⊢
  have hl : lv_has ls 1 [(0, .ref (ξ.2.2.2.1 84))] := hl
  unfold fMo_everything at hm
  refine lv_iconst (v := (1 : Int32)) S.1 S.2.1 dMo_everything_0 (by decide) ?_
  refine lv_aload_n S.1 S.2.1 dMo_everything_1 rfl (lv_at hl 0 rfl) ?_
  obtain ⟨⟨v3, μ2⟩, h1, hm⟩ := ob hm
  refine sw_Vi (q := 84) (rest := [.int (1 : Int32)]) S hw (cMo_many l  hf  h1) kMo_many wm_Mo_119 (is_84 hf).1 (e_Mo (is_84 hf)) rfl rfl rfl rfl hl.1 (Nat.le_of_ble_eq_true rfl) ⟨rfl, rfl, Nat.le_of_ble_eq_true rfl, Nat.le_of_ble_eq_true rfl⟩ ⟨Nat.le_of_ble_eq_true rfl, Nat.le_of_ble_eq_true rfl⟩ dMo_everything_2 (fun H locs hw _ => ?_)
  refine lv_ishl S.1 S.2.1 dMo_everything_5 ?_
  refine lv_iconst (v := (1 : Int32)) S.1 S.2.1 dMo_everything_6 (by decide) ?_
  refine lv_isub S.1 S.2.1 dMo_everything_7 ?_
  obtain rfl := Option.some.inj hm
  exact sw_iret S hr hlk hw trivial dMo_everything_8
set_option maxHeartbeats 4000000 in
set_option maxRecDepth 100000 in
theorem cMo_isClaim (l : Launch) {Γ : sw_C} {A : Nat → Prop} {ξ : sw_x} {g : sw_g} {μ : sw_m} (hf : sw_wf ξ g.2.2) (a1 : Int32) {res : Int32 × sw_m} (hm : fMo_isClaim μ a1 = some res) : Met l yMo_isClaim (Cond.code yMo_isClaim prog_10_method_19_code 2 (some .boolean) :: sw_tb) rmMo_isClaim (va_Pc [.ref (ξ.2.2.2.1 84), .int a1] (sw_V Γ A ξ g μ)) (sw_Qi Γ A ξ g res.2 res.1 (True)) 0 0 A := by
  refine Met.ofW (cc := prog_10_method_19_code) (maxL := 2) (ret := some .boolean) (by decide) rfl ?_
  intro p e s m args below meth c s₁ B hml hv
  obtain ⟨rfl, hv⟩ := hv
  have S : CallFix p m c prog_10_method_19_code 2 s _ (Cond.code yMo_isClaim prog_10_method_19_code 2 (some .boolean) :: sw_tb) R_Mo := ⟨B.exec, B.bytes, hml, findClass_of_methodNamed B.named, atoms_spec (ws := (Cond.code yMo_isClaim prog_10_method_19_code 2 (some .boolean) :: sw_tb)) B.pre⟩
  have hr := B.returns
  have hlk := B.notSynchronized
  have hw := sw_begin hv
  have hl := lv_entry [.ref (ξ.2.2.2.1 84), .int a1] (n := 2) (Nat.le_of_ble_eq_true rfl)
  rw [lg_entry_eq]
  generalize (lg_sl [.ref (ξ.2.2.2.1 84), .int a1] ++ List.replicate (2 - (lg_sl [.ref (ξ.2.2.2.1 84), .int a1]).length) Slot.unset).toArray = ls at hl ⊢
  have hl : lv_has ls 2 [(0, .ref (ξ.2.2.2.1 84)), (1, .int a1)] := hl
  unfold fMo_isClaim at hm
  refine lv_iload_n S.1 S.2.1 dMo_isClaim_0 rfl (lv_at hl 1 rfl) ?_
  refine lv_iconst (v := (0 : Int32)) S.1 S.2.1 dMo_isClaim_1 (by decide) ?_
  refine lv_aload_n S.1 S.2.1 dMo_isClaim_2 rfl (lv_at hl 0 rfl) ?_
  obtain ⟨⟨v3, μ2⟩, h1, hm⟩ := ob hm
  refine sw_Vi (q := 84) (rest := [.int (0 : Int32), .int a1]) S hw (cMo_many l  hf  h1) kMo_many wm_Mo_119 (is_84 hf).1 (e_Mo (is_84 hf)) rfl rfl rfl rfl hl.1 (Nat.le_of_ble_eq_true rfl) ⟨rfl, rfl, Nat.le_of_ble_eq_true rfl, Nat.le_of_ble_eq_true rfl⟩ ⟨Nat.le_of_ble_eq_true rfl, Nat.le_of_ble_eq_true rfl⟩ dMo_isClaim_3 (fun H locs hw _ => ?_)
  refine lv_iconst (v := (1 : Int32)) S.1 S.2.1 dMo_isClaim_6 (by decide) ?_
  refine lv_isub S.1 S.2.1 dMo_isClaim_7 ?_
  obtain ⟨v5, h4, hm⟩ := ob hm
  refine sw_Si (rest := []) S hw (cMo_lies l  hf a1 (0 : Int32) (v3 - (1 : Int32)) h4) kMo_lies wm_Mo_18 rfl rfl hl.1 (Nat.le_of_ble_eq_true rfl) ⟨rfl, rfl, Nat.le_of_ble_eq_true rfl, Nat.le_of_ble_eq_true rfl⟩ ⟨Nat.le_of_ble_eq_true rfl, Nat.le_of_ble_eq_true rfl⟩ dMo_isClaim_8 (fun H locs hw _ => ?_)
  obtain ⟨hz, hm⟩ := ob_tz hm
  obtain rfl := Option.some.inj hm
  exact sw_zret S hr hlk hz hw trivial dMo_isClaim_11
set_option maxHeartbeats 4000000 in
set_option maxRecDepth 100000 in
theorem cMo_isOn (l : Launch) {Γ : sw_C} {A : Nat → Prop} {ξ : sw_x} {g : sw_g} {μ : sw_m} (hf : sw_wf ξ g.2.2) (a1 : Int32) {res : Int32 × sw_m} (hm : fMo_isOn μ a1 = some res) : Met l yMo_isOn (Cond.code yMo_isOn prog_10_method_20_code 2 (some .boolean) :: sw_tb) rmMo_isOn (va_Pc [.ref (ξ.2.2.2.1 84), .int a1] (sw_V Γ A ξ g μ)) (sw_Qi Γ A ξ g res.2 res.1 (True)) 0 0 A := by
  refine Met.ofW (cc := prog_10_method_20_code) (maxL := 2) (ret := some .boolean) (by decide) rfl ?_
  intro p e s m args below meth c s₁ B hml hv
  obtain ⟨rfl, hv⟩ := hv
  have S : CallFix p m c prog_10_method_20_code 2 s _ (Cond.code yMo_isOn prog_10_method_20_code 2 (some .boolean) :: sw_tb) R_Mo := ⟨B.exec, B.bytes, hml, findClass_of_methodNamed B.named, atoms_spec (ws := (Cond.code yMo_isOn prog_10_method_20_code 2 (some .boolean) :: sw_tb)) B.pre⟩
  have hr := B.returns
  have hlk := B.notSynchronized
  have hw := sw_begin hv
  have hl := lv_entry [.ref (ξ.2.2.2.1 84), .int a1] (n := 2) (Nat.le_of_ble_eq_true rfl)
  rw [lg_entry_eq]
  generalize (lg_sl [.ref (ξ.2.2.2.1 84), .int a1] ++ List.replicate (2 - (lg_sl [.ref (ξ.2.2.2.1 84), .int a1]).length) Slot.unset).toArray = ls at hl ⊢
  have hl : lv_has ls 2 [(0, .ref (ξ.2.2.2.1 84)), (1, .int a1)] := hl
  unfold fMo_isOn at hm
  refine lv_aload_n S.1 S.2.1 dMo_isOn_0 rfl (lv_at hl 0 rfl) ?_
  refine get_Mo (v := .ref (ξ.2.2.2.1 86)) S hw (is_84 hf) 2 (by decide) rfl wf_Mo_28 dMo_isOn_1 ?_
  refine lv_bipush (v := (7 : Int32)) S.1 S.2.1 dMo_isOn_4 (by decide) ?_
  refine lv_iload_n S.1 S.2.1 dMo_isOn_6 rfl (lv_at hl 1 rfl) ?_
  refine lv_iadd S.1 S.2.1 dMo_isOn_7 ?_
  refine sm_iald S hw (is_86 hf) hm dMo_isOn_8 (fun v1 hm => ?_)
  refine lv_iconst (v := (-1 : Int32)) S.1 S.2.1 dMo_isOn_9 (by decide) ?_
  refine bicmp_eq (tgt := 17) S.1 S.2.1 hm dMo_isOn_10 (by decide) (fun hm => ?_) (fun hm => ?_)
  · refine lv_iconst (v := (0 : Int32)) S.1 S.2.1 dMo_isOn_17 (by decide) ?_
    obtain rfl := Option.some.inj hm
    exact sw_zret S hr hlk (Or.inl rfl) hw trivial dMo_isOn_18
  · refine lv_iconst (v := (1 : Int32)) S.1 S.2.1 dMo_isOn_13 (by decide) ?_
    refine lv_goto (tgt := 18) S.1 S.2.1 dMo_isOn_14 (by decide) ?_
    obtain rfl := Option.some.inj hm
    exact sw_zret S hr hlk (Or.inr rfl) hw trivial dMo_isOn_18
set_option maxHeartbeats 4000000 in
set_option maxRecDepth 100000 in
theorem cMo_canBe0 (l : Launch) {Γ : sw_C} {A : Nat → Prop} {ξ : sw_x} {g : sw_g} {μ : sw_m} (hf : sw_wf ξ g.2.2) (a1 : Int32) (a2 : Int32) {res : Int32} (hm : fMo_canBe0 a1 a2 = some res) : Met l yMo_canBe0 (Cond.code yMo_canBe0 prog_10_method_21_code 2 (some .boolean) :: sw_tb) rmMo_canBe0 (va_Pc [.int a1, .int a2] (sw_V Γ A ξ g μ)) (sw_Qi Γ A ξ g μ res (True)) 0 0 A := by
  refine Met.ofW (cc := prog_10_method_21_code) (maxL := 2) (ret := some .boolean) (by decide) rfl ?_
  intro p e s m args below meth c s₁ B hml hv
  obtain ⟨rfl, hv⟩ := hv
  have S : CallFix p m c prog_10_method_21_code 2 s _ (Cond.code yMo_canBe0 prog_10_method_21_code 2 (some .boolean) :: sw_tb) R_Mo := ⟨B.exec, B.bytes, hml, findClass_of_methodNamed B.named, atoms_spec (ws := (Cond.code yMo_canBe0 prog_10_method_21_code 2 (some .boolean) :: sw_tb)) B.pre⟩
  have hr := B.returns
  have hlk := B.notSynchronized
  have hw := sw_begin hv
  have hl := lv_entry [.int a1, .int a2] (n := 2) (Nat.le_of_ble_eq_true rfl)
  rw [lg_entry_eq]
  generalize (lg_sl [.int a1, .int a2] ++ List.replicate (2 - (lg_sl [.int a1, .int a2]).length) Slot.unset).toArray = ls at hl ⊢
  have hl : lv_has ls 2 [(0, .int a1), (1, .int a2)] := hl
  unfold fMo_canBe0 at hm
  refine lv_iload_n S.1 S.2.1 dMo_canBe0_0 rfl (lv_at hl 0 rfl) ?_
  obtain ⟨v2, h1, hm⟩ := ob hm
  refine sw_Si (rest := []) S hw (cMo_isHeavy l  hf a1 h1) kMo_isHeavy wm_Mo_123 rfl rfl hl.1 (Nat.le_of_ble_eq_true rfl) ⟨rfl, rfl, Nat.le_of_ble_eq_true rfl, Nat.le_of_ble_eq_true rfl⟩ ⟨Nat.le_of_ble_eq_true rfl, Nat.le_of_ble_eq_true rfl⟩ dMo_canBe0_1 (fun H locs hw _ => ?_)
  refine bif_eq (tgt := 20) S.1 S.2.1 hm dMo_canBe0_4 (by decide) (fun hm => ?_) (fun hm => ?_)
  · refine lv_iconst (v := (0 : Int32)) S.1 S.2.1 dMo_canBe0_20 (by decide) ?_
    obtain rfl := Option.some.inj hm
    exact sw_zret S hr hlk (Or.inl rfl) hw trivial dMo_canBe0_21
  · refine lv_iload_n S.1 S.2.1 dMo_canBe0_7 rfl (lv_at hl 1 rfl) ?_
    refine lv_iconst (v := (0 : Int32)) S.1 S.2.1 dMo_canBe0_8 (by decide) ?_
    refine lv_iconst (v := (3 : Int32)) S.1 S.2.1 dMo_canBe0_9 (by decide) ?_
    obtain ⟨v4, h3, hm⟩ := ob hm
    refine sw_Si (rest := []) S hw (cMo_lies l  hf a2 (0 : Int32) (3 : Int32) h3) kMo_lies wm_Mo_18 rfl rfl hl.1 (Nat.le_of_ble_eq_true rfl) ⟨rfl, rfl, Nat.le_of_ble_eq_true rfl, Nat.le_of_ble_eq_true rfl⟩ ⟨Nat.le_of_ble_eq_true rfl, Nat.le_of_ble_eq_true rfl⟩ dMo_canBe0_10 (fun H locs hw _ => ?_)
    refine bif_eq (tgt := 20) S.1 S.2.1 hm dMo_canBe0_13 (by decide) (fun hm => ?_) (fun hm => ?_)
    · refine lv_iconst (v := (0 : Int32)) S.1 S.2.1 dMo_canBe0_20 (by decide) ?_
      obtain rfl := Option.some.inj hm
      exact sw_zret S hr hlk (Or.inl rfl) hw trivial dMo_canBe0_21
    · refine lv_iconst (v := (1 : Int32)) S.1 S.2.1 dMo_canBe0_16 (by decide) ?_
      refine lv_goto (tgt := 21) S.1 S.2.1 dMo_canBe0_17 (by decide) ?_
      obtain rfl := Option.some.inj hm
      exact sw_zret S hr hlk (Or.inr rfl) hw trivial dMo_canBe0_21
set_option maxHeartbeats 4000000 in
set_option maxRecDepth 100000 in
theorem cMo_adds (l : Launch) {Γ : sw_C} {A : Nat → Prop} {ξ : sw_x} {g : sw_g} {μ : sw_m} (hf : sw_wf ξ g.2.2) (a1 : Int32) (a2 : Int32) {res : sw_m} (hm : fMo_adds μ a1 a2 = some res) : Met l yMo_adds (Cond.code yMo_adds prog_10_method_22_code 4 (none) :: sw_tb) rmMo_adds (va_Pc [.ref (ξ.2.2.2.1 84), .int a1, .int a2] (sw_V Γ A ξ g μ)) (sw_Qv Γ A ξ g res (True)) 0 0 A := by
  refine Met.ofW (cc := prog_10_method_22_code) (maxL := 4) (ret := none) (by decide) rfl ?_
  intro p e s m args below meth c s₁ B hml hv
  obtain ⟨rfl, hv⟩ := hv
  have S : CallFix p m c prog_10_method_22_code 4 s _ (Cond.code yMo_adds prog_10_method_22_code 4 (none) :: sw_tb) R_Mo := ⟨B.exec, B.bytes, hml, findClass_of_methodNamed B.named, atoms_spec (ws := (Cond.code yMo_adds prog_10_method_22_code 4 (none) :: sw_tb)) B.pre⟩
  have hr := B.returns
  have hlk := B.notSynchronized
  have hw := sw_begin hv
  have hl := lv_entry [.ref (ξ.2.2.2.1 84), .int a1, .int a2] (n := 4) (Nat.le_of_ble_eq_true rfl)
  rw [lg_entry_eq]
  generalize (lg_sl [.ref (ξ.2.2.2.1 84), .int a1, .int a2] ++ List.replicate (4 - (lg_sl [.ref (ξ.2.2.2.1 84), .int a1, .int a2]).length) Slot.unset).toArray = ls at hl ⊢
  have hl : lv_has ls 4 [(0, .ref (ξ.2.2.2.1 84)), (1, .int a1), (2, .int a2)] := hl
  unfold fMo_adds at hm
  refine lv_aload_n S.1 S.2.1 dMo_adds_0 rfl (lv_at hl 0 rfl) ?_
  obtain ⟨⟨v3, μ2⟩, h1, hm⟩ := ob hm
  refine sw_Vi (q := 84) (rest := []) S hw (cMo_many l  hf  h1) kMo_many wm_Mo_119 (is_84 hf).1 (e_Mo (is_84 hf)) rfl rfl rfl rfl hl.1 (Nat.le_of_ble_eq_true rfl) ⟨rfl, rfl, Nat.le_of_ble_eq_true rfl, Nat.le_of_ble_eq_true rfl⟩ ⟨Nat.le_of_ble_eq_true rfl, Nat.le_of_ble_eq_true rfl⟩ dMo_adds_1 (fun H locs hw _ => ?_)
  refine lv_istore_n (lv' := [(3, .int v3), (0, .ref (ξ.2.2.2.1 84)), (1, .int a1), (2, .int a2)]) S.1 S.2.1 dMo_adds_4 rfl hl (by decide) rfl (fun ls hl => ?_)
  refine lv_aload_n S.1 S.2.1 dMo_adds_5 rfl (lv_at hl 1 rfl) ?_
  refine get_Mo (v := .ref (ξ.2.2.2.1 86)) S hw (is_84 hf) 2 (by decide) rfl wf_Mo_28 dMo_adds_6 ?_
  refine lv_iconst (v := (0 : Int32)) S.1 S.2.1 dMo_adds_9 (by decide) ?_
  refine lv_iload_n S.1 S.2.1 dMo_adds_10 rfl (lv_at hl 0 rfl) ?_
  refine lv_iadd S.1 S.2.1 dMo_adds_11 ?_
  refine lv_iload_n S.1 S.2.1 dMo_adds_12 rfl (lv_at hl 2 rfl) ?_
  refine sm_iast S hw (is_86 hf) hm dMo_adds_13 (fun μ4 H locs hm hw => ?_)
  refine lv_aload_n S.1 S.2.1 dMo_adds_14 rfl (lv_at hl 1 rfl) ?_
  refine get_Mo (v := .ref (ξ.2.2.2.1 86)) S hw (is_84 hf) 2 (by decide) rfl wf_Mo_28 dMo_adds_15 ?_
  refine lv_bipush (v := (15 : Int32)) S.1 S.2.1 dMo_adds_18 (by decide) ?_
  refine lv_iload_n S.1 S.2.1 dMo_adds_20 rfl (lv_at hl 0 rfl) ?_
  refine lv_iadd S.1 S.2.1 dMo_adds_21 ?_
  refine lv_iload_n S.1 S.2.1 dMo_adds_22 rfl (lv_at hl 3 rfl) ?_
  refine sm_iast S hw (is_86 hf) hm dMo_adds_23 (fun μ5 H locs hm hw => ?_)
  refine lv_aload_n S.1 S.2.1 dMo_adds_24 rfl (lv_at hl 1 rfl) ?_
  refine get_Mo (v := .ref (ξ.2.2.2.1 86)) S hw (is_84 hf) 2 (by decide) rfl wf_Mo_28 dMo_adds_25 ?_
  refine lv_bipush (v := (7 : Int32)) S.1 S.2.1 dMo_adds_28 (by decide) ?_
  refine lv_iload_n S.1 S.2.1 dMo_adds_30 rfl (lv_at hl 0 rfl) ?_
  refine lv_iadd S.1 S.2.1 dMo_adds_31 ?_
  refine lv_iconst (v := (-1 : Int32)) S.1 S.2.1 dMo_adds_32 (by decide) ?_
  refine sm_iast S hw (is_86 hf) hm dMo_adds_33 (fun μ6 H locs hm hw => ?_)
  refine lv_aload_n S.1 S.2.1 dMo_adds_34 rfl (lv_at hl 1 rfl) ?_
  refine get_Mo (v := .ref (ξ.2.2.2.1 86)) S hw (is_84 hf) 2 (by decide) rfl wf_Mo_28 dMo_adds_35 ?_
  refine lv_bipush (v := (43 : Int32)) S.1 S.2.1 dMo_adds_38 (by decide) ?_
  refine lv_dup2_11 S.1 S.2.1 dMo_adds_40 rfl rfl ?_
  refine sm_iald S hw (is_86 hf) hm dMo_adds_41 (fun v7 hm => ?_)
  refine lv_iconst (v := (1 : Int32)) S.1 S.2.1 dMo_adds_42 (by decide) ?_
  refine lv_iadd S.1 S.2.1 dMo_adds_43 ?_
  refine sm_iast S hw (is_86 hf) hm dMo_adds_44 (fun μ8 H locs hm hw => ?_)
  obtain rfl := Option.some.inj hm
  exact sw_vret S hr hlk hw trivial dMo_adds_45
set_option maxHeartbeats 4000000 in
set_option maxRecDepth 100000 in
theorem cMo_claim (l : Launch) {Γ : sw_C} {A : Nat → Prop} {ξ : sw_x} {g : sw_g} {μ : sw_m} (hf : sw_wf ξ g.2.2) (a1 : Int32) (a2 : Int32) {res : Int32 × sw_m} (hm : fMo_claim μ a1 a2 = some res) : Met l yMo_claim (Cond.code yMo_claim prog_10_method_23_code 3 (some .int) :: sw_tb) rmMo_claim (va_Pc [.ref (ξ.2.2.2.1 84), .int a1, .int a2] (sw_V Γ A ξ g μ)) (sw_Qi Γ A ξ g res.2 res.1 (True)) 0 0 A := by
  refine Met.ofW (cc := prog_10_method_23_code) (maxL := 3) (ret := some .int) (by decide) rfl ?_
  intro p e s m args below meth c s₁ B hml hv
  obtain ⟨rfl, hv⟩ := hv
  have S : CallFix p m c prog_10_method_23_code 3 s _ (Cond.code yMo_claim prog_10_method_23_code 3 (some .int) :: sw_tb) R_Mo := ⟨B.exec, B.bytes, hml, findClass_of_methodNamed B.named, atoms_spec (ws := (Cond.code yMo_claim prog_10_method_23_code 3 (some .int) :: sw_tb)) B.pre⟩
  have hr := B.returns
  have hlk := B.notSynchronized
  have hw := sw_begin hv
  have hl := lv_entry [.ref (ξ.2.2.2.1 84), .int a1, .int a2] (n := 3) (Nat.le_of_ble_eq_true rfl)
  rw [lg_entry_eq]
  generalize (lg_sl [.ref (ξ.2.2.2.1 84), .int a1, .int a2] ++ List.replicate (3 - (lg_sl [.ref (ξ.2.2.2.1 84), .int a1, .int a2]).length) Slot.unset).toArray = ls at hl ⊢
  have hl : lv_has ls 3 [(0, .ref (ξ.2.2.2.1 84)), (1, .int a1), (2, .int a2)] := hl
  unfold fMo_claim at hm
  refine lv_iload_n S.1 S.2.1 dMo_claim_0 rfl (lv_at hl 1 rfl) ?_
  refine lv_iload_n S.1 S.2.1 dMo_claim_1 rfl (lv_at hl 2 rfl) ?_
  obtain ⟨v2, h1, hm⟩ := ob hm
  refine sw_Si (rest := []) S hw (cMo_canBe0 l  hf a1 a2 h1) kMo_canBe0 wm_Mo_127 rfl rfl hl.1 (Nat.le_of_ble_eq_true rfl) ⟨rfl, rfl, Nat.le_of_ble_eq_true rfl, Nat.le_of_ble_eq_true rfl⟩ ⟨Nat.le_of_ble_eq_true rfl, Nat.le_of_ble_eq_true rfl⟩ dMo_claim_2 (fun H locs hw _ => ?_)
  refine bif_ne (tgt := 14) S.1 S.2.1 hm dMo_claim_5 (by decide) (fun hm => ?_) (fun hm => ?_)
  · refine lv_aload_n S.1 S.2.1 dMo_claim_14 rfl (lv_at hl 0 rfl) ?_
    obtain ⟨⟨v5, μ4⟩, h3, hm⟩ := ob hm
    refine sw_Vi (q := 84) (rest := []) S hw (cMo_many l  hf  h3) kMo_many wm_Mo_119 (is_84 hf).1 (e_Mo (is_84 hf)) rfl rfl rfl rfl hl.1 (Nat.le_of_ble_eq_true rfl) ⟨rfl, rfl, Nat.le_of_ble_eq_true rfl, Nat.le_of_ble_eq_true rfl⟩ ⟨Nat.le_of_ble_eq_true rfl, Nat.le_of_ble_eq_true rfl⟩ dMo_claim_15 (fun H locs hw _ => ?_)
    refine lv_bipush (v := (7 : Int32)) S.1 S.2.1 dMo_claim_18 (by decide) ?_
    refine bicmp_ne (tgt := 30) S.1 S.2.1 hm dMo_claim_20 (by decide) (fun hm => ?_) (fun hm => ?_)
    · refine lv_aload_n S.1 S.2.1 dMo_claim_30 rfl (lv_at hl 0 rfl) ?_
      refine lv_iload_n S.1 S.2.1 dMo_claim_31 rfl (lv_at hl 1 rfl) ?_
      refine lv_iload_n S.1 S.2.1 dMo_claim_32 rfl (lv_at hl 2 rfl) ?_
      obtain ⟨μ7, h6, hm⟩ := ob hm
      refine sw_Vv (q := 84) (rest := []) S hw (cMo_adds l  hf a1 a2 h6) kMo_adds wm_Mo_131 (is_84 hf).1 (e_Mo (is_84 hf)) rfl rfl rfl rfl hl.1 (Nat.le_of_ble_eq_true rfl) ⟨rfl, rfl, Nat.le_of_ble_eq_true rfl, Nat.le_of_ble_eq_true rfl⟩ ⟨Nat.le_of_ble_eq_true rfl, Nat.le_of_ble_eq_true rfl⟩ dMo_claim_33 (fun H locs hw _ => ?_)
      refine lv_aload_n S.1 S.2.1 dMo_claim_36 rfl (lv_at hl 0 rfl) ?_
      refine lv_aload_n S.1 S.2.1 dMo_claim_37 rfl (lv_at hl 0 rfl) ?_
      obtain ⟨⟨v10, μ9⟩, h8, hm⟩ := ob hm
      refine sw_Vi (q := 84) (rest := [.ref (ξ.2.2.2.1 84)]) S hw (cMo_many l  hf  h8) kMo_many wm_Mo_119 (is_84 hf).1 (e_Mo (is_84 hf)) rfl rfl rfl rfl hl.1 (Nat.le_of_ble_eq_true rfl) ⟨rfl, rfl, Nat.le_of_ble_eq_true rfl, Nat.le_of_ble_eq_true rfl⟩ ⟨Nat.le_of_ble_eq_true rfl, Nat.le_of_ble_eq_true rfl⟩ dMo_claim_38 (fun H locs hw _ => ?_)
      refine lv_iconst (v := (1 : Int32)) S.1 S.2.1 dMo_claim_41 (by decide) ?_
      refine lv_isub S.1 S.2.1 dMo_claim_42 ?_
      obtain ⟨⟨v13, μ12⟩, h11, hm⟩ := ob hm
      refine sw_Vi (q := 84) (rest := []) S hw (cMo_settled l  hf (v10 - (1 : Int32)) h11) kMo_settled wm_Mo_116 (is_84 hf).1 (e_Mo (is_84 hf)) rfl rfl rfl rfl hl.1 (Nat.le_of_ble_eq_true rfl) ⟨rfl, rfl, Nat.le_of_ble_eq_true rfl, Nat.le_of_ble_eq_true rfl⟩ ⟨Nat.le_of_ble_eq_true rfl, Nat.le_of_ble_eq_true rfl⟩ dMo_claim_43 (fun H locs hw _ => ?_)
      obtain rfl := Option.some.inj hm
      exact sw_iret S hr hlk hw trivial dMo_claim_46
    · refine lv_aload_n S.1 S.2.1 dMo_claim_23 rfl (lv_at hl 0 rfl) ?_
      refine lv_bipush (v := (-5 : Int32)) S.1 S.2.1 dMo_claim_24 (by decide) ?_
      obtain ⟨⟨v16, μ15⟩, h14, hm⟩ := ob hm
      refine sw_Vi (q := 84) (rest := []) S hw (cMo_refuses l  hf (-5 : Int32) h14) kMo_refuses wm_Mo_113 (is_84 hf).1 (e_Mo (is_84 hf)) rfl rfl rfl rfl hl.1 (Nat.le_of_ble_eq_true rfl) ⟨rfl, rfl, Nat.le_of_ble_eq_true rfl, Nat.le_of_ble_eq_true rfl⟩ ⟨Nat.le_of_ble_eq_true rfl, Nat.le_of_ble_eq_true rfl⟩ dMo_claim_26 (fun H locs hw _ => ?_)
      obtain rfl := Option.some.inj hm
      exact sw_iret S hr hlk hw trivial dMo_claim_29
  · refine lv_aload_n S.1 S.2.1 dMo_claim_8 rfl (lv_at hl 0 rfl) ?_
    refine lv_iconst (v := (-1 : Int32)) S.1 S.2.1 dMo_claim_9 (by decide) ?_
    obtain ⟨⟨v19, μ18⟩, h17, hm⟩ := ob hm
    refine sw_Vi (q := 84) (rest := []) S hw (cMo_refuses l  hf (-1 : Int32) h17) kMo_refuses wm_Mo_113 (is_84 hf).1 (e_Mo (is_84 hf)) rfl rfl rfl rfl hl.1 (Nat.le_of_ble_eq_true rfl) ⟨rfl, rfl, Nat.le_of_ble_eq_true rfl, Nat.le_of_ble_eq_true rfl⟩ ⟨Nat.le_of_ble_eq_true rfl, Nat.le_of_ble_eq_true rfl⟩ dMo_claim_10 (fun H locs hw _ => ?_)
    obtain rfl := Option.some.inj hm
    exact sw_iret S hr hlk hw trivial dMo_claim_13
set_option maxHeartbeats 4000000 in
set_option maxRecDepth 100000 in
theorem wMo_isTerm_49 {l : Launch} {p : Program} {e : Env} {s : State} {m : MethodId} {args : Array Value} {below : List Frame} {meth : Method} {c : Code} {Γ : sw_C} {A : Nat → Prop} {ξ : sw_x} {g : sw_g} {μ : sw_m} {res : Int32} (S : CallFix p m c prog_10_method_27_code 2 s args (Cond.code yMo_isTerm prog_10_method_27_code 2 (some .boolean) :: sw_tb) R_Mo) (hr : meth.sig.returnType = some .boolean) (hlk : meth.locks = false) (hf : sw_wf ξ g.2.2) (N : Nat) : ∀ (u1 : Int32) (H : Heap) (locs : List Loc) (ls : Array Slot), fMo_isTerm_49 N   u1 = some res → sw_S Γ A ξ g μ s H locs → lv_has ls 2 [(1, .int u1)] → W p l e (headSpec (Cond.code yMo_isTerm prog_10_method_27_code 2 (some .boolean) :: sw_tb) rmMo_isTerm).room s m args below meth c H locs 0 0 (MQ below (sw_Qi Γ A ξ g μ res (True)) args s 0 0 A) (F0 m 49 ls []) := by
  intro u1 H locs ls hm hw hl
  unfold fMo_isTerm_49 at hm
  refine lv_iload_n S.1 S.2.1 dMo_isTerm_49 rfl (lv_at hl 0 rfl) ?_
  refine lv_iconst (v := (0 : Int32)) S.1 S.2.1 dMo_isTerm_50 (by decide) ?_
  refine lv_bipush (v := (9 : Int32)) S.1 S.2.1 dMo_isTerm_51 (by decide) ?_
  obtain ⟨v6, h5, hm⟩ := ob hm
  refine sw_Si (rest := []) S hw (cMo_lies l  hf u1 (0 : Int32) (9 : Int32) h5) kMo_lies wm_Mo_18 rfl rfl hl.1 (Nat.le_of_ble_eq_true rfl) ⟨rfl, rfl, Nat.le_of_ble_eq_true rfl, Nat.le_of_ble_eq_true rfl⟩ ⟨Nat.le_of_ble_eq_true rfl, Nat.le_of_ble_eq_true rfl⟩ dMo_isTerm_53 (fun H locs hw _ => ?_)
  obtain ⟨hz, hm⟩ := ob_tz hm
  obtain rfl := Option.some.inj hm
  exact sw_zret S hr hlk hz hw trivial dMo_isTerm_56
set_option maxHeartbeats 4000000 in
set_option maxRecDepth 100000 in
theorem cMo_isTerm (l : Launch) (N : Nat) {Γ : sw_C} {A : Nat → Prop} {ξ : sw_x} {g : sw_g} {μ : sw_m} (hf : sw_wf ξ g.2.2) (a1 : Int32) (a2 : Int32) {res : Int32} (hm : fMo_isTerm N a1 a2 = some res) : Met l yMo_isTerm (Cond.code yMo_isTerm prog_10_method_27_code 2 (some .boolean) :: sw_tb) rmMo_isTerm (va_Pc [.int a1, .int a2] (sw_V Γ A ξ g μ)) (sw_Qi Γ A ξ g μ res (True)) 0 0 A := by
  refine Met.ofW (cc := prog_10_method_27_code) (maxL := 2) (ret := some .boolean) (by decide) rfl ?_
  intro p e s m args below meth c s₁ B hml hv
  obtain ⟨rfl, hv⟩ := hv
  have S : CallFix p m c prog_10_method_27_code 2 s _ (Cond.code yMo_isTerm prog_10_method_27_code 2 (some .boolean) :: sw_tb) R_Mo := ⟨B.exec, B.bytes, hml, findClass_of_methodNamed B.named, atoms_spec (ws := (Cond.code yMo_isTerm prog_10_method_27_code 2 (some .boolean) :: sw_tb)) B.pre⟩
  have hr := B.returns
  have hlk := B.notSynchronized
  have hw := sw_begin hv
  have hl := lv_entry [.int a1, .int a2] (n := 2) (Nat.le_of_ble_eq_true rfl)
  rw [lg_entry_eq]
  generalize (lg_sl [.int a1, .int a2] ++ List.replicate (2 - (lg_sl [.int a1, .int a2]).length) Slot.unset).toArray = ls at hl ⊢
  have hl : lv_has ls 2 [(0, .int a1), (1, .int a2)] := hl
  unfold fMo_isTerm at hm
  refine lv_iload_n S.1 S.2.1 dMo_isTerm_0 rfl (lv_at hl 0 rfl) ?_
  by_cases c0 : a1 = (0 : Int32)
  · have hm := sw_it c0 hm
    refine lv_tableIn (off := 31) (tgt := 32) S.1 S.2.1 dMo_isTerm_1 (by rw [c0]; decide) (by rw [c0]; decide) (by rw [c0]; decide) (by decide) ?_
    refine lv_iload_n S.1 S.2.1 dMo_isTerm_32 rfl (lv_at hl 1 rfl) ?_
    refine lv_iconst (v := (0 : Int32)) S.1 S.2.1 dMo_isTerm_33 (by decide) ?_
    refine lv_sipush (v := (999 : Int32)) S.1 S.2.1 dMo_isTerm_34 (by decide) ?_
    obtain ⟨v2, h1, hm⟩ := ob hm
    refine sw_Si (rest := []) S hw (cMo_lies l  hf a2 (0 : Int32) (999 : Int32) h1) kMo_lies wm_Mo_18 rfl rfl hl.1 (Nat.le_of_ble_eq_true rfl) ⟨rfl, rfl, Nat.le_of_ble_eq_true rfl, Nat.le_of_ble_eq_true rfl⟩ ⟨Nat.le_of_ble_eq_true rfl, Nat.le_of_ble_eq_true rfl⟩ dMo_isTerm_37 (fun H locs hw _ => ?_)
    obtain ⟨hz, hm⟩ := ob_tz hm
    obtain rfl := Option.some.inj hm
    exact sw_zret S hr hlk hz hw trivial dMo_isTerm_40
  · have hm := sw_if c0 hm
    by_cases c1 : a1 = (1 : Int32)
    · have hm := sw_it c1 hm
      refine lv_tableIn (off := 40) (tgt := 41) S.1 S.2.1 dMo_isTerm_1 (by rw [c1]; decide) (by rw [c1]; decide) (by rw [c1]; decide) (by decide) ?_
      refine lv_iload_n S.1 S.2.1 dMo_isTerm_41 rfl (lv_at hl 1 rfl) ?_
      refine lv_iconst (v := (0 : Int32)) S.1 S.2.1 dMo_isTerm_42 (by decide) ?_
      refine lv_bipush (v := (10 : Int32)) S.1 S.2.1 dMo_isTerm_43 (by decide) ?_
      obtain ⟨v4, h3, hm⟩ := ob hm
      refine sw_Si (rest := []) S hw (cMo_lies l  hf a2 (0 : Int32) (10 : Int32) h3) kMo_lies wm_Mo_18 rfl rfl hl.1 (Nat.le_of_ble_eq_true rfl) ⟨rfl, rfl, Nat.le_of_ble_eq_true rfl, Nat.le_of_ble_eq_true rfl⟩ ⟨Nat.le_of_ble_eq_true rfl, Nat.le_of_ble_eq_true rfl⟩ dMo_isTerm_45 (fun H locs hw _ => ?_)
      obtain ⟨hz, hm⟩ := ob_tz hm
      obtain rfl := Option.some.inj hm
      exact sw_zret S hr hlk hz hw trivial dMo_isTerm_48
    · have hm := sw_if c1 hm
      by_cases c2 : a1 = (2 : Int32)
      · have hm := sw_it c2 hm
        refine lv_tableIn (off := 48) (tgt := 49) S.1 S.2.1 dMo_isTerm_1 (by rw [c2]; decide) (by rw [c2]; decide) (by rw [c2]; decide) (by decide) ?_
        exact wMo_isTerm_49 S hr hlk hf N  a2 _ _ _ hm hw (lv_sub hl [1] rfl)
      · have hm := sw_if c2 hm
        by_cases c3 : a1 = (3 : Int32)
        · have hm := sw_it c3 hm
          refine lv_tableIn (off := 48) (tgt := 49) S.1 S.2.1 dMo_isTerm_1 (by rw [c3]; decide) (by rw [c3]; decide) (by rw [c3]; decide) (by decide) ?_
          exact wMo_isTerm_49 S hr hlk hf N  a2 _ _ _ hm hw (lv_sub hl [1] rfl)
        · have hm := sw_if c3 hm
          refine lv_tableOut (tgt := 57) S.1 S.2.1 dMo_isTerm_1 (by have := lv_neT c0 (show ((0 : Int32)).toInt = 0 from rfl); have := lv_neT c1 (show ((1 : Int32)).toInt = 1 from rfl); have := lv_neT c2 (show ((2 : Int32)).toInt = 2 from rfl); have := lv_neT c3 (show ((3 : Int32)).toInt = 3 from rfl); omega) (by decide) ?_
          refine lv_iconst (v := (0 : Int32)) S.1 S.2.1 dMo_isTerm_57 (by decide) ?_
          obtain rfl := Option.some.inj hm
          exact sw_zret S hr hlk (Or.inl rfl) hw trivial dMo_isTerm_58
set_option maxHeartbeats 4000000 in
set_option maxRecDepth 100000 in
theorem cMo_termAt (l : Launch) {Γ : sw_C} {A : Nat → Prop} {ξ : sw_x} {g : sw_g} {μ : sw_m} (hf : sw_wf ξ g.2.2) (a1 : Int32) {res : Int32} (hm : fMo_termAt a1 = some res) : Met l yMo_termAt (Cond.code yMo_termAt prog_10_method_28_code 1 (some .int) :: sw_tb) rmMo_termAt (va_Pc [.int a1] (sw_V Γ A ξ g μ)) (sw_Qi Γ A ξ g μ res (True)) 0 0 A := by
  refine Met.ofW (cc := prog_10_method_28_code) (maxL := 1) (ret := some .int) (by decide) rfl ?_
  intro p e s m args below meth c s₁ B hml hv
  obtain ⟨rfl, hv⟩ := hv
  have S : CallFix p m c prog_10_method_28_code 1 s _ (Cond.code yMo_termAt prog_10_method_28_code 1 (some .int) :: sw_tb) R_Mo := ⟨B.exec, B.bytes, hml, findClass_of_methodNamed B.named, atoms_spec (ws := (Cond.code yMo_termAt prog_10_method_28_code 1 (some .int) :: sw_tb)) B.pre⟩
  have hr := B.returns
  have hlk := B.notSynchronized
  have hw := sw_begin hv
  have hl := lv_entry [.int a1] (n := 1) (Nat.le_of_ble_eq_true rfl)
  rw [lg_entry_eq]
  generalize (lg_sl [.int a1] ++ List.replicate (1 - (lg_sl [.int a1]).length) Slot.unset).toArray = ls at hl ⊢
  have hl : lv_has ls 1 [(0, .int a1)] := hl
  unfold fMo_termAt at hm
  refine lv_iload_n S.1 S.2.1 dMo_termAt_0 rfl (lv_at hl 0 rfl) ?_
  refine bif_ne (tgt := 9) S.1 S.2.1 hm dMo_termAt_1 (by decide) (fun hm => ?_) (fun hm => ?_)
  · refine lv_iload_n S.1 S.2.1 dMo_termAt_9 rfl (lv_at hl 0 rfl) ?_
    refine lv_iconst (v := (1 : Int32)) S.1 S.2.1 dMo_termAt_10 (by decide) ?_
    refine bicmp_ne (tgt := 19) S.1 S.2.1 hm dMo_termAt_11 (by decide) (fun hm => ?_) (fun hm => ?_)
    · refine lv_iload_n S.1 S.2.1 dMo_termAt_19 rfl (lv_at hl 0 rfl) ?_
      refine lv_iconst (v := (2 : Int32)) S.1 S.2.1 dMo_termAt_20 (by decide) ?_
      refine bicmp_ne (tgt := 29) S.1 S.2.1 hm dMo_termAt_21 (by decide) (fun hm => ?_) (fun hm => ?_)
      · refine lv_bipush (v := (42 : Int32)) S.1 S.2.1 dMo_termAt_29 (by decide) ?_
        obtain rfl := Option.some.inj hm
        exact sw_iret S hr hlk hw trivial dMo_termAt_31
      · refine lv_bipush (v := (41 : Int32)) S.1 S.2.1 dMo_termAt_24 (by decide) ?_
        refine lv_goto (tgt := 31) S.1 S.2.1 dMo_termAt_26 (by decide) ?_
        obtain rfl := Option.some.inj hm
        exact sw_iret S hr hlk hw trivial dMo_termAt_31
    · refine lv_bipush (v := (40 : Int32)) S.1 S.2.1 dMo_termAt_14 (by decide) ?_
      refine lv_goto (tgt := 31) S.1 S.2.1 dMo_termAt_16 (by decide) ?_
      obtain rfl := Option.some.inj hm
      exact sw_iret S hr hlk hw trivial dMo_termAt_31
  · refine lv_bipush (v := (14 : Int32)) S.1 S.2.1 dMo_termAt_4 (by decide) ?_
    refine lv_goto (tgt := 31) S.1 S.2.1 dMo_termAt_6 (by decide) ?_
    obtain rfl := Option.some.inj hm
    exact sw_iret S hr hlk hw trivial dMo_termAt_31
set_option maxHeartbeats 4000000 in
set_option maxRecDepth 100000 in
theorem cMo_terms (l : Launch) (N : Nat) {Γ : sw_C} {A : Nat → Prop} {ξ : sw_x} {g : sw_g} {μ : sw_m} (hf : sw_wf ξ g.2.2) (a1 : Int32) (a2 : Int32) {res : Int32 × sw_m} (hm : fMo_terms N μ a1 a2 = some res) : Met l yMo_terms (Cond.code yMo_terms prog_10_method_29_code 4 (some .int) :: sw_tb) rmMo_terms (va_Pc [.ref (ξ.2.2.2.1 84), .int a1, .int a2] (sw_V Γ A ξ g μ)) (sw_Qi Γ A ξ g res.2 res.1 (True)) 0 0 A := by
  refine Met.ofW (cc := prog_10_method_29_code) (maxL := 4) (ret := some .int) (by decide) rfl ?_
  intro p e s m args below meth c s₁ B hml hv
  obtain ⟨rfl, hv⟩ := hv
  have S : CallFix p m c prog_10_method_29_code 4 s _ (Cond.code yMo_terms prog_10_method_29_code 4 (some .int) :: sw_tb) R_Mo := ⟨B.exec, B.bytes, hml, findClass_of_methodNamed B.named, atoms_spec (ws := (Cond.code yMo_terms prog_10_method_29_code 4 (some .int) :: sw_tb)) B.pre⟩
  have hr := B.returns
  have hlk := B.notSynchronized
  have hw := sw_begin hv
  have hl := lv_entry [.ref (ξ.2.2.2.1 84), .int a1, .int a2] (n := 4) (Nat.le_of_ble_eq_true rfl)
  rw [lg_entry_eq]
  generalize (lg_sl [.ref (ξ.2.2.2.1 84), .int a1, .int a2] ++ List.replicate (4 - (lg_sl [.ref (ξ.2.2.2.1 84), .int a1, .int a2]).length) Slot.unset).toArray = ls at hl ⊢
  have hl : lv_has ls 4 [(0, .ref (ξ.2.2.2.1 84)), (1, .int a1), (2, .int a2)] := hl
  unfold fMo_terms at hm
  refine lv_iload_n S.1 S.2.1 dMo_terms_0 rfl (lv_at hl 1 rfl) ?_
  refine lv_iload_n S.1 S.2.1 dMo_terms_1 rfl (lv_at hl 2 rfl) ?_
  obtain ⟨v2, h1, hm⟩ := ob hm
  refine sw_Si (rest := []) S hw (cMo_isTerm l N hf a1 a2 h1) kMo_isTerm wm_Mo_169 rfl rfl hl.1 (Nat.le_of_ble_eq_true rfl) ⟨rfl, rfl, Nat.le_of_ble_eq_true rfl, Nat.le_of_ble_eq_true rfl⟩ ⟨Nat.le_of_ble_eq_true rfl, Nat.le_of_ble_eq_true rfl⟩ dMo_terms_2 (fun H locs hw _ => ?_)
  refine bif_ne (tgt := 14) S.1 S.2.1 hm dMo_terms_5 (by decide) (fun hm => ?_) (fun hm => ?_)
  · refine lv_aload_n S.1 S.2.1 dMo_terms_14 rfl (lv_at hl 0 rfl) ?_
    refine get_Mo (v := .ref (ξ.2.2.2.1 86)) S hw (is_84 hf) 2 (by decide) rfl wf_Mo_28 dMo_terms_15 ?_
    refine lv_iload_n S.1 S.2.1 dMo_terms_18 rfl (lv_at hl 1 rfl) ?_
    obtain ⟨v4, h3, hm⟩ := ob hm
    refine sw_Si (rest := [.ref (ξ.2.2.2.1 86)]) S hw (cMo_termAt l  hf a1 h3) kMo_termAt wm_Mo_172 rfl rfl hl.1 (Nat.le_of_ble_eq_true rfl) ⟨rfl, rfl, Nat.le_of_ble_eq_true rfl, Nat.le_of_ble_eq_true rfl⟩ ⟨Nat.le_of_ble_eq_true rfl, Nat.le_of_ble_eq_true rfl⟩ dMo_terms_19 (fun H locs hw _ => ?_)
    refine sm_iald S hw (is_86 hf) hm dMo_terms_22 (fun v5 hm => ?_)
    refine lv_istore_n (lv' := [(3, .int v5), (0, .ref (ξ.2.2.2.1 84)), (1, .int a1), (2, .int a2)]) S.1 S.2.1 dMo_terms_23 rfl hl (by decide) rfl (fun ls hl => ?_)
    refine lv_aload_n S.1 S.2.1 dMo_terms_24 rfl (lv_at hl 1 rfl) ?_
    refine get_Mo (v := .ref (ξ.2.2.2.1 86)) S hw (is_84 hf) 2 (by decide) rfl wf_Mo_28 dMo_terms_25 ?_
    refine lv_iload_n S.1 S.2.1 dMo_terms_28 rfl (lv_at hl 2 rfl) ?_
    obtain ⟨v7, h6, hm⟩ := ob hm
    refine sw_Si (rest := [.ref (ξ.2.2.2.1 86)]) S hw (cMo_termAt l  hf a1 h6) kMo_termAt wm_Mo_172 rfl rfl hl.1 (Nat.le_of_ble_eq_true rfl) ⟨rfl, rfl, Nat.le_of_ble_eq_true rfl, Nat.le_of_ble_eq_true rfl⟩ ⟨Nat.le_of_ble_eq_true rfl, Nat.le_of_ble_eq_true rfl⟩ dMo_terms_29 (fun H locs hw _ => ?_)
    refine lv_iload_n S.1 S.2.1 dMo_terms_32 rfl (lv_at hl 3 rfl) ?_
    refine sm_iast S hw (is_86 hf) hm dMo_terms_33 (fun μ8 H locs hm hw => ?_)
    refine lv_aload_n S.1 S.2.1 dMo_terms_34 rfl (lv_at hl 1 rfl) ?_
    refine lv_iload_n S.1 S.2.1 dMo_terms_35 rfl (lv_at hl 0 rfl) ?_
    obtain ⟨⟨v11, μ10⟩, h9, hm⟩ := ob hm
    refine sw_Vi (q := 84) (rest := []) S hw (cMo_settled l  hf v5 h9) kMo_settled wm_Mo_116 (is_84 hf).1 (e_Mo (is_84 hf)) rfl rfl rfl rfl hl.1 (Nat.le_of_ble_eq_true rfl) ⟨rfl, rfl, Nat.le_of_ble_eq_true rfl, Nat.le_of_ble_eq_true rfl⟩ ⟨Nat.le_of_ble_eq_true rfl, Nat.le_of_ble_eq_true rfl⟩ dMo_terms_36 (fun H locs hw _ => ?_)
    obtain rfl := Option.some.inj hm
    exact sw_iret S hr hlk hw trivial dMo_terms_39
  · refine lv_aload_n S.1 S.2.1 dMo_terms_8 rfl (lv_at hl 0 rfl) ?_
    refine lv_iconst (v := (-1 : Int32)) S.1 S.2.1 dMo_terms_9 (by decide) ?_
    obtain ⟨⟨v14, μ13⟩, h12, hm⟩ := ob hm
    refine sw_Vi (q := 84) (rest := []) S hw (cMo_refuses l  hf (-1 : Int32) h12) kMo_refuses wm_Mo_113 (is_84 hf).1 (e_Mo (is_84 hf)) rfl rfl rfl rfl hl.1 (Nat.le_of_ble_eq_true rfl) ⟨rfl, rfl, Nat.le_of_ble_eq_true rfl, Nat.le_of_ble_eq_true rfl⟩ ⟨Nat.le_of_ble_eq_true rfl, Nat.le_of_ble_eq_true rfl⟩ dMo_terms_10 (fun H locs hw _ => ?_)
    obtain rfl := Option.some.inj hm
    exact sw_iret S hr hlk hw trivial dMo_terms_13
set_option maxHeartbeats 4000000 in
set_option maxRecDepth 100000 in
theorem wMo_row_109 {l : Launch} {p : Program} {e : Env} {s : State} {m : MethodId} {args : Array Value} {below : List Frame} {meth : Method} {c : Code} {Γ : sw_C} {A : Nat → Prop} {ξ : sw_x} {g : sw_g} {res : Int32 × sw_m} (S : CallFix p m c prog_10_method_30_code 5 s args (Cond.code yMo_row prog_10_method_30_code 5 (some .int) :: sw_tb) R_Mo) (hr : meth.sig.returnType = some .int) (hlk : meth.locks = false) (hf : sw_wf ξ g.2.2) (N : Nat) (k32 : sw_m → Int32 → Int32 → Int32 → Option (Int32 × sw_m)) (hk32 : ∀ (μ : sw_m) (u1 : Int32) (u2 : Int32) (u3 : Int32) (H : Heap) (locs : List Loc) (ls : Array Slot), k32 μ u1 u2 u3 = some res → sw_S Γ A ξ g μ s H locs → lv_has ls 5 [(0, .ref (ξ.2.2.2.1 84)), (1, .int u1), (2, .int u2), (3, .int u3)] → W p l e (headSpec (Cond.code yMo_row prog_10_method_30_code 5 (some .int) :: sw_tb) rmMo_row).room s m args below meth c H locs 0 0 (MQ below (sw_Qi Γ A ξ g res.2 res.1 (True)) args s 0 0 A) (F0 m 32 ls [])) : ∀ (μ : sw_m) (u1 : Int32) (u3 : Int32) (u4 : Int32) (s0 : Int32) (s1 : Int32) (H : Heap) (locs : List Loc) (ls : Array Slot), fMo_row_109 N  k32 μ u1 u3 u4 s0 s1 = some res → sw_S Γ A ξ g μ s H locs → lv_has ls 5 [(0, .ref (ξ.2.2.2.1 84)), (1, .int u1), (3, .int u3), (4, .int u4)] → W p l e (headSpec (Cond.code yMo_row prog_10_method_30_code 5 (some .int) :: sw_tb) rmMo_row).room s m args below meth c H locs 0 0 (MQ below (sw_Qi Γ A ξ g res.2 res.1 (True)) args s 0 0 A) (F0 m 109 ls [.int s0, .int s1]) := by
  intro μ u1 u3 u4 s0 s1 H locs ls hm hw hl
  unfold fMo_row_109 at hm
  refine lv_iadd S.1 S.2.1 dMo_row_109 ?_
  refine nm_i hm (fun x10 hm => ?_)
  refine lv_istore_n (lv' := [(2, .int x10), (0, .ref (ξ.2.2.2.1 84)), (1, .int u1), (3, .int u3), (4, .int u4)]) S.1 S.2.1 dMo_row_110 rfl hl (by decide) rfl (fun ls hl => ?_)
  refine lv_aload_n S.1 S.2.1 dMo_row_111 rfl (lv_at hl 1 rfl) ?_
  refine lv_dup S.1 S.2.1 dMo_row_112 rfl ?_
  refine get_Mo (v := .int (μ.1 84 6)) S hw (is_84 hf) 6 (by decide) rfl wf_Mo_178 dMo_row_113 ?_
  refine lv_iload S.1 S.2.1 dMo_row_116 (lv_at hl 4 rfl) ?_
  refine bif_eq (tgt := 125) S.1 S.2.1 hm dMo_row_118 (by decide) (fun hm => ?_) (fun hm => ?_)
  · refine lv_iconst (v := (1 : Int32)) S.1 S.2.1 dMo_row_125 (by decide) ?_
    refine lv_iadd S.1 S.2.1 dMo_row_126 ?_
    refine put_Mo S hw (is_84 hf) 6 (by decide) ps_Mo_6 rfl rfl rfl wf_Mo_178 hm dMo_row_127 (fun μ11 H locs hm hw => ?_)
    obtain ⟨x12, ex12, hm⟩ := nm_x hm
    refine lv_iinc (v := x12) (lv' := [(3, .int x12), (2, .int x10), (0, .ref (ξ.2.2.2.1 84)), (1, .int u1), (4, .int u4)]) S.1 S.2.1 dMo_row_130 hl (k := 3) rfl (by rw [ex12]; rfl) (by decide) rfl (fun ls hl => ?_)
    refine lv_goto (tgt := 32) S.1 S.2.1 dMo_row_133 (by decide) ?_
    exact hk32 μ11 u1 x10 x12 _ _ _ hm hw (lv_sub hl [2, 3, 1, 0] rfl)
  · refine lv_iconst (v := (0 : Int32)) S.1 S.2.1 dMo_row_121 (by decide) ?_
    refine lv_goto (tgt := 126) S.1 S.2.1 dMo_row_122 (by decide) ?_
    refine lv_iadd S.1 S.2.1 dMo_row_126 ?_
    refine put_Mo S hw (is_84 hf) 6 (by decide) ps_Mo_6 rfl rfl rfl wf_Mo_178 hm dMo_row_127 (fun μ13 H locs hm hw => ?_)
    obtain ⟨x14, ex14, hm⟩ := nm_x hm
    refine lv_iinc (v := x14) (lv' := [(3, .int x14), (2, .int x10), (0, .ref (ξ.2.2.2.1 84)), (1, .int u1), (4, .int u4)]) S.1 S.2.1 dMo_row_130 hl (k := 3) rfl (by rw [ex14]; rfl) (by decide) rfl (fun ls hl => ?_)
    refine lv_goto (tgt := 32) S.1 S.2.1 dMo_row_133 (by decide) ?_
    exact hk32 μ13 u1 x10 x14 _ _ _ hm hw (lv_sub hl [2, 3, 1, 0] rfl)
set_option maxHeartbeats 4000000 in
set_option maxRecDepth 100000 in
theorem wMo_row_98 {l : Launch} {p : Program} {e : Env} {s : State} {m : MethodId} {args : Array Value} {below : List Frame} {meth : Method} {c : Code} {Γ : sw_C} {A : Nat → Prop} {ξ : sw_x} {g : sw_g} {res : Int32 × sw_m} (S : CallFix p m c prog_10_method_30_code 5 s args (Cond.code yMo_row prog_10_method_30_code 5 (some .int) :: sw_tb) R_Mo) (hr : meth.sig.returnType = some .int) (hlk : meth.locks = false) (hf : sw_wf ξ g.2.2) (N : Nat) (k32 : sw_m → Int32 → Int32 → Int32 → Option (Int32 × sw_m)) (hk32 : ∀ (μ : sw_m) (u1 : Int32) (u2 : Int32) (u3 : Int32) (H : Heap) (locs : List Loc) (ls : Array Slot), k32 μ u1 u2 u3 = some res → sw_S Γ A ξ g μ s H locs → lv_has ls 5 [(0, .ref (ξ.2.2.2.1 84)), (1, .int u1), (2, .int u2), (3, .int u3)] → W p l e (headSpec (Cond.code yMo_row prog_10_method_30_code 5 (some .int) :: sw_tb) rmMo_row).room s m args below meth c H locs 0 0 (MQ below (sw_Qi Γ A ξ g res.2 res.1 (True)) args s 0 0 A) (F0 m 32 ls [])) : ∀ (μ : sw_m) (u1 : Int32) (u2 : Int32) (u3 : Int32) (u4 : Int32) (H : Heap) (locs : List Loc) (ls : Array Slot), fMo_row_98 N  k32 μ u1 u2 u3 u4 = some res → sw_S Γ A ξ g μ s H locs → lv_has ls 5 [(0, .ref (ξ.2.2.2.1 84)), (1, .int u1), (2, .int u2), (3, .int u3), (4, .int u4)] → W p l e (headSpec (Cond.code yMo_row prog_10_method_30_code 5 (some .int) :: sw_tb) rmMo_row).room s m args below meth c H locs 0 0 (MQ below (sw_Qi Γ A ξ g res.2 res.1 (True)) args s 0 0 A) (F0 m 98 ls []) := by
  intro μ u1 u2 u3 u4 H locs ls hm hw hl
  unfold fMo_row_98 at hm
  refine lv_iload_n S.1 S.2.1 dMo_row_98 rfl (lv_at hl 2 rfl) ?_
  refine lv_iload S.1 S.2.1 dMo_row_99 (lv_at hl 4 rfl) ?_
  refine bif_eq (tgt := 108) S.1 S.2.1 hm dMo_row_101 (by decide) (fun hm => ?_) (fun hm => ?_)
  · refine lv_iconst (v := (0 : Int32)) S.1 S.2.1 dMo_row_108 (by decide) ?_
    exact wMo_row_109 S hr hlk hf N k32 hk32 μ u1 u3 u4 (0 : Int32) u2 _ _ _ hm hw (lv_sub hl [0, 1, 3, 4] rfl)
  · refine lv_iconst (v := (1 : Int32)) S.1 S.2.1 dMo_row_104 (by decide) ?_
    refine lv_goto (tgt := 109) S.1 S.2.1 dMo_row_105 (by decide) ?_
    exact wMo_row_109 S hr hlk hf N k32 hk32 μ u1 u3 u4 (1 : Int32) u2 _ _ _ hm hw (lv_sub hl [0, 1, 3, 4] rfl)
set_option maxHeartbeats 4000000 in
set_option maxRecDepth 100000 in
theorem wMo_row_73 {l : Launch} {p : Program} {e : Env} {s : State} {m : MethodId} {args : Array Value} {below : List Frame} {meth : Method} {c : Code} {Γ : sw_C} {A : Nat → Prop} {ξ : sw_x} {g : sw_g} {res : Int32 × sw_m} (S : CallFix p m c prog_10_method_30_code 5 s args (Cond.code yMo_row prog_10_method_30_code 5 (some .int) :: sw_tb) R_Mo) (hr : meth.sig.returnType = some .int) (hlk : meth.locks = false) (hf : sw_wf ξ g.2.2) (N : Nat) (k32 : sw_m → Int32 → Int32 → Int32 → Option (Int32 × sw_m)) (hk32 : ∀ (μ : sw_m) (u1 : Int32) (u2 : Int32) (u3 : Int32) (H : Heap) (locs : List Loc) (ls : Array Slot), k32 μ u1 u2 u3 = some res → sw_S Γ A ξ g μ s H locs → lv_has ls 5 [(0, .ref (ξ.2.2.2.1 84)), (1, .int u1), (2, .int u2), (3, .int u3)] → W p l e (headSpec (Cond.code yMo_row prog_10_method_30_code 5 (some .int) :: sw_tb) rmMo_row).room s m args below meth c H locs 0 0 (MQ below (sw_Qi Γ A ξ g res.2 res.1 (True)) args s 0 0 A) (F0 m 32 ls [])) : ∀ (μ : sw_m) (u1 : Int32) (u2 : Int32) (u3 : Int32) (s0 : Int32) (H : Heap) (locs : List Loc) (ls : Array Slot), fMo_row_73 N  k32 μ u1 u2 u3 s0 = some res → sw_S Γ A ξ g μ s H locs → lv_has ls 5 [(0, .ref (ξ.2.2.2.1 84)), (1, .int u1), (2, .int u2), (3, .int u3)] → W p l e (headSpec (Cond.code yMo_row prog_10_method_30_code 5 (some .int) :: sw_tb) rmMo_row).room s m args below meth c H locs 0 0 (MQ below (sw_Qi Γ A ξ g res.2 res.1 (True)) args s 0 0 A) (F0 m 73 ls [.int s0]) := by
  intro μ u1 u2 u3 s0 H locs ls hm hw hl
  unfold fMo_row_73 at hm
  refine lv_istore (lv' := [(4, .int s0), (0, .ref (ξ.2.2.2.1 84)), (1, .int u1), (2, .int u2), (3, .int u3)]) S.1 S.2.1 dMo_row_73 hl (by decide) rfl (fun ls hl => ?_)
  refine lv_iload S.1 S.2.1 dMo_row_75 (lv_at hl 0 rfl) ?_
  refine bif_eq (tgt := 98) S.1 S.2.1 hm dMo_row_77 (by decide) (fun hm => ?_) (fun hm => ?_)
  · exact wMo_row_98 S hr hlk hf N k32 hk32 μ u1 u2 u3 s0 _ _ _ hm hw (lv_sub hl [1, 2, 3, 4, 0] rfl)
  · refine lv_aload_n S.1 S.2.1 dMo_row_80 rfl (lv_at hl 1 rfl) ?_
    refine lv_aload_n S.1 S.2.1 dMo_row_81 rfl (lv_at hl 1 rfl) ?_
    refine get_Mo (v := .ref (ξ.2.2.2.1 91)) S hw (is_84 hf) 11 (by decide) rfl wf_Mo_45 dMo_row_82 ?_
    refine lv_iload_n S.1 S.2.1 dMo_row_85 rfl (lv_at hl 4 rfl) ?_
    refine sm_bald S hw (is_91 hf) hm dMo_row_86 (fun v15 hm => ?_)
    refine lv_aload_n S.1 S.2.1 dMo_row_87 rfl (lv_at hl 1 rfl) ?_
    refine get_Mo (v := .ref (ξ.2.2.2.1 91)) S hw (is_84 hf) 11 (by decide) rfl wf_Mo_45 dMo_row_88 ?_
    refine lv_iload_n S.1 S.2.1 dMo_row_91 rfl (lv_at hl 4 rfl) ?_
    refine lv_iconst (v := (1 : Int32)) S.1 S.2.1 dMo_row_92 (by decide) ?_
    refine lv_iadd S.1 S.2.1 dMo_row_93 ?_
    refine sm_bald S hw (is_91 hf) hm dMo_row_94 (fun v16 hm => ?_)
    obtain ⟨μ18, h17, hm⟩ := ob hm
    refine sw_Vv (q := 84) (rest := []) S hw (cMo_adds l  hf v15 v16 h17) kMo_adds wm_Mo_131 (is_84 hf).1 (e_Mo (is_84 hf)) rfl rfl rfl rfl hl.1 (Nat.le_of_ble_eq_true rfl) ⟨rfl, rfl, Nat.le_of_ble_eq_true rfl, Nat.le_of_ble_eq_true rfl⟩ ⟨Nat.le_of_ble_eq_true rfl, Nat.le_of_ble_eq_true rfl⟩ dMo_row_95 (fun H locs hw _ => ?_)
    exact wMo_row_98 S hr hlk hf N k32 hk32 μ18 u1 u2 u3 s0 _ _ _ hm hw (lv_sub hl [1, 2, 3, 4, 0] rfl)
set_option maxHeartbeats 4000000 in
set_option maxRecDepth 100000 in
theorem wMo_row_32 {l : Launch} {p : Program} {e : Env} {s : State} {m : MethodId} {args : Array Value} {below : List Frame} {meth : Method} {c : Code} {Γ : sw_C} {A : Nat → Prop} {ξ : sw_x} {g : sw_g} {res : Int32 × sw_m} (S : CallFix p m c prog_10_method_30_code 5 s args (Cond.code yMo_row prog_10_method_30_code 5 (some .int) :: sw_tb) R_Mo) (hr : meth.sig.returnType = some .int) (hlk : meth.locks = false) (hf : sw_wf ξ g.2.2) (N : Nat) : ∀ (fu : Nat) (μ : sw_m) (u1 : Int32) (u2 : Int32) (u3 : Int32) (H : Heap) (locs : List Loc) (ls : Array Slot), fMo_row_32 N   fu μ u1 u2 u3 = some res → sw_S Γ A ξ g μ s H locs → lv_has ls 5 [(0, .ref (ξ.2.2.2.1 84)), (1, .int u1), (2, .int u2), (3, .int u3)] → W p l e (headSpec (Cond.code yMo_row prog_10_method_30_code 5 (some .int) :: sw_tb) rmMo_row).room s m args below meth c H locs 0 0 (MQ below (sw_Qi Γ A ξ g res.2 res.1 (True)) args s 0 0 A) (F0 m 32 ls []) := by
  intro fu
  induction fu with
  | zero => intro μ u1 u2 u3 H locs ls hm; rw [fMo_row_32.eq_1] at hm; cases hm
  | succ fu ih =>
    intro μ u1 u2 u3 H locs ls hm hw hl
    rw [fMo_row_32.eq_2] at hm
    refine lv_iload_n S.1 S.2.1 dMo_row_32 rfl (lv_at hl 3 rfl) ?_
    refine lv_iconst (v := (2 : Int32)) S.1 S.2.1 dMo_row_33 (by decide) ?_
    refine lv_iadd S.1 S.2.1 dMo_row_34 ?_
    refine lv_iload_n S.1 S.2.1 dMo_row_35 rfl (lv_at hl 1 rfl) ?_
    refine bicmp_gt (tgt := 136) S.1 S.2.1 hm dMo_row_36 (by decide) (fun hm => ?_) (fun hm => ?_)
    · refine lv_aload_n S.1 S.2.1 dMo_row_136 rfl (lv_at hl 0 rfl) ?_
      refine lv_iload_n S.1 S.2.1 dMo_row_137 rfl (lv_at hl 2 rfl) ?_
      obtain ⟨⟨v6, μ5⟩, h4, hm⟩ := ob hm
      refine sw_Vi (q := 84) (rest := []) S hw (cMo_settled l  hf u2 h4) kMo_settled wm_Mo_116 (is_84 hf).1 (e_Mo (is_84 hf)) rfl rfl rfl rfl hl.1 (Nat.le_of_ble_eq_true rfl) ⟨rfl, rfl, Nat.le_of_ble_eq_true rfl, Nat.le_of_ble_eq_true rfl⟩ ⟨Nat.le_of_ble_eq_true rfl, Nat.le_of_ble_eq_true rfl⟩ dMo_row_138 (fun H locs hw _ => ?_)
      obtain rfl := Option.some.inj hm
      exact sw_iret S hr hlk hw trivial dMo_row_141
    · refine lv_aload_n S.1 S.2.1 dMo_row_39 rfl (lv_at hl 0 rfl) ?_
      obtain ⟨⟨v9, μ8⟩, h7, hm⟩ := ob hm
      refine sw_Vi (q := 84) (rest := []) S hw (cMo_many l  hf  h7) kMo_many wm_Mo_119 (is_84 hf).1 (e_Mo (is_84 hf)) rfl rfl rfl rfl hl.1 (Nat.le_of_ble_eq_true rfl) ⟨rfl, rfl, Nat.le_of_ble_eq_true rfl, Nat.le_of_ble_eq_true rfl⟩ ⟨Nat.le_of_ble_eq_true rfl, Nat.le_of_ble_eq_true rfl⟩ dMo_row_40 (fun H locs hw _ => ?_)
      refine lv_bipush (v := (7 : Int32)) S.1 S.2.1 dMo_row_43 (by decide) ?_
      refine bicmp_ge (tgt := 72) S.1 S.2.1 hm dMo_row_45 (by decide) (fun hm => ?_) (fun hm => ?_)
      · refine lv_iconst (v := (0 : Int32)) S.1 S.2.1 dMo_row_72 (by decide) ?_
        exact wMo_row_73 S hr hlk hf N (fMo_row_32 N   fu) ih μ8 u1 u2 u3 (0 : Int32) _ _ _ hm hw (lv_sub hl [0, 1, 2, 3] rfl)
      · refine lv_aload_n S.1 S.2.1 dMo_row_48 rfl (lv_at hl 0 rfl) ?_
        refine get_Mo (v := .ref (ξ.2.2.2.1 91)) S hw (is_84 hf) 11 (by decide) rfl wf_Mo_45 dMo_row_49 ?_
        refine lv_iload_n S.1 S.2.1 dMo_row_52 rfl (lv_at hl 3 rfl) ?_
        refine sm_bald S hw (is_91 hf) hm dMo_row_53 (fun v19 hm => ?_)
        refine lv_aload_n S.1 S.2.1 dMo_row_54 rfl (lv_at hl 0 rfl) ?_
        refine get_Mo (v := .ref (ξ.2.2.2.1 91)) S hw (is_84 hf) 11 (by decide) rfl wf_Mo_45 dMo_row_55 ?_
        refine lv_iload_n S.1 S.2.1 dMo_row_58 rfl (lv_at hl 3 rfl) ?_
        refine lv_iconst (v := (1 : Int32)) S.1 S.2.1 dMo_row_59 (by decide) ?_
        refine lv_iadd S.1 S.2.1 dMo_row_60 ?_
        refine sm_bald S hw (is_91 hf) hm dMo_row_61 (fun v20 hm => ?_)
        obtain ⟨v22, h21, hm⟩ := ob hm
        refine sw_Si (rest := []) S hw (cMo_canBe0 l  hf v19 v20 h21) kMo_canBe0 wm_Mo_127 rfl rfl hl.1 (Nat.le_of_ble_eq_true rfl) ⟨rfl, rfl, Nat.le_of_ble_eq_true rfl, Nat.le_of_ble_eq_true rfl⟩ ⟨Nat.le_of_ble_eq_true rfl, Nat.le_of_ble_eq_true rfl⟩ dMo_row_62 (fun H locs hw _ => ?_)
        refine bif_eq (tgt := 72) S.1 S.2.1 hm dMo_row_65 (by decide) (fun hm => ?_) (fun hm => ?_)
        · refine lv_iconst (v := (0 : Int32)) S.1 S.2.1 dMo_row_72 (by decide) ?_
          exact wMo_row_73 S hr hlk hf N (fMo_row_32 N   fu) ih μ8 u1 u2 u3 (0 : Int32) _ _ _ hm hw (lv_sub hl [0, 1, 2, 3] rfl)
        · refine lv_iconst (v := (1 : Int32)) S.1 S.2.1 dMo_row_68 (by decide) ?_
          refine lv_goto (tgt := 73) S.1 S.2.1 dMo_row_69 (by decide) ?_
          exact wMo_row_73 S hr hlk hf N (fMo_row_32 N   fu) ih μ8 u1 u2 u3 (1 : Int32) _ _ _ hm hw (lv_sub hl [0, 1, 2, 3] rfl)
set_option maxHeartbeats 4000000 in
set_option maxRecDepth 100000 in
theorem cMo_row (l : Launch) (N : Nat) {Γ : sw_C} {A : Nat → Prop} {ξ : sw_x} {g : sw_g} {μ : sw_m} (hf : sw_wf ξ g.2.2) {res : Int32 × sw_m} (hm : fMo_row N μ = some res) : Met l yMo_row (Cond.code yMo_row prog_10_method_30_code 5 (some .int) :: sw_tb) rmMo_row (va_Pc [.ref (ξ.2.2.2.1 84)] (sw_V Γ A ξ g μ)) (sw_Qi Γ A ξ g res.2 res.1 (True)) 0 0 A := by
  refine Met.ofW (cc := prog_10_method_30_code) (maxL := 5) (ret := some .int) (by decide) rfl ?_
  intro p e s m args below meth c s₁ B hml hv
  obtain ⟨rfl, hv⟩ := hv
  have S : CallFix p m c prog_10_method_30_code 5 s _ (Cond.code yMo_row prog_10_method_30_code 5 (some .int) :: sw_tb) R_Mo := ⟨B.exec, B.bytes, hml, findClass_of_methodNamed B.named, atoms_spec (ws := (Cond.code yMo_row prog_10_method_30_code 5 (some .int) :: sw_tb)) B.pre⟩
  have hr := B.returns
  have hlk := B.notSynchronized
  have hw := sw_begin hv
  have hl := lv_entry [.ref (ξ.2.2.2.1 84)] (n := 5) (Nat.le_of_ble_eq_true rfl)
  rw [lg_entry_eq]
  generalize (lg_sl [.ref (ξ.2.2.2.1 84)] ++ List.replicate (5 - (lg_sl [.ref (ξ.2.2.2.1 84)]).length) Slot.unset).toArray = ls at hl ⊢
  have hl : lv_has ls 5 [(0, .ref (ξ.2.2.2.1 84))] := hl
  unfold fMo_row at hm
  refine lv_aload_n S.1 S.2.1 dMo_row_0 rfl (lv_at hl 0 rfl) ?_
  refine get_Mo (v := .int (μ.1 84 13)) S hw (is_84 hf) 13 (by decide) rfl wf_Mo_175 dMo_row_1 ?_
  refine nm_i hm (fun x1 hm => ?_)
  refine lv_istore_n (lv' := [(1, .int x1), (0, .ref (ξ.2.2.2.1 84))]) S.1 S.2.1 dMo_row_4 rfl hl (by decide) rfl (fun ls hl => ?_)
  refine lv_aload_n S.1 S.2.1 dMo_row_5 rfl (lv_at hl 1 rfl) ?_
  refine lv_iconst (v := (0 : Int32)) S.1 S.2.1 dMo_row_6 (by decide) ?_
  refine put_Mo S hw (is_84 hf) 13 (by decide) ps_Mo_13 rfl rfl rfl wf_Mo_175 hm dMo_row_7 (fun μ2 H locs hm hw => ?_)
  refine lv_iload_n S.1 S.2.1 dMo_row_10 rfl (lv_at hl 0 rfl) ?_
  refine bif_ne (tgt := 21) S.1 S.2.1 hm dMo_row_11 (by decide) (fun hm => ?_) (fun hm => ?_)
  · refine lv_iconst (v := (0 : Int32)) S.1 S.2.1 dMo_row_21 (by decide) ?_
    refine lv_istore_n (lv' := [(2, .int (0 : Int32)), (1, .int x1), (0, .ref (ξ.2.2.2.1 84))]) S.1 S.2.1 dMo_row_22 rfl hl (by decide) rfl (fun ls hl => ?_)
    refine lv_aload_n S.1 S.2.1 dMo_row_23 rfl (lv_at hl 2 rfl) ?_
    refine lv_iload_n S.1 S.2.1 dMo_row_24 rfl (lv_at hl 1 rfl) ?_
    refine lv_iconst (v := (2 : Int32)) S.1 S.2.1 dMo_row_25 (by decide) ?_
    refine lv_irem S.1 S.2.1 dMo_row_26 (by decide) ?_
    refine put_Mo S hw (is_84 hf) 6 (by decide) ps_Mo_6 rfl rfl rfl wf_Mo_178 hm dMo_row_27 (fun μ3 H locs hm hw => ?_)
    refine lv_iconst (v := (0 : Int32)) S.1 S.2.1 dMo_row_30 (by decide) ?_
    refine lv_istore_n (lv' := [(3, .int (0 : Int32)), (2, .int (0 : Int32)), (1, .int x1), (0, .ref (ξ.2.2.2.1 84))]) S.1 S.2.1 dMo_row_31 rfl hl (by decide) rfl (fun ls hl => ?_)
    exact wMo_row_32 S hr hlk hf N  N μ3 x1 (0 : Int32) (0 : Int32) _ _ _ hm hw (lv_sub hl [3, 2, 1, 0] rfl)
  · refine lv_aload_n S.1 S.2.1 dMo_row_14 rfl (lv_at hl 1 rfl) ?_
    refine lv_bipush (v := (-6 : Int32)) S.1 S.2.1 dMo_row_15 (by decide) ?_
    obtain ⟨⟨v25, μ24⟩, h23, hm⟩ := ob hm
    refine sw_Vi (q := 84) (rest := []) S hw (cMo_refuses l  hf (-6 : Int32) h23) kMo_refuses wm_Mo_113 (is_84 hf).1 (e_Mo (is_84 hf)) rfl rfl rfl rfl hl.1 (Nat.le_of_ble_eq_true rfl) ⟨rfl, rfl, Nat.le_of_ble_eq_true rfl, Nat.le_of_ble_eq_true rfl⟩ ⟨Nat.le_of_ble_eq_true rfl, Nat.le_of_ble_eq_true rfl⟩ dMo_row_17 (fun H locs hw _ => ?_)
    obtain rfl := Option.some.inj hm
    exact sw_iret S hr hlk hw trivial dMo_row_20
set_option maxHeartbeats 4000000 in
set_option maxRecDepth 100000 in
theorem cMo_sawdust (l : Launch) {Γ : sw_C} {A : Nat → Prop} {ξ : sw_x} {g : sw_g} {μ : sw_m} (hf : sw_wf ξ g.2.2) {res : Int32 × sw_m} (hm : fMo_sawdust μ = some res) : Met l yMo_sawdust (Cond.code yMo_sawdust prog_10_method_31_code 1 (some .int) :: sw_tb) rmMo_sawdust (va_Pc [.ref (ξ.2.2.2.1 84)] (sw_V Γ A ξ g μ)) (sw_Qi Γ A ξ g res.2 res.1 (True)) 0 0 A := by
  refine Met.ofW (cc := prog_10_method_31_code) (maxL := 1) (ret := some .int) (by decide) rfl ?_
  intro p e s m args below meth c s₁ B hml hv
  obtain ⟨rfl, hv⟩ := hv
  have S : CallFix p m c prog_10_method_31_code 1 s _ (Cond.code yMo_sawdust prog_10_method_31_code 1 (some .int) :: sw_tb) R_Mo := ⟨B.exec, B.bytes, hml, findClass_of_methodNamed B.named, atoms_spec (ws := (Cond.code yMo_sawdust prog_10_method_31_code 1 (some .int) :: sw_tb)) B.pre⟩
  have hr := B.returns
  have hlk := B.notSynchronized
  have hw := sw_begin hv
  have hl := lv_entry [.ref (ξ.2.2.2.1 84)] (n := 1) (Nat.le_of_ble_eq_true rfl)
  rw [lg_entry_eq]
  generalize (lg_sl [.ref (ξ.2.2.2.1 84)] ++ List.replicate (1 - (lg_sl [.ref (ξ.2.2.2.1 84)]).length) Slot.unset).toArray = ls at hl ⊢
  have hl : lv_has ls 1 [(0, .ref (ξ.2.2.2.1 84))] := hl
  unfold fMo_sawdust at hm
  refine lv_aload_n S.1 S.2.1 dMo_sawdust_0 rfl (lv_at hl 0 rfl) ?_
  refine get_Mo (v := .int (μ.1 84 6)) S hw (is_84 hf) 6 (by decide) rfl wf_Mo_178 dMo_sawdust_1 ?_
  obtain rfl := Option.some.inj hm
  exact sw_iret S hr hlk hw trivial dMo_sawdust_4
set_option maxHeartbeats 4000000 in
set_option maxRecDepth 100000 in
theorem wMo_feed_55 {l : Launch} {p : Program} {e : Env} {s : State} {m : MethodId} {args : Array Value} {below : List Frame} {meth : Method} {c : Code} {Γ : sw_C} {A : Nat → Prop} {ξ : sw_x} {g : sw_g} {res : Int32 × sw_m} (S : CallFix p m c prog_10_method_32_code 7 s args (Cond.code yMo_feed prog_10_method_32_code 7 (some .int) :: sw_tb) R_Mo) (hr : meth.sig.returnType = some .int) (hlk : meth.locks = false) (hf : sw_wf ξ g.2.2) (N : Nat) : ∀ (fu : Nat) (μ : sw_m) (u6 : Int32) (H : Heap) (locs : List Loc) (ls : Array Slot), fMo_feed_55 N   fu μ u6 = some res → sw_S Γ A ξ g μ s H locs → lv_has ls 7 [(0, .ref (ξ.2.2.2.1 84)), (6, .int u6)] → W p l e (headSpec (Cond.code yMo_feed prog_10_method_32_code 7 (some .int) :: sw_tb) rmMo_feed).room s m args below meth c H locs 0 0 (MQ below (sw_Qi Γ A ξ g res.2 res.1 (True)) args s 0 0 A) (F0 m 55 ls []) := by
  intro fu
  induction fu with
  | zero => intro μ u6 H locs ls hm; rw [fMo_feed_55.eq_1] at hm; cases hm
  | succ fu ih =>
    intro μ u6 H locs ls hm hw hl
    rw [fMo_feed_55.eq_2] at hm
    refine lv_iload S.1 S.2.1 dMo_feed_55 (lv_at hl 1 rfl) ?_
    refine lv_bipush (v := (20 : Int32)) S.1 S.2.1 dMo_feed_57 (by decide) ?_
    refine bicmp_ge (tgt := 101) S.1 S.2.1 hm dMo_feed_59 (by decide) (fun hm => ?_) (fun hm => ?_)
    · refine lv_aload_n S.1 S.2.1 dMo_feed_101 rfl (lv_at hl 0 rfl) ?_
      refine lv_dup S.1 S.2.1 dMo_feed_102 rfl ?_
      refine get_Mo (v := .int (μ.1 84 13)) S hw (is_84 hf) 13 (by decide) rfl wf_Mo_175 dMo_feed_103 ?_
      refine lv_bipush (v := (20 : Int32)) S.1 S.2.1 dMo_feed_106 (by decide) ?_
      refine lv_iadd S.1 S.2.1 dMo_feed_108 ?_
      refine put_Mo S hw (is_84 hf) 13 (by decide) ps_Mo_13 rfl rfl rfl wf_Mo_175 hm dMo_feed_109 (fun μ6 H locs hm hw => ?_)
      refine lv_aload_n S.1 S.2.1 dMo_feed_112 rfl (lv_at hl 0 rfl) ?_
      refine get_Mo (v := .int (μ6.1 84 13)) S hw (is_84 hf) 13 (by decide) rfl wf_Mo_175 dMo_feed_113 ?_
      obtain rfl := Option.some.inj hm
      exact sw_iret S hr hlk hw trivial dMo_feed_116
    · refine lv_aload_n S.1 S.2.1 dMo_feed_62 rfl (lv_at hl 0 rfl) ?_
      refine get_Mo (v := .ref (ξ.2.2.2.1 91)) S hw (is_84 hf) 11 (by decide) rfl wf_Mo_45 dMo_feed_63 ?_
      refine lv_aload_n S.1 S.2.1 dMo_feed_66 rfl (lv_at hl 0 rfl) ?_
      refine get_Mo (v := .int (μ.1 84 13)) S hw (is_84 hf) 13 (by decide) rfl wf_Mo_175 dMo_feed_67 ?_
      refine lv_iload S.1 S.2.1 dMo_feed_70 (lv_at hl 1 rfl) ?_
      refine lv_iadd S.1 S.2.1 dMo_feed_72 ?_
      refine lv_aload_n S.1 S.2.1 dMo_feed_73 rfl (lv_at hl 0 rfl) ?_
      refine get_Mo (v := .ref (ξ.2.2.2.1 92)) S hw (is_84 hf) 12 (by decide) rfl wf_Mo_48 dMo_feed_74 ?_
      refine lv_iload S.1 S.2.1 dMo_feed_77 (lv_at hl 1 rfl) ?_
      refine lv_iconst (v := (4 : Int32)) S.1 S.2.1 dMo_feed_79 (by decide) ?_
      refine lv_idiv S.1 S.2.1 dMo_feed_80 (by decide) ?_
      refine sm_iald S hw (is_92 hf) hm dMo_feed_81 (fun v7 hm => ?_)
      refine lv_bipush (v := (24 : Int32)) S.1 S.2.1 dMo_feed_82 (by decide) ?_
      refine lv_bipush (v := (8 : Int32)) S.1 S.2.1 dMo_feed_84 (by decide) ?_
      refine lv_iload S.1 S.2.1 dMo_feed_86 (lv_at hl 1 rfl) ?_
      refine lv_iconst (v := (4 : Int32)) S.1 S.2.1 dMo_feed_88 (by decide) ?_
      refine lv_irem S.1 S.2.1 dMo_feed_89 (by decide) ?_
      refine lv_imul S.1 S.2.1 dMo_feed_90 ?_
      refine lv_isub S.1 S.2.1 dMo_feed_91 ?_
      refine lv_ishr S.1 S.2.1 dMo_feed_92 ?_
      refine lv_i2b (v := ((v7 >>> (((24 : Int32) - ((8 : Int32) * (u6 - u6 / (4 : Int32) * (4 : Int32)))) &&& 31))).toInt8.toInt32) S.1 S.2.1 dMo_feed_93 rfl ?_
      refine sm_bast S hw (is_91 hf) hm dMo_feed_94 (fun μ8 H locs hm hw => ?_)
      obtain ⟨x9, ex9, hm⟩ := nm_x hm
      refine lv_iinc (v := x9) (lv' := [(6, .int x9), (0, .ref (ξ.2.2.2.1 84))]) S.1 S.2.1 dMo_feed_95 hl (k := 1) rfl (by rw [ex9]; rfl) (by decide) rfl (fun ls hl => ?_)
      refine lv_goto (tgt := 55) S.1 S.2.1 dMo_feed_98 (by decide) ?_
      exact ih μ8 x9 _ _ _ hm hw (lv_sub hl [1, 0] rfl)
set_option maxHeartbeats 4000000 in
set_option maxRecDepth 100000 in
theorem cMo_feed (l : Launch) (N : Nat) {Γ : sw_C} {A : Nat → Prop} {ξ : sw_x} {g : sw_g} {μ : sw_m} (hf : sw_wf ξ g.2.2) (a1 : Int32) (a2 : Int32) (a3 : Int32) (a4 : Int32) (a5 : Int32) {res : Int32 × sw_m} (hm : fMo_feed N μ a1 a2 a3 a4 a5 = some res) : Met l yMo_feed (Cond.code yMo_feed prog_10_method_32_code 7 (some .int) :: sw_tb) rmMo_feed (va_Pc [.ref (ξ.2.2.2.1 84), .int a1, .int a2, .int a3, .int a4, .int a5] (sw_V Γ A ξ g μ)) (sw_Qi Γ A ξ g res.2 res.1 (True)) 0 0 A := by
  refine Met.ofW (cc := prog_10_method_32_code) (maxL := 7) (ret := some .int) (by decide) rfl ?_
  intro p e s m args below meth c s₁ B hml hv
  obtain ⟨rfl, hv⟩ := hv
  have S : CallFix p m c prog_10_method_32_code 7 s _ (Cond.code yMo_feed prog_10_method_32_code 7 (some .int) :: sw_tb) R_Mo := ⟨B.exec, B.bytes, hml, findClass_of_methodNamed B.named, atoms_spec (ws := (Cond.code yMo_feed prog_10_method_32_code 7 (some .int) :: sw_tb)) B.pre⟩
  have hr := B.returns
  have hlk := B.notSynchronized
  have hw := sw_begin hv
  have hl := lv_entry [.ref (ξ.2.2.2.1 84), .int a1, .int a2, .int a3, .int a4, .int a5] (n := 7) (Nat.le_of_ble_eq_true rfl)
  rw [lg_entry_eq]
  generalize (lg_sl [.ref (ξ.2.2.2.1 84), .int a1, .int a2, .int a3, .int a4, .int a5] ++ List.replicate (7 - (lg_sl [.ref (ξ.2.2.2.1 84), .int a1, .int a2, .int a3, .int a4, .int a5]).length) Slot.unset).toArray = ls at hl ⊢
  have hl : lv_has ls 7 [(0, .ref (ξ.2.2.2.1 84)), (1, .int a1), (2, .int a2), (3, .int a3), (4, .int a4), (5, .int a5)] := hl
  unfold fMo_feed at hm
  refine lv_aload_n S.1 S.2.1 dMo_feed_0 rfl (lv_at hl 0 rfl) ?_
  refine get_Mo (v := .int (μ.1 84 13)) S hw (is_84 hf) 13 (by decide) rfl wf_Mo_175 dMo_feed_1 ?_
  refine lv_bipush (v := (20 : Int32)) S.1 S.2.1 dMo_feed_4 (by decide) ?_
  refine lv_iadd S.1 S.2.1 dMo_feed_6 ?_
  refine lv_sipush (v := (400 : Int32)) S.1 S.2.1 dMo_feed_7 (by decide) ?_
  refine bicmp_le (tgt := 15) S.1 S.2.1 hm dMo_feed_10 (by decide) (fun hm => ?_) (fun hm => ?_)
  · refine lv_aload_n S.1 S.2.1 dMo_feed_15 rfl (lv_at hl 0 rfl) ?_
    refine get_Mo (v := .ref (ξ.2.2.2.1 92)) S hw (is_84 hf) 12 (by decide) rfl wf_Mo_48 dMo_feed_16 ?_
    refine lv_iconst (v := (0 : Int32)) S.1 S.2.1 dMo_feed_19 (by decide) ?_
    refine lv_iload_n S.1 S.2.1 dMo_feed_20 rfl (lv_at hl 1 rfl) ?_
    refine sm_iast S hw (is_92 hf) hm dMo_feed_21 (fun μ1 H locs hm hw => ?_)
    refine lv_aload_n S.1 S.2.1 dMo_feed_22 rfl (lv_at hl 0 rfl) ?_
    refine get_Mo (v := .ref (ξ.2.2.2.1 92)) S hw (is_84 hf) 12 (by decide) rfl wf_Mo_48 dMo_feed_23 ?_
    refine lv_iconst (v := (1 : Int32)) S.1 S.2.1 dMo_feed_26 (by decide) ?_
    refine lv_iload_n S.1 S.2.1 dMo_feed_27 rfl (lv_at hl 2 rfl) ?_
    refine sm_iast S hw (is_92 hf) hm dMo_feed_28 (fun μ2 H locs hm hw => ?_)
    refine lv_aload_n S.1 S.2.1 dMo_feed_29 rfl (lv_at hl 0 rfl) ?_
    refine get_Mo (v := .ref (ξ.2.2.2.1 92)) S hw (is_84 hf) 12 (by decide) rfl wf_Mo_48 dMo_feed_30 ?_
    refine lv_iconst (v := (2 : Int32)) S.1 S.2.1 dMo_feed_33 (by decide) ?_
    refine lv_iload_n S.1 S.2.1 dMo_feed_34 rfl (lv_at hl 3 rfl) ?_
    refine sm_iast S hw (is_92 hf) hm dMo_feed_35 (fun μ3 H locs hm hw => ?_)
    refine lv_aload_n S.1 S.2.1 dMo_feed_36 rfl (lv_at hl 0 rfl) ?_
    refine get_Mo (v := .ref (ξ.2.2.2.1 92)) S hw (is_84 hf) 12 (by decide) rfl wf_Mo_48 dMo_feed_37 ?_
    refine lv_iconst (v := (3 : Int32)) S.1 S.2.1 dMo_feed_40 (by decide) ?_
    refine lv_iload S.1 S.2.1 dMo_feed_41 (lv_at hl 4 rfl) ?_
    refine sm_iast S hw (is_92 hf) hm dMo_feed_43 (fun μ4 H locs hm hw => ?_)
    refine lv_aload_n S.1 S.2.1 dMo_feed_44 rfl (lv_at hl 0 rfl) ?_
    refine get_Mo (v := .ref (ξ.2.2.2.1 92)) S hw (is_84 hf) 12 (by decide) rfl wf_Mo_48 dMo_feed_45 ?_
    refine lv_iconst (v := (4 : Int32)) S.1 S.2.1 dMo_feed_48 (by decide) ?_
    refine lv_iload S.1 S.2.1 dMo_feed_49 (lv_at hl 5 rfl) ?_
    refine sm_iast S hw (is_92 hf) hm dMo_feed_51 (fun μ5 H locs hm hw => ?_)
    refine lv_iconst (v := (0 : Int32)) S.1 S.2.1 dMo_feed_52 (by decide) ?_
    refine lv_istore (lv' := [(6, .int (0 : Int32)), (0, .ref (ξ.2.2.2.1 84)), (1, .int a1), (2, .int a2), (3, .int a3), (4, .int a4), (5, .int a5)]) S.1 S.2.1 dMo_feed_53 hl (by decide) rfl (fun ls hl => ?_)
    exact wMo_feed_55 S hr hlk hf N  N μ5 (0 : Int32) _ _ _ hm hw (lv_sub hl [1, 0] rfl)
  · refine lv_iconst (v := (-1 : Int32)) S.1 S.2.1 dMo_feed_13 (by decide) ?_
    obtain rfl := Option.some.inj hm
    exact sw_iret S hr hlk hw trivial dMo_feed_14
set_option maxHeartbeats 4000000 in
set_option maxRecDepth 100000 in
theorem cMo_end (l : Launch) {Γ : sw_C} {A : Nat → Prop} {ξ : sw_x} {g : sw_g} {μ : sw_m} (hf : sw_wf ξ g.2.2) (a1 : Int32) {res : Int32 × sw_m} (hm : fMo_end μ a1 = some res) : Met l yMo_end (Cond.code yMo_end prog_10_method_33_code 2 (some .int) :: sw_tb) rmMo_end (va_Pc [.ref (ξ.2.2.2.1 84), .int a1] (sw_V Γ A ξ g μ)) (sw_Qi Γ A ξ g res.2 res.1 (True)) 0 0 A := by
  refine Met.ofW (cc := prog_10_method_33_code) (maxL := 2) (ret := some .int) (by decide) rfl ?_
  intro p e s m args below meth c s₁ B hml hv
  obtain ⟨rfl, hv⟩ := hv
  have S : CallFix p m c prog_10_method_33_code 2 s _ (Cond.code yMo_end prog_10_method_33_code 2 (some .int) :: sw_tb) R_Mo := ⟨B.exec, B.bytes, hml, findClass_of_methodNamed B.named, atoms_spec (ws := (Cond.code yMo_end prog_10_method_33_code 2 (some .int) :: sw_tb)) B.pre⟩
  have hr := B.returns
  have hlk := B.notSynchronized
  have hw := sw_begin hv
  have hl := lv_entry [.ref (ξ.2.2.2.1 84), .int a1] (n := 2) (Nat.le_of_ble_eq_true rfl)
  rw [lg_entry_eq]
  generalize (lg_sl [.ref (ξ.2.2.2.1 84), .int a1] ++ List.replicate (2 - (lg_sl [.ref (ξ.2.2.2.1 84), .int a1]).length) Slot.unset).toArray = ls at hl ⊢
  have hl : lv_has ls 2 [(0, .ref (ξ.2.2.2.1 84)), (1, .int a1)] := hl
  unfold fMo_end at hm
  refine lv_iload_n S.1 S.2.1 dMo_end_0 rfl (lv_at hl 1 rfl) ?_
  refine lv_iconst (v := (0 : Int32)) S.1 S.2.1 dMo_end_1 (by decide) ?_
  refine lv_aload_n S.1 S.2.1 dMo_end_2 rfl (lv_at hl 0 rfl) ?_
  refine get_Mo (v := .int (μ.1 84 13)) S hw (is_84 hf) 13 (by decide) rfl wf_Mo_175 dMo_end_3 ?_
  obtain ⟨v2, h1, hm⟩ := ob hm
  refine sw_Si (rest := []) S hw (cMo_lies l  hf a1 (0 : Int32) (μ.1 84 13) h1) kMo_lies wm_Mo_18 rfl rfl hl.1 (Nat.le_of_ble_eq_true rfl) ⟨rfl, rfl, Nat.le_of_ble_eq_true rfl, Nat.le_of_ble_eq_true rfl⟩ ⟨Nat.le_of_ble_eq_true rfl, Nat.le_of_ble_eq_true rfl⟩ dMo_end_6 (fun H locs hw _ => ?_)
  refine bif_ne (tgt := 14) S.1 S.2.1 hm dMo_end_9 (by decide) (fun hm => ?_) (fun hm => ?_)
  · refine lv_aload_n S.1 S.2.1 dMo_end_14 rfl (lv_at hl 0 rfl) ?_
    refine lv_iload_n S.1 S.2.1 dMo_end_15 rfl (lv_at hl 1 rfl) ?_
    refine put_Mo S hw (is_84 hf) 13 (by decide) ps_Mo_13 rfl rfl rfl wf_Mo_175 hm dMo_end_16 (fun μ3 H locs hm hw => ?_)
    refine lv_iload_n S.1 S.2.1 dMo_end_19 rfl (lv_at hl 1 rfl) ?_
    obtain rfl := Option.some.inj hm
    exact sw_iret S hr hlk hw trivial dMo_end_20
  · refine lv_iconst (v := (-1 : Int32)) S.1 S.2.1 dMo_end_12 (by decide) ?_
    obtain rfl := Option.some.inj hm
    exact sw_iret S hr hlk hw trivial dMo_end_13
set_option maxHeartbeats 4000000 in
set_option maxRecDepth 100000 in
theorem cMo_isSmall (l : Launch) {Γ : sw_C} {A : Nat → Prop} {ξ : sw_x} {g : sw_g} {μ : sw_m} (hf : sw_wf ξ g.2.2) (a1 : Int32) {res : Int32} (hm : fMo_isSmall a1 = some res) : Met l yMo_isSmall (Cond.code yMo_isSmall prog_10_method_34_code 1 (some .boolean) :: sw_tb) rmMo_isSmall (va_Pc [.int a1] (sw_V Γ A ξ g μ)) (sw_Qi Γ A ξ g μ res (True)) 0 0 A := by
  refine Met.ofW (cc := prog_10_method_34_code) (maxL := 1) (ret := some .boolean) (by decide) rfl ?_
  intro p e s m args below meth c s₁ B hml hv
  obtain ⟨rfl, hv⟩ := hv
  have S : CallFix p m c prog_10_method_34_code 1 s _ (Cond.code yMo_isSmall prog_10_method_34_code 1 (some .boolean) :: sw_tb) R_Mo := ⟨B.exec, B.bytes, hml, findClass_of_methodNamed B.named, atoms_spec (ws := (Cond.code yMo_isSmall prog_10_method_34_code 1 (some .boolean) :: sw_tb)) B.pre⟩
  have hr := B.returns
  have hlk := B.notSynchronized
  have hw := sw_begin hv
  have hl := lv_entry [.int a1] (n := 1) (Nat.le_of_ble_eq_true rfl)
  rw [lg_entry_eq]
  generalize (lg_sl [.int a1] ++ List.replicate (1 - (lg_sl [.int a1]).length) Slot.unset).toArray = ls at hl ⊢
  have hl : lv_has ls 1 [(0, .int a1)] := hl
  unfold fMo_isSmall at hm
  refine lv_iload_n S.1 S.2.1 dMo_isSmall_0 rfl (lv_at hl 0 rfl) ?_
  refine lv_bipush (v := (97 : Int32)) S.1 S.2.1 dMo_isSmall_1 (by decide) ?_
  refine bicmp_lt (tgt := 16) S.1 S.2.1 hm dMo_isSmall_3 (by decide) (fun hm => ?_) (fun hm => ?_)
  · refine lv_iconst (v := (0 : Int32)) S.1 S.2.1 dMo_isSmall_16 (by decide) ?_
    obtain rfl := Option.some.inj hm
    exact sw_zret S hr hlk (Or.inl rfl) hw trivial dMo_isSmall_17
  · refine lv_iload_n S.1 S.2.1 dMo_isSmall_6 rfl (lv_at hl 0 rfl) ?_
    refine lv_bipush (v := (122 : Int32)) S.1 S.2.1 dMo_isSmall_7 (by decide) ?_
    refine bicmp_gt (tgt := 16) S.1 S.2.1 hm dMo_isSmall_9 (by decide) (fun hm => ?_) (fun hm => ?_)
    · refine lv_iconst (v := (0 : Int32)) S.1 S.2.1 dMo_isSmall_16 (by decide) ?_
      obtain rfl := Option.some.inj hm
      exact sw_zret S hr hlk (Or.inl rfl) hw trivial dMo_isSmall_17
    · refine lv_iconst (v := (1 : Int32)) S.1 S.2.1 dMo_isSmall_12 (by decide) ?_
      refine lv_goto (tgt := 17) S.1 S.2.1 dMo_isSmall_13 (by decide) ?_
      obtain rfl := Option.some.inj hm
      exact sw_zret S hr hlk (Or.inr rfl) hw trivial dMo_isSmall_17
set_option maxHeartbeats 4000000 in
set_option maxRecDepth 100000 in
theorem cMo_isDigit (l : Launch) {Γ : sw_C} {A : Nat → Prop} {ξ : sw_x} {g : sw_g} {μ : sw_m} (hf : sw_wf ξ g.2.2) (a1 : Int32) {res : Int32} (hm : fMo_isDigit a1 = some res) : Met l yMo_isDigit (Cond.code yMo_isDigit prog_10_method_35_code 1 (some .boolean) :: sw_tb) rmMo_isDigit (va_Pc [.int a1] (sw_V Γ A ξ g μ)) (sw_Qi Γ A ξ g μ res (True)) 0 0 A := by
  refine Met.ofW (cc := prog_10_method_35_code) (maxL := 1) (ret := some .boolean) (by decide) rfl ?_
  intro p e s m args below meth c s₁ B hml hv
  obtain ⟨rfl, hv⟩ := hv
  have S : CallFix p m c prog_10_method_35_code 1 s _ (Cond.code yMo_isDigit prog_10_method_35_code 1 (some .boolean) :: sw_tb) R_Mo := ⟨B.exec, B.bytes, hml, findClass_of_methodNamed B.named, atoms_spec (ws := (Cond.code yMo_isDigit prog_10_method_35_code 1 (some .boolean) :: sw_tb)) B.pre⟩
  have hr := B.returns
  have hlk := B.notSynchronized
  have hw := sw_begin hv
  have hl := lv_entry [.int a1] (n := 1) (Nat.le_of_ble_eq_true rfl)
  rw [lg_entry_eq]
  generalize (lg_sl [.int a1] ++ List.replicate (1 - (lg_sl [.int a1]).length) Slot.unset).toArray = ls at hl ⊢
  have hl : lv_has ls 1 [(0, .int a1)] := hl
  unfold fMo_isDigit at hm
  refine lv_iload_n S.1 S.2.1 dMo_isDigit_0 rfl (lv_at hl 0 rfl) ?_
  refine lv_bipush (v := (48 : Int32)) S.1 S.2.1 dMo_isDigit_1 (by decide) ?_
  refine bicmp_lt (tgt := 16) S.1 S.2.1 hm dMo_isDigit_3 (by decide) (fun hm => ?_) (fun hm => ?_)
  · refine lv_iconst (v := (0 : Int32)) S.1 S.2.1 dMo_isDigit_16 (by decide) ?_
    obtain rfl := Option.some.inj hm
    exact sw_zret S hr hlk (Or.inl rfl) hw trivial dMo_isDigit_17
  · refine lv_iload_n S.1 S.2.1 dMo_isDigit_6 rfl (lv_at hl 0 rfl) ?_
    refine lv_bipush (v := (57 : Int32)) S.1 S.2.1 dMo_isDigit_7 (by decide) ?_
    refine bicmp_gt (tgt := 16) S.1 S.2.1 hm dMo_isDigit_9 (by decide) (fun hm => ?_) (fun hm => ?_)
    · refine lv_iconst (v := (0 : Int32)) S.1 S.2.1 dMo_isDigit_16 (by decide) ?_
      obtain rfl := Option.some.inj hm
      exact sw_zret S hr hlk (Or.inl rfl) hw trivial dMo_isDigit_17
    · refine lv_iconst (v := (1 : Int32)) S.1 S.2.1 dMo_isDigit_12 (by decide) ?_
      refine lv_goto (tgt := 17) S.1 S.2.1 dMo_isDigit_13 (by decide) ?_
      obtain rfl := Option.some.inj hm
      exact sw_zret S hr hlk (Or.inr rfl) hw trivial dMo_isDigit_17
set_option maxHeartbeats 4000000 in
set_option maxRecDepth 100000 in
theorem wMo_wordOf_104 {l : Launch} {p : Program} {e : Env} {s : State} {m : MethodId} {args : Array Value} {below : List Frame} {meth : Method} {c : Code} {Γ : sw_C} {A : Nat → Prop} {ξ : sw_x} {g : sw_g} {res : Int32 × sw_m} (S : CallFix p m c prog_10_method_36_code 8 s args (Cond.code yMo_wordOf prog_10_method_36_code 8 (some .int) :: sw_tb) R_Mo) (hr : meth.sig.returnType = some .int) (hlk : meth.locks = false) (hf : sw_wf ξ g.2.2) (N : Nat) (k5 : sw_m → Int32 → Int32 → Int32 → Int32 → Option (Int32 × sw_m)) (hk5 : ∀ (μ : sw_m) (u1 : Int32) (u2 : Int32) (u3 : Int32) (u4 : Int32) (H : Heap) (locs : List Loc) (ls : Array Slot), k5 μ u1 u2 u3 u4 = some res → sw_S Γ A ξ g μ s H locs → lv_has ls 8 [(0, .ref (ξ.2.2.2.1 84)), (1, .int u1), (2, .int u2), (3, .int u3), (4, .int u4)] → W p l e (headSpec (Cond.code yMo_wordOf prog_10_method_36_code 8 (some .int) :: sw_tb) rmMo_wordOf).room s m args below meth c H locs 0 0 (MQ below (sw_Qi Γ A ξ g res.2 res.1 (True)) args s 0 0 A) (F0 m 5 ls [])) : ∀ (μ : sw_m) (u1 : Int32) (u2 : Int32) (u3 : Int32) (u4 : Int32) (u5 : Int32) (u6 : Int32) (H : Heap) (locs : List Loc) (ls : Array Slot), fMo_wordOf_104 N  k5 μ u1 u2 u3 u4 u5 u6 = some res → sw_S Γ A ξ g μ s H locs → lv_has ls 8 [(0, .ref (ξ.2.2.2.1 84)), (1, .int u1), (2, .int u2), (3, .int u3), (4, .int u4), (5, .int u5), (6, .int u6)] → W p l e (headSpec (Cond.code yMo_wordOf prog_10_method_36_code 8 (some .int) :: sw_tb) rmMo_wordOf).room s m args below meth c H locs 0 0 (MQ below (sw_Qi Γ A ξ g res.2 res.1 (True)) args s 0 0 A) (F0 m 104 ls []) := by
  intro μ u1 u2 u3 u4 u5 u6 H locs ls hm hw hl
  unfold fMo_wordOf_104 at hm
  refine lv_iload S.1 S.2.1 dMo_wordOf_104 (lv_at hl 6 rfl) ?_
  refine bif_eq (tgt := 111) S.1 S.2.1 hm dMo_wordOf_106 (by decide) (fun hm => ?_) (fun hm => ?_)
  · refine lv_iload S.1 S.2.1 dMo_wordOf_111 (lv_at hl 4 rfl) ?_
    refine lv_iload S.1 S.2.1 dMo_wordOf_113 (lv_at hl 5 rfl) ?_
    refine lv_iconst (v := (1 : Int32)) S.1 S.2.1 dMo_wordOf_115 (by decide) ?_
    refine lv_iadd S.1 S.2.1 dMo_wordOf_116 ?_
    refine lv_iadd S.1 S.2.1 dMo_wordOf_117 ?_
    refine nm_i hm (fun x2 hm => ?_)
    refine lv_istore (lv' := [(4, .int x2), (0, .ref (ξ.2.2.2.1 84)), (1, .int u1), (2, .int u2), (3, .int u3), (5, .int u5), (6, .int u6)]) S.1 S.2.1 dMo_wordOf_118 hl (by decide) rfl (fun ls hl => ?_)
    obtain ⟨x3, ex3, hm⟩ := nm_x hm
    refine lv_iinc (v := x3) (lv' := [(3, .int x3), (4, .int x2), (0, .ref (ξ.2.2.2.1 84)), (1, .int u1), (2, .int u2), (5, .int u5), (6, .int u6)]) S.1 S.2.1 dMo_wordOf_120 hl (k := 4) rfl (by rw [ex3]; rfl) (by decide) rfl (fun ls hl => ?_)
    refine lv_goto (tgt := 5) S.1 S.2.1 dMo_wordOf_123 (by decide) ?_
    exact hk5 μ u1 u2 x3 x2 _ _ _ hm hw (lv_sub hl [2, 3, 4, 0, 1] rfl)
  · refine lv_iload_n S.1 S.2.1 dMo_wordOf_109 rfl (lv_at hl 3 rfl) ?_
    obtain rfl := Option.some.inj hm
    exact sw_iret S hr hlk hw trivial dMo_wordOf_110
set_option maxHeartbeats 4000000 in
set_option maxRecDepth 100000 in
theorem wMo_wordOf_57 {l : Launch} {p : Program} {e : Env} {s : State} {m : MethodId} {args : Array Value} {below : List Frame} {meth : Method} {c : Code} {Γ : sw_C} {A : Nat → Prop} {ξ : sw_x} {g : sw_g} {res : Int32 × sw_m} (S : CallFix p m c prog_10_method_36_code 8 s args (Cond.code yMo_wordOf prog_10_method_36_code 8 (some .int) :: sw_tb) R_Mo) (hr : meth.sig.returnType = some .int) (hlk : meth.locks = false) (hf : sw_wf ξ g.2.2) (N : Nat) (k5 : sw_m → Int32 → Int32 → Int32 → Int32 → Option (Int32 × sw_m)) (hk5 : ∀ (μ : sw_m) (u1 : Int32) (u2 : Int32) (u3 : Int32) (u4 : Int32) (H : Heap) (locs : List Loc) (ls : Array Slot), k5 μ u1 u2 u3 u4 = some res → sw_S Γ A ξ g μ s H locs → lv_has ls 8 [(0, .ref (ξ.2.2.2.1 84)), (1, .int u1), (2, .int u2), (3, .int u3), (4, .int u4)] → W p l e (headSpec (Cond.code yMo_wordOf prog_10_method_36_code 8 (some .int) :: sw_tb) rmMo_wordOf).room s m args below meth c H locs 0 0 (MQ below (sw_Qi Γ A ξ g res.2 res.1 (True)) args s 0 0 A) (F0 m 5 ls [])) : ∀ (fu : Nat) (μ : sw_m) (u1 : Int32) (u2 : Int32) (u3 : Int32) (u4 : Int32) (u5 : Int32) (u6 : Int32) (u7 : Int32) (H : Heap) (locs : List Loc) (ls : Array Slot), fMo_wordOf_57 N  k5 fu μ u1 u2 u3 u4 u5 u6 u7 = some res → sw_S Γ A ξ g μ s H locs → lv_has ls 8 [(0, .ref (ξ.2.2.2.1 84)), (1, .int u1), (2, .int u2), (3, .int u3), (4, .int u4), (5, .int u5), (6, .int u6), (7, .int u7)] → W p l e (headSpec (Cond.code yMo_wordOf prog_10_method_36_code 8 (some .int) :: sw_tb) rmMo_wordOf).room s m args below meth c H locs 0 0 (MQ below (sw_Qi Γ A ξ g res.2 res.1 (True)) args s 0 0 A) (F0 m 57 ls []) := by
  intro fu
  induction fu with
  | zero => intro μ u1 u2 u3 u4 u5 u6 u7 H locs ls hm; rw [fMo_wordOf_57.eq_1] at hm; cases hm
  | succ fu ih =>
    intro μ u1 u2 u3 u4 u5 u6 u7 H locs ls hm hw hl
    rw [fMo_wordOf_57.eq_2] at hm
    refine lv_iload S.1 S.2.1 dMo_wordOf_57 (lv_at hl 7 rfl) ?_
    refine lv_iload S.1 S.2.1 dMo_wordOf_59 (lv_at hl 5 rfl) ?_
    refine bicmp_ge (tgt := 104) S.1 S.2.1 hm dMo_wordOf_61 (by decide) (fun hm => ?_) (fun hm => ?_)
    · exact wMo_wordOf_104 S hr hlk hf N k5 hk5 μ u1 u2 u3 u4 u5 u6 _ _ _ hm hw (lv_sub hl [0, 1, 2, 3, 4, 5, 6] rfl)
    · refine lv_iload S.1 S.2.1 dMo_wordOf_64 (lv_at hl 6 rfl) ?_
      refine bif_eq (tgt := 104) S.1 S.2.1 hm dMo_wordOf_66 (by decide) (fun hm => ?_) (fun hm => ?_)
      · exact wMo_wordOf_104 S hr hlk hf N k5 hk5 μ u1 u2 u3 u4 u5 u6 _ _ _ hm hw (lv_sub hl [0, 1, 2, 3, 4, 5, 6] rfl)
      · refine lv_aload_n S.1 S.2.1 dMo_wordOf_69 rfl (lv_at hl 0 rfl) ?_
        refine get_Mo (v := .ref (ξ.2.2.2.1 90)) S hw (is_84 hf) 7 (by decide) rfl wf_Mo_41 dMo_wordOf_70 ?_
        refine lv_iload S.1 S.2.1 dMo_wordOf_73 (lv_at hl 4 rfl) ?_
        refine lv_iload S.1 S.2.1 dMo_wordOf_75 (lv_at hl 7 rfl) ?_
        refine lv_iadd S.1 S.2.1 dMo_wordOf_77 ?_
        refine sm_bald S hw (is_90 hf) hm dMo_wordOf_78 (fun v4 hm => ?_)
        refine lv_aload_n S.1 S.2.1 dMo_wordOf_79 rfl (lv_at hl 0 rfl) ?_
        refine get_Mo (v := .ref (ξ.2.2.2.1 91)) S hw (is_84 hf) 11 (by decide) rfl wf_Mo_45 dMo_wordOf_80 ?_
        refine lv_iload_n S.1 S.2.1 dMo_wordOf_83 rfl (lv_at hl 1 rfl) ?_
        refine lv_iload S.1 S.2.1 dMo_wordOf_84 (lv_at hl 7 rfl) ?_
        refine lv_iadd S.1 S.2.1 dMo_wordOf_86 ?_
        refine sm_bald S hw (is_91 hf) hm dMo_wordOf_87 (fun v5 hm => ?_)
        refine bicmp_ne (tgt := 95) S.1 S.2.1 hm dMo_wordOf_88 (by decide) (fun hm => ?_) (fun hm => ?_)
        · refine lv_iconst (v := (0 : Int32)) S.1 S.2.1 dMo_wordOf_95 (by decide) ?_
          refine lv_istore (lv' := [(6, .int (0 : Int32)), (0, .ref (ξ.2.2.2.1 84)), (1, .int u1), (2, .int u2), (3, .int u3), (4, .int u4), (5, .int u5), (7, .int u7)]) S.1 S.2.1 dMo_wordOf_96 hl (by decide) rfl (fun ls hl => ?_)
          obtain ⟨x6, ex6, hm⟩ := nm_x hm
          refine lv_iinc (v := x6) (lv' := [(7, .int x6), (6, .int (0 : Int32)), (0, .ref (ξ.2.2.2.1 84)), (1, .int u1), (2, .int u2), (3, .int u3), (4, .int u4), (5, .int u5)]) S.1 S.2.1 dMo_wordOf_98 hl (k := 7) rfl (by rw [ex6]; rfl) (by decide) rfl (fun ls hl => ?_)
          refine lv_goto (tgt := 57) S.1 S.2.1 dMo_wordOf_101 (by decide) ?_
          exact ih μ u1 u2 u3 u4 u5 (0 : Int32) x6 _ _ _ hm hw (lv_sub hl [2, 3, 4, 5, 6, 7, 1, 0] rfl)
        · refine lv_iconst (v := (1 : Int32)) S.1 S.2.1 dMo_wordOf_91 (by decide) ?_
          refine lv_goto (tgt := 96) S.1 S.2.1 dMo_wordOf_92 (by decide) ?_
          refine lv_istore (lv' := [(6, .int (1 : Int32)), (0, .ref (ξ.2.2.2.1 84)), (1, .int u1), (2, .int u2), (3, .int u3), (4, .int u4), (5, .int u5), (7, .int u7)]) S.1 S.2.1 dMo_wordOf_96 hl (by decide) rfl (fun ls hl => ?_)
          obtain ⟨x7, ex7, hm⟩ := nm_x hm
          refine lv_iinc (v := x7) (lv' := [(7, .int x7), (6, .int (1 : Int32)), (0, .ref (ξ.2.2.2.1 84)), (1, .int u1), (2, .int u2), (3, .int u3), (4, .int u4), (5, .int u5)]) S.1 S.2.1 dMo_wordOf_98 hl (k := 7) rfl (by rw [ex7]; rfl) (by decide) rfl (fun ls hl => ?_)
          refine lv_goto (tgt := 57) S.1 S.2.1 dMo_wordOf_101 (by decide) ?_
          exact ih μ u1 u2 u3 u4 u5 (1 : Int32) x7 _ _ _ hm hw (lv_sub hl [2, 3, 4, 5, 6, 7, 1, 0] rfl)
set_option maxHeartbeats 4000000 in
set_option maxRecDepth 100000 in
theorem wMo_wordOf_18 {l : Launch} {p : Program} {e : Env} {s : State} {m : MethodId} {args : Array Value} {below : List Frame} {meth : Method} {c : Code} {Γ : sw_C} {A : Nat → Prop} {ξ : sw_x} {g : sw_g} {res : Int32 × sw_m} (S : CallFix p m c prog_10_method_36_code 8 s args (Cond.code yMo_wordOf prog_10_method_36_code 8 (some .int) :: sw_tb) R_Mo) (hr : meth.sig.returnType = some .int) (hlk : meth.locks = false) (hf : sw_wf ξ g.2.2) (N : Nat) (k5 : sw_m → Int32 → Int32 → Int32 → Int32 → Option (Int32 × sw_m)) (hk5 : ∀ (μ : sw_m) (u1 : Int32) (u2 : Int32) (u3 : Int32) (u4 : Int32) (H : Heap) (locs : List Loc) (ls : Array Slot), k5 μ u1 u2 u3 u4 = some res → sw_S Γ A ξ g μ s H locs → lv_has ls 8 [(0, .ref (ξ.2.2.2.1 84)), (1, .int u1), (2, .int u2), (3, .int u3), (4, .int u4)] → W p l e (headSpec (Cond.code yMo_wordOf prog_10_method_36_code 8 (some .int) :: sw_tb) rmMo_wordOf).room s m args below meth c H locs 0 0 (MQ below (sw_Qi Γ A ξ g res.2 res.1 (True)) args s 0 0 A) (F0 m 5 ls [])) : ∀ (fu : Nat) (μ : sw_m) (u1 : Int32) (u2 : Int32) (u3 : Int32) (u4 : Int32) (u5 : Int32) (H : Heap) (locs : List Loc) (ls : Array Slot), fMo_wordOf_18 N  k5 fu μ u1 u2 u3 u4 u5 = some res → sw_S Γ A ξ g μ s H locs → lv_has ls 8 [(0, .ref (ξ.2.2.2.1 84)), (1, .int u1), (2, .int u2), (3, .int u3), (4, .int u4), (5, .int u5)] → W p l e (headSpec (Cond.code yMo_wordOf prog_10_method_36_code 8 (some .int) :: sw_tb) rmMo_wordOf).room s m args below meth c H locs 0 0 (MQ below (sw_Qi Γ A ξ g res.2 res.1 (True)) args s 0 0 A) (F0 m 18 ls []) := by
  intro fu
  induction fu with
  | zero => intro μ u1 u2 u3 u4 u5 H locs ls hm; rw [fMo_wordOf_18.eq_1] at hm; cases hm
  | succ fu ih =>
    intro μ u1 u2 u3 u4 u5 H locs ls hm hw hl
    rw [fMo_wordOf_18.eq_2] at hm
    refine lv_aload_n S.1 S.2.1 dMo_wordOf_18 rfl (lv_at hl 0 rfl) ?_
    refine get_Mo (v := .ref (ξ.2.2.2.1 90)) S hw (is_84 hf) 7 (by decide) rfl wf_Mo_41 dMo_wordOf_19 ?_
    refine lv_iload S.1 S.2.1 dMo_wordOf_22 (lv_at hl 4 rfl) ?_
    refine lv_iload S.1 S.2.1 dMo_wordOf_24 (lv_at hl 5 rfl) ?_
    refine lv_iadd S.1 S.2.1 dMo_wordOf_26 ?_
    refine sm_bald S hw (is_90 hf) hm dMo_wordOf_27 (fun v1 hm => ?_)
    refine lv_bipush (v := (32 : Int32)) S.1 S.2.1 dMo_wordOf_28 (by decide) ?_
    refine bicmp_eq (tgt := 39) S.1 S.2.1 hm dMo_wordOf_30 (by decide) (fun hm => ?_) (fun hm => ?_)
    · refine lv_iload S.1 S.2.1 dMo_wordOf_39 (lv_at hl 5 rfl) ?_
      refine lv_iload_n S.1 S.2.1 dMo_wordOf_41 rfl (lv_at hl 2 rfl) ?_
      refine lv_iload_n S.1 S.2.1 dMo_wordOf_42 rfl (lv_at hl 1 rfl) ?_
      refine lv_isub S.1 S.2.1 dMo_wordOf_43 ?_
      refine bicmp_ne (tgt := 51) S.1 S.2.1 hm dMo_wordOf_44 (by decide) (fun hm => ?_) (fun hm => ?_)
      · refine lv_iconst (v := (0 : Int32)) S.1 S.2.1 dMo_wordOf_51 (by decide) ?_
        refine lv_istore (lv' := [(6, .int (0 : Int32)), (0, .ref (ξ.2.2.2.1 84)), (1, .int u1), (2, .int u2), (3, .int u3), (4, .int u4), (5, .int u5)]) S.1 S.2.1 dMo_wordOf_52 hl (by decide) rfl (fun ls hl => ?_)
        refine lv_iconst (v := (0 : Int32)) S.1 S.2.1 dMo_wordOf_54 (by decide) ?_
        refine lv_istore (lv' := [(7, .int (0 : Int32)), (6, .int (0 : Int32)), (0, .ref (ξ.2.2.2.1 84)), (1, .int u1), (2, .int u2), (3, .int u3), (4, .int u4), (5, .int u5)]) S.1 S.2.1 dMo_wordOf_55 hl (by decide) rfl (fun ls hl => ?_)
        exact wMo_wordOf_57 S hr hlk hf N k5 hk5 N μ u1 u2 u3 u4 u5 (0 : Int32) (0 : Int32) _ _ _ hm hw (lv_sub hl [2, 3, 4, 5, 6, 7, 1, 0] rfl)
      · refine lv_iconst (v := (1 : Int32)) S.1 S.2.1 dMo_wordOf_47 (by decide) ?_
        refine lv_goto (tgt := 52) S.1 S.2.1 dMo_wordOf_48 (by decide) ?_
        refine lv_istore (lv' := [(6, .int (1 : Int32)), (0, .ref (ξ.2.2.2.1 84)), (1, .int u1), (2, .int u2), (3, .int u3), (4, .int u4), (5, .int u5)]) S.1 S.2.1 dMo_wordOf_52 hl (by decide) rfl (fun ls hl => ?_)
        refine lv_iconst (v := (0 : Int32)) S.1 S.2.1 dMo_wordOf_54 (by decide) ?_
        refine lv_istore (lv' := [(7, .int (0 : Int32)), (6, .int (1 : Int32)), (0, .ref (ξ.2.2.2.1 84)), (1, .int u1), (2, .int u2), (3, .int u3), (4, .int u4), (5, .int u5)]) S.1 S.2.1 dMo_wordOf_55 hl (by decide) rfl (fun ls hl => ?_)
        exact wMo_wordOf_57 S hr hlk hf N k5 hk5 N μ u1 u2 u3 u4 u5 (1 : Int32) (0 : Int32) _ _ _ hm hw (lv_sub hl [2, 3, 4, 5, 6, 7, 1, 0] rfl)
    · obtain ⟨x8, ex8, hm⟩ := nm_x hm
      refine lv_iinc (v := x8) (lv' := [(5, .int x8), (0, .ref (ξ.2.2.2.1 84)), (1, .int u1), (2, .int u2), (3, .int u3), (4, .int u4)]) S.1 S.2.1 dMo_wordOf_33 hl (k := 5) rfl (by rw [ex8]; rfl) (by decide) rfl (fun ls hl => ?_)
      refine lv_goto (tgt := 18) S.1 S.2.1 dMo_wordOf_36 (by decide) ?_
      exact ih μ u1 u2 u3 u4 x8 _ _ _ hm hw (lv_sub hl [1, 2, 3, 4, 5, 0] rfl)
set_option maxHeartbeats 4000000 in
set_option maxRecDepth 100000 in
theorem wMo_wordOf_5 {l : Launch} {p : Program} {e : Env} {s : State} {m : MethodId} {args : Array Value} {below : List Frame} {meth : Method} {c : Code} {Γ : sw_C} {A : Nat → Prop} {ξ : sw_x} {g : sw_g} {res : Int32 × sw_m} (S : CallFix p m c prog_10_method_36_code 8 s args (Cond.code yMo_wordOf prog_10_method_36_code 8 (some .int) :: sw_tb) R_Mo) (hr : meth.sig.returnType = some .int) (hlk : meth.locks = false) (hf : sw_wf ξ g.2.2) (N : Nat) : ∀ (fu : Nat) (μ : sw_m) (u1 : Int32) (u2 : Int32) (u3 : Int32) (u4 : Int32) (H : Heap) (locs : List Loc) (ls : Array Slot), fMo_wordOf_5 N   fu μ u1 u2 u3 u4 = some res → sw_S Γ A ξ g μ s H locs → lv_has ls 8 [(0, .ref (ξ.2.2.2.1 84)), (1, .int u1), (2, .int u2), (3, .int u3), (4, .int u4)] → W p l e (headSpec (Cond.code yMo_wordOf prog_10_method_36_code 8 (some .int) :: sw_tb) rmMo_wordOf).room s m args below meth c H locs 0 0 (MQ below (sw_Qi Γ A ξ g res.2 res.1 (True)) args s 0 0 A) (F0 m 5 ls []) := by
  intro fu
  induction fu with
  | zero => intro μ u1 u2 u3 u4 H locs ls hm; rw [fMo_wordOf_5.eq_1] at hm; cases hm
  | succ fu ih =>
    intro μ u1 u2 u3 u4 H locs ls hm hw hl
    rw [fMo_wordOf_5.eq_2] at hm
    refine lv_iload S.1 S.2.1 dMo_wordOf_5 (lv_at hl 4 rfl) ?_
    refine lv_aload_n S.1 S.2.1 dMo_wordOf_7 rfl (lv_at hl 0 rfl) ?_
    refine get_Mo (v := .ref (ξ.2.2.2.1 90)) S hw (is_84 hf) 7 (by decide) rfl wf_Mo_41 dMo_wordOf_8 ?_
    refine sm_blen (v := (124 : Int32)) S hw (is_90 hf) (by decide) dMo_wordOf_11 ?_
    refine bicmp_ge (tgt := 126) S.1 S.2.1 hm dMo_wordOf_12 (by decide) (fun hm => ?_) (fun hm => ?_)
    · refine lv_iconst (v := (0 : Int32)) S.1 S.2.1 dMo_wordOf_126 (by decide) ?_
      obtain rfl := Option.some.inj hm
      exact sw_iret S hr hlk hw trivial dMo_wordOf_127
    · refine lv_iconst (v := (0 : Int32)) S.1 S.2.1 dMo_wordOf_15 (by decide) ?_
      refine lv_istore (lv' := [(5, .int (0 : Int32)), (0, .ref (ξ.2.2.2.1 84)), (1, .int u1), (2, .int u2), (3, .int u3), (4, .int u4)]) S.1 S.2.1 dMo_wordOf_16 hl (by decide) rfl (fun ls hl => ?_)
      exact wMo_wordOf_18 S hr hlk hf N (fMo_wordOf_5 N   fu) ih N μ u1 u2 u3 u4 (0 : Int32) _ _ _ hm hw (lv_sub hl [1, 2, 3, 4, 5, 0] rfl)
set_option maxHeartbeats 4000000 in
set_option maxRecDepth 100000 in
theorem cMo_wordOf (l : Launch) (N : Nat) {Γ : sw_C} {A : Nat → Prop} {ξ : sw_x} {g : sw_g} {μ : sw_m} (hf : sw_wf ξ g.2.2) (a1 : Int32) (a2 : Int32) {res : Int32 × sw_m} (hm : fMo_wordOf N μ a1 a2 = some res) : Met l yMo_wordOf (Cond.code yMo_wordOf prog_10_method_36_code 8 (some .int) :: sw_tb) rmMo_wordOf (va_Pc [.ref (ξ.2.2.2.1 84), .int a1, .int a2] (sw_V Γ A ξ g μ)) (sw_Qi Γ A ξ g res.2 res.1 (True)) 0 0 A := by
  refine Met.ofW (cc := prog_10_method_36_code) (maxL := 8) (ret := some .int) (by decide) rfl ?_
  intro p e s m args below meth c s₁ B hml hv
  obtain ⟨rfl, hv⟩ := hv
  have S : CallFix p m c prog_10_method_36_code 8 s _ (Cond.code yMo_wordOf prog_10_method_36_code 8 (some .int) :: sw_tb) R_Mo := ⟨B.exec, B.bytes, hml, findClass_of_methodNamed B.named, atoms_spec (ws := (Cond.code yMo_wordOf prog_10_method_36_code 8 (some .int) :: sw_tb)) B.pre⟩
  have hr := B.returns
  have hlk := B.notSynchronized
  have hw := sw_begin hv
  have hl := lv_entry [.ref (ξ.2.2.2.1 84), .int a1, .int a2] (n := 8) (Nat.le_of_ble_eq_true rfl)
  rw [lg_entry_eq]
  generalize (lg_sl [.ref (ξ.2.2.2.1 84), .int a1, .int a2] ++ List.replicate (8 - (lg_sl [.ref (ξ.2.2.2.1 84), .int a1, .int a2]).length) Slot.unset).toArray = ls at hl ⊢
  have hl : lv_has ls 8 [(0, .ref (ξ.2.2.2.1 84)), (1, .int a1), (2, .int a2)] := hl
  unfold fMo_wordOf at hm
  refine lv_iconst (v := (1 : Int32)) S.1 S.2.1 dMo_wordOf_0 (by decide) ?_
  refine lv_istore_n (lv' := [(3, .int (1 : Int32)), (0, .ref (ξ.2.2.2.1 84)), (1, .int a1), (2, .int a2)]) S.1 S.2.1 dMo_wordOf_1 rfl hl (by decide) rfl (fun ls hl => ?_)
  refine lv_iconst (v := (0 : Int32)) S.1 S.2.1 dMo_wordOf_2 (by decide) ?_
  refine lv_istore (lv' := [(4, .int (0 : Int32)), (3, .int (1 : Int32)), (0, .ref (ξ.2.2.2.1 84)), (1, .int a1), (2, .int a2)]) S.1 S.2.1 dMo_wordOf_3 hl (by decide) rfl (fun ls hl => ?_)
  exact wMo_wordOf_5 S hr hlk hf N  N μ a1 a2 (1 : Int32) (0 : Int32) _ _ _ hm hw (lv_sub hl [2, 3, 4, 1, 0] rfl)
set_option maxHeartbeats 4000000 in
set_option maxRecDepth 100000 in
theorem wMo_splits_247 {l : Launch} {p : Program} {e : Env} {s : State} {m : MethodId} {args : Array Value} {below : List Frame} {meth : Method} {c : Code} {Γ : sw_C} {A : Nat → Prop} {ξ : sw_x} {g : sw_g} {res : sw_m} (S : CallFix p m c prog_10_method_37_code 6 s args (Cond.code yMo_splits prog_10_method_37_code 6 (none) :: sw_tb) R_Mo) (hr : meth.sig.returnType = none) (hlk : meth.locks = false) (hf : sw_wf ξ g.2.2) (N : Nat) (k7 : sw_m → Int32 → Int32 → Option (sw_m)) (hk7 : ∀ (μ : sw_m) (u1 : Int32) (u2 : Int32) (H : Heap) (locs : List Loc) (ls : Array Slot), k7 μ u1 u2 = some res → sw_S Γ A ξ g μ s H locs → lv_has ls 6 [(0, .ref (ξ.2.2.2.1 84)), (1, .int u1), (2, .int u2)] → W p l e (headSpec (Cond.code yMo_splits prog_10_method_37_code 6 (none) :: sw_tb) rmMo_splits).room s m args below meth c H locs 0 0 (MQ below (sw_Qv Γ A ξ g res (True)) args s 0 0 A) (F0 m 7 ls [])) : ∀ (μ : sw_m) (u1 : Int32) (u4 : Int32) (H : Heap) (locs : List Loc) (ls : Array Slot), fMo_splits_247 N  k7 μ u1 u4 = some res → sw_S Γ A ξ g μ s H locs → lv_has ls 6 [(0, .ref (ξ.2.2.2.1 84)), (1, .int u1), (4, .int u4)] → W p l e (headSpec (Cond.code yMo_splits prog_10_method_37_code 6 (none) :: sw_tb) rmMo_splits).room s m args below meth c H locs 0 0 (MQ below (sw_Qv Γ A ξ g res (True)) args s 0 0 A) (F0 m 247 ls []) := by
  intro μ u1 u4 H locs ls hm hw hl
  unfold fMo_splits_247 at hm
  refine lv_aload_n S.1 S.2.1 dMo_splits_247 rfl (lv_at hl 0 rfl) ?_
  refine lv_dup S.1 S.2.1 dMo_splits_248 rfl ?_
  refine get_Mo (v := .int (μ.1 84 18)) S hw (is_84 hf) 18 (by decide) rfl wf_Mo_181 dMo_splits_249 ?_
  refine lv_iconst (v := (1 : Int32)) S.1 S.2.1 dMo_splits_252 (by decide) ?_
  refine lv_iadd S.1 S.2.1 dMo_splits_253 ?_
  refine put_Mo S hw (is_84 hf) 18 (by decide) ps_Mo_18 rfl rfl rfl wf_Mo_181 hm dMo_splits_254 (fun μ18 H locs hm hw => ?_)
  refine lv_iload S.1 S.2.1 dMo_splits_257 (lv_at hl 2 rfl) ?_
  refine lv_istore_n (lv' := [(2, .int u4), (0, .ref (ξ.2.2.2.1 84)), (1, .int u1), (4, .int u4)]) S.1 S.2.1 dMo_splits_259 rfl hl (by decide) rfl (fun ls hl => ?_)
  refine lv_goto (tgt := 7) S.1 S.2.1 dMo_splits_260 (by decide) ?_
  exact hk7 μ18 u1 u4 _ _ _ hm hw (lv_sub hl [1, 2, 0] rfl)
set_option maxHeartbeats 4000000 in
set_option maxRecDepth 100000 in
theorem wMo_splits_169 {l : Launch} {p : Program} {e : Env} {s : State} {m : MethodId} {args : Array Value} {below : List Frame} {meth : Method} {c : Code} {Γ : sw_C} {A : Nat → Prop} {ξ : sw_x} {g : sw_g} {res : sw_m} (S : CallFix p m c prog_10_method_37_code 6 s args (Cond.code yMo_splits prog_10_method_37_code 6 (none) :: sw_tb) R_Mo) (hr : meth.sig.returnType = none) (hlk : meth.locks = false) (hf : sw_wf ξ g.2.2) (N : Nat) (k7 : sw_m → Int32 → Int32 → Option (sw_m)) (hk7 : ∀ (μ : sw_m) (u1 : Int32) (u2 : Int32) (H : Heap) (locs : List Loc) (ls : Array Slot), k7 μ u1 u2 = some res → sw_S Γ A ξ g μ s H locs → lv_has ls 6 [(0, .ref (ξ.2.2.2.1 84)), (1, .int u1), (2, .int u2)] → W p l e (headSpec (Cond.code yMo_splits prog_10_method_37_code 6 (none) :: sw_tb) rmMo_splits).room s m args below meth c H locs 0 0 (MQ below (sw_Qv Γ A ξ g res (True)) args s 0 0 A) (F0 m 7 ls [])) : ∀ (fu : Nat) (μ : sw_m) (u1 : Int32) (u3 : Int32) (u4 : Int32) (u5 : Int32) (H : Heap) (locs : List Loc) (ls : Array Slot), fMo_splits_169 N  k7 fu μ u1 u3 u4 u5 = some res → sw_S Γ A ξ g μ s H locs → lv_has ls 6 [(0, .ref (ξ.2.2.2.1 84)), (1, .int u1), (3, .int u3), (4, .int u4), (5, .int u5)] → W p l e (headSpec (Cond.code yMo_splits prog_10_method_37_code 6 (none) :: sw_tb) rmMo_splits).room s m args below meth c H locs 0 0 (MQ below (sw_Qv Γ A ξ g res (True)) args s 0 0 A) (F0 m 169 ls []) := by
  intro fu
  induction fu with
  | zero => intro μ u1 u3 u4 u5 H locs ls hm; rw [fMo_splits_169.eq_1] at hm; cases hm
  | succ fu ih =>
    intro μ u1 u3 u4 u5 H locs ls hm hw hl
    rw [fMo_splits_169.eq_2] at hm
    refine lv_iload S.1 S.2.1 dMo_splits_169 (lv_at hl 4 rfl) ?_
    refine lv_iload S.1 S.2.1 dMo_splits_171 (lv_at hl 3 rfl) ?_
    refine bicmp_ge (tgt := 247) S.1 S.2.1 hm dMo_splits_173 (by decide) (fun hm => ?_) (fun hm => ?_)
    · exact wMo_splits_247 S hr hlk hf N k7 hk7 μ u1 u4 _ _ _ hm hw (lv_sub hl [0, 1, 3] rfl)
    · refine lv_iload_n S.1 S.2.1 dMo_splits_176 rfl (lv_at hl 2 rfl) ?_
      obtain ⟨v20, h19, hm⟩ := ob hm
      refine sw_Si (rest := []) S hw (cMo_isDigit l  hf u3 h19) kMo_isDigit wm_Mo_187 rfl rfl hl.1 (Nat.le_of_ble_eq_true rfl) ⟨rfl, rfl, Nat.le_of_ble_eq_true rfl, Nat.le_of_ble_eq_true rfl⟩ ⟨Nat.le_of_ble_eq_true rfl, Nat.le_of_ble_eq_true rfl⟩ dMo_splits_177 (fun H locs hw _ => ?_)
      refine bif_eq (tgt := 247) S.1 S.2.1 hm dMo_splits_180 (by decide) (fun hm => ?_) (fun hm => ?_)
      · exact wMo_splits_247 S hr hlk hf N k7 hk7 μ u1 u4 _ _ _ hm hw (lv_sub hl [0, 1, 3] rfl)
      · refine lv_aload_n S.1 S.2.1 dMo_splits_183 rfl (lv_at hl 0 rfl) ?_
        refine get_Mo (v := .ref (ξ.2.2.2.1 94)) S hw (is_84 hf) 16 (by decide) rfl wf_Mo_57 dMo_splits_184 ?_
        refine lv_aload_n S.1 S.2.1 dMo_splits_187 rfl (lv_at hl 0 rfl) ?_
        refine get_Mo (v := .int (μ.1 84 18)) S hw (is_84 hf) 18 (by decide) rfl wf_Mo_181 dMo_splits_188 ?_
        refine lv_aload_n S.1 S.2.1 dMo_splits_191 rfl (lv_at hl 0 rfl) ?_
        refine get_Mo (v := .ref (ξ.2.2.2.1 94)) S hw (is_84 hf) 16 (by decide) rfl wf_Mo_57 dMo_splits_192 ?_
        refine lv_aload_n S.1 S.2.1 dMo_splits_195 rfl (lv_at hl 0 rfl) ?_
        refine get_Mo (v := .int (μ.1 84 18)) S hw (is_84 hf) 18 (by decide) rfl wf_Mo_181 dMo_splits_196 ?_
        refine sm_iald S hw (is_94 hf) hm dMo_splits_199 (fun v21 hm => ?_)
        refine lv_ldc S.1 S.2.1 S.2.2.2.1 (sw_word S wc_Mo_193) dMo_splits_200 ?_
        refine bicmp_le (tgt := 217) S.1 S.2.1 hm dMo_splits_202 (by decide) (fun hm => ?_) (fun hm => ?_)
        · refine lv_bipush (v := (10 : Int32)) S.1 S.2.1 dMo_splits_217 (by decide) ?_
          refine lv_aload_n S.1 S.2.1 dMo_splits_219 rfl (lv_at hl 0 rfl) ?_
          refine get_Mo (v := .ref (ξ.2.2.2.1 94)) S hw (is_84 hf) 16 (by decide) rfl wf_Mo_57 dMo_splits_220 ?_
          refine lv_aload_n S.1 S.2.1 dMo_splits_223 rfl (lv_at hl 0 rfl) ?_
          refine get_Mo (v := .int (μ.1 84 18)) S hw (is_84 hf) 18 (by decide) rfl wf_Mo_181 dMo_splits_224 ?_
          refine sm_iald S hw (is_94 hf) hm dMo_splits_227 (fun v22 hm => ?_)
          refine lv_imul S.1 S.2.1 dMo_splits_228 ?_
          refine lv_aload_n S.1 S.2.1 dMo_splits_229 rfl (lv_at hl 0 rfl) ?_
          refine get_Mo (v := .ref (ξ.2.2.2.1 91)) S hw (is_84 hf) 11 (by decide) rfl wf_Mo_45 dMo_splits_230 ?_
          refine lv_iload S.1 S.2.1 dMo_splits_233 (lv_at hl 4 rfl) ?_
          refine sm_bald S hw (is_91 hf) hm dMo_splits_235 (fun v23 hm => ?_)
          refine lv_iadd S.1 S.2.1 dMo_splits_236 ?_
          refine lv_bipush (v := (48 : Int32)) S.1 S.2.1 dMo_splits_237 (by decide) ?_
          refine lv_isub S.1 S.2.1 dMo_splits_239 ?_
          refine sm_iast S hw (is_94 hf) hm dMo_splits_240 (fun μ24 H locs hm hw => ?_)
          obtain ⟨x25, ex25, hm⟩ := nm_x hm
          refine lv_iinc (v := x25) (lv' := [(5, .int x25), (0, .ref (ξ.2.2.2.1 84)), (1, .int u1), (3, .int u3), (4, .int u4)]) S.1 S.2.1 dMo_splits_241 hl (k := 4) rfl (by rw [ex25]; rfl) (by decide) rfl (fun ls hl => ?_)
          refine lv_goto (tgt := 169) S.1 S.2.1 dMo_splits_244 (by decide) ?_
          exact ih μ24 u1 u3 u4 x25 _ _ _ hm hw (lv_sub hl [1, 2, 3, 4, 0] rfl)
        · refine lv_aload_n S.1 S.2.1 dMo_splits_205 rfl (lv_at hl 0 rfl) ?_
          refine get_Mo (v := .ref (ξ.2.2.2.1 94)) S hw (is_84 hf) 16 (by decide) rfl wf_Mo_57 dMo_splits_206 ?_
          refine lv_aload_n S.1 S.2.1 dMo_splits_209 rfl (lv_at hl 0 rfl) ?_
          refine get_Mo (v := .int (μ.1 84 18)) S hw (is_84 hf) 18 (by decide) rfl wf_Mo_181 dMo_splits_210 ?_
          refine sm_iald S hw (is_94 hf) hm dMo_splits_213 (fun v26 hm => ?_)
          refine lv_goto (tgt := 240) S.1 S.2.1 dMo_splits_214 (by decide) ?_
          refine sm_iast S hw (is_94 hf) hm dMo_splits_240 (fun μ27 H locs hm hw => ?_)
          obtain ⟨x28, ex28, hm⟩ := nm_x hm
          refine lv_iinc (v := x28) (lv' := [(5, .int x28), (0, .ref (ξ.2.2.2.1 84)), (1, .int u1), (3, .int u3), (4, .int u4)]) S.1 S.2.1 dMo_splits_241 hl (k := 4) rfl (by rw [ex28]; rfl) (by decide) rfl (fun ls hl => ?_)
          refine lv_goto (tgt := 169) S.1 S.2.1 dMo_splits_244 (by decide) ?_
          exact ih μ27 u1 u3 u4 x28 _ _ _ hm hw (lv_sub hl [1, 2, 3, 4, 0] rfl)
set_option maxHeartbeats 4000000 in
set_option maxRecDepth 100000 in
theorem wMo_splits_100 {l : Launch} {p : Program} {e : Env} {s : State} {m : MethodId} {args : Array Value} {below : List Frame} {meth : Method} {c : Code} {Γ : sw_C} {A : Nat → Prop} {ξ : sw_x} {g : sw_g} {res : sw_m} (S : CallFix p m c prog_10_method_37_code 6 s args (Cond.code yMo_splits prog_10_method_37_code 6 (none) :: sw_tb) R_Mo) (hr : meth.sig.returnType = none) (hlk : meth.locks = false) (hf : sw_wf ξ g.2.2) (N : Nat) (k7 : sw_m → Int32 → Int32 → Option (sw_m)) (hk7 : ∀ (μ : sw_m) (u1 : Int32) (u2 : Int32) (H : Heap) (locs : List Loc) (ls : Array Slot), k7 μ u1 u2 = some res → sw_S Γ A ξ g μ s H locs → lv_has ls 6 [(0, .ref (ξ.2.2.2.1 84)), (1, .int u1), (2, .int u2)] → W p l e (headSpec (Cond.code yMo_splits prog_10_method_37_code 6 (none) :: sw_tb) rmMo_splits).room s m args below meth c H locs 0 0 (MQ below (sw_Qv Γ A ξ g res (True)) args s 0 0 A) (F0 m 7 ls [])) : ∀ (μ : sw_m) (u1 : Int32) (u2 : Int32) (u3 : Int32) (u4 : Int32) (H : Heap) (locs : List Loc) (ls : Array Slot), fMo_splits_100 N  k7 μ u1 u2 u3 u4 = some res → sw_S Γ A ξ g μ s H locs → lv_has ls 6 [(0, .ref (ξ.2.2.2.1 84)), (1, .int u1), (2, .int u2), (3, .int u3), (4, .int u4)] → W p l e (headSpec (Cond.code yMo_splits prog_10_method_37_code 6 (none) :: sw_tb) rmMo_splits).room s m args below meth c H locs 0 0 (MQ below (sw_Qv Γ A ξ g res (True)) args s 0 0 A) (F0 m 100 ls []) := by
  intro μ u1 u2 u3 u4 H locs ls hm hw hl
  unfold fMo_splits_100 at hm
  refine lv_aload_n S.1 S.2.1 dMo_splits_100 rfl (lv_at hl 0 rfl) ?_
  refine get_Mo (v := .ref (ξ.2.2.2.1 95)) S hw (is_84 hf) 17 (by decide) rfl wf_Mo_60 dMo_splits_101 ?_
  refine lv_aload_n S.1 S.2.1 dMo_splits_104 rfl (lv_at hl 0 rfl) ?_
  refine get_Mo (v := .int (μ.1 84 18)) S hw (is_84 hf) 18 (by decide) rfl wf_Mo_181 dMo_splits_105 ?_
  refine lv_iload_n S.1 S.2.1 dMo_splits_108 rfl (lv_at hl 2 rfl) ?_
  refine sm_iast S hw (is_95 hf) hm dMo_splits_109 (fun μ11 H locs hm hw => ?_)
  refine lv_aload_n S.1 S.2.1 dMo_splits_110 rfl (lv_at hl 0 rfl) ?_
  refine get_Mo (v := .ref (ξ.2.2.2.1 94)) S hw (is_84 hf) 16 (by decide) rfl wf_Mo_57 dMo_splits_111 ?_
  refine lv_aload_n S.1 S.2.1 dMo_splits_114 rfl (lv_at hl 0 rfl) ?_
  refine get_Mo (v := .int (μ11.1 84 18)) S hw (is_84 hf) 18 (by decide) rfl wf_Mo_181 dMo_splits_115 ?_
  refine lv_iconst (v := (0 : Int32)) S.1 S.2.1 dMo_splits_118 (by decide) ?_
  refine sm_iast S hw (is_94 hf) hm dMo_splits_119 (fun μ12 H locs hm hw => ?_)
  refine lv_aload_n S.1 S.2.1 dMo_splits_120 rfl (lv_at hl 0 rfl) ?_
  refine get_Mo (v := .ref (ξ.2.2.2.1 93)) S hw (is_84 hf) 15 (by decide) rfl wf_Mo_54 dMo_splits_121 ?_
  refine lv_aload_n S.1 S.2.1 dMo_splits_124 rfl (lv_at hl 0 rfl) ?_
  refine get_Mo (v := .int (μ12.1 84 18)) S hw (is_84 hf) 18 (by decide) rfl wf_Mo_181 dMo_splits_125 ?_
  refine lv_iload_n S.1 S.2.1 dMo_splits_128 rfl (lv_at hl 3 rfl) ?_
  obtain ⟨v14, h13, hm⟩ := ob hm
  refine sw_Si (rest := [.int (μ12.1 84 18), .ref (ξ.2.2.2.1 93)]) S hw (cMo_isSmall l  hf u3 h13) kMo_isSmall wm_Mo_184 rfl rfl hl.1 (Nat.le_of_ble_eq_true rfl) ⟨rfl, rfl, Nat.le_of_ble_eq_true rfl, Nat.le_of_ble_eq_true rfl⟩ ⟨Nat.le_of_ble_eq_true rfl, Nat.le_of_ble_eq_true rfl⟩ dMo_splits_129 (fun H locs hw _ => ?_)
  refine bif_eq (tgt := 145) S.1 S.2.1 hm dMo_splits_132 (by decide) (fun hm => ?_) (fun hm => ?_)
  · refine lv_iload_n S.1 S.2.1 dMo_splits_145 rfl (lv_at hl 3 rfl) ?_
    obtain ⟨v16, h15, hm⟩ := ob hm
    refine sw_Si (rest := [.int (μ12.1 84 18), .ref (ξ.2.2.2.1 93)]) S hw (cMo_isDigit l  hf u3 h15) kMo_isDigit wm_Mo_187 rfl rfl hl.1 (Nat.le_of_ble_eq_true rfl) ⟨rfl, rfl, Nat.le_of_ble_eq_true rfl, Nat.le_of_ble_eq_true rfl⟩ ⟨Nat.le_of_ble_eq_true rfl, Nat.le_of_ble_eq_true rfl⟩ dMo_splits_146 (fun H locs hw _ => ?_)
    refine bif_eq (tgt := 157) S.1 S.2.1 hm dMo_splits_149 (by decide) (fun hm => ?_) (fun hm => ?_)
    · refine lv_bipush (v := (100 : Int32)) S.1 S.2.1 dMo_splits_157 (by decide) ?_
      refine lv_iload_n S.1 S.2.1 dMo_splits_159 rfl (lv_at hl 3 rfl) ?_
      refine lv_sipush (v := (255 : Int32)) S.1 S.2.1 dMo_splits_160 (by decide) ?_
      refine lv_iand S.1 S.2.1 dMo_splits_163 ?_
      refine lv_iadd S.1 S.2.1 dMo_splits_164 ?_
      refine sm_iast S hw (is_93 hf) hm dMo_splits_165 (fun μ17 H locs hm hw => ?_)
      refine lv_iload_n S.1 S.2.1 dMo_splits_166 rfl (lv_at hl 2 rfl) ?_
      refine lv_istore (lv' := [(5, .int u2), (0, .ref (ξ.2.2.2.1 84)), (1, .int u1), (2, .int u2), (3, .int u3), (4, .int u4)]) S.1 S.2.1 dMo_splits_167 hl (by decide) rfl (fun ls hl => ?_)
      exact wMo_splits_169 S hr hlk hf N k7 hk7 N μ17 u1 u3 u4 u2 _ _ _ hm hw (lv_sub hl [1, 2, 4, 5, 0] rfl)
    · refine lv_bipush (v := (50 : Int32)) S.1 S.2.1 dMo_splits_152 (by decide) ?_
      refine lv_goto (tgt := 165) S.1 S.2.1 dMo_splits_154 (by decide) ?_
      refine sm_iast S hw (is_93 hf) hm dMo_splits_165 (fun μ29 H locs hm hw => ?_)
      refine lv_iload_n S.1 S.2.1 dMo_splits_166 rfl (lv_at hl 2 rfl) ?_
      refine lv_istore (lv' := [(5, .int u2), (0, .ref (ξ.2.2.2.1 84)), (1, .int u1), (2, .int u2), (3, .int u3), (4, .int u4)]) S.1 S.2.1 dMo_splits_167 hl (by decide) rfl (fun ls hl => ?_)
      exact wMo_splits_169 S hr hlk hf N k7 hk7 N μ29 u1 u3 u4 u2 _ _ _ hm hw (lv_sub hl [1, 2, 4, 5, 0] rfl)
  · refine lv_aload_n S.1 S.2.1 dMo_splits_135 rfl (lv_at hl 0 rfl) ?_
    refine lv_iload_n S.1 S.2.1 dMo_splits_136 rfl (lv_at hl 2 rfl) ?_
    refine lv_iload S.1 S.2.1 dMo_splits_137 (lv_at hl 4 rfl) ?_
    obtain ⟨⟨v32, μ31⟩, h30, hm⟩ := ob hm
    refine sw_Vi (q := 84) (rest := [.int (μ12.1 84 18), .ref (ξ.2.2.2.1 93)]) S hw (cMo_wordOf l N hf u2 u4 h30) kMo_wordOf wm_Mo_190 (is_84 hf).1 (e_Mo (is_84 hf)) rfl rfl rfl rfl hl.1 (Nat.le_of_ble_eq_true rfl) ⟨rfl, rfl, Nat.le_of_ble_eq_true rfl, Nat.le_of_ble_eq_true rfl⟩ ⟨Nat.le_of_ble_eq_true rfl, Nat.le_of_ble_eq_true rfl⟩ dMo_splits_139 (fun H locs hw _ => ?_)
    refine lv_goto (tgt := 165) S.1 S.2.1 dMo_splits_142 (by decide) ?_
    refine sm_iast S hw (is_93 hf) hm dMo_splits_165 (fun μ33 H locs hm hw => ?_)
    refine lv_iload_n S.1 S.2.1 dMo_splits_166 rfl (lv_at hl 2 rfl) ?_
    refine lv_istore (lv' := [(5, .int u2), (0, .ref (ξ.2.2.2.1 84)), (1, .int u1), (2, .int u2), (3, .int u3), (4, .int u4)]) S.1 S.2.1 dMo_splits_167 hl (by decide) rfl (fun ls hl => ?_)
    exact wMo_splits_169 S hr hlk hf N k7 hk7 N μ33 u1 u3 u4 u2 _ _ _ hm hw (lv_sub hl [1, 2, 4, 5, 0] rfl)
set_option maxHeartbeats 4000000 in
set_option maxRecDepth 100000 in
theorem wMo_splits_75 {l : Launch} {p : Program} {e : Env} {s : State} {m : MethodId} {args : Array Value} {below : List Frame} {meth : Method} {c : Code} {Γ : sw_C} {A : Nat → Prop} {ξ : sw_x} {g : sw_g} {res : sw_m} (S : CallFix p m c prog_10_method_37_code 6 s args (Cond.code yMo_splits prog_10_method_37_code 6 (none) :: sw_tb) R_Mo) (hr : meth.sig.returnType = none) (hlk : meth.locks = false) (hf : sw_wf ξ g.2.2) (N : Nat) (k7 : sw_m → Int32 → Int32 → Option (sw_m)) (hk7 : ∀ (μ : sw_m) (u1 : Int32) (u2 : Int32) (H : Heap) (locs : List Loc) (ls : Array Slot), k7 μ u1 u2 = some res → sw_S Γ A ξ g μ s H locs → lv_has ls 6 [(0, .ref (ξ.2.2.2.1 84)), (1, .int u1), (2, .int u2)] → W p l e (headSpec (Cond.code yMo_splits prog_10_method_37_code 6 (none) :: sw_tb) rmMo_splits).room s m args below meth c H locs 0 0 (MQ below (sw_Qv Γ A ξ g res (True)) args s 0 0 A) (F0 m 7 ls [])) : ∀ (fu : Nat) (μ : sw_m) (u1 : Int32) (u2 : Int32) (u3 : Int32) (u4 : Int32) (H : Heap) (locs : List Loc) (ls : Array Slot), fMo_splits_75 N  k7 fu μ u1 u2 u3 u4 = some res → sw_S Γ A ξ g μ s H locs → lv_has ls 6 [(0, .ref (ξ.2.2.2.1 84)), (1, .int u1), (2, .int u2), (3, .int u3), (4, .int u4)] → W p l e (headSpec (Cond.code yMo_splits prog_10_method_37_code 6 (none) :: sw_tb) rmMo_splits).room s m args below meth c H locs 0 0 (MQ below (sw_Qv Γ A ξ g res (True)) args s 0 0 A) (F0 m 75 ls []) := by
  intro fu
  induction fu with
  | zero => intro μ u1 u2 u3 u4 H locs ls hm; rw [fMo_splits_75.eq_1] at hm; cases hm
  | succ fu ih =>
    intro μ u1 u2 u3 u4 H locs ls hm hw hl
    rw [fMo_splits_75.eq_2] at hm
    refine lv_iload S.1 S.2.1 dMo_splits_75 (lv_at hl 4 rfl) ?_
    refine lv_iload_n S.1 S.2.1 dMo_splits_77 rfl (lv_at hl 1 rfl) ?_
    refine bicmp_ge (tgt := 100) S.1 S.2.1 hm dMo_splits_78 (by decide) (fun hm => ?_) (fun hm => ?_)
    · exact wMo_splits_100 S hr hlk hf N k7 hk7 μ u1 u2 u3 u4 _ _ _ hm hw (lv_sub hl [0, 1, 2, 3, 4] rfl)
    · refine lv_aload_n S.1 S.2.1 dMo_splits_81 rfl (lv_at hl 0 rfl) ?_
      refine get_Mo (v := .ref (ξ.2.2.2.1 91)) S hw (is_84 hf) 11 (by decide) rfl wf_Mo_45 dMo_splits_82 ?_
      refine lv_iload S.1 S.2.1 dMo_splits_85 (lv_at hl 4 rfl) ?_
      refine sm_bald S hw (is_91 hf) hm dMo_splits_87 (fun v34 hm => ?_)
      obtain ⟨v36, h35, hm⟩ := ob hm
      refine sw_Si (rest := []) S hw (cMo_isDigit l  hf v34 h35) kMo_isDigit wm_Mo_187 rfl rfl hl.1 (Nat.le_of_ble_eq_true rfl) ⟨rfl, rfl, Nat.le_of_ble_eq_true rfl, Nat.le_of_ble_eq_true rfl⟩ ⟨Nat.le_of_ble_eq_true rfl, Nat.le_of_ble_eq_true rfl⟩ dMo_splits_88 (fun H locs hw _ => ?_)
      refine bif_eq (tgt := 100) S.1 S.2.1 hm dMo_splits_91 (by decide) (fun hm => ?_) (fun hm => ?_)
      · exact wMo_splits_100 S hr hlk hf N k7 hk7 μ u1 u2 u3 u4 _ _ _ hm hw (lv_sub hl [0, 1, 2, 3, 4] rfl)
      · obtain ⟨x37, ex37, hm⟩ := nm_x hm
        refine lv_iinc (v := x37) (lv' := [(4, .int x37), (0, .ref (ξ.2.2.2.1 84)), (1, .int u1), (2, .int u2), (3, .int u3)]) S.1 S.2.1 dMo_splits_94 hl (k := 4) rfl (by rw [ex37]; rfl) (by decide) rfl (fun ls hl => ?_)
        refine lv_goto (tgt := 75) S.1 S.2.1 dMo_splits_97 (by decide) ?_
        exact ih μ u1 u2 u3 x37 _ _ _ hm hw (lv_sub hl [1, 2, 3, 4, 0] rfl)
set_option maxHeartbeats 4000000 in
set_option maxRecDepth 100000 in
theorem wMo_splits_68 {l : Launch} {p : Program} {e : Env} {s : State} {m : MethodId} {args : Array Value} {below : List Frame} {meth : Method} {c : Code} {Γ : sw_C} {A : Nat → Prop} {ξ : sw_x} {g : sw_g} {res : sw_m} (S : CallFix p m c prog_10_method_37_code 6 s args (Cond.code yMo_splits prog_10_method_37_code 6 (none) :: sw_tb) R_Mo) (hr : meth.sig.returnType = none) (hlk : meth.locks = false) (hf : sw_wf ξ g.2.2) (N : Nat) (k7 : sw_m → Int32 → Int32 → Option (sw_m)) (hk7 : ∀ (μ : sw_m) (u1 : Int32) (u2 : Int32) (H : Heap) (locs : List Loc) (ls : Array Slot), k7 μ u1 u2 = some res → sw_S Γ A ξ g μ s H locs → lv_has ls 6 [(0, .ref (ξ.2.2.2.1 84)), (1, .int u1), (2, .int u2)] → W p l e (headSpec (Cond.code yMo_splits prog_10_method_37_code 6 (none) :: sw_tb) rmMo_splits).room s m args below meth c H locs 0 0 (MQ below (sw_Qv Γ A ξ g res (True)) args s 0 0 A) (F0 m 7 ls [])) : ∀ (μ : sw_m) (u1 : Int32) (u2 : Int32) (u3 : Int32) (u4 : Int32) (H : Heap) (locs : List Loc) (ls : Array Slot), fMo_splits_68 N  k7 μ u1 u2 u3 u4 = some res → sw_S Γ A ξ g μ s H locs → lv_has ls 6 [(0, .ref (ξ.2.2.2.1 84)), (1, .int u1), (2, .int u2), (3, .int u3), (4, .int u4)] → W p l e (headSpec (Cond.code yMo_splits prog_10_method_37_code 6 (none) :: sw_tb) rmMo_splits).room s m args below meth c H locs 0 0 (MQ below (sw_Qv Γ A ξ g res (True)) args s 0 0 A) (F0 m 68 ls []) := by
  intro μ u1 u2 u3 u4 H locs ls hm hw hl
  unfold fMo_splits_68 at hm
  refine lv_iload_n S.1 S.2.1 dMo_splits_68 rfl (lv_at hl 3 rfl) ?_
  obtain ⟨v10, h9, hm⟩ := ob hm
  refine sw_Si (rest := []) S hw (cMo_isDigit l  hf u3 h9) kMo_isDigit wm_Mo_187 rfl rfl hl.1 (Nat.le_of_ble_eq_true rfl) ⟨rfl, rfl, Nat.le_of_ble_eq_true rfl, Nat.le_of_ble_eq_true rfl⟩ ⟨Nat.le_of_ble_eq_true rfl, Nat.le_of_ble_eq_true rfl⟩ dMo_splits_69 (fun H locs hw _ => ?_)
  refine bif_eq (tgt := 100) S.1 S.2.1 hm dMo_splits_72 (by decide) (fun hm => ?_) (fun hm => ?_)
  · exact wMo_splits_100 S hr hlk hf N k7 hk7 μ u1 u2 u3 u4 _ _ _ hm hw (lv_sub hl [0, 1, 2, 3, 4] rfl)
  · exact wMo_splits_75 S hr hlk hf N k7 hk7 N μ u1 u2 u3 u4 _ _ _ hm hw (lv_sub hl [0, 1, 2, 3, 4] rfl)
set_option maxHeartbeats 4000000 in
set_option maxRecDepth 100000 in
theorem wMo_splits_43 {l : Launch} {p : Program} {e : Env} {s : State} {m : MethodId} {args : Array Value} {below : List Frame} {meth : Method} {c : Code} {Γ : sw_C} {A : Nat → Prop} {ξ : sw_x} {g : sw_g} {res : sw_m} (S : CallFix p m c prog_10_method_37_code 6 s args (Cond.code yMo_splits prog_10_method_37_code 6 (none) :: sw_tb) R_Mo) (hr : meth.sig.returnType = none) (hlk : meth.locks = false) (hf : sw_wf ξ g.2.2) (N : Nat) (k7 : sw_m → Int32 → Int32 → Option (sw_m)) (hk7 : ∀ (μ : sw_m) (u1 : Int32) (u2 : Int32) (H : Heap) (locs : List Loc) (ls : Array Slot), k7 μ u1 u2 = some res → sw_S Γ A ξ g μ s H locs → lv_has ls 6 [(0, .ref (ξ.2.2.2.1 84)), (1, .int u1), (2, .int u2)] → W p l e (headSpec (Cond.code yMo_splits prog_10_method_37_code 6 (none) :: sw_tb) rmMo_splits).room s m args below meth c H locs 0 0 (MQ below (sw_Qv Γ A ξ g res (True)) args s 0 0 A) (F0 m 7 ls [])) : ∀ (fu : Nat) (μ : sw_m) (u1 : Int32) (u2 : Int32) (u3 : Int32) (u4 : Int32) (H : Heap) (locs : List Loc) (ls : Array Slot), fMo_splits_43 N  k7 fu μ u1 u2 u3 u4 = some res → sw_S Γ A ξ g μ s H locs → lv_has ls 6 [(0, .ref (ξ.2.2.2.1 84)), (1, .int u1), (2, .int u2), (3, .int u3), (4, .int u4)] → W p l e (headSpec (Cond.code yMo_splits prog_10_method_37_code 6 (none) :: sw_tb) rmMo_splits).room s m args below meth c H locs 0 0 (MQ below (sw_Qv Γ A ξ g res (True)) args s 0 0 A) (F0 m 43 ls []) := by
  intro fu
  induction fu with
  | zero => intro μ u1 u2 u3 u4 H locs ls hm; rw [fMo_splits_43.eq_1] at hm; cases hm
  | succ fu ih =>
    intro μ u1 u2 u3 u4 H locs ls hm hw hl
    rw [fMo_splits_43.eq_2] at hm
    refine lv_iload S.1 S.2.1 dMo_splits_43 (lv_at hl 4 rfl) ?_
    refine lv_iload_n S.1 S.2.1 dMo_splits_45 rfl (lv_at hl 1 rfl) ?_
    refine bicmp_ge (tgt := 68) S.1 S.2.1 hm dMo_splits_46 (by decide) (fun hm => ?_) (fun hm => ?_)
    · exact wMo_splits_68 S hr hlk hf N k7 hk7 μ u1 u2 u3 u4 _ _ _ hm hw (lv_sub hl [0, 1, 2, 3, 4] rfl)
    · refine lv_aload_n S.1 S.2.1 dMo_splits_49 rfl (lv_at hl 0 rfl) ?_
      refine get_Mo (v := .ref (ξ.2.2.2.1 91)) S hw (is_84 hf) 11 (by decide) rfl wf_Mo_45 dMo_splits_50 ?_
      refine lv_iload S.1 S.2.1 dMo_splits_53 (lv_at hl 4 rfl) ?_
      refine sm_bald S hw (is_91 hf) hm dMo_splits_55 (fun v38 hm => ?_)
      obtain ⟨v40, h39, hm⟩ := ob hm
      refine sw_Si (rest := []) S hw (cMo_isSmall l  hf v38 h39) kMo_isSmall wm_Mo_184 rfl rfl hl.1 (Nat.le_of_ble_eq_true rfl) ⟨rfl, rfl, Nat.le_of_ble_eq_true rfl, Nat.le_of_ble_eq_true rfl⟩ ⟨Nat.le_of_ble_eq_true rfl, Nat.le_of_ble_eq_true rfl⟩ dMo_splits_56 (fun H locs hw _ => ?_)
      refine bif_eq (tgt := 68) S.1 S.2.1 hm dMo_splits_59 (by decide) (fun hm => ?_) (fun hm => ?_)
      · exact wMo_splits_68 S hr hlk hf N k7 hk7 μ u1 u2 u3 u4 _ _ _ hm hw (lv_sub hl [0, 1, 2, 3, 4] rfl)
      · obtain ⟨x41, ex41, hm⟩ := nm_x hm
        refine lv_iinc (v := x41) (lv' := [(4, .int x41), (0, .ref (ξ.2.2.2.1 84)), (1, .int u1), (2, .int u2), (3, .int u3)]) S.1 S.2.1 dMo_splits_62 hl (k := 4) rfl (by rw [ex41]; rfl) (by decide) rfl (fun ls hl => ?_)
        refine lv_goto (tgt := 43) S.1 S.2.1 dMo_splits_65 (by decide) ?_
        exact ih μ u1 u2 u3 x41 _ _ _ hm hw (lv_sub hl [1, 2, 3, 4, 0] rfl)
set_option maxHeartbeats 4000000 in
set_option maxRecDepth 100000 in
theorem wMo_splits_7 {l : Launch} {p : Program} {e : Env} {s : State} {m : MethodId} {args : Array Value} {below : List Frame} {meth : Method} {c : Code} {Γ : sw_C} {A : Nat → Prop} {ξ : sw_x} {g : sw_g} {res : sw_m} (S : CallFix p m c prog_10_method_37_code 6 s args (Cond.code yMo_splits prog_10_method_37_code 6 (none) :: sw_tb) R_Mo) (hr : meth.sig.returnType = none) (hlk : meth.locks = false) (hf : sw_wf ξ g.2.2) (N : Nat) : ∀ (fu : Nat) (μ : sw_m) (u1 : Int32) (u2 : Int32) (H : Heap) (locs : List Loc) (ls : Array Slot), fMo_splits_7 N   fu μ u1 u2 = some res → sw_S Γ A ξ g μ s H locs → lv_has ls 6 [(0, .ref (ξ.2.2.2.1 84)), (1, .int u1), (2, .int u2)] → W p l e (headSpec (Cond.code yMo_splits prog_10_method_37_code 6 (none) :: sw_tb) rmMo_splits).room s m args below meth c H locs 0 0 (MQ below (sw_Qv Γ A ξ g res (True)) args s 0 0 A) (F0 m 7 ls []) := by
  intro fu
  induction fu with
  | zero => intro μ u1 u2 H locs ls hm; rw [fMo_splits_7.eq_1] at hm; cases hm
  | succ fu ih =>
    intro μ u1 u2 H locs ls hm hw hl
    rw [fMo_splits_7.eq_2] at hm
    refine lv_iload_n S.1 S.2.1 dMo_splits_7 rfl (lv_at hl 2 rfl) ?_
    refine lv_iload_n S.1 S.2.1 dMo_splits_8 rfl (lv_at hl 1 rfl) ?_
    refine bicmp_ge (tgt := 263) S.1 S.2.1 hm dMo_splits_9 (by decide) (fun hm => ?_) (fun hm => ?_)
    · refine lv_aload_n S.1 S.2.1 dMo_splits_263 rfl (lv_at hl 0 rfl) ?_
      refine get_Mo (v := .ref (ξ.2.2.2.1 95)) S hw (is_84 hf) 17 (by decide) rfl wf_Mo_60 dMo_splits_264 ?_
      refine lv_aload_n S.1 S.2.1 dMo_splits_267 rfl (lv_at hl 0 rfl) ?_
      refine get_Mo (v := .int (μ.1 84 18)) S hw (is_84 hf) 18 (by decide) rfl wf_Mo_181 dMo_splits_268 ?_
      refine lv_iload_n S.1 S.2.1 dMo_splits_271 rfl (lv_at hl 1 rfl) ?_
      refine sm_iast S hw (is_95 hf) hm dMo_splits_272 (fun μ2 H locs hm hw => ?_)
      refine lv_aload_n S.1 S.2.1 dMo_splits_273 rfl (lv_at hl 0 rfl) ?_
      refine get_Mo (v := .ref (ξ.2.2.2.1 93)) S hw (is_84 hf) 15 (by decide) rfl wf_Mo_54 dMo_splits_274 ?_
      refine lv_aload_n S.1 S.2.1 dMo_splits_277 rfl (lv_at hl 0 rfl) ?_
      refine get_Mo (v := .int (μ2.1 84 18)) S hw (is_84 hf) 18 (by decide) rfl wf_Mo_181 dMo_splits_278 ?_
      refine lv_iconst (v := (0 : Int32)) S.1 S.2.1 dMo_splits_281 (by decide) ?_
      refine sm_iast S hw (is_93 hf) hm dMo_splits_282 (fun μ3 H locs hm hw => ?_)
      refine lv_aload_n S.1 S.2.1 dMo_splits_283 rfl (lv_at hl 0 rfl) ?_
      refine get_Mo (v := .ref (ξ.2.2.2.1 94)) S hw (is_84 hf) 16 (by decide) rfl wf_Mo_57 dMo_splits_284 ?_
      refine lv_aload_n S.1 S.2.1 dMo_splits_287 rfl (lv_at hl 0 rfl) ?_
      refine get_Mo (v := .int (μ3.1 84 18)) S hw (is_84 hf) 18 (by decide) rfl wf_Mo_181 dMo_splits_288 ?_
      refine lv_iconst (v := (0 : Int32)) S.1 S.2.1 dMo_splits_291 (by decide) ?_
      refine sm_iast S hw (is_94 hf) hm dMo_splits_292 (fun μ4 H locs hm hw => ?_)
      obtain rfl := Option.some.inj hm
      exact sw_vret S hr hlk hw trivial dMo_splits_293
    · refine lv_aload_n S.1 S.2.1 dMo_splits_12 rfl (lv_at hl 0 rfl) ?_
      refine get_Mo (v := .ref (ξ.2.2.2.1 91)) S hw (is_84 hf) 11 (by decide) rfl wf_Mo_45 dMo_splits_13 ?_
      refine lv_iload_n S.1 S.2.1 dMo_splits_16 rfl (lv_at hl 2 rfl) ?_
      refine sm_bald S hw (is_91 hf) hm dMo_splits_17 (fun v5 hm => ?_)
      refine lv_istore_n (lv' := [(3, .int v5), (0, .ref (ξ.2.2.2.1 84)), (1, .int u1), (2, .int u2)]) S.1 S.2.1 dMo_splits_18 rfl hl (by decide) rfl (fun ls hl => ?_)
      refine lv_iload_n S.1 S.2.1 dMo_splits_19 rfl (lv_at hl 0 rfl) ?_
      refine lv_bipush (v := (32 : Int32)) S.1 S.2.1 dMo_splits_20 (by decide) ?_
      refine bicmp_ne (tgt := 31) S.1 S.2.1 hm dMo_splits_22 (by decide) (fun hm => ?_) (fun hm => ?_)
      · refine lv_iload_n S.1 S.2.1 dMo_splits_31 rfl (lv_at hl 3 rfl) ?_
        refine lv_iconst (v := (1 : Int32)) S.1 S.2.1 dMo_splits_32 (by decide) ?_
        refine lv_iadd S.1 S.2.1 dMo_splits_33 ?_
        refine nm_i hm (fun x6 hm => ?_)
        refine lv_istore (lv' := [(4, .int x6), (3, .int v5), (0, .ref (ξ.2.2.2.1 84)), (1, .int u1), (2, .int u2)]) S.1 S.2.1 dMo_splits_34 hl (by decide) rfl (fun ls hl => ?_)
        refine lv_iload_n S.1 S.2.1 dMo_splits_36 rfl (lv_at hl 1 rfl) ?_
        obtain ⟨v8, h7, hm⟩ := ob hm
        refine sw_Si (rest := []) S hw (cMo_isSmall l  hf v5 h7) kMo_isSmall wm_Mo_184 rfl rfl hl.1 (Nat.le_of_ble_eq_true rfl) ⟨rfl, rfl, Nat.le_of_ble_eq_true rfl, Nat.le_of_ble_eq_true rfl⟩ ⟨Nat.le_of_ble_eq_true rfl, Nat.le_of_ble_eq_true rfl⟩ dMo_splits_37 (fun H locs hw _ => ?_)
        refine bif_eq (tgt := 68) S.1 S.2.1 hm dMo_splits_40 (by decide) (fun hm => ?_) (fun hm => ?_)
        · exact wMo_splits_68 S hr hlk hf N (fMo_splits_7 N   fu) ih μ u1 u2 v5 x6 _ _ _ hm hw (lv_sub hl [2, 3, 4, 1, 0] rfl)
        · exact wMo_splits_43 S hr hlk hf N (fMo_splits_7 N   fu) ih N μ u1 u2 v5 x6 _ _ _ hm hw (lv_sub hl [2, 3, 4, 1, 0] rfl)
      · obtain ⟨x42, ex42, hm⟩ := nm_x hm
        refine lv_iinc (v := x42) (lv' := [(2, .int x42), (3, .int v5), (0, .ref (ξ.2.2.2.1 84)), (1, .int u1)]) S.1 S.2.1 dMo_splits_25 hl (k := 3) rfl (by rw [ex42]; rfl) (by decide) rfl (fun ls hl => ?_)
        refine lv_goto (tgt := 7) S.1 S.2.1 dMo_splits_28 (by decide) ?_
        exact ih μ u1 x42 _ _ _ hm hw (lv_sub hl [2, 3, 0] rfl)
set_option maxHeartbeats 4000000 in
set_option maxRecDepth 100000 in
theorem cMo_splits (l : Launch) (N : Nat) {Γ : sw_C} {A : Nat → Prop} {ξ : sw_x} {g : sw_g} {μ : sw_m} (hf : sw_wf ξ g.2.2) (a1 : Int32) {res : sw_m} (hm : fMo_splits N μ a1 = some res) : Met l yMo_splits (Cond.code yMo_splits prog_10_method_37_code 6 (none) :: sw_tb) rmMo_splits (va_Pc [.ref (ξ.2.2.2.1 84), .int a1] (sw_V Γ A ξ g μ)) (sw_Qv Γ A ξ g res (True)) 0 0 A := by
  refine Met.ofW (cc := prog_10_method_37_code) (maxL := 6) (ret := none) (by decide) rfl ?_
  intro p e s m args below meth c s₁ B hml hv
  obtain ⟨rfl, hv⟩ := hv
  have S : CallFix p m c prog_10_method_37_code 6 s _ (Cond.code yMo_splits prog_10_method_37_code 6 (none) :: sw_tb) R_Mo := ⟨B.exec, B.bytes, hml, findClass_of_methodNamed B.named, atoms_spec (ws := (Cond.code yMo_splits prog_10_method_37_code 6 (none) :: sw_tb)) B.pre⟩
  have hr := B.returns
  have hlk := B.notSynchronized
  have hw := sw_begin hv
  have hl := lv_entry [.ref (ξ.2.2.2.1 84), .int a1] (n := 6) (Nat.le_of_ble_eq_true rfl)
  rw [lg_entry_eq]
  generalize (lg_sl [.ref (ξ.2.2.2.1 84), .int a1] ++ List.replicate (6 - (lg_sl [.ref (ξ.2.2.2.1 84), .int a1]).length) Slot.unset).toArray = ls at hl ⊢
  have hl : lv_has ls 6 [(0, .ref (ξ.2.2.2.1 84)), (1, .int a1)] := hl
  unfold fMo_splits at hm
  refine lv_aload_n S.1 S.2.1 dMo_splits_0 rfl (lv_at hl 0 rfl) ?_
  refine lv_iconst (v := (0 : Int32)) S.1 S.2.1 dMo_splits_1 (by decide) ?_
  refine put_Mo S hw (is_84 hf) 18 (by decide) ps_Mo_18 rfl rfl rfl wf_Mo_181 hm dMo_splits_2 (fun μ1 H locs hm hw => ?_)
  refine lv_iconst (v := (0 : Int32)) S.1 S.2.1 dMo_splits_5 (by decide) ?_
  refine lv_istore_n (lv' := [(2, .int (0 : Int32)), (0, .ref (ξ.2.2.2.1 84)), (1, .int a1)]) S.1 S.2.1 dMo_splits_6 rfl hl (by decide) rfl (fun ls hl => ?_)
  exact wMo_splits_7 S hr hlk hf N  N μ1 a1 (0 : Int32) _ _ _ hm hw (lv_sub hl [1, 2, 0] rfl)
set_option maxHeartbeats 4000000 in
set_option maxRecDepth 100000 in
theorem cMo_fine (l : Launch) {Γ : sw_C} {A : Nat → Prop} {ξ : sw_x} {g : sw_g} {μ : sw_m} (hf : sw_wf ξ g.2.2) {res : Int32 × sw_m} (hm : fMo_fine μ = some res) : Met l yMo_fine (Cond.code yMo_fine prog_10_method_38_code 1 (some .boolean) :: sw_tb) rmMo_fine (va_Pc [.ref (ξ.2.2.2.1 84)] (sw_V Γ A ξ g μ)) (sw_Qi Γ A ξ g res.2 res.1 (True)) 0 0 A := by
  refine Met.ofW (cc := prog_10_method_38_code) (maxL := 1) (ret := some .boolean) (by decide) rfl ?_
  intro p e s m args below meth c s₁ B hml hv
  obtain ⟨rfl, hv⟩ := hv
  have S : CallFix p m c prog_10_method_38_code 1 s _ (Cond.code yMo_fine prog_10_method_38_code 1 (some .boolean) :: sw_tb) R_Mo := ⟨B.exec, B.bytes, hml, findClass_of_methodNamed B.named, atoms_spec (ws := (Cond.code yMo_fine prog_10_method_38_code 1 (some .boolean) :: sw_tb)) B.pre⟩
  have hr := B.returns
  have hlk := B.notSynchronized
  have hw := sw_begin hv
  have hl := lv_entry [.ref (ξ.2.2.2.1 84)] (n := 1) (Nat.le_of_ble_eq_true rfl)
  rw [lg_entry_eq]
  generalize (lg_sl [.ref (ξ.2.2.2.1 84)] ++ List.replicate (1 - (lg_sl [.ref (ξ.2.2.2.1 84)]).length) Slot.unset).toArray = ls at hl ⊢
  have hl : lv_has ls 1 [(0, .ref (ξ.2.2.2.1 84))] := hl
  unfold fMo_fine at hm
  refine lv_aload_n S.1 S.2.1 dMo_fine_0 rfl (lv_at hl 0 rfl) ?_
  refine get_Mo (v := .int (μ.1 84 21)) S hw (is_84 hf) 21 (by decide) rfl wf_Mo_194 dMo_fine_1 ?_
  refine lv_iconst (v := (-1 : Int32)) S.1 S.2.1 dMo_fine_4 (by decide) ?_
  refine bicmp_ne (tgt := 12) S.1 S.2.1 hm dMo_fine_5 (by decide) (fun hm => ?_) (fun hm => ?_)
  · refine lv_iconst (v := (0 : Int32)) S.1 S.2.1 dMo_fine_12 (by decide) ?_
    obtain rfl := Option.some.inj hm
    exact sw_zret S hr hlk (Or.inl rfl) hw trivial dMo_fine_13
  · refine lv_iconst (v := (1 : Int32)) S.1 S.2.1 dMo_fine_8 (by decide) ?_
    refine lv_goto (tgt := 13) S.1 S.2.1 dMo_fine_9 (by decide) ?_
    obtain rfl := Option.some.inj hm
    exact sw_zret S hr hlk (Or.inr rfl) hw trivial dMo_fine_13
set_option maxHeartbeats 4000000 in
set_option maxRecDepth 100000 in
theorem cMo_faults (l : Launch) {Γ : sw_C} {A : Nat → Prop} {ξ : sw_x} {g : sw_g} {μ : sw_m} (hf : sw_wf ξ g.2.2) {res : sw_m} (hm : fMo_faults μ = some res) : Met l yMo_faults (Cond.code yMo_faults prog_10_method_39_code 1 (none) :: sw_tb) rmMo_faults (va_Pc [.ref (ξ.2.2.2.1 84)] (sw_V Γ A ξ g μ)) (sw_Qv Γ A ξ g res (True)) 0 0 A := by
  refine Met.ofW (cc := prog_10_method_39_code) (maxL := 1) (ret := none) (by decide) rfl ?_
  intro p e s m args below meth c s₁ B hml hv
  obtain ⟨rfl, hv⟩ := hv
  have S : CallFix p m c prog_10_method_39_code 1 s _ (Cond.code yMo_faults prog_10_method_39_code 1 (none) :: sw_tb) R_Mo := ⟨B.exec, B.bytes, hml, findClass_of_methodNamed B.named, atoms_spec (ws := (Cond.code yMo_faults prog_10_method_39_code 1 (none) :: sw_tb)) B.pre⟩
  have hr := B.returns
  have hlk := B.notSynchronized
  have hw := sw_begin hv
  have hl := lv_entry [.ref (ξ.2.2.2.1 84)] (n := 1) (Nat.le_of_ble_eq_true rfl)
  rw [lg_entry_eq]
  generalize (lg_sl [.ref (ξ.2.2.2.1 84)] ++ List.replicate (1 - (lg_sl [.ref (ξ.2.2.2.1 84)]).length) Slot.unset).toArray = ls at hl ⊢
  have hl : lv_has ls 1 [(0, .ref (ξ.2.2.2.1 84))] := hl
  unfold fMo_faults at hm
  refine lv_aload_n S.1 S.2.1 dMo_faults_0 rfl (lv_at hl 0 rfl) ?_
  obtain ⟨⟨v3, μ2⟩, h1, hm⟩ := ob hm
  refine sw_Vi (q := 84) (rest := []) S hw (cMo_fine l  hf  h1) kMo_fine wm_Mo_197 (is_84 hf).1 (e_Mo (is_84 hf)) rfl rfl rfl rfl hl.1 (Nat.le_of_ble_eq_true rfl) ⟨rfl, rfl, Nat.le_of_ble_eq_true rfl, Nat.le_of_ble_eq_true rfl⟩ ⟨Nat.le_of_ble_eq_true rfl, Nat.le_of_ble_eq_true rfl⟩ dMo_faults_1 (fun H locs hw _ => ?_)
  refine bif_eq (tgt := 20) S.1 S.2.1 hm dMo_faults_4 (by decide) (fun hm => ?_) (fun hm => ?_)
  · obtain rfl := Option.some.inj hm
    exact sw_vret S hr hlk hw trivial dMo_faults_20
  · refine lv_aload_n S.1 S.2.1 dMo_faults_7 rfl (lv_at hl 0 rfl) ?_
    refine lv_aload_n S.1 S.2.1 dMo_faults_8 rfl (lv_at hl 0 rfl) ?_
    refine get_Mo (v := .ref (ξ.2.2.2.1 95)) S hw (is_84 hf) 17 (by decide) rfl wf_Mo_60 dMo_faults_9 ?_
    refine lv_aload_n S.1 S.2.1 dMo_faults_12 rfl (lv_at hl 0 rfl) ?_
    refine get_Mo (v := .int (μ2.1 84 19)) S hw (is_84 hf) 19 (by decide) rfl wf_Mo_201 dMo_faults_13 ?_
    refine sm_iald S hw (is_95 hf) hm dMo_faults_16 (fun v4 hm => ?_)
    refine put_Mo S hw (is_84 hf) 21 (by decide) ps_Mo_21 rfl rfl rfl wf_Mo_194 hm dMo_faults_17 (fun μ5 H locs hm hw => ?_)
    obtain rfl := Option.some.inj hm
    exact sw_vret S hr hlk hw trivial dMo_faults_20
set_option maxHeartbeats 4000000 in
set_option maxRecDepth 100000 in
theorem wMo_takes0_25 {l : Launch} {p : Program} {e : Env} {s : State} {m : MethodId} {args : Array Value} {below : List Frame} {meth : Method} {c : Code} {Γ : sw_C} {A : Nat → Prop} {ξ : sw_x} {g : sw_g} {res : Int32 × sw_m} (S : CallFix p m c prog_10_method_40_code 3 s args (Cond.code yMo_takes0 prog_10_method_40_code 3 (some .boolean) :: sw_tb) R_Mo) (hr : meth.sig.returnType = some .boolean) (hlk : meth.locks = false) (hf : sw_wf ξ g.2.2) (N : Nat) : ∀ (μ : sw_m) (s0 : Int32) (H : Heap) (locs : List Loc) (ls : Array Slot), fMo_takes0_25 N   μ s0 = some res → sw_S Γ A ξ g μ s H locs → lv_has ls 3 [(0, .ref (ξ.2.2.2.1 84))] → W p l e (headSpec (Cond.code yMo_takes0 prog_10_method_40_code 3 (some .boolean) :: sw_tb) rmMo_takes0).room s m args below meth c H locs 0 0 (MQ below (sw_Qi Γ A ξ g res.2 res.1 (True)) args s 0 0 A) (F0 m 25 ls [.int s0]) := by
  intro μ s0 H locs ls hm hw hl
  unfold fMo_takes0_25 at hm
  refine lv_istore_n (lv' := [(2, .int s0), (0, .ref (ξ.2.2.2.1 84))]) S.1 S.2.1 dMo_takes0_25 rfl hl (by decide) rfl (fun ls hl => ?_)
  refine lv_iload_n S.1 S.2.1 dMo_takes0_26 rfl (lv_at hl 0 rfl) ?_
  refine bif_eq (tgt := 40) S.1 S.2.1 hm dMo_takes0_27 (by decide) (fun hm => ?_) (fun hm => ?_)
  · refine lv_iload_n S.1 S.2.1 dMo_takes0_40 rfl (lv_at hl 0 rfl) ?_
    obtain ⟨hz, hm⟩ := ob_tz hm
    obtain rfl := Option.some.inj hm
    exact sw_zret S hr hlk hz hw trivial dMo_takes0_41
  · refine lv_aload_n S.1 S.2.1 dMo_takes0_30 rfl (lv_at hl 1 rfl) ?_
    refine lv_dup S.1 S.2.1 dMo_takes0_31 rfl ?_
    refine get_Mo (v := .int (μ.1 84 19)) S hw (is_84 hf) 19 (by decide) rfl wf_Mo_201 dMo_takes0_32 ?_
    refine lv_iconst (v := (1 : Int32)) S.1 S.2.1 dMo_takes0_35 (by decide) ?_
    refine lv_iadd S.1 S.2.1 dMo_takes0_36 ?_
    refine put_Mo S hw (is_84 hf) 19 (by decide) ps_Mo_19 rfl rfl rfl wf_Mo_201 hm dMo_takes0_37 (fun μ4 H locs hm hw => ?_)
    refine lv_iload_n S.1 S.2.1 dMo_takes0_40 rfl (lv_at hl 0 rfl) ?_
    obtain ⟨hz, hm⟩ := ob_tz hm
    obtain rfl := Option.some.inj hm
    exact sw_zret S hr hlk hz hw trivial dMo_takes0_41
set_option maxHeartbeats 4000000 in
set_option maxRecDepth 100000 in
theorem cMo_takes0 (l : Launch) (N : Nat) {Γ : sw_C} {A : Nat → Prop} {ξ : sw_x} {g : sw_g} {μ : sw_m} (hf : sw_wf ξ g.2.2) (a1 : Int32) {res : Int32 × sw_m} (hm : fMo_takes0 N μ a1 = some res) : Met l yMo_takes0 (Cond.code yMo_takes0 prog_10_method_40_code 3 (some .boolean) :: sw_tb) rmMo_takes0 (va_Pc [.ref (ξ.2.2.2.1 84), .int a1] (sw_V Γ A ξ g μ)) (sw_Qi Γ A ξ g res.2 res.1 (True)) 0 0 A := by
  refine Met.ofW (cc := prog_10_method_40_code) (maxL := 3) (ret := some .boolean) (by decide) rfl ?_
  intro p e s m args below meth c s₁ B hml hv
  obtain ⟨rfl, hv⟩ := hv
  have S : CallFix p m c prog_10_method_40_code 3 s _ (Cond.code yMo_takes0 prog_10_method_40_code 3 (some .boolean) :: sw_tb) R_Mo := ⟨B.exec, B.bytes, hml, findClass_of_methodNamed B.named, atoms_spec (ws := (Cond.code yMo_takes0 prog_10_method_40_code 3 (some .boolean) :: sw_tb)) B.pre⟩
  have hr := B.returns
  have hlk := B.notSynchronized
  have hw := sw_begin hv
  have hl := lv_entry [.ref (ξ.2.2.2.1 84), .int a1] (n := 3) (Nat.le_of_ble_eq_true rfl)
  rw [lg_entry_eq]
  generalize (lg_sl [.ref (ξ.2.2.2.1 84), .int a1] ++ List.replicate (3 - (lg_sl [.ref (ξ.2.2.2.1 84), .int a1]).length) Slot.unset).toArray = ls at hl ⊢
  have hl : lv_has ls 3 [(0, .ref (ξ.2.2.2.1 84)), (1, .int a1)] := hl
  unfold fMo_takes0 at hm
  refine lv_aload_n S.1 S.2.1 dMo_takes0_0 rfl (lv_at hl 0 rfl) ?_
  obtain ⟨⟨v3, μ2⟩, h1, hm⟩ := ob hm
  refine sw_Vi (q := 84) (rest := []) S hw (cMo_fine l  hf  h1) kMo_fine wm_Mo_197 (is_84 hf).1 (e_Mo (is_84 hf)) rfl rfl rfl rfl hl.1 (Nat.le_of_ble_eq_true rfl) ⟨rfl, rfl, Nat.le_of_ble_eq_true rfl, Nat.le_of_ble_eq_true rfl⟩ ⟨Nat.le_of_ble_eq_true rfl, Nat.le_of_ble_eq_true rfl⟩ dMo_takes0_1 (fun H locs hw _ => ?_)
  refine bif_eq (tgt := 24) S.1 S.2.1 hm dMo_takes0_4 (by decide) (fun hm => ?_) (fun hm => ?_)
  · refine lv_iconst (v := (0 : Int32)) S.1 S.2.1 dMo_takes0_24 (by decide) ?_
    exact wMo_takes0_25 S hr hlk hf N  μ2 (0 : Int32) _ _ _ hm hw (lv_sub hl [0] rfl)
  · refine lv_aload_n S.1 S.2.1 dMo_takes0_7 rfl (lv_at hl 0 rfl) ?_
    refine get_Mo (v := .ref (ξ.2.2.2.1 93)) S hw (is_84 hf) 15 (by decide) rfl wf_Mo_54 dMo_takes0_8 ?_
    refine lv_aload_n S.1 S.2.1 dMo_takes0_11 rfl (lv_at hl 0 rfl) ?_
    refine get_Mo (v := .int (μ2.1 84 19)) S hw (is_84 hf) 19 (by decide) rfl wf_Mo_201 dMo_takes0_12 ?_
    refine sm_iald S hw (is_93 hf) hm dMo_takes0_15 (fun v5 hm => ?_)
    refine lv_iload_n S.1 S.2.1 dMo_takes0_16 rfl (lv_at hl 1 rfl) ?_
    refine bicmp_ne (tgt := 24) S.1 S.2.1 hm dMo_takes0_17 (by decide) (fun hm => ?_) (fun hm => ?_)
    · refine lv_iconst (v := (0 : Int32)) S.1 S.2.1 dMo_takes0_24 (by decide) ?_
      exact wMo_takes0_25 S hr hlk hf N  μ2 (0 : Int32) _ _ _ hm hw (lv_sub hl [0] rfl)
    · refine lv_iconst (v := (1 : Int32)) S.1 S.2.1 dMo_takes0_20 (by decide) ?_
      refine lv_goto (tgt := 25) S.1 S.2.1 dMo_takes0_21 (by decide) ?_
      exact wMo_takes0_25 S hr hlk hf N  μ2 (1 : Int32) _ _ _ hm hw (lv_sub hl [0] rfl)
set_option maxHeartbeats 4000000 in
set_option maxRecDepth 100000 in
theorem cMo_must (l : Launch) (N : Nat) {Γ : sw_C} {A : Nat → Prop} {ξ : sw_x} {g : sw_g} {μ : sw_m} (hf : sw_wf ξ g.2.2) (a1 : Int32) {res : sw_m} (hm : fMo_must N μ a1 = some res) : Met l yMo_must (Cond.code yMo_must prog_10_method_41_code 2 (none) :: sw_tb) rmMo_must (va_Pc [.ref (ξ.2.2.2.1 84), .int a1] (sw_V Γ A ξ g μ)) (sw_Qv Γ A ξ g res (True)) 0 0 A := by
  refine Met.ofW (cc := prog_10_method_41_code) (maxL := 2) (ret := none) (by decide) rfl ?_
  intro p e s m args below meth c s₁ B hml hv
  obtain ⟨rfl, hv⟩ := hv
  have S : CallFix p m c prog_10_method_41_code 2 s _ (Cond.code yMo_must prog_10_method_41_code 2 (none) :: sw_tb) R_Mo := ⟨B.exec, B.bytes, hml, findClass_of_methodNamed B.named, atoms_spec (ws := (Cond.code yMo_must prog_10_method_41_code 2 (none) :: sw_tb)) B.pre⟩
  have hr := B.returns
  have hlk := B.notSynchronized
  have hw := sw_begin hv
  have hl := lv_entry [.ref (ξ.2.2.2.1 84), .int a1] (n := 2) (Nat.le_of_ble_eq_true rfl)
  rw [lg_entry_eq]
  generalize (lg_sl [.ref (ξ.2.2.2.1 84), .int a1] ++ List.replicate (2 - (lg_sl [.ref (ξ.2.2.2.1 84), .int a1]).length) Slot.unset).toArray = ls at hl ⊢
  have hl : lv_has ls 2 [(0, .ref (ξ.2.2.2.1 84)), (1, .int a1)] := hl
  unfold fMo_must at hm
  refine lv_aload_n S.1 S.2.1 dMo_must_0 rfl (lv_at hl 0 rfl) ?_
  refine lv_iload_n S.1 S.2.1 dMo_must_1 rfl (lv_at hl 1 rfl) ?_
  obtain ⟨⟨v3, μ2⟩, h1, hm⟩ := ob hm
  refine sw_Vi (q := 84) (rest := []) S hw (cMo_takes0 l N hf a1 h1) kMo_takes0 wm_Mo_204 (is_84 hf).1 (e_Mo (is_84 hf)) rfl rfl rfl rfl hl.1 (Nat.le_of_ble_eq_true rfl) ⟨rfl, rfl, Nat.le_of_ble_eq_true rfl, Nat.le_of_ble_eq_true rfl⟩ ⟨Nat.le_of_ble_eq_true rfl, Nat.le_of_ble_eq_true rfl⟩ dMo_must_2 (fun H locs hw _ => ?_)
  refine bif_ne (tgt := 12) S.1 S.2.1 hm dMo_must_5 (by decide) (fun hm => ?_) (fun hm => ?_)
  · obtain rfl := Option.some.inj hm
    exact sw_vret S hr hlk hw trivial dMo_must_12
  · refine lv_aload_n S.1 S.2.1 dMo_must_8 rfl (lv_at hl 0 rfl) ?_
    obtain ⟨μ5, h4, hm⟩ := ob hm
    refine sw_Vv (q := 84) (rest := []) S hw (cMo_faults l  hf  h4) kMo_faults wm_Mo_207 (is_84 hf).1 (e_Mo (is_84 hf)) rfl rfl rfl rfl hl.1 (Nat.le_of_ble_eq_true rfl) ⟨rfl, rfl, Nat.le_of_ble_eq_true rfl, Nat.le_of_ble_eq_true rfl⟩ ⟨Nat.le_of_ble_eq_true rfl, Nat.le_of_ble_eq_true rfl⟩ dMo_must_9 (fun H locs hw _ => ?_)
    obtain rfl := Option.some.inj hm
    exact sw_vret S hr hlk hw trivial dMo_must_12
set_option maxHeartbeats 4000000 in
set_option maxRecDepth 100000 in
theorem wMo_leaf_13 {l : Launch} {p : Program} {e : Env} {s : State} {m : MethodId} {args : Array Value} {below : List Frame} {meth : Method} {c : Code} {Γ : sw_C} {A : Nat → Prop} {ξ : sw_x} {g : sw_g} {res : sw_m} (S : CallFix p m c prog_10_method_42_code 1 s args (Cond.code yMo_leaf prog_10_method_42_code 1 (none) :: sw_tb) R_Mo) (hr : meth.sig.returnType = none) (hlk : meth.locks = false) (hf : sw_wf ξ g.2.2) (N : Nat) : ∀ (μ : sw_m)  (H : Heap) (locs : List Loc) (ls : Array Slot), fMo_leaf_13 N   μ = some res → sw_S Γ A ξ g μ s H locs → lv_has ls 1 [(0, .ref (ξ.2.2.2.1 84))] → W p l e (headSpec (Cond.code yMo_leaf prog_10_method_42_code 1 (none) :: sw_tb) rmMo_leaf).room s m args below meth c H locs 0 0 (MQ below (sw_Qv Γ A ξ g res (True)) args s 0 0 A) (F0 m 13 ls []) := by
  intro μ H locs ls hm hw hl
  unfold fMo_leaf_13 at hm
  refine lv_aload_n S.1 S.2.1 dMo_leaf_13 rfl (lv_at hl 0 rfl) ?_
  refine lv_dup S.1 S.2.1 dMo_leaf_14 rfl ?_
  refine get_Mo (v := .int (μ.1 84 20)) S hw (is_84 hf) 20 (by decide) rfl wf_Mo_210 dMo_leaf_15 ?_
  refine lv_iconst (v := (1 : Int32)) S.1 S.2.1 dMo_leaf_18 (by decide) ?_
  refine lv_iadd S.1 S.2.1 dMo_leaf_19 ?_
  refine put_Mo S hw (is_84 hf) 20 (by decide) ps_Mo_20 rfl rfl rfl wf_Mo_210 hm dMo_leaf_20 (fun μ1 H locs hm hw => ?_)
  refine lv_aload_n S.1 S.2.1 dMo_leaf_23 rfl (lv_at hl 0 rfl) ?_
  obtain ⟨⟨v4, μ3⟩, h2, hm⟩ := ob hm
  refine sw_Vi (q := 84) (rest := []) S hw (cMo_fine l  hf  h2) kMo_fine wm_Mo_197 (is_84 hf).1 (e_Mo (is_84 hf)) rfl rfl rfl rfl hl.1 (Nat.le_of_ble_eq_true rfl) ⟨rfl, rfl, Nat.le_of_ble_eq_true rfl, Nat.le_of_ble_eq_true rfl⟩ ⟨Nat.le_of_ble_eq_true rfl, Nat.le_of_ble_eq_true rfl⟩ dMo_leaf_24 (fun H locs hw _ => ?_)
  refine bif_eq (tgt := 40) S.1 S.2.1 hm dMo_leaf_27 (by decide) (fun hm => ?_) (fun hm => ?_)
  · obtain rfl := Option.some.inj hm
    exact sw_vret S hr hlk hw trivial dMo_leaf_40
  · refine lv_aload_n S.1 S.2.1 dMo_leaf_30 rfl (lv_at hl 0 rfl) ?_
    refine lv_dup S.1 S.2.1 dMo_leaf_31 rfl ?_
    refine get_Mo (v := .int (μ3.1 84 19)) S hw (is_84 hf) 19 (by decide) rfl wf_Mo_201 dMo_leaf_32 ?_
    refine lv_iconst (v := (1 : Int32)) S.1 S.2.1 dMo_leaf_35 (by decide) ?_
    refine lv_iadd S.1 S.2.1 dMo_leaf_36 ?_
    refine put_Mo S hw (is_84 hf) 19 (by decide) ps_Mo_19 rfl rfl rfl wf_Mo_201 hm dMo_leaf_37 (fun μ5 H locs hm hw => ?_)
    obtain rfl := Option.some.inj hm
    exact sw_vret S hr hlk hw trivial dMo_leaf_40
set_option maxHeartbeats 4000000 in
set_option maxRecDepth 100000 in
theorem cMo_leaf (l : Launch) (N : Nat) {Γ : sw_C} {A : Nat → Prop} {ξ : sw_x} {g : sw_g} {μ : sw_m} (hf : sw_wf ξ g.2.2) {res : sw_m} (hm : fMo_leaf N μ = some res) : Met l yMo_leaf (Cond.code yMo_leaf prog_10_method_42_code 1 (none) :: sw_tb) rmMo_leaf (va_Pc [.ref (ξ.2.2.2.1 84)] (sw_V Γ A ξ g μ)) (sw_Qv Γ A ξ g res (True)) 0 0 A := by
  refine Met.ofW (cc := prog_10_method_42_code) (maxL := 1) (ret := none) (by decide) rfl ?_
  intro p e s m args below meth c s₁ B hml hv
  obtain ⟨rfl, hv⟩ := hv
  have S : CallFix p m c prog_10_method_42_code 1 s _ (Cond.code yMo_leaf prog_10_method_42_code 1 (none) :: sw_tb) R_Mo := ⟨B.exec, B.bytes, hml, findClass_of_methodNamed B.named, atoms_spec (ws := (Cond.code yMo_leaf prog_10_method_42_code 1 (none) :: sw_tb)) B.pre⟩
  have hr := B.returns
  have hlk := B.notSynchronized
  have hw := sw_begin hv
  have hl := lv_entry [.ref (ξ.2.2.2.1 84)] (n := 1) (Nat.le_of_ble_eq_true rfl)
  rw [lg_entry_eq]
  generalize (lg_sl [.ref (ξ.2.2.2.1 84)] ++ List.replicate (1 - (lg_sl [.ref (ξ.2.2.2.1 84)]).length) Slot.unset).toArray = ls at hl ⊢
  have hl : lv_has ls 1 [(0, .ref (ξ.2.2.2.1 84))] := hl
  unfold fMo_leaf at hm
  refine lv_aload_n S.1 S.2.1 dMo_leaf_0 rfl (lv_at hl 0 rfl) ?_
  refine get_Mo (v := .int (μ.1 84 20)) S hw (is_84 hf) 20 (by decide) rfl wf_Mo_210 dMo_leaf_1 ?_
  refine lv_bipush (v := (50 : Int32)) S.1 S.2.1 dMo_leaf_4 (by decide) ?_
  refine bicmp_ne (tgt := 13) S.1 S.2.1 hm dMo_leaf_6 (by decide) (fun hm => ?_) (fun hm => ?_)
  · exact wMo_leaf_13 S hr hlk hf N  μ _ _ _ hm hw (lv_sub hl [0] rfl)
  · refine lv_aload_n S.1 S.2.1 dMo_leaf_9 rfl (lv_at hl 0 rfl) ?_
    obtain ⟨μ7, h6, hm⟩ := ob hm
    refine sw_Vv (q := 84) (rest := []) S hw (cMo_faults l  hf  h6) kMo_faults wm_Mo_207 (is_84 hf).1 (e_Mo (is_84 hf)) rfl rfl rfl rfl hl.1 (Nat.le_of_ble_eq_true rfl) ⟨rfl, rfl, Nat.le_of_ble_eq_true rfl, Nat.le_of_ble_eq_true rfl⟩ ⟨Nat.le_of_ble_eq_true rfl, Nat.le_of_ble_eq_true rfl⟩ dMo_leaf_10 (fun H locs hw _ => ?_)
    exact wMo_leaf_13 S hr hlk hf N  μ7 _ _ _ hm hw (lv_sub hl [0] rfl)
set_option maxHeartbeats 4000000 in
set_option maxRecDepth 100000 in
theorem cMo_sign (l : Launch) {Γ : sw_C} {A : Nat → Prop} {ξ : sw_x} {g : sw_g} {μ : sw_m} (hf : sw_wf ξ g.2.2) (a1 : Int32) {res : Int32} (hm : fMo_sign a1 = some res) : Met l yMo_sign (Cond.code yMo_sign prog_10_method_43_code 1 (some .int) :: sw_tb) rmMo_sign (va_Pc [.int a1] (sw_V Γ A ξ g μ)) (sw_Qi Γ A ξ g μ res (True)) 0 0 A := by
  refine Met.ofW (cc := prog_10_method_43_code) (maxL := 1) (ret := some .int) (by decide) rfl ?_
  intro p e s m args below meth c s₁ B hml hv
  obtain ⟨rfl, hv⟩ := hv
  have S : CallFix p m c prog_10_method_43_code 1 s _ (Cond.code yMo_sign prog_10_method_43_code 1 (some .int) :: sw_tb) R_Mo := ⟨B.exec, B.bytes, hml, findClass_of_methodNamed B.named, atoms_spec (ws := (Cond.code yMo_sign prog_10_method_43_code 1 (some .int) :: sw_tb)) B.pre⟩
  have hr := B.returns
  have hlk := B.notSynchronized
  have hw := sw_begin hv
  have hl := lv_entry [.int a1] (n := 1) (Nat.le_of_ble_eq_true rfl)
  rw [lg_entry_eq]
  generalize (lg_sl [.int a1] ++ List.replicate (1 - (lg_sl [.int a1]).length) Slot.unset).toArray = ls at hl ⊢
  have hl : lv_has ls 1 [(0, .int a1)] := hl
  unfold fMo_sign at hm
  refine lv_bipush (v := (100 : Int32)) S.1 S.2.1 dMo_sign_0 (by decide) ?_
  refine lv_iload_n S.1 S.2.1 dMo_sign_2 rfl (lv_at hl 0 rfl) ?_
  refine lv_iadd S.1 S.2.1 dMo_sign_3 ?_
  obtain rfl := Option.some.inj hm
  exact sw_iret S hr hlk hw trivial dMo_sign_4
set_option maxHeartbeats 4000000 in
set_option maxRecDepth 100000 in
theorem wMo_mustNumber_42 {l : Launch} {p : Program} {e : Env} {s : State} {m : MethodId} {args : Array Value} {below : List Frame} {meth : Method} {c : Code} {Γ : sw_C} {A : Nat → Prop} {ξ : sw_x} {g : sw_g} {res : sw_m} (S : CallFix p m c prog_10_method_44_code 3 s args (Cond.code yMo_mustNumber prog_10_method_44_code 3 (none) :: sw_tb) R_Mo) (hr : meth.sig.returnType = none) (hlk : meth.locks = false) (hf : sw_wf ξ g.2.2) (N : Nat) : ∀ (μ : sw_m)  (H : Heap) (locs : List Loc) (ls : Array Slot), fMo_mustNumber_42 N   μ = some res → sw_S Γ A ξ g μ s H locs → lv_has ls 3 [(0, .ref (ξ.2.2.2.1 84))] → W p l e (headSpec (Cond.code yMo_mustNumber prog_10_method_44_code 3 (none) :: sw_tb) rmMo_mustNumber).room s m args below meth c H locs 0 0 (MQ below (sw_Qv Γ A ξ g res (True)) args s 0 0 A) (F0 m 42 ls []) := by
  intro μ H locs ls hm hw hl
  unfold fMo_mustNumber_42 at hm
  refine lv_aload_n S.1 S.2.1 dMo_mustNumber_42 rfl (lv_at hl 0 rfl) ?_
  obtain ⟨⟨v6, μ5⟩, h4, hm⟩ := ob hm
  refine sw_Vi (q := 84) (rest := []) S hw (cMo_fine l  hf  h4) kMo_fine wm_Mo_197 (is_84 hf).1 (e_Mo (is_84 hf)) rfl rfl rfl rfl hl.1 (Nat.le_of_ble_eq_true rfl) ⟨rfl, rfl, Nat.le_of_ble_eq_true rfl, Nat.le_of_ble_eq_true rfl⟩ ⟨Nat.le_of_ble_eq_true rfl, Nat.le_of_ble_eq_true rfl⟩ dMo_mustNumber_43 (fun H locs hw _ => ?_)
  refine bif_eq (tgt := 59) S.1 S.2.1 hm dMo_mustNumber_46 (by decide) (fun hm => ?_) (fun hm => ?_)
  · obtain rfl := Option.some.inj hm
    exact sw_vret S hr hlk hw trivial dMo_mustNumber_59
  · refine lv_aload_n S.1 S.2.1 dMo_mustNumber_49 rfl (lv_at hl 0 rfl) ?_
    refine lv_dup S.1 S.2.1 dMo_mustNumber_50 rfl ?_
    refine get_Mo (v := .int (μ5.1 84 19)) S hw (is_84 hf) 19 (by decide) rfl wf_Mo_201 dMo_mustNumber_51 ?_
    refine lv_iconst (v := (1 : Int32)) S.1 S.2.1 dMo_mustNumber_54 (by decide) ?_
    refine lv_iadd S.1 S.2.1 dMo_mustNumber_55 ?_
    refine put_Mo S hw (is_84 hf) 19 (by decide) ps_Mo_19 rfl rfl rfl wf_Mo_201 hm dMo_mustNumber_56 (fun μ7 H locs hm hw => ?_)
    obtain rfl := Option.some.inj hm
    exact sw_vret S hr hlk hw trivial dMo_mustNumber_59
set_option maxHeartbeats 4000000 in
set_option maxRecDepth 100000 in
theorem wMo_mustNumber_38 {l : Launch} {p : Program} {e : Env} {s : State} {m : MethodId} {args : Array Value} {below : List Frame} {meth : Method} {c : Code} {Γ : sw_C} {A : Nat → Prop} {ξ : sw_x} {g : sw_g} {res : sw_m} (S : CallFix p m c prog_10_method_44_code 3 s args (Cond.code yMo_mustNumber prog_10_method_44_code 3 (none) :: sw_tb) R_Mo) (hr : meth.sig.returnType = none) (hlk : meth.locks = false) (hf : sw_wf ξ g.2.2) (N : Nat) : ∀ (μ : sw_m)  (H : Heap) (locs : List Loc) (ls : Array Slot), fMo_mustNumber_38 N   μ = some res → sw_S Γ A ξ g μ s H locs → lv_has ls 3 [(0, .ref (ξ.2.2.2.1 84))] → W p l e (headSpec (Cond.code yMo_mustNumber prog_10_method_44_code 3 (none) :: sw_tb) rmMo_mustNumber).room s m args below meth c H locs 0 0 (MQ below (sw_Qv Γ A ξ g res (True)) args s 0 0 A) (F0 m 38 ls []) := by
  intro μ H locs ls hm hw hl
  unfold fMo_mustNumber_38 at hm
  refine lv_aload_n S.1 S.2.1 dMo_mustNumber_38 rfl (lv_at hl 0 rfl) ?_
  obtain ⟨μ10, h9, hm⟩ := ob hm
  refine sw_Vv (q := 84) (rest := []) S hw (cMo_faults l  hf  h9) kMo_faults wm_Mo_207 (is_84 hf).1 (e_Mo (is_84 hf)) rfl rfl rfl rfl hl.1 (Nat.le_of_ble_eq_true rfl) ⟨rfl, rfl, Nat.le_of_ble_eq_true rfl, Nat.le_of_ble_eq_true rfl⟩ ⟨Nat.le_of_ble_eq_true rfl, Nat.le_of_ble_eq_true rfl⟩ dMo_mustNumber_39 (fun H locs hw _ => ?_)
  exact wMo_mustNumber_42 S hr hlk hf N  μ10 _ _ _ hm hw (lv_sub hl [0] rfl)
set_option maxHeartbeats 4000000 in
set_option maxRecDepth 100000 in
theorem cMo_mustNumber (l : Launch) (N : Nat) {Γ : sw_C} {A : Nat → Prop} {ξ : sw_x} {g : sw_g} {μ : sw_m} (hf : sw_wf ξ g.2.2) (a1 : Int32) (a2 : Int32) {res : sw_m} (hm : fMo_mustNumber N μ a1 a2 = some res) : Met l yMo_mustNumber (Cond.code yMo_mustNumber prog_10_method_44_code 3 (none) :: sw_tb) rmMo_mustNumber (va_Pc [.ref (ξ.2.2.2.1 84), .int a1, .int a2] (sw_V Γ A ξ g μ)) (sw_Qv Γ A ξ g res (True)) 0 0 A := by
  refine Met.ofW (cc := prog_10_method_44_code) (maxL := 3) (ret := none) (by decide) rfl ?_
  intro p e s m args below meth c s₁ B hml hv
  obtain ⟨rfl, hv⟩ := hv
  have S : CallFix p m c prog_10_method_44_code 3 s _ (Cond.code yMo_mustNumber prog_10_method_44_code 3 (none) :: sw_tb) R_Mo := ⟨B.exec, B.bytes, hml, findClass_of_methodNamed B.named, atoms_spec (ws := (Cond.code yMo_mustNumber prog_10_method_44_code 3 (none) :: sw_tb)) B.pre⟩
  have hr := B.returns
  have hlk := B.notSynchronized
  have hw := sw_begin hv
  have hl := lv_entry [.ref (ξ.2.2.2.1 84), .int a1, .int a2] (n := 3) (Nat.le_of_ble_eq_true rfl)
  rw [lg_entry_eq]
  generalize (lg_sl [.ref (ξ.2.2.2.1 84), .int a1, .int a2] ++ List.replicate (3 - (lg_sl [.ref (ξ.2.2.2.1 84), .int a1, .int a2]).length) Slot.unset).toArray = ls at hl ⊢
  have hl : lv_has ls 3 [(0, .ref (ξ.2.2.2.1 84)), (1, .int a1), (2, .int a2)] := hl
  unfold fMo_mustNumber at hm
  refine lv_aload_n S.1 S.2.1 dMo_mustNumber_0 rfl (lv_at hl 0 rfl) ?_
  obtain ⟨⟨v3, μ2⟩, h1, hm⟩ := ob hm
  refine sw_Vi (q := 84) (rest := []) S hw (cMo_fine l  hf  h1) kMo_fine wm_Mo_197 (is_84 hf).1 (e_Mo (is_84 hf)) rfl rfl rfl rfl hl.1 (Nat.le_of_ble_eq_true rfl) ⟨rfl, rfl, Nat.le_of_ble_eq_true rfl, Nat.le_of_ble_eq_true rfl⟩ ⟨Nat.le_of_ble_eq_true rfl, Nat.le_of_ble_eq_true rfl⟩ dMo_mustNumber_1 (fun H locs hw _ => ?_)
  refine bif_eq (tgt := 42) S.1 S.2.1 hm dMo_mustNumber_4 (by decide) (fun hm => ?_) (fun hm => ?_)
  · exact wMo_mustNumber_42 S hr hlk hf N  μ2 _ _ _ hm hw (lv_sub hl [0] rfl)
  · refine lv_aload_n S.1 S.2.1 dMo_mustNumber_7 rfl (lv_at hl 0 rfl) ?_
    refine get_Mo (v := .ref (ξ.2.2.2.1 93)) S hw (is_84 hf) 15 (by decide) rfl wf_Mo_54 dMo_mustNumber_8 ?_
    refine lv_aload_n S.1 S.2.1 dMo_mustNumber_11 rfl (lv_at hl 0 rfl) ?_
    refine get_Mo (v := .int (μ2.1 84 19)) S hw (is_84 hf) 19 (by decide) rfl wf_Mo_201 dMo_mustNumber_12 ?_
    refine sm_iald S hw (is_93 hf) hm dMo_mustNumber_15 (fun v8 hm => ?_)
    refine lv_bipush (v := (50 : Int32)) S.1 S.2.1 dMo_mustNumber_16 (by decide) ?_
    refine bicmp_ne (tgt := 38) S.1 S.2.1 hm dMo_mustNumber_18 (by decide) (fun hm => ?_) (fun hm => ?_)
    · exact wMo_mustNumber_38 S hr hlk hf N  μ2 _ _ _ hm hw (lv_sub hl [0] rfl)
    · refine lv_aload_n S.1 S.2.1 dMo_mustNumber_21 rfl (lv_at hl 0 rfl) ?_
      refine get_Mo (v := .ref (ξ.2.2.2.1 94)) S hw (is_84 hf) 16 (by decide) rfl wf_Mo_57 dMo_mustNumber_22 ?_
      refine lv_aload_n S.1 S.2.1 dMo_mustNumber_25 rfl (lv_at hl 0 rfl) ?_
      refine get_Mo (v := .int (μ2.1 84 19)) S hw (is_84 hf) 19 (by decide) rfl wf_Mo_201 dMo_mustNumber_26 ?_
      refine sm_iald S hw (is_94 hf) hm dMo_mustNumber_29 (fun v11 hm => ?_)
      refine lv_iload_n S.1 S.2.1 dMo_mustNumber_30 rfl (lv_at hl 1 rfl) ?_
      refine lv_iload_n S.1 S.2.1 dMo_mustNumber_31 rfl (lv_at hl 2 rfl) ?_
      obtain ⟨v13, h12, hm⟩ := ob hm
      refine sw_Si (rest := []) S hw (cMo_lies l  hf v11 a1 a2 h12) kMo_lies wm_Mo_18 rfl rfl hl.1 (Nat.le_of_ble_eq_true rfl) ⟨rfl, rfl, Nat.le_of_ble_eq_true rfl, Nat.le_of_ble_eq_true rfl⟩ ⟨Nat.le_of_ble_eq_true rfl, Nat.le_of_ble_eq_true rfl⟩ dMo_mustNumber_32 (fun H locs hw _ => ?_)
      refine bif_ne (tgt := 42) S.1 S.2.1 hm dMo_mustNumber_35 (by decide) (fun hm => ?_) (fun hm => ?_)
      · exact wMo_mustNumber_42 S hr hlk hf N  μ2 _ _ _ hm hw (lv_sub hl [0] rfl)
      · exact wMo_mustNumber_38 S hr hlk hf N  μ2 _ _ _ hm hw (lv_sub hl [0] rfl)
set_option maxHeartbeats 4000000 in
set_option maxRecDepth 100000 in
theorem wMo_readPart_134 {l : Launch} {p : Program} {e : Env} {s : State} {m : MethodId} {args : Array Value} {below : List Frame} {meth : Method} {c : Code} {Γ : sw_C} {A : Nat → Prop} {ξ : sw_x} {g : sw_g} {res : sw_m} (S : CallFix p m c prog_10_method_54_code 3 s args (Cond.code yMo_readPart prog_10_method_54_code 3 (none) :: sw_tb) R_Mo) (hr : meth.sig.returnType = none) (hlk : meth.locks = false) (hf : sw_wf ξ g.2.2) (rc : sw_m → Int32 → Option (sw_m)) (rr : Room) (hr0 : rr.cells = 0 ∧ rr.slots = 0) (hrc : ∀ {Γ : sw_C} {A : Nat → Prop} {ξ : sw_x} {g : sw_g} {μ : sw_m} (hf : sw_wf ξ g.2.2) (a1 : Int32) {res : sw_m}, rc μ a1 = some res → Met l yMo_readSum (Cond.code yMo_readSum prog_10_method_52_code 2 (none) :: sw_tb) rr (va_Pc [.ref (ξ.2.2.2.1 84), .int a1] (sw_V Γ A ξ g μ)) (sw_Qv Γ A ξ g res (True)) 0 0 A) (N : Nat) : ∀ (μ : sw_m)  (H : Heap) (locs : List Loc) (ls : Array Slot), fMo_readPart_134 N rc  μ = some res → sw_S Γ A ξ g μ s H locs → lv_has ls 3 [(0, .ref (ξ.2.2.2.1 84))] → W p l e (headSpec (Cond.code yMo_readPart prog_10_method_54_code 3 (none) :: sw_tb) (rgMo_readPart rr)).room s m args below meth c H locs 0 0 (MQ below (sw_Qv Γ A ξ g res (True)) args s 0 0 A) (F0 m 134 ls []) := by
  intro μ H locs ls hm hw hl
  unfold fMo_readPart_134 at hm
  refine lv_aload_n S.1 S.2.1 dMo_readPart_134 rfl (lv_at hl 0 rfl) ?_
  refine lv_iconst (v := (0 : Int32)) S.1 S.2.1 dMo_readPart_135 (by decide) ?_
  refine lv_bipush (v := (6 : Int32)) S.1 S.2.1 dMo_readPart_136 (by decide) ?_
  obtain ⟨μ12, h11, hm⟩ := ob hm
  refine sw_Vv (q := 84) (rest := []) S hw (cMo_mustNumber l N hf (0 : Int32) (6 : Int32) h11) kMo_mustNumber wm_Mo_226 (is_84 hf).1 (e_Mo (is_84 hf)) rfl rfl rfl rfl hl.1 (Nat.le_of_ble_eq_true rfl) ⟨rfl, rfl, by show 2 + 1 ≤ rr.frames + _; omega, by show 8 + (3 + 11) + 40 ≤ rr.locals + _; omega⟩ ⟨Nat.le_of_ble_eq_true rfl, Nat.le_of_ble_eq_true rfl⟩ dMo_readPart_138 (fun H locs hw _ => ?_)
  refine lv_goto (tgt := 148) S.1 S.2.1 dMo_readPart_141 (by decide) ?_
  obtain rfl := Option.some.inj hm
  exact sw_vret S hr hlk hw trivial dMo_readPart_148
set_option maxHeartbeats 4000000 in
set_option maxRecDepth 100000 in
theorem wMo_readPart_111 {l : Launch} {p : Program} {e : Env} {s : State} {m : MethodId} {args : Array Value} {below : List Frame} {meth : Method} {c : Code} {Γ : sw_C} {A : Nat → Prop} {ξ : sw_x} {g : sw_g} {res : sw_m} (S : CallFix p m c prog_10_method_54_code 3 s args (Cond.code yMo_readPart prog_10_method_54_code 3 (none) :: sw_tb) R_Mo) (hr : meth.sig.returnType = none) (hlk : meth.locks = false) (hf : sw_wf ξ g.2.2) (rc : sw_m → Int32 → Option (sw_m)) (rr : Room) (hr0 : rr.cells = 0 ∧ rr.slots = 0) (hrc : ∀ {Γ : sw_C} {A : Nat → Prop} {ξ : sw_x} {g : sw_g} {μ : sw_m} (hf : sw_wf ξ g.2.2) (a1 : Int32) {res : sw_m}, rc μ a1 = some res → Met l yMo_readSum (Cond.code yMo_readSum prog_10_method_52_code 2 (none) :: sw_tb) rr (va_Pc [.ref (ξ.2.2.2.1 84), .int a1] (sw_V Γ A ξ g μ)) (sw_Qv Γ A ξ g res (True)) 0 0 A) (N : Nat) : ∀ (μ : sw_m) (u2 : Int32) (H : Heap) (locs : List Loc) (ls : Array Slot), fMo_readPart_111 N rc  μ u2 = some res → sw_S Γ A ξ g μ s H locs → lv_has ls 3 [(0, .ref (ξ.2.2.2.1 84)), (2, .int u2)] → W p l e (headSpec (Cond.code yMo_readPart prog_10_method_54_code 3 (none) :: sw_tb) (rgMo_readPart rr)).room s m args below meth c H locs 0 0 (MQ below (sw_Qv Γ A ξ g res (True)) args s 0 0 A) (F0 m 111 ls []) := by
  intro μ u2 H locs ls hm hw hl
  unfold fMo_readPart_111 at hm
  refine lv_aload_n S.1 S.2.1 dMo_readPart_111 rfl (lv_at hl 0 rfl) ?_
  obtain ⟨μ10, h9, hm⟩ := ob hm
  refine sw_Vv (q := 84) (rest := []) S hw (cMo_leaf l N hf  h9) kMo_leaf wm_Mo_261 (is_84 hf).1 (e_Mo (is_84 hf)) rfl rfl rfl rfl hl.1 (Nat.le_of_ble_eq_true rfl) ⟨rfl, rfl, by show 2 + 1 ≤ rr.frames + _; omega, by show 8 + (1 + 11) + 40 ≤ rr.locals + _; omega⟩ ⟨Nat.le_of_ble_eq_true rfl, Nat.le_of_ble_eq_true rfl⟩ dMo_readPart_112 (fun H locs hw _ => ?_)
  refine lv_aload_n S.1 S.2.1 dMo_readPart_115 rfl (lv_at hl 0 rfl) ?_
  refine get_Mo (v := .int (μ10.1 84 10)) S hw (is_84 hf) 10 (by decide) rfl wf_Mo_229 dMo_readPart_116 ?_
  refine bif_eq (tgt := 148) S.1 S.2.1 hm dMo_readPart_119 (by decide) (fun hm => ?_) (fun hm => ?_)
  · obtain rfl := Option.some.inj hm
    exact sw_vret S hr hlk hw trivial dMo_readPart_148
  · refine lv_iload_n S.1 S.2.1 dMo_readPart_122 rfl (lv_at hl 1 rfl) ?_
    refine lv_bipush (v := (14 : Int32)) S.1 S.2.1 dMo_readPart_123 (by decide) ?_
    refine bicmp_eq (tgt := 134) S.1 S.2.1 hm dMo_readPart_125 (by decide) (fun hm => ?_) (fun hm => ?_)
    · exact wMo_readPart_134 S hr hlk hf rc rr hr0 hrc N  μ10 _ _ _ hm hw (lv_sub hl [0] rfl)
    · refine lv_iload_n S.1 S.2.1 dMo_readPart_128 rfl (lv_at hl 1 rfl) ?_
      refine lv_bipush (v := (20 : Int32)) S.1 S.2.1 dMo_readPart_129 (by decide) ?_
      refine bicmp_ne (tgt := 148) S.1 S.2.1 hm dMo_readPart_131 (by decide) (fun hm => ?_) (fun hm => ?_)
      · obtain rfl := Option.some.inj hm
        exact sw_vret S hr hlk hw trivial dMo_readPart_148
      · exact wMo_readPart_134 S hr hlk hf rc rr hr0 hrc N  μ10 _ _ _ hm hw (lv_sub hl [0] rfl)
set_option maxHeartbeats 4000000 in
set_option maxRecDepth 100000 in
theorem wMo_readPart_144 {l : Launch} {p : Program} {e : Env} {s : State} {m : MethodId} {args : Array Value} {below : List Frame} {meth : Method} {c : Code} {Γ : sw_C} {A : Nat → Prop} {ξ : sw_x} {g : sw_g} {res : sw_m} (S : CallFix p m c prog_10_method_54_code 3 s args (Cond.code yMo_readPart prog_10_method_54_code 3 (none) :: sw_tb) R_Mo) (hr : meth.sig.returnType = none) (hlk : meth.locks = false) (hf : sw_wf ξ g.2.2) (rc : sw_m → Int32 → Option (sw_m)) (rr : Room) (hr0 : rr.cells = 0 ∧ rr.slots = 0) (hrc : ∀ {Γ : sw_C} {A : Nat → Prop} {ξ : sw_x} {g : sw_g} {μ : sw_m} (hf : sw_wf ξ g.2.2) (a1 : Int32) {res : sw_m}, rc μ a1 = some res → Met l yMo_readSum (Cond.code yMo_readSum prog_10_method_52_code 2 (none) :: sw_tb) rr (va_Pc [.ref (ξ.2.2.2.1 84), .int a1] (sw_V Γ A ξ g μ)) (sw_Qv Γ A ξ g res (True)) 0 0 A) (N : Nat) : ∀ (μ : sw_m)  (H : Heap) (locs : List Loc) (ls : Array Slot), fMo_readPart_144 N rc  μ = some res → sw_S Γ A ξ g μ s H locs → lv_has ls 3 [(0, .ref (ξ.2.2.2.1 84))] → W p l e (headSpec (Cond.code yMo_readPart prog_10_method_54_code 3 (none) :: sw_tb) (rgMo_readPart rr)).room s m args below meth c H locs 0 0 (MQ below (sw_Qv Γ A ξ g res (True)) args s 0 0 A) (F0 m 144 ls []) := by
  intro μ H locs ls hm hw hl
  unfold fMo_readPart_144 at hm
  refine lv_aload_n S.1 S.2.1 dMo_readPart_144 rfl (lv_at hl 0 rfl) ?_
  obtain ⟨μ8, h7, hm⟩ := ob hm
  refine sw_Vv (q := 84) (rest := []) S hw (cMo_faults l  hf  h7) kMo_faults wm_Mo_207 (is_84 hf).1 (e_Mo (is_84 hf)) rfl rfl rfl rfl hl.1 (Nat.le_of_ble_eq_true rfl) ⟨rfl, rfl, by show 1 + 1 ≤ rr.frames + _; omega, by show 8 + (1 + 11) + 20 ≤ rr.locals + _; omega⟩ ⟨Nat.le_of_ble_eq_true rfl, Nat.le_of_ble_eq_true rfl⟩ dMo_readPart_145 (fun H locs hw _ => ?_)
  obtain rfl := Option.some.inj hm
  exact sw_vret S hr hlk hw trivial dMo_readPart_148
set_option maxHeartbeats 4000000 in
set_option maxRecDepth 100000 in
theorem wMo_readPart_95 {l : Launch} {p : Program} {e : Env} {s : State} {m : MethodId} {args : Array Value} {below : List Frame} {meth : Method} {c : Code} {Γ : sw_C} {A : Nat → Prop} {ξ : sw_x} {g : sw_g} {res : sw_m} (S : CallFix p m c prog_10_method_54_code 3 s args (Cond.code yMo_readPart prog_10_method_54_code 3 (none) :: sw_tb) R_Mo) (hr : meth.sig.returnType = none) (hlk : meth.locks = false) (hf : sw_wf ξ g.2.2) (rc : sw_m → Int32 → Option (sw_m)) (rr : Room) (hr0 : rr.cells = 0 ∧ rr.slots = 0) (hrc : ∀ {Γ : sw_C} {A : Nat → Prop} {ξ : sw_x} {g : sw_g} {μ : sw_m} (hf : sw_wf ξ g.2.2) (a1 : Int32) {res : sw_m}, rc μ a1 = some res → Met l yMo_readSum (Cond.code yMo_readSum prog_10_method_52_code 2 (none) :: sw_tb) rr (va_Pc [.ref (ξ.2.2.2.1 84), .int a1] (sw_V Γ A ξ g μ)) (sw_Qv Γ A ξ g res (True)) 0 0 A) (N : Nat) : ∀ (μ : sw_m) (u2 : Int32) (H : Heap) (locs : List Loc) (ls : Array Slot), fMo_readPart_95 N rc  μ u2 = some res → sw_S Γ A ξ g μ s H locs → lv_has ls 3 [(0, .ref (ξ.2.2.2.1 84)), (2, .int u2)] → W p l e (headSpec (Cond.code yMo_readPart prog_10_method_54_code 3 (none) :: sw_tb) (rgMo_readPart rr)).room s m args below meth c H locs 0 0 (MQ below (sw_Qv Γ A ξ g res (True)) args s 0 0 A) (F0 m 95 ls []) := by
  intro μ u2 H locs ls hm hw hl
  unfold fMo_readPart_95 at hm
  refine lv_iload_n S.1 S.2.1 dMo_readPart_95 rfl (lv_at hl 1 rfl) ?_
  refine lv_aload_n S.1 S.2.1 dMo_readPart_96 rfl (lv_at hl 0 rfl) ?_
  refine get_Mo (v := .int (μ.1 84 8)) S hw (is_84 hf) 8 (by decide) rfl wf_Mo_255 dMo_readPart_97 ?_
  refine bicmp_lt (tgt := 144) S.1 S.2.1 hm dMo_readPart_100 (by decide) (fun hm => ?_) (fun hm => ?_)
  · exact wMo_readPart_144 S hr hlk hf rc rr hr0 hrc N  μ _ _ _ hm hw (lv_sub hl [0] rfl)
  · refine lv_iload_n S.1 S.2.1 dMo_readPart_103 rfl (lv_at hl 1 rfl) ?_
    refine lv_aload_n S.1 S.2.1 dMo_readPart_104 rfl (lv_at hl 0 rfl) ?_
    refine get_Mo (v := .int (μ.1 84 9)) S hw (is_84 hf) 9 (by decide) rfl wf_Mo_258 dMo_readPart_105 ?_
    refine bicmp_gt (tgt := 144) S.1 S.2.1 hm dMo_readPart_108 (by decide) (fun hm => ?_) (fun hm => ?_)
    · exact wMo_readPart_144 S hr hlk hf rc rr hr0 hrc N  μ _ _ _ hm hw (lv_sub hl [0] rfl)
    · exact wMo_readPart_111 S hr hlk hf rc rr hr0 hrc N  μ u2 _ _ _ hm hw (lv_sub hl [0, 1] rfl)
set_option maxHeartbeats 4000000 in
set_option maxRecDepth 100000 in
theorem wMo_readPart_37 {l : Launch} {p : Program} {e : Env} {s : State} {m : MethodId} {args : Array Value} {below : List Frame} {meth : Method} {c : Code} {Γ : sw_C} {A : Nat → Prop} {ξ : sw_x} {g : sw_g} {res : sw_m} (S : CallFix p m c prog_10_method_54_code 3 s args (Cond.code yMo_readPart prog_10_method_54_code 3 (none) :: sw_tb) R_Mo) (hr : meth.sig.returnType = none) (hlk : meth.locks = false) (hf : sw_wf ξ g.2.2) (rc : sw_m → Int32 → Option (sw_m)) (rr : Room) (hr0 : rr.cells = 0 ∧ rr.slots = 0) (hrc : ∀ {Γ : sw_C} {A : Nat → Prop} {ξ : sw_x} {g : sw_g} {μ : sw_m} (hf : sw_wf ξ g.2.2) (a1 : Int32) {res : sw_m}, rc μ a1 = some res → Met l yMo_readSum (Cond.code yMo_readSum prog_10_method_52_code 2 (none) :: sw_tb) rr (va_Pc [.ref (ξ.2.2.2.1 84), .int a1] (sw_V Γ A ξ g μ)) (sw_Qv Γ A ξ g res (True)) 0 0 A) (N : Nat) : ∀ (μ : sw_m) (u1 : Int32) (H : Heap) (locs : List Loc) (ls : Array Slot), fMo_readPart_37 N rc  μ u1 = some res → sw_S Γ A ξ g μ s H locs → lv_has ls 3 [(0, .ref (ξ.2.2.2.1 84)), (1, .int u1)] → W p l e (headSpec (Cond.code yMo_readPart prog_10_method_54_code 3 (none) :: sw_tb) (rgMo_readPart rr)).room s m args below meth c H locs 0 0 (MQ below (sw_Qv Γ A ξ g res (True)) args s 0 0 A) (F0 m 37 ls []) := by
  intro μ u1 H locs ls hm hw hl
  unfold fMo_readPart_37 at hm
  refine lv_aload_n S.1 S.2.1 dMo_readPart_37 rfl (lv_at hl 0 rfl) ?_
  obtain ⟨⟨v16, μ15⟩, h14, hm⟩ := ob hm
  refine sw_Vi (q := 84) (rest := []) S hw (cMo_fine l  hf  h14) kMo_fine wm_Mo_197 (is_84 hf).1 (e_Mo (is_84 hf)) rfl rfl rfl rfl hl.1 (Nat.le_of_ble_eq_true rfl) ⟨rfl, rfl, by show 0 + 1 ≤ rr.frames + _; omega, by show 8 + (1 + 11) + 0 ≤ rr.locals + _; omega⟩ ⟨Nat.le_of_ble_eq_true rfl, Nat.le_of_ble_eq_true rfl⟩ dMo_readPart_38 (fun H locs hw _ => ?_)
  refine bif_ne (tgt := 45) S.1 S.2.1 hm dMo_readPart_41 (by decide) (fun hm => ?_) (fun hm => ?_)
  · refine lv_aload_n S.1 S.2.1 dMo_readPart_45 rfl (lv_at hl 0 rfl) ?_
    refine lv_dup S.1 S.2.1 dMo_readPart_46 rfl ?_
    refine get_Mo (v := .int (μ15.1 84 19)) S hw (is_84 hf) 19 (by decide) rfl wf_Mo_201 dMo_readPart_47 ?_
    refine lv_iconst (v := (1 : Int32)) S.1 S.2.1 dMo_readPart_50 (by decide) ?_
    refine lv_iadd S.1 S.2.1 dMo_readPart_51 ?_
    refine put_Mo S hw (is_84 hf) 19 (by decide) ps_Mo_19 rfl rfl rfl wf_Mo_201 hm dMo_readPart_52 (fun μ17 H locs hm hw => ?_)
    refine lv_aload_n S.1 S.2.1 dMo_readPart_55 rfl (lv_at hl 0 rfl) ?_
    refine lv_iload_n S.1 S.2.1 dMo_readPart_56 rfl (lv_at hl 1 rfl) ?_
    refine lv_iconst (v := (1 : Int32)) S.1 S.2.1 dMo_readPart_57 (by decide) ?_
    refine lv_iadd S.1 S.2.1 dMo_readPart_58 ?_
    obtain ⟨μ19, h18, hm⟩ := ob hm
    refine sw_Vv (q := 84) (rest := []) S hw (hrc hf (u1 + (1 : Int32)) h18) kMo_readSum wm_Mo_213 (is_84 hf).1 (e_Mo (is_84 hf)) rfl rfl rfl rfl hl.1 (Nat.le_of_ble_eq_true rfl) ⟨hr0.1, hr0.2, by show rr.frames + 1 ≤ rr.frames + _; omega, by show 8 + (2 + 11) + rr.locals ≤ rr.locals + _; omega⟩ ⟨Nat.le_of_ble_eq_true rfl, Nat.le_of_ble_eq_true rfl⟩ dMo_readPart_59 (fun H locs hw _ => ?_)
    refine lv_aload_n S.1 S.2.1 dMo_readPart_62 rfl (lv_at hl 0 rfl) ?_
    refine lv_bipush (v := (93 : Int32)) S.1 S.2.1 dMo_readPart_63 (by decide) ?_
    obtain ⟨v21, h20, hm⟩ := ob hm
    refine sw_Si (rest := [.ref (ξ.2.2.2.1 84)]) S hw (cMo_sign l  hf (93 : Int32) h20) kMo_sign wm_Mo_245 rfl rfl hl.1 (Nat.le_of_ble_eq_true rfl) ⟨rfl, rfl, by show 0 + 1 ≤ rr.frames + _; omega, by show 8 + (1 + 11) + 0 ≤ rr.locals + _; omega⟩ ⟨Nat.le_of_ble_eq_true rfl, Nat.le_of_ble_eq_true rfl⟩ dMo_readPart_65 (fun H locs hw _ => ?_)
    obtain ⟨μ23, h22, hm⟩ := ob hm
    refine sw_Vv (q := 84) (rest := []) S hw (cMo_must l N hf v21 h22) kMo_must wm_Mo_217 (is_84 hf).1 (e_Mo (is_84 hf)) rfl rfl rfl rfl hl.1 (Nat.le_of_ble_eq_true rfl) ⟨rfl, rfl, by show 2 + 1 ≤ rr.frames + _; omega, by show 8 + (2 + 11) + 42 ≤ rr.locals + _; omega⟩ ⟨Nat.le_of_ble_eq_true rfl, Nat.le_of_ble_eq_true rfl⟩ dMo_readPart_68 (fun H locs hw _ => ?_)
    refine lv_goto (tgt := 148) S.1 S.2.1 dMo_readPart_71 (by decide) ?_
    obtain rfl := Option.some.inj hm
    exact sw_vret S hr hlk hw trivial dMo_readPart_148
  · obtain rfl := Option.some.inj hm
    exact sw_vret S hr hlk hw trivial dMo_readPart_44
set_option maxHeartbeats 4000000 in
set_option maxRecDepth 100000 in
theorem cMo_readPart (l : Launch) (N : Nat) (rc : sw_m → Int32 → Option (sw_m)) (rr : Room) (hr0 : rr.cells = 0 ∧ rr.slots = 0) (hrc : ∀ {Γ : sw_C} {A : Nat → Prop} {ξ : sw_x} {g : sw_g} {μ : sw_m} (hf : sw_wf ξ g.2.2) (a1 : Int32) {res : sw_m}, rc μ a1 = some res → Met l yMo_readSum (Cond.code yMo_readSum prog_10_method_52_code 2 (none) :: sw_tb) rr (va_Pc [.ref (ξ.2.2.2.1 84), .int a1] (sw_V Γ A ξ g μ)) (sw_Qv Γ A ξ g res (True)) 0 0 A) {Γ : sw_C} {A : Nat → Prop} {ξ : sw_x} {g : sw_g} {μ : sw_m} (hf : sw_wf ξ g.2.2) (a1 : Int32) {res : sw_m} (hm : fMo_readPart N rc μ a1 = some res) : Met l yMo_readPart (Cond.code yMo_readPart prog_10_method_54_code 3 (none) :: sw_tb) (rgMo_readPart rr) (va_Pc [.ref (ξ.2.2.2.1 84), .int a1] (sw_V Γ A ξ g μ)) (sw_Qv Γ A ξ g res (True)) 0 0 A := by
  refine Met.ofW (cc := prog_10_method_54_code) (maxL := 3) (ret := none) (by decide) rfl ?_
  intro p e s m args below meth c s₁ B hml hv
  obtain ⟨rfl, hv⟩ := hv
  have S : CallFix p m c prog_10_method_54_code 3 s _ (Cond.code yMo_readPart prog_10_method_54_code 3 (none) :: sw_tb) R_Mo := ⟨B.exec, B.bytes, hml, findClass_of_methodNamed B.named, atoms_spec (ws := (Cond.code yMo_readPart prog_10_method_54_code 3 (none) :: sw_tb)) B.pre⟩
  have hr := B.returns
  have hlk := B.notSynchronized
  have hw := sw_begin hv
  have hl := lv_entry [.ref (ξ.2.2.2.1 84), .int a1] (n := 3) (Nat.le_of_ble_eq_true rfl)
  rw [lg_entry_eq]
  generalize (lg_sl [.ref (ξ.2.2.2.1 84), .int a1] ++ List.replicate (3 - (lg_sl [.ref (ξ.2.2.2.1 84), .int a1]).length) Slot.unset).toArray = ls at hl ⊢
  have hl : lv_has ls 3 [(0, .ref (ξ.2.2.2.1 84)), (1, .int a1)] := hl
  unfold fMo_readPart at hm
  refine lv_aload_n S.1 S.2.1 dMo_readPart_0 rfl (lv_at hl 0 rfl) ?_
  obtain ⟨⟨v3, μ2⟩, h1, hm⟩ := ob hm
  refine sw_Vi (q := 84) (rest := []) S hw (cMo_fine l  hf  h1) kMo_fine wm_Mo_197 (is_84 hf).1 (e_Mo (is_84 hf)) rfl rfl rfl rfl hl.1 (Nat.le_of_ble_eq_true rfl) ⟨rfl, rfl, by show 0 + 1 ≤ rr.frames + _; omega, by show 8 + (1 + 11) + 0 ≤ rr.locals + _; omega⟩ ⟨Nat.le_of_ble_eq_true rfl, Nat.le_of_ble_eq_true rfl⟩ dMo_readPart_1 (fun H locs hw _ => ?_)
  refine bif_ne (tgt := 8) S.1 S.2.1 hm dMo_readPart_4 (by decide) (fun hm => ?_) (fun hm => ?_)
  · refine lv_aload_n S.1 S.2.1 dMo_readPart_8 rfl (lv_at hl 0 rfl) ?_
    refine get_Mo (v := .ref (ξ.2.2.2.1 93)) S hw (is_84 hf) 15 (by decide) rfl wf_Mo_54 dMo_readPart_9 ?_
    refine lv_aload_n S.1 S.2.1 dMo_readPart_12 rfl (lv_at hl 0 rfl) ?_
    refine get_Mo (v := .int (μ2.1 84 19)) S hw (is_84 hf) 19 (by decide) rfl wf_Mo_201 dMo_readPart_13 ?_
    refine sm_iald S hw (is_93 hf) hm dMo_readPart_16 (fun v4 hm => ?_)
    refine lv_istore_n (lv' := [(2, .int v4), (0, .ref (ξ.2.2.2.1 84)), (1, .int a1)]) S.1 S.2.1 dMo_readPart_17 rfl hl (by decide) rfl (fun ls hl => ?_)
    refine lv_iload_n S.1 S.2.1 dMo_readPart_18 rfl (lv_at hl 0 rfl) ?_
    refine lv_bipush (v := (91 : Int32)) S.1 S.2.1 dMo_readPart_19 (by decide) ?_
    obtain ⟨v6, h5, hm⟩ := ob hm
    refine sw_Si (rest := [.int v4]) S hw (cMo_sign l  hf (91 : Int32) h5) kMo_sign wm_Mo_245 rfl rfl hl.1 (Nat.le_of_ble_eq_true rfl) ⟨rfl, rfl, by show 0 + 1 ≤ rr.frames + _; omega, by show 8 + (1 + 11) + 0 ≤ rr.locals + _; omega⟩ ⟨Nat.le_of_ble_eq_true rfl, Nat.le_of_ble_eq_true rfl⟩ dMo_readPart_21 (fun H locs hw _ => ?_)
    refine bicmp_ne (tgt := 74) S.1 S.2.1 hm dMo_readPart_24 (by decide) (fun hm => ?_) (fun hm => ?_)
    · refine lv_iload_n S.1 S.2.1 dMo_readPart_74 rfl (lv_at hl 0 rfl) ?_
      refine lv_bipush (v := (50 : Int32)) S.1 S.2.1 dMo_readPart_75 (by decide) ?_
      refine bicmp_ne (tgt := 95) S.1 S.2.1 hm dMo_readPart_77 (by decide) (fun hm => ?_) (fun hm => ?_)
      · exact wMo_readPart_95 S hr hlk hf rc rr hr0 hrc N  μ2 v4 _ _ _ hm hw (lv_sub hl [1, 0] rfl)
      · refine lv_aload_n S.1 S.2.1 dMo_readPart_80 rfl (lv_at hl 1 rfl) ?_
        refine get_Mo (v := .ref (ξ.2.2.2.1 94)) S hw (is_84 hf) 16 (by decide) rfl wf_Mo_57 dMo_readPart_81 ?_
        refine lv_aload_n S.1 S.2.1 dMo_readPart_84 rfl (lv_at hl 1 rfl) ?_
        refine get_Mo (v := .int (μ2.1 84 19)) S hw (is_84 hf) 19 (by decide) rfl wf_Mo_201 dMo_readPart_85 ?_
        refine sm_iald S hw (is_94 hf) hm dMo_readPart_88 (fun v13 hm => ?_)
        refine lv_sipush (v := (1000 : Int32)) S.1 S.2.1 dMo_readPart_89 (by decide) ?_
        refine bicmp_le (tgt := 111) S.1 S.2.1 hm dMo_readPart_92 (by decide) (fun hm => ?_) (fun hm => ?_)
        · exact wMo_readPart_111 S hr hlk hf rc rr hr0 hrc N  μ2 v4 _ _ _ hm hw (lv_sub hl [1, 0] rfl)
        · exact wMo_readPart_95 S hr hlk hf rc rr hr0 hrc N  μ2 v4 _ _ _ hm hw (lv_sub hl [1, 0] rfl)
    · refine lv_iload_n S.1 S.2.1 dMo_readPart_27 rfl (lv_at hl 2 rfl) ?_
      refine lv_bipush (v := (8 : Int32)) S.1 S.2.1 dMo_readPart_28 (by decide) ?_
      refine bicmp_ne (tgt := 37) S.1 S.2.1 hm dMo_readPart_30 (by decide) (fun hm => ?_) (fun hm => ?_)
      · exact wMo_readPart_37 S hr hlk hf rc rr hr0 hrc N  μ2 a1 _ _ _ hm hw (lv_sub hl [1, 2] rfl)
      · refine lv_aload_n S.1 S.2.1 dMo_readPart_33 rfl (lv_at hl 1 rfl) ?_
        obtain ⟨μ25, h24, hm⟩ := ob hm
        refine sw_Vv (q := 84) (rest := []) S hw (cMo_faults l  hf  h24) kMo_faults wm_Mo_207 (is_84 hf).1 (e_Mo (is_84 hf)) rfl rfl rfl rfl hl.1 (Nat.le_of_ble_eq_true rfl) ⟨rfl, rfl, by show 1 + 1 ≤ rr.frames + _; omega, by show 8 + (1 + 11) + 20 ≤ rr.locals + _; omega⟩ ⟨Nat.le_of_ble_eq_true rfl, Nat.le_of_ble_eq_true rfl⟩ dMo_readPart_34 (fun H locs hw _ => ?_)
        exact wMo_readPart_37 S hr hlk hf rc rr hr0 hrc N  μ25 a1 _ _ _ hm hw (lv_sub hl [1, 2] rfl)
  · obtain rfl := Option.some.inj hm
    exact sw_vret S hr hlk hw trivial dMo_readPart_7
