/-! ===== the JDK's ways by which a word's signs are asked: String.length, charAt ===== -/
def R_St : String := "java/lang/String"
def R_Sl : String := "java/lang/StringLatin1"
def R_Pc : String := "jdk/internal/util/Preconditions"
def ySt_length : MethodName := ⟨R_St, "length", "()I"⟩
def ySt_coder : MethodName := ⟨R_St, "coder", "()B"⟩
def ySt_isLatin1 : MethodName := ⟨R_St, "isLatin1", "()Z"⟩
def ySt_charAt : MethodName := ⟨R_St, "charAt", "(I)C"⟩
def ySt_checkIndex : MethodName := ⟨R_St, "checkIndex", "(II)V"⟩
def ySl_charAt : MethodName := ⟨R_Sl, "charAt", "([BI)C"⟩
def yPc_checkIndex : MethodName := ⟨R_Pc, "checkIndex", "(IILjava/util/function/BiFunction;)I"⟩
theorem kSt_length : sw_yv ySt_length prog_13_method_54_code 1 (some .int) 0 := ⟨⟨tb_mem 496 (by decide +kernel) (by decide +kernel), tb_mem 11 (by decide +kernel) (by decide +kernel), by decide +kernel, by decide +kernel, by decide +kernel⟩, tb_mem 494 (by decide +kernel) (by decide +kernel), tb_mem 495 (by decide +kernel) (by decide +kernel)⟩
theorem kSt_coder : sw_yv ySt_coder prog_13_method_152_code 1 (some .byte) 0 := ⟨⟨tb_mem 500 (by decide +kernel) (by decide +kernel), tb_mem 11 (by decide +kernel) (by decide +kernel), by decide +kernel, by decide +kernel, by decide +kernel⟩, tb_mem 498 (by decide +kernel) (by decide +kernel), tb_mem 499 (by decide +kernel) (by decide +kernel)⟩
theorem kSt_isLatin1 : sw_yv ySt_isLatin1 prog_13_method_154_code 1 (some .boolean) 0 := ⟨⟨tb_mem 510 (by decide +kernel) (by decide +kernel), tb_mem 11 (by decide +kernel) (by decide +kernel), by decide +kernel, by decide +kernel, by decide +kernel⟩, tb_mem 508 (by decide +kernel) (by decide +kernel), tb_mem 509 (by decide +kernel) (by decide +kernel)⟩
theorem kSt_charAt : sw_yv ySt_charAt prog_13_method_56_code 2 (some .char) 1 := ⟨⟨tb_mem 506 (by decide +kernel) (by decide +kernel), tb_mem 11 (by decide +kernel) (by decide +kernel), by decide +kernel, by decide +kernel, by decide +kernel⟩, tb_mem 504 (by decide +kernel) (by decide +kernel), tb_mem 505 (by decide +kernel) (by decide +kernel)⟩
theorem kSt_checkIndex : sw_ys ySt_checkIndex prog_13_method_155_code 2 none 2 := ⟨⟨tb_mem 516 (by decide +kernel) (by decide +kernel), tb_mem 11 (by decide +kernel) (by decide +kernel), by decide +kernel, by decide +kernel, by decide +kernel⟩, tb_mem 515 (by decide +kernel) (by decide +kernel)⟩
theorem kSl_charAt : sw_ys ySl_charAt prog_14_method_2_code 2 (some .char) 2 := ⟨⟨tb_mem 513 (by decide +kernel) (by decide +kernel), tb_mem 12 (by decide +kernel) (by decide +kernel), by decide +kernel, by decide +kernel, by decide +kernel⟩, tb_mem 512 (by decide +kernel) (by decide +kernel)⟩
theorem kPc_checkIndex : sw_ys yPc_checkIndex prog_18_method_11_code 3 (some .int) 3 := ⟨⟨tb_mem 521 (by decide +kernel) (by decide +kernel), tb_mem 13 (by decide +kernel) (by decide +kernel), by decide +kernel, by decide +kernel, by decide +kernel⟩, tb_mem 520 (by decide +kernel) (by decide +kernel)⟩
theorem wm_St_335 : Cond.methodLink R_St 335 ySt_coder ∈ sw_tb := tb_mem 497 (by decide +kernel) (by decide +kernel)
theorem wm_St_492 : Cond.methodLink R_St 492 ySt_isLatin1 ∈ sw_tb := tb_mem 507 (by decide +kernel) (by decide +kernel)
theorem wm_St_495 : Cond.methodLink R_St 495 ySl_charAt ∈ sw_tb := tb_mem 511 (by decide +kernel) (by decide +kernel)
theorem wm_Sl_9 : Cond.methodLink R_Sl 9 ySt_checkIndex ∈ sw_tb := tb_mem 514 (by decide +kernel) (by decide +kernel)
theorem wm_St_1059 : Cond.methodLink R_St 1059 yPc_checkIndex ∈ sw_tb := tb_mem 519 (by decide +kernel) (by decide +kernel)
theorem wf_St_38 : Cond.fieldLink R_St 38 "java/lang/String" "COMPACT_STRINGS" "Z" ∈ sw_tb := tb_mem 501 (by decide +kernel) (by decide +kernel)
theorem wf_St_1053 : Cond.fieldLink R_St 1053 "jdk/internal/util/Preconditions" "SIOOBE_FORMATTER" "Ljava/util/function/BiFunction;" ∈ sw_tb := tb_mem 517 (by decide +kernel) (by decide +kernel)
theorem wf_St_9 : Cond.fieldLink R_St 9 "java/lang/String" "value" "[B" ∈ sw_tb := tb_mem 1708 (by decide +kernel) (by decide +kernel)
theorem wf_St_15 : Cond.fieldLink R_St 15 "java/lang/String" "coder" "B" ∈ sw_tb := tb_mem 1709 (by decide +kernel) (by decide +kernel)
theorem dSt_coder_0 : decode prog_13_method_152_code 0 = .ok (.getstatic 38, 3) := by decide +kernel
theorem dSt_coder_3 : decode prog_13_method_152_code 3 = .ok (.ifCond .eq 10, 3) := by decide +kernel
theorem dSt_coder_6 : decode prog_13_method_152_code 6 = .ok (.aload_n 0, 1) := by decide +kernel
theorem dSt_coder_7 : decode prog_13_method_152_code 7 = .ok (.getfield 15, 3) := by decide +kernel
theorem dSt_coder_10 : decode prog_13_method_152_code 10 = .ok (.goto 4, 3) := by decide +kernel
theorem dSt_coder_14 : decode prog_13_method_152_code 14 = .ok (.ireturn, 1) := by decide +kernel
theorem dSt_isLatin1_0 : decode prog_13_method_154_code 0 = .ok (.getstatic 38, 3) := by decide +kernel
theorem dSt_isLatin1_3 : decode prog_13_method_154_code 3 = .ok (.ifCond .eq 14, 3) := by decide +kernel
theorem dSt_isLatin1_6 : decode prog_13_method_154_code 6 = .ok (.aload_n 0, 1) := by decide +kernel
theorem dSt_isLatin1_7 : decode prog_13_method_154_code 7 = .ok (.getfield 15, 3) := by decide +kernel
theorem dSt_isLatin1_10 : decode prog_13_method_154_code 10 = .ok (.ifCond .ne 7, 3) := by decide +kernel
theorem dSt_isLatin1_13 : decode prog_13_method_154_code 13 = .ok (.iconst 1, 1) := by decide +kernel
theorem dSt_isLatin1_14 : decode prog_13_method_154_code 14 = .ok (.goto 4, 3) := by decide +kernel
theorem dSt_isLatin1_18 : decode prog_13_method_154_code 18 = .ok (.ireturn, 1) := by decide +kernel
theorem dSt_length_0 : decode prog_13_method_54_code 0 = .ok (.aload_n 0, 1) := by decide +kernel
theorem dSt_length_1 : decode prog_13_method_54_code 1 = .ok (.getfield 9, 3) := by decide +kernel
theorem dSt_length_4 : decode prog_13_method_54_code 4 = .ok (.arraylength, 1) := by decide +kernel
theorem dSt_length_5 : decode prog_13_method_54_code 5 = .ok (.aload_n 0, 1) := by decide +kernel
theorem dSt_length_6 : decode prog_13_method_54_code 6 = .ok (.invokevirtual 335, 3) := by decide +kernel
theorem dSt_length_9 : decode prog_13_method_54_code 9 = .ok (.ishr, 1) := by decide +kernel
theorem dSt_length_10 : decode prog_13_method_54_code 10 = .ok (.ireturn, 1) := by decide +kernel
theorem dPc_0 : decode prog_18_method_11_code 0 = .ok (.iload_n 0, 1) := by decide +kernel
theorem dPc_1 : decode prog_18_method_11_code 1 = .ok (.ifCond .lt 8, 3) := by decide +kernel
theorem dPc_4 : decode prog_18_method_11_code 4 = .ok (.iload_n 0, 1) := by decide +kernel
theorem dPc_5 : decode prog_18_method_11_code 5 = .ok (.iload_n 1, 1) := by decide +kernel
theorem dPc_6 : decode prog_18_method_11_code 6 = .ok (.if_icmp .lt 10, 3) := by decide +kernel
theorem dPc_16 : decode prog_18_method_11_code 16 = .ok (.iload_n 0, 1) := by decide +kernel
theorem dPc_17 : decode prog_18_method_11_code 17 = .ok (.ireturn, 1) := by decide +kernel
theorem dCi_0 : decode prog_13_method_155_code 0 = .ok (.iload_n 0, 1) := by decide +kernel
theorem dCi_1 : decode prog_13_method_155_code 1 = .ok (.iload_n 1, 1) := by decide +kernel
theorem dCi_2 : decode prog_13_method_155_code 2 = .ok (.getstatic 1053, 3) := by decide +kernel
theorem dCi_5 : decode prog_13_method_155_code 5 = .ok (.invokestatic 1059, 3) := by decide +kernel
theorem dCi_8 : decode prog_13_method_155_code 8 = .ok (.pop, 1) := by decide +kernel
theorem dCi_9 : decode prog_13_method_155_code 9 = .ok (.return_, 1) := by decide +kernel
theorem dSl_0 : decode prog_14_method_2_code 0 = .ok (.iload_n 1, 1) := by decide +kernel
theorem dSl_1 : decode prog_14_method_2_code 1 = .ok (.aload_n 0, 1) := by decide +kernel
theorem dSl_2 : decode prog_14_method_2_code 2 = .ok (.arraylength, 1) := by decide +kernel
theorem dSl_3 : decode prog_14_method_2_code 3 = .ok (.invokestatic 9, 3) := by decide +kernel
theorem dSl_6 : decode prog_14_method_2_code 6 = .ok (.aload_n 0, 1) := by decide +kernel
theorem dSl_7 : decode prog_14_method_2_code 7 = .ok (.iload_n 1, 1) := by decide +kernel
theorem dSl_8 : decode prog_14_method_2_code 8 = .ok (.baload, 1) := by decide +kernel
theorem dSl_9 : decode prog_14_method_2_code 9 = .ok (.sipush 255, 3) := by decide +kernel
theorem dSl_12 : decode prog_14_method_2_code 12 = .ok (.iand, 1) := by decide +kernel
theorem dSl_13 : decode prog_14_method_2_code 13 = .ok (.i2c, 1) := by decide +kernel
theorem dSl_14 : decode prog_14_method_2_code 14 = .ok (.ireturn, 1) := by decide +kernel
theorem dSc_0 : decode prog_13_method_56_code 0 = .ok (.aload_n 0, 1) := by decide +kernel
theorem dSc_1 : decode prog_13_method_56_code 1 = .ok (.invokevirtual 492, 3) := by decide +kernel
theorem dSc_4 : decode prog_13_method_56_code 4 = .ok (.ifCond .eq 12, 3) := by decide +kernel
theorem dSc_7 : decode prog_13_method_56_code 7 = .ok (.aload_n 0, 1) := by decide +kernel
theorem dSc_8 : decode prog_13_method_56_code 8 = .ok (.getfield 9, 3) := by decide +kernel
theorem dSc_11 : decode prog_13_method_56_code 11 = .ok (.iload_n 1, 1) := by decide +kernel
theorem dSc_12 : decode prog_13_method_56_code 12 = .ok (.invokestatic 495, 3) := by decide +kernel
theorem dSc_15 : decode prog_13_method_56_code 15 = .ok (.ireturn, 1) := by decide +kernel
section SWT
variable {p : Program} {l : Launch} {e : Env} {R : Room} {s : State} {m : MethodId} {args : Array Value} {below : List Frame} {meth : Method} {c : Code} {H : Heap} {locs : List Loc} {cells slots : Nat} {Q : State → Prop}
variable {cc : ByteArray} {pc nL index : Nat} {ls : Array Slot} {rest : List Value} {Γ : sw_C} {A : Nat → Prop} {ξ : sw_x} {g : sw_g} {μ : sw_m} {w0 : Cond} {own : String} {q n : Nat} {ρ : Type} {res : ρ}
theorem sw_Ki {y : MethodName} {bytes : ByteArray} {maxL k mc ms i : Nat} {ret : Option FieldType} {rm : Room} {As : List Value} {ξ' : sw_x} {g' : sw_g} {μ' : sw_m} {v : Int32} {st0 : List Value} {Λ : Prop} (S : CallFix p m c cc nL s args (w0 :: sw_tb) own) (hw : sw_S Γ A ξ g μ s H locs)
    (hM : Met l y (Cond.code y bytes maxL ret :: sw_tb) rm (va_Pc (.ref (Γ.2.2.1 i) :: As) (sw_V Γ A ξ g μ)) (sw_Qi Γ A ξ' g' μ' v Λ) mc ms A) (hy : sw_yv y bytes maxL ret k) (hl : Cond.methodLink own index y ∈ sw_tb) (hi : i < 39) (hC : "java/lang/String" = y.cls) (hst : st0 = As.reverse ++ .ref (Γ.2.2.1 i) :: rest) (hn : As.length = k) (hz : ls.size = nL)
    (hro : (rest.map fun v => v.category).sum ≤ 8) (hR : rm.cells = mc ∧ rm.slots = ms ∧ rm.frames + 1 ≤ R.frames ∧ 8 + (maxL + 11) + rm.locals ≤ R.locals) (hf : cells + mc ≤ R.cells ∧ slots + ms ≤ R.slots) (hdg : decode cc pc = .ok (.invokevirtual index, 3))
    (kk : ∀ (H1 : Heap) (locs1 : List Loc), sw_S Γ A ξ' g' μ' s H1 locs1 → Λ → W p l e R s m args below meth c H1 locs1 (cells + mc) (slots + ms) Q (F0 m (pc + 3) ls (.int v :: rest))) : W p l e R s m args below meth c H locs cells slots Q (F0 m pc ls st0) := by
  subst hst
  refine va_calli (va_runV (C := y.cls) (As := As) (rest := rest) S hM ⟨callB_of k S.2.2.2.2 (tb_good hy.1.1) rfl hR.1 hR.2.1 (sw_word S hy.1.2.1) (sw_word S hl) hy.1.2.2 hR.2.2, sw_word S hy.2.1, sw_word S hy.2.2⟩ ⟨sw_blind, by rw [← hC]; exact vk_recv hw.2.2.2.2.2.1 hi hw.2.2.2.1, sw_pre hw _⟩ rfl hn hz rfl (lv_room hro) hdg hf) hw.2.2.2.1 (fun _ _ h => h) (fun _ h => h) (fun r u t H1 locs1 ht hvm hr hB _ _ hS => ?_)
  subst hr
  rw [← ht] at hS ⊢
  exact kk t.heap locs1 ⟨hB.1.1, va_K.moved hvm.symm hB.1.2.1, hB.1.2.2, hS, hw.2.2.2.2⟩ hB.2
theorem sw_Sv {y : MethodName} {bytes : ByteArray} {maxL k mc ms : Nat} {ret : Option FieldType} {rm : Room} {As : List Value} {ξ' : sw_x} {g' : sw_g} {μ' : sw_m} {st0 : List Value} {Λ : Prop} (S : CallFix p m c cc nL s args (w0 :: sw_tb) own) (hw : sw_S Γ A ξ g μ s H locs)
    (hM : Met l y (Cond.code y bytes maxL ret :: sw_tb) rm (va_Pc As (sw_V Γ A ξ g μ)) (sw_Qv Γ A ξ' g' μ' Λ) mc ms A) (hy : sw_ys y bytes maxL ret k) (hl : Cond.methodLink own index y ∈ sw_tb) (hst : st0 = As.reverse ++ rest) (hn : As.length = k) (hz : ls.size = nL)
    (hro : (rest.map fun v => v.category).sum ≤ 8) (hR : rm.cells = mc ∧ rm.slots = ms ∧ rm.frames + 1 ≤ R.frames ∧ 8 + (maxL + 11) + rm.locals ≤ R.locals) (hf : cells + mc ≤ R.cells ∧ slots + ms ≤ R.slots) (hdg : decode cc pc = .ok (.invokestatic index, 3))
    (kk : ∀ (H1 : Heap) (locs1 : List Loc), sw_S Γ A ξ' g' μ' s H1 locs1 → Λ → W p l e R s m args below meth c H1 locs1 (cells + mc) (slots + ms) Q (F0 m (pc + 3) ls rest)) : W p l e R s m args below meth c H locs cells slots Q (F0 m pc ls st0) := by
  subst hst
  refine va_callv (va_runS (As := As) (rest := rest) S hM ⟨callB_of k S.2.2.2.2 (tb_good hy.1.1) rfl hR.1 hR.2.1 (sw_word S hy.1.2.1) (sw_word S hl) hy.1.2.2 hR.2.2, sw_word S hy.2⟩ ⟨sw_blind, sw_pre hw _⟩ rfl hn hz rfl (lv_room hro) hdg hf) hw.2.2.2.1 (fun _ _ h => h) (fun _ h => h) (fun u t H1 locs1 ht hvm hr hB _ _ hS => ?_)
  rw [← ht] at hS ⊢
  exact kk t.heap locs1 ⟨hB.1.1, va_K.moved hvm.symm hB.1.2.1, hB.1.2.2, hS, hw.2.2.2.2⟩ hB.2
theorem sw_tret {v : Int32} {mc ms : Nat} {Λ : Prop} {ty : FieldType} (S : CallFix p m c cc nL s args (w0 :: sw_tb) own) (hr : meth.sig.returnType = some ty) (hlk : meth.locks = false) (hn : narrow ty (.int v) = .int v) (hw : sw_S Γ A ξ g μ s H locs) (hΛ : Λ) (hdg : decode cc pc = .ok (.ireturn, 1)) : W p l e R s m args below meth c H locs mc ms (MQ below (sw_Qi Γ A ξ g μ v Λ) args s mc ms A) (F0 m pc ls [.int v]) :=
  W.zret (v := v) S.1 S.2.1 hr hn (fun t ht hW => ⟨⟨v, (), rfl, rfl, ⟨sw_end hw ht hW, hΛ⟩⟩, hw.2.2.2.1.F ht⟩) hw.2.2.2.1.2.2 hdg
end SWT
section SWU
variable {Γ : sw_C} {A : Nat → Prop} {ξ : sw_x} {g : sw_g} {μ : sw_m}
theorem cSt_coder (l : Launch) {i : Nat} (hi : i < 39) : Met l ySt_coder (Cond.code ySt_coder prog_13_method_152_code 1 (some .byte) :: sw_tb) { frames := 0, cells := 0, slots := 0, locals := 0 } (va_Pc [.ref (Γ.2.2.1 i)] (sw_V Γ A ξ g μ)) (sw_Qi Γ A ξ g μ 0 True) 0 0 A := by
  refine Met.ofW (cc := prog_13_method_152_code) (maxL := 1) (ret := some .byte) (by decide) rfl ?_
  intro p e s m args below meth c s₁ B hml hv
  obtain ⟨rfl, hv⟩ := hv
  have S : CallFix p m c prog_13_method_152_code 1 s _ (Cond.code ySt_coder prog_13_method_152_code 1 (some .byte) :: sw_tb) R_St := ⟨B.exec, B.bytes, hml, findClass_of_methodNamed B.named, atoms_spec (ws := Cond.code ySt_coder prog_13_method_152_code 1 (some .byte) :: sw_tb) B.pre⟩
  have hr := B.returns
  have hlk := B.notSynchronized
  have hw := sw_begin hv
  have hl := lv_entry [.ref (Γ.2.2.1 i)] (n := 1) (Nat.le_of_ble_eq_true rfl)
  rw [lg_entry_eq]
  generalize (lg_sl [.ref (Γ.2.2.1 i)] ++ List.replicate (1 - (lg_sl [.ref (Γ.2.2.1 i)]).length) Slot.unset).toArray = ls at hl ⊢
  have hl : lv_has ls 1 [(0, .ref (Γ.2.2.1 i))] := hl
  refine va_gets (v := .int 1) S.1 S.2.1 hw.2.2.2.2.2.2.2.1 hw.2.2.2.1 S.2.2.2.1 (sw_word S wf_St_38) (fun _ h => h) dSt_coder_0 ?_
  refine lv_if_eq (tgt := 13) S.1 S.2.1 dSt_coder_3 (by decide) (fun h => absurd h (by decide)) (fun _ => ?_)
  refine lv_aload_n S.1 S.2.1 dSt_coder_6 rfl (lv_at hl 0 rfl) ?_
  refine vk_getf S.1 S.2.1 (hw.2.2.2.2.2.1.1 i hi).2.1 hw.2.2.2.1 S.2.2.2.1 (sw_word S wf_St_15) (fun _ h => h) dSt_coder_7 ?_
  refine lv_goto (tgt := 14) S.1 S.2.1 dSt_coder_10 (by decide) ?_
  exact sw_tret S hr hlk rfl hw trivial dSt_coder_14
theorem cSt_isLatin1 (l : Launch) {i : Nat} (hi : i < 39) : Met l ySt_isLatin1 (Cond.code ySt_isLatin1 prog_13_method_154_code 1 (some .boolean) :: sw_tb) { frames := 0, cells := 0, slots := 0, locals := 0 } (va_Pc [.ref (Γ.2.2.1 i)] (sw_V Γ A ξ g μ)) (sw_Qi Γ A ξ g μ 1 True) 0 0 A := by
  refine Met.ofW (cc := prog_13_method_154_code) (maxL := 1) (ret := some .boolean) (by decide) rfl ?_
  intro p e s m args below meth c s₁ B hml hv
  obtain ⟨rfl, hv⟩ := hv
  have S : CallFix p m c prog_13_method_154_code 1 s _ (Cond.code ySt_isLatin1 prog_13_method_154_code 1 (some .boolean) :: sw_tb) R_St := ⟨B.exec, B.bytes, hml, findClass_of_methodNamed B.named, atoms_spec (ws := Cond.code ySt_isLatin1 prog_13_method_154_code 1 (some .boolean) :: sw_tb) B.pre⟩
  have hr := B.returns
  have hlk := B.notSynchronized
  have hw := sw_begin hv
  have hl := lv_entry [.ref (Γ.2.2.1 i)] (n := 1) (Nat.le_of_ble_eq_true rfl)
  rw [lg_entry_eq]
  generalize (lg_sl [.ref (Γ.2.2.1 i)] ++ List.replicate (1 - (lg_sl [.ref (Γ.2.2.1 i)]).length) Slot.unset).toArray = ls at hl ⊢
  have hl : lv_has ls 1 [(0, .ref (Γ.2.2.1 i))] := hl
  refine va_gets (v := .int 1) S.1 S.2.1 hw.2.2.2.2.2.2.2.1 hw.2.2.2.1 S.2.2.2.1 (sw_word S wf_St_38) (fun _ h => h) dSt_isLatin1_0 ?_
  refine lv_if_eq (tgt := 17) S.1 S.2.1 dSt_isLatin1_3 (by decide) (fun h => absurd h (by decide)) (fun _ => ?_)
  refine lv_aload_n S.1 S.2.1 dSt_isLatin1_6 rfl (lv_at hl 0 rfl) ?_
  refine vk_getf S.1 S.2.1 (hw.2.2.2.2.2.1.1 i hi).2.1 hw.2.2.2.1 S.2.2.2.1 (sw_word S wf_St_15) (fun _ h => h) dSt_isLatin1_7 ?_
  refine lv_if_ne (tgt := 17) S.1 S.2.1 dSt_isLatin1_10 (by decide) (fun h => absurd rfl h) (fun _ => ?_)
  refine lv_iconst (v := (1 : Int32)) S.1 S.2.1 dSt_isLatin1_13 (by decide) ?_
  refine lv_goto (tgt := 18) S.1 S.2.1 dSt_isLatin1_14 (by decide) ?_
  exact sw_tret S hr hlk rfl hw trivial dSt_isLatin1_18
theorem cSt_length (l : Launch) {i : Nat} (hi : i < 39) : Met l ySt_length (Cond.code ySt_length prog_13_method_54_code 1 (some .int) :: sw_tb) { frames := 1, cells := 0, slots := 0, locals := 20 } (va_Pc [.ref (Γ.2.2.1 i)] (sw_V Γ A ξ g μ)) (sw_Qi Γ A ξ g μ (Int32.ofNat (sw_len.getD i 0)) True) 0 0 A := by
  refine Met.ofW (cc := prog_13_method_54_code) (maxL := 1) (ret := some .int) (by decide) rfl ?_
  intro p e s m args below meth c s₁ B hml hv
  obtain ⟨rfl, hv⟩ := hv
  have S : CallFix p m c prog_13_method_54_code 1 s _ (Cond.code ySt_length prog_13_method_54_code 1 (some .int) :: sw_tb) R_St := ⟨B.exec, B.bytes, hml, findClass_of_methodNamed B.named, atoms_spec (ws := Cond.code ySt_length prog_13_method_54_code 1 (some .int) :: sw_tb) B.pre⟩
  have hr := B.returns
  have hlk := B.notSynchronized
  have hw := sw_begin hv
  have hl := lv_entry [.ref (Γ.2.2.1 i)] (n := 1) (Nat.le_of_ble_eq_true rfl)
  rw [lg_entry_eq]
  generalize (lg_sl [.ref (Γ.2.2.1 i)] ++ List.replicate (1 - (lg_sl [.ref (Γ.2.2.1 i)]).length) Slot.unset).toArray = ls at hl ⊢
  have hl : lv_has ls 1 [(0, .ref (Γ.2.2.1 i))] := hl
  refine lv_aload_n S.1 S.2.1 dSt_length_0 rfl (lv_at hl 0 rfl) ?_
  refine vk_getf S.1 S.2.1 (hw.2.2.2.2.2.1.1 i hi).2.2.1 hw.2.2.2.1 S.2.2.2.1 (sw_word S wf_St_9) (fun _ h => h) dSt_length_1 ?_
  refine va_tlen S.1 S.2.1 (hw.2.2.2.2.2.1.1 i hi).2.2.2 hw.2.2.2.1 rfl dSt_length_4 ?_
  refine lv_aload_n S.1 S.2.1 dSt_length_5 rfl (lv_at hl 0 rfl) ?_
  refine sw_Ki (rest := [.int (Int32.ofNat (sw_len.getD i 0))]) S hw (cSt_coder l hi) kSt_coder wm_St_335 hi rfl rfl rfl hl.1 (Nat.le_of_ble_eq_true rfl) ⟨rfl, rfl, Nat.le_of_ble_eq_true rfl, Nat.le_of_ble_eq_true rfl⟩ ⟨Nat.le_of_ble_eq_true rfl, Nat.le_of_ble_eq_true rfl⟩ dSt_length_6 (fun H locs hw _ => ?_)
  refine lv_ishr S.1 S.2.1 dSt_length_9 ?_
  rw [sb_shr0]
  exact sw_iret S hr hlk hw trivial dSt_length_10
theorem cPc_checkIndex (l : Launch) {j n : Int32} {v : Value} (hv0 : v = .null ∨ ∃ t, v = .ref t) (h0 : ¬ j < 0) (h1 : j < n) : Met l yPc_checkIndex (Cond.code yPc_checkIndex prog_18_method_11_code 3 (some .int) :: sw_tb) { frames := 0, cells := 0, slots := 0, locals := 0 } (va_Pc [.int j, .int n, v] (sw_V Γ A ξ g μ)) (sw_Qi Γ A ξ g μ j True) 0 0 A := by
  refine Met.ofW (cc := prog_18_method_11_code) (maxL := 3) (ret := some .int) (by decide) rfl ?_
  intro p e s m args below meth c s₁ B hml hv
  obtain ⟨rfl, hv⟩ := hv
  have S : CallFix p m c prog_18_method_11_code 3 s _ (Cond.code yPc_checkIndex prog_18_method_11_code 3 (some .int) :: sw_tb) R_Pc := ⟨B.exec, B.bytes, hml, findClass_of_methodNamed B.named, atoms_spec (ws := Cond.code yPc_checkIndex prog_18_method_11_code 3 (some .int) :: sw_tb) B.pre⟩
  have hr := B.returns
  have hlk := B.notSynchronized
  have hw := sw_begin hv
  have hl : ∃ ls, entryFrame m ([.int j, .int n, v] : List Value).toArray 3 = F0 m 0 ls [] ∧ lv_has ls 3 [(0, .int j), (1, .int n)] := by
    rw [lg_entry_eq]
    refine ⟨_, rfl, ?_⟩
    rcases hv0 with rfl | ⟨t, rfl⟩
    · exact lv_sub (lv_entry [.int j, .int n, .null] (n := 3) (Nat.le_of_ble_eq_true rfl)) [0, 1] rfl
    · exact lv_sub (lv_entry [.int j, .int n, .ref t] (n := 3) (Nat.le_of_ble_eq_true rfl)) [0, 1] rfl
  obtain ⟨ls, he, hl⟩ := hl
  rw [he]
  refine lv_iload_n S.1 S.2.1 dPc_0 rfl (lv_at hl 0 rfl) ?_
  refine lv_if_lt (tgt := 9) S.1 S.2.1 dPc_1 (by decide) (fun h => absurd h h0) (fun _ => ?_)
  refine lv_iload_n S.1 S.2.1 dPc_4 rfl (lv_at hl 0 rfl) ?_
  refine lv_iload_n S.1 S.2.1 dPc_5 rfl (lv_at hl 1 rfl) ?_
  refine lv_icmp_lt (tgt := 16) S.1 S.2.1 dPc_6 (by decide) (fun _ => ?_) (fun h => absurd h1 h)
  refine lv_iload_n S.1 S.2.1 dPc_16 rfl (lv_at hl 0 rfl) ?_
  exact sw_iret S hr hlk hw trivial dPc_17
theorem cSt_checkIndex (l : Launch) {j n : Int32} (h0 : ¬ j < 0) (h1 : j < n) : Met l ySt_checkIndex (Cond.code ySt_checkIndex prog_13_method_155_code 2 none :: sw_tb) { frames := 1, cells := 0, slots := 0, locals := 22 } (va_Pc [.int j, .int n] (sw_V Γ A ξ g μ)) (sw_Qv Γ A ξ g μ True) 0 0 A := by
  refine Met.ofW (cc := prog_13_method_155_code) (maxL := 2) (ret := none) (by decide) rfl ?_
  intro p e s m args below meth c s₁ B hml hv
  obtain ⟨rfl, hv⟩ := hv
  have S : CallFix p m c prog_13_method_155_code 2 s _ (Cond.code ySt_checkIndex prog_13_method_155_code 2 none :: sw_tb) R_St := ⟨B.exec, B.bytes, hml, findClass_of_methodNamed B.named, atoms_spec (ws := Cond.code ySt_checkIndex prog_13_method_155_code 2 none :: sw_tb) B.pre⟩
  have hr := B.returns
  have hlk := B.notSynchronized
  have hw := sw_begin hv
  have hl := lv_entry [.int j, .int n] (n := 2) (Nat.le_of_ble_eq_true rfl)
  rw [lg_entry_eq]
  generalize (lg_sl [.int j, .int n] ++ List.replicate (2 - (lg_sl [.int j, .int n]).length) Slot.unset).toArray = ls at hl ⊢
  have hl : lv_has ls 2 [(0, .int j), (1, .int n)] := hl
  obtain ⟨v, hvz, hv0⟩ : ∃ v, va_Z "jdk/internal/util/Preconditions" "SIOOBE_FORMATTER" "Ljava/util/function/BiFunction;" v A s s.heap ∧ (v = .null ∨ ∃ t, v = .ref t) := by
    rcases hw.2.2.2.2.2.2.2.2.1 with h | ⟨t, h⟩
    · exact ⟨_, h, Or.inl rfl⟩
    · exact ⟨_, h, Or.inr ⟨t, rfl⟩⟩
  refine lv_iload_n S.1 S.2.1 dCi_0 rfl (lv_at hl 0 rfl) ?_
  refine lv_iload_n S.1 S.2.1 dCi_1 rfl (lv_at hl 1 rfl) ?_
  refine va_gets (v := v) S.1 S.2.1 hvz hw.2.2.2.1 S.2.2.2.1 (sw_word S wf_St_1053) (fun _ h => h) dCi_2 ?_
  refine sw_Si (rest := []) S hw (cPc_checkIndex l hv0 h0 h1) kPc_checkIndex wm_St_1059 rfl rfl hl.1 (Nat.le_of_ble_eq_true rfl) ⟨rfl, rfl, Nat.le_of_ble_eq_true rfl, Nat.le_of_ble_eq_true rfl⟩ ⟨Nat.le_of_ble_eq_true rfl, Nat.le_of_ble_eq_true rfl⟩ dCi_5 (fun H locs hw _ => ?_)
  refine lv_pop S.1 S.2.1 dCi_8 rfl ?_
  exact sw_vret S hr hlk hw trivial dCi_9
theorem sw_chr : ∀ i, i < 39 → ∀ j, j < sw_len.getD i 0 → ((((sw_byt.getD i []).getD j 0) &&& 255).toUInt32 % 65536).toInt32 = (sw_byt.getD i []).getD j 0 := by decide +kernel
theorem sw_chn : ∀ i, i < 39 → ∀ j, j < sw_len.getD i 0 → narrow .char (.int ((sw_byt.getD i []).getD j 0)) = .int ((sw_byt.getD i []).getD j 0) := by decide +kernel
theorem sw_lens : ∀ i, i < 39 → sw_len.getD i 0 < 100 := by decide +kernel
theorem cSl_charAt (l : Launch) {i : Nat} (hi : i < 39) {j : Int32} (hj : vp_in j (sw_len.getD i 0)) : Met l ySl_charAt (Cond.code ySl_charAt prog_14_method_2_code 2 (some .char) :: sw_tb) { frames := 2, cells := 0, slots := 0, locals := 43 } (va_Pc [.ref (Γ.2.2.2.1 i), .int j] (sw_V Γ A ξ g μ)) (sw_Qi Γ A ξ g μ ((sw_byt.getD i []).getD j.toNatClampNeg 0) True) 0 0 A := by
  have hlt : j.toNatClampNeg < sw_len.getD i 0 := Nat.not_le.mp fun z => hj (Or.inr z)
  have hln := sw_lens i hi
  refine Met.ofW (cc := prog_14_method_2_code) (maxL := 2) (ret := some .char) (by decide) rfl ?_
  intro p e s m args below meth c s₁ B hml hv
  obtain ⟨rfl, hv⟩ := hv
  have S : CallFix p m c prog_14_method_2_code 2 s _ (Cond.code ySl_charAt prog_14_method_2_code 2 (some .char) :: sw_tb) R_Sl := ⟨B.exec, B.bytes, hml, findClass_of_methodNamed B.named, atoms_spec (ws := Cond.code ySl_charAt prog_14_method_2_code 2 (some .char) :: sw_tb) B.pre⟩
  have hr := B.returns
  have hlk := B.notSynchronized
  have hw := sw_begin hv
  have hl := lv_entry [.ref (Γ.2.2.2.1 i), .int j] (n := 2) (Nat.le_of_ble_eq_true rfl)
  rw [lg_entry_eq]
  generalize (lg_sl [.ref (Γ.2.2.2.1 i), .int j] ++ List.replicate (2 - (lg_sl [.ref (Γ.2.2.2.1 i), .int j]).length) Slot.unset).toArray = ls at hl ⊢
  have hl : lv_has ls 2 [(0, .ref (Γ.2.2.2.1 i)), (1, .int j)] := hl
  refine lv_iload_n S.1 S.2.1 dSl_0 rfl (lv_at hl 1 rfl) ?_
  refine lv_aload_n S.1 S.2.1 dSl_1 rfl (lv_at hl 0 rfl) ?_
  refine va_tlen S.1 S.2.1 (hw.2.2.2.2.2.1.1 i hi).2.2.2 hw.2.2.2.1 rfl dSl_2 ?_
  have hjn : j < Int32.ofNat (sw_len.getD i 0) := by
    obtain ⟨k, hk, rfl⟩ := vp_in_of hj (by omega)
    exact nI_lt hk (by omega)
  refine sw_Sv (rest := []) S hw (cSt_checkIndex l (fun h => hj (Or.inl h)) hjn) kSt_checkIndex wm_Sl_9 rfl rfl hl.1 (Nat.le_of_ble_eq_true rfl) ⟨rfl, rfl, Nat.le_of_ble_eq_true rfl, Nat.le_of_ble_eq_true rfl⟩ ⟨Nat.le_of_ble_eq_true rfl, Nat.le_of_ble_eq_true rfl⟩ dSl_3 (fun H locs hw _ => ?_)
  refine lv_aload_n S.1 S.2.1 dSl_6 rfl (lv_at hl 0 rfl) ?_
  refine lv_iload_n S.1 S.2.1 dSl_7 rfl (lv_at hl 1 rfl) ?_
  refine va_tb S.1 S.2.1 (hw.2.2.2.2.2.1.1 i hi).2.2.2 hw.2.2.2.1 hj rfl dSl_8 ?_
  refine lv_sipush (v := (255 : Int32)) S.1 S.2.1 dSl_9 (by decide) ?_
  refine lv_iand S.1 S.2.1 dSl_12 ?_
  refine lv_i2c (v := (sw_byt.getD i []).getD j.toNatClampNeg 0) S.1 S.2.1 dSl_13 (sw_chr i hi _ hlt) ?_
  exact sw_tret S hr hlk (sw_chn i hi _ hlt) hw trivial dSl_14
theorem cSt_charAt (l : Launch) {i : Nat} (hi : i < 39) {j : Int32} (hj : vp_in j (sw_len.getD i 0)) : Met l ySt_charAt (Cond.code ySt_charAt prog_13_method_56_code 2 (some .char) :: sw_tb) { frames := 3, cells := 0, slots := 0, locals := 64 } (va_Pc [.ref (Γ.2.2.1 i), .int j] (sw_V Γ A ξ g μ)) (sw_Qi Γ A ξ g μ ((sw_byt.getD i []).getD j.toNatClampNeg 0) True) 0 0 A := by
  have hlt : j.toNatClampNeg < sw_len.getD i 0 := Nat.not_le.mp fun z => hj (Or.inr z)
  refine Met.ofW (cc := prog_13_method_56_code) (maxL := 2) (ret := some .char) (by decide) rfl ?_
  intro p e s m args below meth c s₁ B hml hv
  obtain ⟨rfl, hv⟩ := hv
  have S : CallFix p m c prog_13_method_56_code 2 s _ (Cond.code ySt_charAt prog_13_method_56_code 2 (some .char) :: sw_tb) R_St := ⟨B.exec, B.bytes, hml, findClass_of_methodNamed B.named, atoms_spec (ws := Cond.code ySt_charAt prog_13_method_56_code 2 (some .char) :: sw_tb) B.pre⟩
  have hr := B.returns
  have hlk := B.notSynchronized
  have hw := sw_begin hv
  have hl := lv_entry [.ref (Γ.2.2.1 i), .int j] (n := 2) (Nat.le_of_ble_eq_true rfl)
  rw [lg_entry_eq]
  generalize (lg_sl [.ref (Γ.2.2.1 i), .int j] ++ List.replicate (2 - (lg_sl [.ref (Γ.2.2.1 i), .int j]).length) Slot.unset).toArray = ls at hl ⊢
  have hl : lv_has ls 2 [(0, .ref (Γ.2.2.1 i)), (1, .int j)] := hl
  refine lv_aload_n S.1 S.2.1 dSc_0 rfl (lv_at hl 0 rfl) ?_
  refine sw_Ki (rest := []) S hw (cSt_isLatin1 l hi) kSt_isLatin1 wm_St_492 hi rfl rfl rfl hl.1 (Nat.le_of_ble_eq_true rfl) ⟨rfl, rfl, Nat.le_of_ble_eq_true rfl, Nat.le_of_ble_eq_true rfl⟩ ⟨Nat.le_of_ble_eq_true rfl, Nat.le_of_ble_eq_true rfl⟩ dSc_1 (fun H locs hw _ => ?_)
  refine lv_if_eq (tgt := 16) S.1 S.2.1 dSc_4 (by decide) (fun h => absurd h (by decide)) (fun _ => ?_)
  refine lv_aload_n S.1 S.2.1 dSc_7 rfl (lv_at hl 0 rfl) ?_
  refine vk_getf S.1 S.2.1 (hw.2.2.2.2.2.1.1 i hi).2.2.1 hw.2.2.2.1 S.2.2.2.1 (sw_word S wf_St_9) (fun _ h => h) dSc_8 ?_
  refine lv_iload_n S.1 S.2.1 dSc_11 rfl (lv_at hl 1 rfl) ?_
  refine sw_Si (rest := []) S hw (cSl_charAt l hi hj) kSl_charAt wm_St_495 rfl rfl hl.1 (Nat.le_of_ble_eq_true rfl) ⟨rfl, rfl, Nat.le_of_ble_eq_true rfl, Nat.le_of_ble_eq_true rfl⟩ ⟨Nat.le_of_ble_eq_true rfl, Nat.le_of_ble_eq_true rfl⟩ dSc_12 (fun H locs hw _ => ?_)
  exact sw_tret S hr hlk (sw_chn i hi _ hlt) hw trivial dSc_15
end SWU
section SWV
variable {p : Program} {l : Launch} {e : Env} {R : Room} {s : State} {m : MethodId} {args : Array Value} {below : List Frame} {meth : Method} {c : Code} {H : Heap} {locs : List Loc} {cells slots : Nat} {Q : State → Prop}
variable {cc : ByteArray} {pc nL index : Nat} {ls : Array Slot} {rest : List Value} {Γ : sw_C} {A : Nat → Prop} {ξ : sw_x} {g : sw_g} {μ : sw_m} {w0 : Cond} {own : String} {q n : Nat} {ρ : Type} {res : ρ}
theorem sw_slen {i : Nat} (S : CallFix p m c cc nL s args (w0 :: sw_tb) own) (hw : sw_S Γ A ξ g μ s H locs) (hl : Cond.methodLink own index ySt_length ∈ sw_tb) (hi : i < 39) (hz : ls.size = nL) (hro : (rest.map fun v => v.category).sum ≤ 8) (h1 : 2 ≤ R.frames) (h2 : 40 ≤ R.locals) (hc : cells ≤ R.cells ∧ slots ≤ R.slots) (hdg : decode cc pc = .ok (.invokevirtual index, 3))
    (kk : ∀ (H1 : Heap) (locs1 : List Loc), sw_S Γ A ξ g μ s H1 locs1 → W p l e R s m args below meth c H1 locs1 cells slots Q (F0 m (pc + 3) ls (.int (Int32.ofNat (sw_len.getD i 0)) :: rest))) : W p l e R s m args below meth c H locs cells slots Q (F0 m pc ls (.ref (Γ.2.2.1 i) :: rest)) :=
  sw_Ki (rest := rest) S hw (cSt_length l hi) kSt_length hl hi rfl rfl rfl hz hro ⟨rfl, rfl, h1, h2⟩ hc hdg (fun H1 locs1 h _ => kk H1 locs1 h)
theorem sw_schr {i : Nat} {j : Int32} {k : Int32 → Option ρ} (S : CallFix p m c cc nL s args (w0 :: sw_tb) own) (hw : sw_S Γ A ξ g μ s H locs) (hl : Cond.methodLink own index ySt_charAt ∈ sw_tb) (hi : i < 39) (hm : rd (sw_len.getD i 0) j (fun j => (sw_byt.getD i []).getD j 0) k = some res) (hz : ls.size = nL) (hro : (rest.map fun v => v.category).sum ≤ 8) (h1 : 4 ≤ R.frames) (h2 : 85 ≤ R.locals) (hc : cells ≤ R.cells ∧ slots ≤ R.slots) (hdg : decode cc pc = .ok (.invokevirtual index, 3))
    (kk : ∀ (v : Int32) (H1 : Heap) (locs1 : List Loc), k v = some res → sw_S Γ A ξ g μ s H1 locs1 → W p l e R s m args below meth c H1 locs1 cells slots Q (F0 m (pc + 3) ls (.int v :: rest))) : W p l e R s m args below meth c H locs cells slots Q (F0 m pc ls (.int j :: .ref (Γ.2.2.1 i) :: rest)) := by
  obtain ⟨a1, a2⟩ := ob_rd hm
  exact sw_Ki (rest := rest) S hw (cSt_charAt l hi a1) kSt_charAt hl hi rfl rfl rfl hz hro ⟨rfl, rfl, h1, h2⟩ hc hdg (fun H1 locs1 h _ => kk _ H1 locs1 a2 h)
end SWV
