theorem zwf_Ro_11 : Cond.fieldLink R_Ro 11 R_Ro (F_Ro 0).2.1 (F_Ro 0).2.2.1 ∈ sw_tb := tb_mem 240 (by decide +kernel) (by decide +kernel)
theorem zwf_Ro_15 : Cond.fieldLink R_Ro 15 R_Ro (F_Ro 1).2.1 (F_Ro 1).2.2.1 ∈ sw_tb := tb_mem 242 (by decide +kernel) (by decide +kernel)
theorem zwf_Ro_20 : Cond.fieldLink R_Ro 20 R_Ro (F_Ro 2).2.1 (F_Ro 2).2.2.1 ∈ sw_tb := tb_mem 243 (by decide +kernel) (by decide +kernel)
theorem zwf_Ro_23 : Cond.fieldLink R_Ro 23 R_Ro (F_Ro 3).2.1 (F_Ro 3).2.2.1 ∈ sw_tb := tb_mem 244 (by decide +kernel) (by decide +kernel)
theorem zwf_Ro_26 : Cond.fieldLink R_Ro 26 R_Ro (F_Ro 4).2.1 (F_Ro 4).2.2.1 ∈ sw_tb := tb_mem 245 (by decide +kernel) (by decide +kernel)
theorem zwf_Ro_29 : Cond.fieldLink R_Ro 29 R_Ro (F_Ro 5).2.1 (F_Ro 5).2.2.1 ∈ sw_tb := tb_mem 246 (by decide +kernel) (by decide +kernel)
theorem zwf_Sx_12 : Cond.fieldLink R_Sx 12 R_Sx (F_Sx 0).2.1 (F_Sx 0).2.2.1 ∈ sw_tb := tb_mem 266 (by decide +kernel) (by decide +kernel)
theorem zwf_Sx_16 : Cond.fieldLink R_Sx 16 R_Sx (F_Sx 1).2.1 (F_Sx 1).2.2.1 ∈ sw_tb := tb_mem 267 (by decide +kernel) (by decide +kernel)
theorem zwf_Sx_19 : Cond.fieldLink R_Sx 19 R_Sx (F_Sx 2).2.1 (F_Sx 2).2.2.1 ∈ sw_tb := tb_mem 268 (by decide +kernel) (by decide +kernel)
theorem zwf_Sx_22 : Cond.fieldLink R_Sx 22 R_Sx (F_Sx 3).2.1 (F_Sx 3).2.2.1 ∈ sw_tb := tb_mem 269 (by decide +kernel) (by decide +kernel)
theorem zwf_Sx_29 : Cond.fieldLink R_Sx 29 R_Sx (F_Sx 4).2.1 (F_Sx 4).2.2.1 ∈ sw_tb := tb_mem 270 (by decide +kernel) (by decide +kernel)
theorem zwf_Sx_33 : Cond.fieldLink R_Sx 33 R_Sx (F_Sx 5).2.1 (F_Sx 5).2.2.1 ∈ sw_tb := tb_mem 271 (by decide +kernel) (by decide +kernel)
theorem zwf_Sx_39 : Cond.fieldLink R_Sx 39 R_Sx (F_Sx 6).2.1 (F_Sx 6).2.2.1 ∈ sw_tb := tb_mem 272 (by decide +kernel) (by decide +kernel)
theorem zwf_Sx_46 : Cond.fieldLink R_Sx 46 R_Sx (F_Sx 7).2.1 (F_Sx 7).2.2.1 ∈ sw_tb := tb_mem 273 (by decide +kernel) (by decide +kernel)
theorem zwf_Sx_53 : Cond.fieldLink R_Sx 53 R_Sx (F_Sx 8).2.1 (F_Sx 8).2.2.1 ∈ sw_tb := tb_mem 274 (by decide +kernel) (by decide +kernel)
theorem zwf_Sx_57 : Cond.fieldLink R_Sx 57 R_Sx (F_Sx 9).2.1 (F_Sx 9).2.2.1 ∈ sw_tb := tb_mem 275 (by decide +kernel) (by decide +kernel)
theorem zwf_Sx_64 : Cond.fieldLink R_Sx 64 R_Sx (F_Sx 10).2.1 (F_Sx 10).2.2.1 ∈ sw_tb := tb_mem 276 (by decide +kernel) (by decide +kernel)
theorem zwf_Sx_68 : Cond.fieldLink R_Sx 68 R_Sx (F_Sx 11).2.1 (F_Sx 11).2.2.1 ∈ sw_tb := tb_mem 277 (by decide +kernel) (by decide +kernel)
theorem zwf_Sx_71 : Cond.fieldLink R_Sx 71 R_Sx (F_Sx 12).2.1 (F_Sx 12).2.2.1 ∈ sw_tb := tb_mem 278 (by decide +kernel) (by decide +kernel)
theorem zwf_Sx_74 : Cond.fieldLink R_Sx 74 R_Sx (F_Sx 13).2.1 (F_Sx 13).2.2.1 ∈ sw_tb := tb_mem 279 (by decide +kernel) (by decide +kernel)
theorem zwf_Sx_77 : Cond.fieldLink R_Sx 77 R_Sx (F_Sx 16).2.1 (F_Sx 16).2.2.1 ∈ sw_tb := tb_mem 282 (by decide +kernel) (by decide +kernel)
theorem zwi_Hi : Cond.initialized R_Hi ∈ sw_tb := tb_mem 3 (by decide +kernel) (by decide +kernel)
theorem zwi_Ju : Cond.initialized R_Ju ∈ sw_tb := tb_mem 7 (by decide +kernel) (by decide +kernel)
theorem zwi_Pl : Cond.initialized R_Pl ∈ sw_tb := tb_mem 2 (by decide +kernel) (by decide +kernel)
theorem zwi_Re : Cond.initialized R_Re ∈ sw_tb := tb_mem 4 (by decide +kernel) (by decide +kernel)
theorem zwi_Ro : Cond.initialized R_Ro ∈ sw_tb := tb_mem 9 (by decide +kernel) (by decide +kernel)
theorem zwl_Ro_18 : Cond.classLink R_Ro 18 "[[I" ∈ sw_tb := tb_mem 238 (by decide +kernel) (by decide +kernel)
theorem zwl_Sx_26 : Cond.classLink R_Sx 26 R_Hi ∈ sw_tb := tb_mem 92 (by decide +kernel) (by decide +kernel)
theorem zwl_Sx_36 : Cond.classLink R_Sx 36 R_Re ∈ sw_tb := tb_mem 109 (by decide +kernel) (by decide +kernel)
theorem zwl_Sx_43 : Cond.classLink R_Sx 43 R_Ju ∈ sw_tb := tb_mem 201 (by decide +kernel) (by decide +kernel)
theorem zwl_Sx_50 : Cond.classLink R_Sx 50 R_Rk ∈ sw_tb := tb_mem 230 (by decide +kernel) (by decide +kernel)
theorem zwl_Sx_61 : Cond.classLink R_Sx 61 R_Ro ∈ sw_tb := tb_mem 232 (by decide +kernel) (by decide +kernel)
theorem zwl_Sx_9 : Cond.classLink R_Sx 9 R_Pl ∈ sw_tb := tb_mem 26 (by decide +kernel) (by decide +kernel)
theorem zwm_Sx_11 : Cond.methodLink R_Sx 11 yPl_init ∈ sw_tb := tb_mem 28 (by decide +kernel) (by decide +kernel)
theorem zwm_Sx_38 : Cond.methodLink R_Sx 38 yRe_init ∈ sw_tb := tb_mem 111 (by decide +kernel) (by decide +kernel)
theorem zwn_Hi : Cond.instantiable R_Hi 3 ∈ sw_tb := tb_mem 93 (by decide +kernel) (by decide +kernel)
theorem zwn_Ju : Cond.instantiable R_Ju 2 ∈ sw_tb := tb_mem 202 (by decide +kernel) (by decide +kernel)
theorem zwn_Pl : Cond.instantiable R_Pl 12 ∈ sw_tb := tb_mem 27 (by decide +kernel) (by decide +kernel)
theorem zwn_Re : Cond.instantiable R_Re 9 ∈ sw_tb := tb_mem 110 (by decide +kernel) (by decide +kernel)
theorem zwn_Ro : Cond.instantiable R_Ro 8 ∈ sw_tb := tb_mem 233 (by decide +kernel) (by decide +kernel)
theorem zwo_Ro_5 : Cond.methodLink R_Ro 5 objectInit ∈ sw_tb := tb_mem 237 (by decide +kernel) (by decide +kernel)
theorem zwo_Sx_3 : Cond.methodLink R_Sx 3 objectInit ∈ sw_tb := tb_mem 23 (by decide +kernel) (by decide +kernel)
theorem zwv_Hi : Cond.instanceMethod yHi_init ∈ sw_tb := tb_mem 95 (by decide +kernel) (by decide +kernel)
theorem zwv_Ju : Cond.instanceMethod yJu_init ∈ sw_tb := tb_mem 204 (by decide +kernel) (by decide +kernel)
theorem zwv_Pl : Cond.instanceMethod yPl_init ∈ sw_tb := tb_mem 29 (by decide +kernel) (by decide +kernel)
theorem zwv_Re : Cond.instanceMethod yRe_init ∈ sw_tb := tb_mem 112 (by decide +kernel) (by decide +kernel)
theorem zwv_Ro : Cond.instanceMethod yRo_init ∈ sw_tb := tb_mem 235 (by decide +kernel) (by decide +kernel)
theorem dRo_init_0 : decode prog_7_method_1_code 0 = .ok (.aload_n 0, 1) := by decide +kernel
theorem dRo_init_1 : decode prog_7_method_1_code 1 = .ok (.invokespecial 5, 3) := by decide +kernel
theorem dRo_init_4 : decode prog_7_method_1_code 4 = .ok (.aload_n 0, 1) := by decide +kernel
theorem dRo_init_5 : decode prog_7_method_1_code 5 = .ok (.bipush 7, 2) := by decide +kernel
theorem dRo_init_7 : decode prog_7_method_1_code 7 = .ok (.newarray .int, 2) := by decide +kernel
theorem dRo_init_9 : decode prog_7_method_1_code 9 = .ok (.putfield 11, 3) := by decide +kernel
theorem dRo_init_12 : decode prog_7_method_1_code 12 = .ok (.aload_n 0, 1) := by decide +kernel
theorem dRo_init_13 : decode prog_7_method_1_code 13 = .ok (.bipush 7, 2) := by decide +kernel
theorem dRo_init_15 : decode prog_7_method_1_code 15 = .ok (.newarray .int, 2) := by decide +kernel
theorem dRo_init_17 : decode prog_7_method_1_code 17 = .ok (.putfield 15, 3) := by decide +kernel
theorem dRo_init_20 : decode prog_7_method_1_code 20 = .ok (.aload_n 0, 1) := by decide +kernel
theorem dRo_init_21 : decode prog_7_method_1_code 21 = .ok (.bipush 7, 2) := by decide +kernel
theorem dRo_init_23 : decode prog_7_method_1_code 23 = .ok (.bipush 7, 2) := by decide +kernel
theorem dRo_init_25 : decode prog_7_method_1_code 25 = .ok (.multianewarray 18 2, 4) := by decide +kernel
theorem dRo_init_29 : decode prog_7_method_1_code 29 = .ok (.putfield 20, 3) := by decide +kernel
theorem dRo_init_32 : decode prog_7_method_1_code 32 = .ok (.aload_n 0, 1) := by decide +kernel
theorem dRo_init_33 : decode prog_7_method_1_code 33 = .ok (.bipush 7, 2) := by decide +kernel
theorem dRo_init_35 : decode prog_7_method_1_code 35 = .ok (.bipush 7, 2) := by decide +kernel
theorem dRo_init_37 : decode prog_7_method_1_code 37 = .ok (.multianewarray 18 2, 4) := by decide +kernel
theorem dRo_init_41 : decode prog_7_method_1_code 41 = .ok (.putfield 23, 3) := by decide +kernel
theorem dRo_init_44 : decode prog_7_method_1_code 44 = .ok (.aload_n 0, 1) := by decide +kernel
theorem dRo_init_45 : decode prog_7_method_1_code 45 = .ok (.bipush 7, 2) := by decide +kernel
theorem dRo_init_47 : decode prog_7_method_1_code 47 = .ok (.bipush 7, 2) := by decide +kernel
theorem dRo_init_49 : decode prog_7_method_1_code 49 = .ok (.multianewarray 18 2, 4) := by decide +kernel
theorem dRo_init_53 : decode prog_7_method_1_code 53 = .ok (.putfield 26, 3) := by decide +kernel
theorem dRo_init_56 : decode prog_7_method_1_code 56 = .ok (.aload_n 0, 1) := by decide +kernel
theorem dRo_init_57 : decode prog_7_method_1_code 57 = .ok (.iconst 4, 1) := by decide +kernel
theorem dRo_init_58 : decode prog_7_method_1_code 58 = .ok (.sipush 1784, 3) := by decide +kernel
theorem dRo_init_61 : decode prog_7_method_1_code 61 = .ok (.multianewarray 18 2, 4) := by decide +kernel
theorem dRo_init_65 : decode prog_7_method_1_code 65 = .ok (.putfield 29, 3) := by decide +kernel
theorem dRo_init_68 : decode prog_7_method_1_code 68 = .ok (.return_, 1) := by decide +kernel
theorem dSx_init_0 : decode prog_1_method_1_code 0 = .ok (.aload_n 0, 1) := by decide +kernel
theorem dSx_init_1 : decode prog_1_method_1_code 1 = .ok (.invokespecial 3, 3) := by decide +kernel
theorem dSx_init_4 : decode prog_1_method_1_code 4 = .ok (.aload_n 0, 1) := by decide +kernel
theorem dSx_init_5 : decode prog_1_method_1_code 5 = .ok (.new 9, 3) := by decide +kernel
theorem dSx_init_8 : decode prog_1_method_1_code 8 = .ok (.dup, 1) := by decide +kernel
theorem dSx_init_9 : decode prog_1_method_1_code 9 = .ok (.invokespecial 11, 3) := by decide +kernel
theorem dSx_init_12 : decode prog_1_method_1_code 12 = .ok (.putfield 12, 3) := by decide +kernel
theorem dSx_init_15 : decode prog_1_method_1_code 15 = .ok (.aload_n 0, 1) := by decide +kernel
theorem dSx_init_16 : decode prog_1_method_1_code 16 = .ok (.new 9, 3) := by decide +kernel
theorem dSx_init_19 : decode prog_1_method_1_code 19 = .ok (.dup, 1) := by decide +kernel
theorem dSx_init_20 : decode prog_1_method_1_code 20 = .ok (.invokespecial 11, 3) := by decide +kernel
theorem dSx_init_23 : decode prog_1_method_1_code 23 = .ok (.putfield 16, 3) := by decide +kernel
theorem dSx_init_26 : decode prog_1_method_1_code 26 = .ok (.aload_n 0, 1) := by decide +kernel
theorem dSx_init_27 : decode prog_1_method_1_code 27 = .ok (.new 9, 3) := by decide +kernel
theorem dSx_init_30 : decode prog_1_method_1_code 30 = .ok (.dup, 1) := by decide +kernel
theorem dSx_init_31 : decode prog_1_method_1_code 31 = .ok (.invokespecial 11, 3) := by decide +kernel
theorem dSx_init_34 : decode prog_1_method_1_code 34 = .ok (.putfield 19, 3) := by decide +kernel
theorem dSx_init_37 : decode prog_1_method_1_code 37 = .ok (.aload_n 0, 1) := by decide +kernel
theorem dSx_init_38 : decode prog_1_method_1_code 38 = .ok (.iconst 2, 1) := by decide +kernel
theorem dSx_init_39 : decode prog_1_method_1_code 39 = .ok (.anewarray 9, 3) := by decide +kernel
theorem dSx_init_42 : decode prog_1_method_1_code 42 = .ok (.putfield 22, 3) := by decide +kernel
theorem dSx_init_45 : decode prog_1_method_1_code 45 = .ok (.aload_n 0, 1) := by decide +kernel
theorem dSx_init_46 : decode prog_1_method_1_code 46 = .ok (.new 26, 3) := by decide +kernel
theorem dSx_init_49 : decode prog_1_method_1_code 49 = .ok (.dup, 1) := by decide +kernel
theorem dSx_init_50 : decode prog_1_method_1_code 50 = .ok (.invokespecial 28, 3) := by decide +kernel
theorem dSx_init_53 : decode prog_1_method_1_code 53 = .ok (.putfield 29, 3) := by decide +kernel
theorem dSx_init_56 : decode prog_1_method_1_code 56 = .ok (.aload_n 0, 1) := by decide +kernel
theorem dSx_init_57 : decode prog_1_method_1_code 57 = .ok (.new 26, 3) := by decide +kernel
theorem dSx_init_60 : decode prog_1_method_1_code 60 = .ok (.dup, 1) := by decide +kernel
theorem dSx_init_61 : decode prog_1_method_1_code 61 = .ok (.invokespecial 28, 3) := by decide +kernel
theorem dSx_init_64 : decode prog_1_method_1_code 64 = .ok (.putfield 33, 3) := by decide +kernel
theorem dSx_init_67 : decode prog_1_method_1_code 67 = .ok (.aload_n 0, 1) := by decide +kernel
theorem dSx_init_68 : decode prog_1_method_1_code 68 = .ok (.new 36, 3) := by decide +kernel
theorem dSx_init_71 : decode prog_1_method_1_code 71 = .ok (.dup, 1) := by decide +kernel
theorem dSx_init_72 : decode prog_1_method_1_code 72 = .ok (.invokespecial 38, 3) := by decide +kernel
theorem dSx_init_75 : decode prog_1_method_1_code 75 = .ok (.putfield 39, 3) := by decide +kernel
theorem dSx_init_78 : decode prog_1_method_1_code 78 = .ok (.aload_n 0, 1) := by decide +kernel
theorem dSx_init_79 : decode prog_1_method_1_code 79 = .ok (.new 43, 3) := by decide +kernel
theorem dSx_init_82 : decode prog_1_method_1_code 82 = .ok (.dup, 1) := by decide +kernel
theorem dSx_init_83 : decode prog_1_method_1_code 83 = .ok (.invokespecial 45, 3) := by decide +kernel
theorem dSx_init_86 : decode prog_1_method_1_code 86 = .ok (.putfield 46, 3) := by decide +kernel
theorem dSx_init_89 : decode prog_1_method_1_code 89 = .ok (.aload_n 0, 1) := by decide +kernel
theorem dSx_init_90 : decode prog_1_method_1_code 90 = .ok (.new 50, 3) := by decide +kernel
theorem dSx_init_93 : decode prog_1_method_1_code 93 = .ok (.dup, 1) := by decide +kernel
theorem dSx_init_94 : decode prog_1_method_1_code 94 = .ok (.invokespecial 52, 3) := by decide +kernel
theorem dSx_init_97 : decode prog_1_method_1_code 97 = .ok (.putfield 53, 3) := by decide +kernel
theorem dSx_init_100 : decode prog_1_method_1_code 100 = .ok (.aload_n 0, 1) := by decide +kernel
theorem dSx_init_101 : decode prog_1_method_1_code 101 = .ok (.bipush 19, 2) := by decide +kernel
theorem dSx_init_103 : decode prog_1_method_1_code 103 = .ok (.newarray .int, 2) := by decide +kernel
theorem dSx_init_105 : decode prog_1_method_1_code 105 = .ok (.putfield 57, 3) := by decide +kernel
theorem dSx_init_108 : decode prog_1_method_1_code 108 = .ok (.aload_n 0, 1) := by decide +kernel
theorem dSx_init_109 : decode prog_1_method_1_code 109 = .ok (.new 61, 3) := by decide +kernel
theorem dSx_init_112 : decode prog_1_method_1_code 112 = .ok (.dup, 1) := by decide +kernel
theorem dSx_init_113 : decode prog_1_method_1_code 113 = .ok (.invokespecial 63, 3) := by decide +kernel
theorem dSx_init_116 : decode prog_1_method_1_code 116 = .ok (.putfield 64, 3) := by decide +kernel
theorem dSx_init_119 : decode prog_1_method_1_code 119 = .ok (.aload_n 0, 1) := by decide +kernel
theorem dSx_init_120 : decode prog_1_method_1_code 120 = .ok (.sipush 128, 3) := by decide +kernel
theorem dSx_init_123 : decode prog_1_method_1_code 123 = .ok (.newarray .int, 2) := by decide +kernel
theorem dSx_init_125 : decode prog_1_method_1_code 125 = .ok (.putfield 68, 3) := by decide +kernel
theorem dSx_init_128 : decode prog_1_method_1_code 128 = .ok (.aload_n 0, 1) := by decide +kernel
theorem dSx_init_129 : decode prog_1_method_1_code 129 = .ok (.sipush 128, 3) := by decide +kernel
theorem dSx_init_132 : decode prog_1_method_1_code 132 = .ok (.newarray .int, 2) := by decide +kernel
theorem dSx_init_134 : decode prog_1_method_1_code 134 = .ok (.putfield 71, 3) := by decide +kernel
theorem dSx_init_137 : decode prog_1_method_1_code 137 = .ok (.aload_n 0, 1) := by decide +kernel
theorem dSx_init_138 : decode prog_1_method_1_code 138 = .ok (.iconst 5, 1) := by decide +kernel
theorem dSx_init_139 : decode prog_1_method_1_code 139 = .ok (.newarray .int, 2) := by decide +kernel
theorem dSx_init_141 : decode prog_1_method_1_code 141 = .ok (.putfield 74, 3) := by decide +kernel
theorem dSx_init_144 : decode prog_1_method_1_code 144 = .ok (.aload_n 0, 1) := by decide +kernel
theorem dSx_init_145 : decode prog_1_method_1_code 145 = .ok (.iconst (-1), 1) := by decide +kernel
theorem dSx_init_146 : decode prog_1_method_1_code 146 = .ok (.putfield 77, 3) := by decide +kernel
theorem dSx_init_149 : decode prog_1_method_1_code 149 = .ok (.return_, 1) := by decide +kernel
def cf_Ro (Γ : sw_C) (h0 : Nat) (u : ((Nat → Nat) × (Nat → Nat) × (Nat → Nat) × (Nat → Nat) × (Nat → Nat))) : va_W := ((h0, .inr (5, [.ref (u.1 1), .ref (u.1 2), .ref (u.1 3), .ref (u.1 4), .ref (u.1 5), .ref (u.1 6), .int 0, .int 0])) :: (((((([] ++ [((u.1 1), .inl (Γ.2.1 0, 7, .inl (fun _ => 0)))]) ++ [((u.1 2), .inl (Γ.2.1 0, 7, .inl (fun _ => 0)))]) ++ mg (Γ.2.1 6) (Γ.2.1 0) (u.1 3) u.2.1 7 7) ++ mg (Γ.2.1 6) (Γ.2.1 0) (u.1 4) u.2.2.1 7 7) ++ mg (Γ.2.1 6) (Γ.2.1 0) (u.1 5) u.2.2.2.1 7 7) ++ mg (Γ.2.1 6) (Γ.2.1 0) (u.1 6) u.2.2.2.2 4 1784))
set_option maxHeartbeats 4000000 in
set_option maxRecDepth 100000 in
theorem cRo_init (l : Launch) {Γ : sw_C} {A : Nat → Prop} {Θ : State → Prop} {ws : va_W} {h0 : Nat} (hΘ : sk_good Θ) (hA : ∀ U, Θ U → sk_AA U) : Met l yRo_init (Cond.code yRo_init prog_7_method_1_code 1 none :: sw_tb) { frames := 1, cells := 31, slots := 7322, locals := 20 } (va_Pc [.ref h0] (sk_V Γ A Θ ws [(h0, .inr (5, [.null, .null, .null, .null, .null, .null, .int 0, .int 0]))])) (va_Qv (fun (_ : ((Nat → Nat) × (Nat → Nat) × (Nat → Nat) × (Nat → Nat) × (Nat → Nat))) => True) (fun u t => sk_W Γ A ws (cf_Ro Γ h0 u) t) A) 31 (7322) A := by
  refine Met.ofW (cc := prog_7_method_1_code) (maxL := 1) (ret := none) (by decide) rfl ?_
  intro p e s m args below meth c s₁ B hml hv
  obtain ⟨rfl, hv⟩ := hv
  have S : CallFix p m c prog_7_method_1_code 1 s _ (Cond.code yRo_init prog_7_method_1_code 1 none :: sw_tb) R_Ro := ⟨B.exec, B.bytes, hml, findClass_of_methodNamed B.named, atoms_spec (ws := (Cond.code yRo_init prog_7_method_1_code 1 none :: sw_tb)) B.pre⟩
  have hr := B.returns
  have hlk := B.notSynchronized
  have hin : meth.name = "<init>" := (name_of_methodNamed B.named B.method).1
  have hw := sk_begin hv
  have hw : sk_S Γ A Θ ws ((h0, .inr (5, [.null, .null, .null, .null, .null, .null, .int 0, .int 0])) :: []) s s.heap [] := hw
  have hl := lv_entry [.ref h0] (n := 1) (Nat.le_of_ble_eq_true rfl)
  rw [lg_entry_eq]
  generalize (lg_sl [.ref h0] ++ List.replicate (1 - (lg_sl [.ref h0]).length) Slot.unset).toArray = ls at hl ⊢
  have hl : lv_has ls 1 [(0, .ref h0)] := hl
  refine lv_aload_n S.1 S.2.1 dRo_init_0 rfl (lv_at hl 0 rfl) ?_
  refine sk_obj (rest := []) S hl.1 zwo_Ro_5 (Nat.le_of_ble_eq_true rfl) (Nat.le_of_ble_eq_true rfl) dRo_init_1 ?_
  refine lv_aload_n S.1 S.2.1 dRo_init_4 rfl (lv_at hl 0 rfl) ?_
  refine lv_bipush (v := (7 : Int32)) S.1 S.2.1 dRo_init_5 (by decide) ?_
  refine sk_newi (n := 7) S hw zwa_0 (by decide) (by decide) (Nat.le_of_ble_eq_true rfl) (Nat.le_of_ble_eq_true rfl) (Nat.le_of_ble_eq_true rfl) dRo_init_7 (fun q1 H hw => ?_)
  refine sk_putF (x' := ((h0, .inr (5, [.ref q1, .null, .null, .null, .null, .null, .int 0, .int 0])) :: ([] ++ [(q1, .inl (Γ.2.1 0, 7, .inl (fun _ => 0)))]))) S hw i_Ro t_Ro t_Ro_ok n_Ro hin 0 rfl rfl 0 (by decide) zwf_Ro_11 rfl rfl rfl rfl rfl (Nat.le_of_ble_eq_true rfl) rfl dRo_init_9 (fun H locs hw => ?_)
  refine lv_aload_n S.1 S.2.1 dRo_init_12 rfl (lv_at hl 0 rfl) ?_
  refine lv_bipush (v := (7 : Int32)) S.1 S.2.1 dRo_init_13 (by decide) ?_
  refine sk_newi (n := 7) S hw zwa_0 (by decide) (by decide) (Nat.le_of_ble_eq_true rfl) (Nat.le_of_ble_eq_true rfl) (Nat.le_of_ble_eq_true rfl) dRo_init_15 (fun q2 H hw => ?_)
  refine sk_putF (x' := ((h0, .inr (5, [.ref q1, .ref q2, .null, .null, .null, .null, .int 0, .int 0])) :: (([] ++ [(q1, .inl (Γ.2.1 0, 7, .inl (fun _ => 0)))]) ++ [(q2, .inl (Γ.2.1 0, 7, .inl (fun _ => 0)))]))) S hw i_Ro t_Ro t_Ro_ok n_Ro hin 0 rfl rfl 1 (by decide) zwf_Ro_15 rfl rfl rfl rfl rfl (Nat.le_of_ble_eq_true rfl) rfl dRo_init_17 (fun H locs hw => ?_)
  refine lv_aload_n S.1 S.2.1 dRo_init_20 rfl (lv_at hl 0 rfl) ?_
  refine lv_bipush (v := (7 : Int32)) S.1 S.2.1 dRo_init_21 (by decide) ?_
  refine lv_bipush (v := (7 : Int32)) S.1 S.2.1 dRo_init_23 (by decide) ?_
  refine sk_mna (N := 7) (K := 7) S hw zwl_Ro_18 (hA _ hw.2.2.2.2.2) zwa_0 (by decide) (by decide) (by decide) (by decide) (Nat.le_of_ble_eq_true rfl) (Nat.le_of_ble_eq_true rfl) (Nat.le_of_ble_eq_true rfl) (Nat.le_of_ble_eq_true rfl) dRo_init_25 (fun q3 u3 H hw => ?_)
  refine sk_putF (x' := ((h0, .inr (5, [.ref q1, .ref q2, .ref q3, .null, .null, .null, .int 0, .int 0])) :: ((([] ++ [(q1, .inl (Γ.2.1 0, 7, .inl (fun _ => 0)))]) ++ [(q2, .inl (Γ.2.1 0, 7, .inl (fun _ => 0)))]) ++ mg (Γ.2.1 6) (Γ.2.1 0) q3 u3 7 7))) S hw i_Ro t_Ro t_Ro_ok n_Ro hin 0 rfl rfl 2 (by decide) zwf_Ro_20 rfl rfl rfl rfl rfl (Nat.le_of_ble_eq_true rfl) rfl dRo_init_29 (fun H locs hw => ?_)
  refine lv_aload_n S.1 S.2.1 dRo_init_32 rfl (lv_at hl 0 rfl) ?_
  refine lv_bipush (v := (7 : Int32)) S.1 S.2.1 dRo_init_33 (by decide) ?_
  refine lv_bipush (v := (7 : Int32)) S.1 S.2.1 dRo_init_35 (by decide) ?_
  refine sk_mna (N := 7) (K := 7) S hw zwl_Ro_18 (hA _ hw.2.2.2.2.2) zwa_0 (by decide) (by decide) (by decide) (by decide) (Nat.le_of_ble_eq_true rfl) (Nat.le_of_ble_eq_true rfl) (Nat.le_of_ble_eq_true rfl) (Nat.le_of_ble_eq_true rfl) dRo_init_37 (fun q4 u5 H hw => ?_)
  refine sk_putF (x' := ((h0, .inr (5, [.ref q1, .ref q2, .ref q3, .ref q4, .null, .null, .int 0, .int 0])) :: (((([] ++ [(q1, .inl (Γ.2.1 0, 7, .inl (fun _ => 0)))]) ++ [(q2, .inl (Γ.2.1 0, 7, .inl (fun _ => 0)))]) ++ mg (Γ.2.1 6) (Γ.2.1 0) q3 u3 7 7) ++ mg (Γ.2.1 6) (Γ.2.1 0) q4 u5 7 7))) S hw i_Ro t_Ro t_Ro_ok n_Ro hin 0 rfl rfl 3 (by decide) zwf_Ro_23 rfl rfl rfl rfl rfl (Nat.le_of_ble_eq_true rfl) rfl dRo_init_41 (fun H locs hw => ?_)
  refine lv_aload_n S.1 S.2.1 dRo_init_44 rfl (lv_at hl 0 rfl) ?_
  refine lv_bipush (v := (7 : Int32)) S.1 S.2.1 dRo_init_45 (by decide) ?_
  refine lv_bipush (v := (7 : Int32)) S.1 S.2.1 dRo_init_47 (by decide) ?_
  refine sk_mna (N := 7) (K := 7) S hw zwl_Ro_18 (hA _ hw.2.2.2.2.2) zwa_0 (by decide) (by decide) (by decide) (by decide) (Nat.le_of_ble_eq_true rfl) (Nat.le_of_ble_eq_true rfl) (Nat.le_of_ble_eq_true rfl) (Nat.le_of_ble_eq_true rfl) dRo_init_49 (fun q5 u7 H hw => ?_)
  refine sk_putF (x' := ((h0, .inr (5, [.ref q1, .ref q2, .ref q3, .ref q4, .ref q5, .null, .int 0, .int 0])) :: ((((([] ++ [(q1, .inl (Γ.2.1 0, 7, .inl (fun _ => 0)))]) ++ [(q2, .inl (Γ.2.1 0, 7, .inl (fun _ => 0)))]) ++ mg (Γ.2.1 6) (Γ.2.1 0) q3 u3 7 7) ++ mg (Γ.2.1 6) (Γ.2.1 0) q4 u5 7 7) ++ mg (Γ.2.1 6) (Γ.2.1 0) q5 u7 7 7))) S hw i_Ro t_Ro t_Ro_ok n_Ro hin 0 rfl rfl 4 (by decide) zwf_Ro_26 rfl rfl rfl rfl rfl (Nat.le_of_ble_eq_true rfl) rfl dRo_init_53 (fun H locs hw => ?_)
  refine lv_aload_n S.1 S.2.1 dRo_init_56 rfl (lv_at hl 0 rfl) ?_
  refine lv_iconst (v := (4 : Int32)) S.1 S.2.1 dRo_init_57 (by decide) ?_
  refine lv_sipush (v := (1784 : Int32)) S.1 S.2.1 dRo_init_58 (by decide) ?_
  refine sk_mna (N := 4) (K := 1784) S hw zwl_Ro_18 (hA _ hw.2.2.2.2.2) zwa_0 (by decide) (by decide) (by decide) (by decide) (Nat.le_of_ble_eq_true rfl) (Nat.le_of_ble_eq_true rfl) (Nat.le_of_ble_eq_true rfl) (Nat.le_of_ble_eq_true rfl) dRo_init_61 (fun q6 u9 H hw => ?_)
  refine sk_putF (x' := ((h0, .inr (5, [.ref q1, .ref q2, .ref q3, .ref q4, .ref q5, .ref q6, .int 0, .int 0])) :: (((((([] ++ [(q1, .inl (Γ.2.1 0, 7, .inl (fun _ => 0)))]) ++ [(q2, .inl (Γ.2.1 0, 7, .inl (fun _ => 0)))]) ++ mg (Γ.2.1 6) (Γ.2.1 0) q3 u3 7 7) ++ mg (Γ.2.1 6) (Γ.2.1 0) q4 u5 7 7) ++ mg (Γ.2.1 6) (Γ.2.1 0) q5 u7 7 7) ++ mg (Γ.2.1 6) (Γ.2.1 0) q6 u9 4 1784))) S hw i_Ro t_Ro t_Ro_ok n_Ro hin 0 rfl rfl 5 (by decide) zwf_Ro_29 rfl rfl rfl rfl rfl (Nat.le_of_ble_eq_true rfl) rfl dRo_init_65 (fun H locs hw => ?_)
  exact sk_vret (u := ((fun j => ([0, q1, q2, q3, q4, q5, q6] : List Nat).getD j 0), u3, u5, u7, u9)) (cf := cf_Ro Γ h0) (pst := fun _ => True) S hr hlk hw trivial rfl dRo_init_68
def cf_Sx (Γ : sw_C) (h0 : Nat) (u : ((Nat → Nat) × (Nat → Nat) × (Nat → Nat) × (Nat → Nat) × (Nat → Nat) × (Nat → Nat) × ((Nat → Nat) × (Nat → Nat)) × ((Nat → Nat) × (Nat → Nat)) × (Nat → Nat) × ((Nat → Nat) × (Nat → Nat) × (Nat → Nat) × (Nat → Nat) × (Nat → Nat)))) : va_W := ((h0, .inr (7, [.ref (u.1 1), .ref (u.1 2), .ref (u.1 3), .ref (u.1 4), .ref (u.1 5), .ref (u.1 6), .ref (u.1 7), .ref (u.1 8), .ref (u.1 9), .ref (u.1 10), .ref (u.1 11), .ref (u.1 12), .ref (u.1 13), .ref (u.1 14), .int 0, .int 0, .int (-1 : Int32)])) :: (((((((((((((([] ++ cf_Pl Γ (u.1 1) u.2.1) ++ cf_Pl Γ (u.1 2) u.2.2.1) ++ cf_Pl Γ (u.1 3) u.2.2.2.1) ++ [((u.1 4), .inl (Γ.2.1 5, 2, .inr (.inr (.inr (.inr (fun _ => none))))))]) ++ cf_Hi Γ (u.1 5) u.2.2.2.2.1) ++ cf_Hi Γ (u.1 6) u.2.2.2.2.2.1) ++ cf_Re Γ (u.1 7) u.2.2.2.2.2.2.1) ++ cf_Ju Γ (u.1 8) u.2.2.2.2.2.2.2.1) ++ cf_Rk Γ (u.1 9) u.2.2.2.2.2.2.2.2.1) ++ [((u.1 10), .inl (Γ.2.1 0, 19, .inl (fun _ => 0)))]) ++ cf_Ro Γ (u.1 11) u.2.2.2.2.2.2.2.2.2) ++ [((u.1 12), .inl (Γ.2.1 0, 128, .inl (fun _ => 0)))]) ++ [((u.1 13), .inl (Γ.2.1 0, 128, .inl (fun _ => 0)))]) ++ [((u.1 14), .inl (Γ.2.1 0, 5, .inl (fun _ => 0)))]))
set_option maxHeartbeats 4000000 in
set_option maxRecDepth 100000 in
theorem cSx_init (l : Launch) {Γ : sw_C} {A : Nat → Prop} {Θ : State → Prop} {ws : va_W} {h0 : Nat} (hΘ : sk_good Θ) (hO : ∀ U, Θ U → sk_O U) (hA : ∀ U, Θ U → sk_AA U) : Met l ySx_init (Cond.code ySx_init prog_1_method_1_code 1 none :: sw_tb) { frames := 3, cells := 83, slots := 9396, locals := 61 } (va_Pc [.ref h0] (sk_V Γ A Θ ws [(h0, .inr (7, [.null, .null, .null, .null, .null, .null, .null, .null, .null, .null, .null, .null, .null, .null, .int 0, .int 0, .int 0]))])) (va_Qv (fun (_ : ((Nat → Nat) × (Nat → Nat) × (Nat → Nat) × (Nat → Nat) × (Nat → Nat) × (Nat → Nat) × ((Nat → Nat) × (Nat → Nat)) × ((Nat → Nat) × (Nat → Nat)) × (Nat → Nat) × ((Nat → Nat) × (Nat → Nat) × (Nat → Nat) × (Nat → Nat) × (Nat → Nat)))) => True) (fun u t => sk_W Γ A ws (cf_Sx Γ h0 u) t) A) 83 (9396) A := by
  refine Met.ofW (cc := prog_1_method_1_code) (maxL := 1) (ret := none) (by decide) rfl ?_
  intro p e s m args below meth c s₁ B hml hv
  obtain ⟨rfl, hv⟩ := hv
  have S : CallFix p m c prog_1_method_1_code 1 s _ (Cond.code ySx_init prog_1_method_1_code 1 none :: sw_tb) R_Sx := ⟨B.exec, B.bytes, hml, findClass_of_methodNamed B.named, atoms_spec (ws := (Cond.code ySx_init prog_1_method_1_code 1 none :: sw_tb)) B.pre⟩
  have hr := B.returns
  have hlk := B.notSynchronized
  have hin : meth.name = "<init>" := (name_of_methodNamed B.named B.method).1
  have hw := sk_begin hv
  have hT : ∀ U, Θ U → va_AO R_Te U := fun U h => (hO U h).1
  have hTP : ∀ U, Θ U → va_AO R_Pl U := fun U h => (hO U h).2.1
  have hw : sk_S Γ A Θ ws ((h0, .inr (7, [.null, .null, .null, .null, .null, .null, .null, .null, .null, .null, .null, .null, .null, .null, .int 0, .int 0, .int 0])) :: []) s s.heap [] := hw
  have hl := lv_entry [.ref h0] (n := 1) (Nat.le_of_ble_eq_true rfl)
  rw [lg_entry_eq]
  generalize (lg_sl [.ref h0] ++ List.replicate (1 - (lg_sl [.ref h0]).length) Slot.unset).toArray = ls at hl ⊢
  have hl : lv_has ls 1 [(0, .ref h0)] := hl
  refine lv_aload_n S.1 S.2.1 dSx_init_0 rfl (lv_at hl 0 rfl) ?_
  refine sk_obj (rest := []) S hl.1 zwo_Sx_3 (Nat.le_of_ble_eq_true rfl) (Nat.le_of_ble_eq_true rfl) dSx_init_1 ?_
  refine lv_aload_n S.1 S.2.1 dSx_init_4 rfl (lv_at hl 0 rfl) ?_
  refine sk_new (ci := 2) (fs := [.int 0, .null, .null, .null, .null, .int 0, .null, .null, .null, .int 0, .null, .int 0]) S hw i_Pl t_Pl t_Pl_ok zwl_Sx_9 zwn_Pl zwi_Pl rfl df_Pl (Nat.le_of_ble_eq_true rfl) (Nat.le_of_ble_eq_true rfl) dSx_init_5 (fun q1 H hw => ?_)
  refine lv_dup S.1 S.2.1 dSx_init_8 rfl ?_
  refine sk_ctor (rest := [.ref q1, .ref h0]) S hΘ hw (cPl_init l hΘ hT) y_Pl zwm_Sx_11 zwv_Pl rfl rfl rfl hl.1 (Nat.le_of_ble_eq_true rfl) ⟨rfl, rfl, Nat.le_of_ble_eq_true rfl, Nat.le_of_ble_eq_true rfl⟩ ⟨Nat.le_of_ble_eq_true rfl, Nat.le_of_ble_eq_true rfl⟩ dSx_init_9 (fun u1 H locs _ hw => ?_)
  refine sk_putF (x' := ((h0, .inr (7, [.ref q1, .null, .null, .null, .null, .null, .null, .null, .null, .null, .null, .null, .null, .null, .int 0, .int 0, .int 0])) :: ([] ++ cf_Pl Γ q1 u1))) S hw i_Sx t_Sx t_Sx_ok n_Sx hin 0 rfl rfl 0 (by decide) zwf_Sx_12 rfl rfl rfl rfl rfl (Nat.le_of_ble_eq_true rfl) rfl dSx_init_12 (fun H locs hw => ?_)
  refine lv_aload_n S.1 S.2.1 dSx_init_15 rfl (lv_at hl 0 rfl) ?_
  refine sk_new (ci := 2) (fs := [.int 0, .null, .null, .null, .null, .int 0, .null, .null, .null, .int 0, .null, .int 0]) S hw i_Pl t_Pl t_Pl_ok zwl_Sx_9 zwn_Pl zwi_Pl rfl df_Pl (Nat.le_of_ble_eq_true rfl) (Nat.le_of_ble_eq_true rfl) dSx_init_16 (fun q2 H hw => ?_)
  refine lv_dup S.1 S.2.1 dSx_init_19 rfl ?_
  refine sk_ctor (rest := [.ref q2, .ref h0]) S hΘ hw (cPl_init l hΘ hT) y_Pl zwm_Sx_11 zwv_Pl rfl rfl rfl hl.1 (Nat.le_of_ble_eq_true rfl) ⟨rfl, rfl, Nat.le_of_ble_eq_true rfl, Nat.le_of_ble_eq_true rfl⟩ ⟨Nat.le_of_ble_eq_true rfl, Nat.le_of_ble_eq_true rfl⟩ dSx_init_20 (fun u3 H locs _ hw => ?_)
  refine sk_putF (x' := ((h0, .inr (7, [.ref q1, .ref q2, .null, .null, .null, .null, .null, .null, .null, .null, .null, .null, .null, .null, .int 0, .int 0, .int 0])) :: (([] ++ cf_Pl Γ q1 u1) ++ cf_Pl Γ q2 u3))) S hw i_Sx t_Sx t_Sx_ok n_Sx hin 0 rfl rfl 1 (by decide) zwf_Sx_16 rfl rfl rfl rfl rfl (Nat.le_of_ble_eq_true rfl) rfl dSx_init_23 (fun H locs hw => ?_)
  refine lv_aload_n S.1 S.2.1 dSx_init_26 rfl (lv_at hl 0 rfl) ?_
  refine sk_new (ci := 2) (fs := [.int 0, .null, .null, .null, .null, .int 0, .null, .null, .null, .int 0, .null, .int 0]) S hw i_Pl t_Pl t_Pl_ok zwl_Sx_9 zwn_Pl zwi_Pl rfl df_Pl (Nat.le_of_ble_eq_true rfl) (Nat.le_of_ble_eq_true rfl) dSx_init_27 (fun q3 H hw => ?_)
  refine lv_dup S.1 S.2.1 dSx_init_30 rfl ?_
  refine sk_ctor (rest := [.ref q3, .ref h0]) S hΘ hw (cPl_init l hΘ hT) y_Pl zwm_Sx_11 zwv_Pl rfl rfl rfl hl.1 (Nat.le_of_ble_eq_true rfl) ⟨rfl, rfl, Nat.le_of_ble_eq_true rfl, Nat.le_of_ble_eq_true rfl⟩ ⟨Nat.le_of_ble_eq_true rfl, Nat.le_of_ble_eq_true rfl⟩ dSx_init_31 (fun u5 H locs _ hw => ?_)
  refine sk_putF (x' := ((h0, .inr (7, [.ref q1, .ref q2, .ref q3, .null, .null, .null, .null, .null, .null, .null, .null, .null, .null, .null, .int 0, .int 0, .int 0])) :: ((([] ++ cf_Pl Γ q1 u1) ++ cf_Pl Γ q2 u3) ++ cf_Pl Γ q3 u5))) S hw i_Sx t_Sx t_Sx_ok n_Sx hin 0 rfl rfl 2 (by decide) zwf_Sx_19 rfl rfl rfl rfl rfl (Nat.le_of_ble_eq_true rfl) rfl dSx_init_34 (fun H locs hw => ?_)
  refine lv_aload_n S.1 S.2.1 dSx_init_37 rfl (lv_at hl 0 rfl) ?_
  refine lv_iconst (v := (2 : Int32)) S.1 S.2.1 dSx_init_38 (by decide) ?_
  refine sk_newq (t0 := 5) (n := 2) S hw zwl_Sx_9 (hTP _ hw.2.2.2.2.2) rfl (by decide) (by decide) (Nat.le_of_ble_eq_true rfl) (Nat.le_of_ble_eq_true rfl) (Nat.le_of_ble_eq_true rfl) dSx_init_39 (fun q4 H hw => ?_)
  refine sk_putF (x' := ((h0, .inr (7, [.ref q1, .ref q2, .ref q3, .ref q4, .null, .null, .null, .null, .null, .null, .null, .null, .null, .null, .int 0, .int 0, .int 0])) :: (((([] ++ cf_Pl Γ q1 u1) ++ cf_Pl Γ q2 u3) ++ cf_Pl Γ q3 u5) ++ [(q4, .inl (Γ.2.1 5, 2, .inr (.inr (.inr (.inr (fun _ => none))))))]))) S hw i_Sx t_Sx t_Sx_ok n_Sx hin 0 rfl rfl 3 (by decide) zwf_Sx_22 rfl rfl rfl rfl rfl (Nat.le_of_ble_eq_true rfl) rfl dSx_init_42 (fun H locs hw => ?_)
  refine lv_aload_n S.1 S.2.1 dSx_init_45 rfl (lv_at hl 0 rfl) ?_
  refine sk_new (ci := 0) (fs := [.int 0, .int 0, .null]) S hw i_Hi t_Hi t_Hi_ok zwl_Sx_26 zwn_Hi zwi_Hi rfl df_Hi (Nat.le_of_ble_eq_true rfl) (Nat.le_of_ble_eq_true rfl) dSx_init_46 (fun q5 H hw => ?_)
  refine lv_dup S.1 S.2.1 dSx_init_49 rfl ?_
  refine sk_ctorN (rest := [.ref q5, .ref h0]) S hΘ hw (cHi_init l hΘ) y_Hi (hO _ hw.2.2.2.2.2).2.2.1 zwv_Hi rfl rfl rfl hl.1 (Nat.le_of_ble_eq_true rfl) ⟨rfl, rfl, Nat.le_of_ble_eq_true rfl, Nat.le_of_ble_eq_true rfl⟩ ⟨Nat.le_of_ble_eq_true rfl, Nat.le_of_ble_eq_true rfl⟩ dSx_init_50 (fun u8 H locs _ hw => ?_)
  refine sk_putF (x' := ((h0, .inr (7, [.ref q1, .ref q2, .ref q3, .ref q4, .ref q5, .null, .null, .null, .null, .null, .null, .null, .null, .null, .int 0, .int 0, .int 0])) :: ((((([] ++ cf_Pl Γ q1 u1) ++ cf_Pl Γ q2 u3) ++ cf_Pl Γ q3 u5) ++ [(q4, .inl (Γ.2.1 5, 2, .inr (.inr (.inr (.inr (fun _ => none))))))]) ++ cf_Hi Γ q5 u8))) S hw i_Sx t_Sx t_Sx_ok n_Sx hin 0 rfl rfl 4 (by decide) zwf_Sx_29 rfl rfl rfl rfl rfl (Nat.le_of_ble_eq_true rfl) rfl dSx_init_53 (fun H locs hw => ?_)
  refine lv_aload_n S.1 S.2.1 dSx_init_56 rfl (lv_at hl 0 rfl) ?_
  refine sk_new (ci := 0) (fs := [.int 0, .int 0, .null]) S hw i_Hi t_Hi t_Hi_ok zwl_Sx_26 zwn_Hi zwi_Hi rfl df_Hi (Nat.le_of_ble_eq_true rfl) (Nat.le_of_ble_eq_true rfl) dSx_init_57 (fun q6 H hw => ?_)
  refine lv_dup S.1 S.2.1 dSx_init_60 rfl ?_
  refine sk_ctorN (rest := [.ref q6, .ref h0]) S hΘ hw (cHi_init l hΘ) y_Hi (hO _ hw.2.2.2.2.2).2.2.1 zwv_Hi rfl rfl rfl hl.1 (Nat.le_of_ble_eq_true rfl) ⟨rfl, rfl, Nat.le_of_ble_eq_true rfl, Nat.le_of_ble_eq_true rfl⟩ ⟨Nat.le_of_ble_eq_true rfl, Nat.le_of_ble_eq_true rfl⟩ dSx_init_61 (fun u10 H locs _ hw => ?_)
  refine sk_putF (x' := ((h0, .inr (7, [.ref q1, .ref q2, .ref q3, .ref q4, .ref q5, .ref q6, .null, .null, .null, .null, .null, .null, .null, .null, .int 0, .int 0, .int 0])) :: (((((([] ++ cf_Pl Γ q1 u1) ++ cf_Pl Γ q2 u3) ++ cf_Pl Γ q3 u5) ++ [(q4, .inl (Γ.2.1 5, 2, .inr (.inr (.inr (.inr (fun _ => none))))))]) ++ cf_Hi Γ q5 u8) ++ cf_Hi Γ q6 u10))) S hw i_Sx t_Sx t_Sx_ok n_Sx hin 0 rfl rfl 5 (by decide) zwf_Sx_33 rfl rfl rfl rfl rfl (Nat.le_of_ble_eq_true rfl) rfl dSx_init_64 (fun H locs hw => ?_)
  refine lv_aload_n S.1 S.2.1 dSx_init_67 rfl (lv_at hl 0 rfl) ?_
  refine sk_new (ci := 3) (fs := [.int 0, .null, .int 0, .null, .int 0, .int 0, .int 0, .int 0, .int 0]) S hw i_Re t_Re t_Re_ok zwl_Sx_36 zwn_Re zwi_Re rfl df_Re (Nat.le_of_ble_eq_true rfl) (Nat.le_of_ble_eq_true rfl) dSx_init_68 (fun q7 H hw => ?_)
  refine lv_dup S.1 S.2.1 dSx_init_71 rfl ?_
  refine sk_ctor (rest := [.ref q7, .ref h0]) S hΘ hw (cRe_init l hΘ) y_Re zwm_Sx_38 zwv_Re rfl rfl rfl hl.1 (Nat.le_of_ble_eq_true rfl) ⟨rfl, rfl, Nat.le_of_ble_eq_true rfl, Nat.le_of_ble_eq_true rfl⟩ ⟨Nat.le_of_ble_eq_true rfl, Nat.le_of_ble_eq_true rfl⟩ dSx_init_72 (fun u12 H locs _ hw => ?_)
  refine sk_putF (x' := ((h0, .inr (7, [.ref q1, .ref q2, .ref q3, .ref q4, .ref q5, .ref q6, .ref q7, .null, .null, .null, .null, .null, .null, .null, .int 0, .int 0, .int 0])) :: ((((((([] ++ cf_Pl Γ q1 u1) ++ cf_Pl Γ q2 u3) ++ cf_Pl Γ q3 u5) ++ [(q4, .inl (Γ.2.1 5, 2, .inr (.inr (.inr (.inr (fun _ => none))))))]) ++ cf_Hi Γ q5 u8) ++ cf_Hi Γ q6 u10) ++ cf_Re Γ q7 u12))) S hw i_Sx t_Sx t_Sx_ok n_Sx hin 0 rfl rfl 6 (by decide) zwf_Sx_39 rfl rfl rfl rfl rfl (Nat.le_of_ble_eq_true rfl) rfl dSx_init_75 (fun H locs hw => ?_)
  refine lv_aload_n S.1 S.2.1 dSx_init_78 rfl (lv_at hl 0 rfl) ?_
  refine sk_new (ci := 1) (fs := [.null, .null]) S hw i_Ju t_Ju t_Ju_ok zwl_Sx_43 zwn_Ju zwi_Ju rfl df_Ju (Nat.le_of_ble_eq_true rfl) (Nat.le_of_ble_eq_true rfl) dSx_init_79 (fun q8 H hw => ?_)
  refine lv_dup S.1 S.2.1 dSx_init_82 rfl ?_
  refine sk_ctorN (rest := [.ref q8, .ref h0]) S hΘ hw (cJu_init l hΘ hO) y_Ju (hO _ hw.2.2.2.2.2).2.2.2.1 zwv_Ju rfl rfl rfl hl.1 (Nat.le_of_ble_eq_true rfl) ⟨rfl, rfl, Nat.le_of_ble_eq_true rfl, Nat.le_of_ble_eq_true rfl⟩ ⟨Nat.le_of_ble_eq_true rfl, Nat.le_of_ble_eq_true rfl⟩ dSx_init_83 (fun u14 H locs _ hw => ?_)
  refine sk_putF (x' := ((h0, .inr (7, [.ref q1, .ref q2, .ref q3, .ref q4, .ref q5, .ref q6, .ref q7, .ref q8, .null, .null, .null, .null, .null, .null, .int 0, .int 0, .int 0])) :: (((((((([] ++ cf_Pl Γ q1 u1) ++ cf_Pl Γ q2 u3) ++ cf_Pl Γ q3 u5) ++ [(q4, .inl (Γ.2.1 5, 2, .inr (.inr (.inr (.inr (fun _ => none))))))]) ++ cf_Hi Γ q5 u8) ++ cf_Hi Γ q6 u10) ++ cf_Re Γ q7 u12) ++ cf_Ju Γ q8 u14))) S hw i_Sx t_Sx t_Sx_ok n_Sx hin 0 rfl rfl 7 (by decide) zwf_Sx_46 rfl rfl rfl rfl rfl (Nat.le_of_ble_eq_true rfl) rfl dSx_init_86 (fun H locs hw => ?_)
  refine lv_aload_n S.1 S.2.1 dSx_init_89 rfl (lv_at hl 0 rfl) ?_
  refine sk_new (ci := 4) (fs := [.int 0, .null]) S hw i_Rk t_Rk t_Rk_ok zwl_Sx_50 zwn_Rk zwi_Rk rfl df_Rk (Nat.le_of_ble_eq_true rfl) (Nat.le_of_ble_eq_true rfl) dSx_init_90 (fun q9 H hw => ?_)
  refine lv_dup S.1 S.2.1 dSx_init_93 rfl ?_
  refine sk_ctorN (rest := [.ref q9, .ref h0]) S hΘ hw (cRk_init l hΘ) y_Rk (hO _ hw.2.2.2.2.2).2.2.2.2.2.1 zwv_Rk rfl rfl rfl hl.1 (Nat.le_of_ble_eq_true rfl) ⟨rfl, rfl, Nat.le_of_ble_eq_true rfl, Nat.le_of_ble_eq_true rfl⟩ ⟨Nat.le_of_ble_eq_true rfl, Nat.le_of_ble_eq_true rfl⟩ dSx_init_94 (fun u16 H locs _ hw => ?_)
  refine sk_putF (x' := ((h0, .inr (7, [.ref q1, .ref q2, .ref q3, .ref q4, .ref q5, .ref q6, .ref q7, .ref q8, .ref q9, .null, .null, .null, .null, .null, .int 0, .int 0, .int 0])) :: ((((((((([] ++ cf_Pl Γ q1 u1) ++ cf_Pl Γ q2 u3) ++ cf_Pl Γ q3 u5) ++ [(q4, .inl (Γ.2.1 5, 2, .inr (.inr (.inr (.inr (fun _ => none))))))]) ++ cf_Hi Γ q5 u8) ++ cf_Hi Γ q6 u10) ++ cf_Re Γ q7 u12) ++ cf_Ju Γ q8 u14) ++ cf_Rk Γ q9 u16))) S hw i_Sx t_Sx t_Sx_ok n_Sx hin 0 rfl rfl 8 (by decide) zwf_Sx_53 rfl rfl rfl rfl rfl (Nat.le_of_ble_eq_true rfl) rfl dSx_init_97 (fun H locs hw => ?_)
  refine lv_aload_n S.1 S.2.1 dSx_init_100 rfl (lv_at hl 0 rfl) ?_
  refine lv_bipush (v := (19 : Int32)) S.1 S.2.1 dSx_init_101 (by decide) ?_
  refine sk_newi (n := 19) S hw zwa_0 (by decide) (by decide) (Nat.le_of_ble_eq_true rfl) (Nat.le_of_ble_eq_true rfl) (Nat.le_of_ble_eq_true rfl) dSx_init_103 (fun q10 H hw => ?_)
  refine sk_putF (x' := ((h0, .inr (7, [.ref q1, .ref q2, .ref q3, .ref q4, .ref q5, .ref q6, .ref q7, .ref q8, .ref q9, .ref q10, .null, .null, .null, .null, .int 0, .int 0, .int 0])) :: (((((((((([] ++ cf_Pl Γ q1 u1) ++ cf_Pl Γ q2 u3) ++ cf_Pl Γ q3 u5) ++ [(q4, .inl (Γ.2.1 5, 2, .inr (.inr (.inr (.inr (fun _ => none))))))]) ++ cf_Hi Γ q5 u8) ++ cf_Hi Γ q6 u10) ++ cf_Re Γ q7 u12) ++ cf_Ju Γ q8 u14) ++ cf_Rk Γ q9 u16) ++ [(q10, .inl (Γ.2.1 0, 19, .inl (fun _ => 0)))]))) S hw i_Sx t_Sx t_Sx_ok n_Sx hin 0 rfl rfl 9 (by decide) zwf_Sx_57 rfl rfl rfl rfl rfl (Nat.le_of_ble_eq_true rfl) rfl dSx_init_105 (fun H locs hw => ?_)
  refine lv_aload_n S.1 S.2.1 dSx_init_108 rfl (lv_at hl 0 rfl) ?_
  refine sk_new (ci := 5) (fs := [.null, .null, .null, .null, .null, .null, .int 0, .int 0]) S hw i_Ro t_Ro t_Ro_ok zwl_Sx_61 zwn_Ro zwi_Ro rfl df_Ro (Nat.le_of_ble_eq_true rfl) (Nat.le_of_ble_eq_true rfl) dSx_init_109 (fun q11 H hw => ?_)
  refine lv_dup S.1 S.2.1 dSx_init_112 rfl ?_
  refine sk_ctorN (rest := [.ref q11, .ref h0]) S hΘ hw (cRo_init l hΘ hA) y_Ro (hO _ hw.2.2.2.2.2).2.2.2.2.2.2 zwv_Ro rfl rfl rfl hl.1 (Nat.le_of_ble_eq_true rfl) ⟨rfl, rfl, Nat.le_of_ble_eq_true rfl, Nat.le_of_ble_eq_true rfl⟩ ⟨Nat.le_of_ble_eq_true rfl, Nat.le_of_ble_eq_true rfl⟩ dSx_init_113 (fun u19 H locs _ hw => ?_)
  refine sk_putF (x' := ((h0, .inr (7, [.ref q1, .ref q2, .ref q3, .ref q4, .ref q5, .ref q6, .ref q7, .ref q8, .ref q9, .ref q10, .ref q11, .null, .null, .null, .int 0, .int 0, .int 0])) :: ((((((((((([] ++ cf_Pl Γ q1 u1) ++ cf_Pl Γ q2 u3) ++ cf_Pl Γ q3 u5) ++ [(q4, .inl (Γ.2.1 5, 2, .inr (.inr (.inr (.inr (fun _ => none))))))]) ++ cf_Hi Γ q5 u8) ++ cf_Hi Γ q6 u10) ++ cf_Re Γ q7 u12) ++ cf_Ju Γ q8 u14) ++ cf_Rk Γ q9 u16) ++ [(q10, .inl (Γ.2.1 0, 19, .inl (fun _ => 0)))]) ++ cf_Ro Γ q11 u19))) S hw i_Sx t_Sx t_Sx_ok n_Sx hin 0 rfl rfl 10 (by decide) zwf_Sx_64 rfl rfl rfl rfl rfl (Nat.le_of_ble_eq_true rfl) rfl dSx_init_116 (fun H locs hw => ?_)
  refine lv_aload_n S.1 S.2.1 dSx_init_119 rfl (lv_at hl 0 rfl) ?_
  refine lv_sipush (v := (128 : Int32)) S.1 S.2.1 dSx_init_120 (by decide) ?_
  refine sk_newi (n := 128) S hw zwa_0 (by decide) (by decide) (Nat.le_of_ble_eq_true rfl) (Nat.le_of_ble_eq_true rfl) (Nat.le_of_ble_eq_true rfl) dSx_init_123 (fun q12 H hw => ?_)
  refine sk_putF (x' := ((h0, .inr (7, [.ref q1, .ref q2, .ref q3, .ref q4, .ref q5, .ref q6, .ref q7, .ref q8, .ref q9, .ref q10, .ref q11, .ref q12, .null, .null, .int 0, .int 0, .int 0])) :: (((((((((((([] ++ cf_Pl Γ q1 u1) ++ cf_Pl Γ q2 u3) ++ cf_Pl Γ q3 u5) ++ [(q4, .inl (Γ.2.1 5, 2, .inr (.inr (.inr (.inr (fun _ => none))))))]) ++ cf_Hi Γ q5 u8) ++ cf_Hi Γ q6 u10) ++ cf_Re Γ q7 u12) ++ cf_Ju Γ q8 u14) ++ cf_Rk Γ q9 u16) ++ [(q10, .inl (Γ.2.1 0, 19, .inl (fun _ => 0)))]) ++ cf_Ro Γ q11 u19) ++ [(q12, .inl (Γ.2.1 0, 128, .inl (fun _ => 0)))]))) S hw i_Sx t_Sx t_Sx_ok n_Sx hin 0 rfl rfl 11 (by decide) zwf_Sx_68 rfl rfl rfl rfl rfl (Nat.le_of_ble_eq_true rfl) rfl dSx_init_125 (fun H locs hw => ?_)
  refine lv_aload_n S.1 S.2.1 dSx_init_128 rfl (lv_at hl 0 rfl) ?_
  refine lv_sipush (v := (128 : Int32)) S.1 S.2.1 dSx_init_129 (by decide) ?_
  refine sk_newi (n := 128) S hw zwa_0 (by decide) (by decide) (Nat.le_of_ble_eq_true rfl) (Nat.le_of_ble_eq_true rfl) (Nat.le_of_ble_eq_true rfl) dSx_init_132 (fun q13 H hw => ?_)
  refine sk_putF (x' := ((h0, .inr (7, [.ref q1, .ref q2, .ref q3, .ref q4, .ref q5, .ref q6, .ref q7, .ref q8, .ref q9, .ref q10, .ref q11, .ref q12, .ref q13, .null, .int 0, .int 0, .int 0])) :: ((((((((((((([] ++ cf_Pl Γ q1 u1) ++ cf_Pl Γ q2 u3) ++ cf_Pl Γ q3 u5) ++ [(q4, .inl (Γ.2.1 5, 2, .inr (.inr (.inr (.inr (fun _ => none))))))]) ++ cf_Hi Γ q5 u8) ++ cf_Hi Γ q6 u10) ++ cf_Re Γ q7 u12) ++ cf_Ju Γ q8 u14) ++ cf_Rk Γ q9 u16) ++ [(q10, .inl (Γ.2.1 0, 19, .inl (fun _ => 0)))]) ++ cf_Ro Γ q11 u19) ++ [(q12, .inl (Γ.2.1 0, 128, .inl (fun _ => 0)))]) ++ [(q13, .inl (Γ.2.1 0, 128, .inl (fun _ => 0)))]))) S hw i_Sx t_Sx t_Sx_ok n_Sx hin 0 rfl rfl 12 (by decide) zwf_Sx_71 rfl rfl rfl rfl rfl (Nat.le_of_ble_eq_true rfl) rfl dSx_init_134 (fun H locs hw => ?_)
  refine lv_aload_n S.1 S.2.1 dSx_init_137 rfl (lv_at hl 0 rfl) ?_
  refine lv_iconst (v := (5 : Int32)) S.1 S.2.1 dSx_init_138 (by decide) ?_
  refine sk_newi (n := 5) S hw zwa_0 (by decide) (by decide) (Nat.le_of_ble_eq_true rfl) (Nat.le_of_ble_eq_true rfl) (Nat.le_of_ble_eq_true rfl) dSx_init_139 (fun q14 H hw => ?_)
  refine sk_putF (x' := ((h0, .inr (7, [.ref q1, .ref q2, .ref q3, .ref q4, .ref q5, .ref q6, .ref q7, .ref q8, .ref q9, .ref q10, .ref q11, .ref q12, .ref q13, .ref q14, .int 0, .int 0, .int 0])) :: (((((((((((((([] ++ cf_Pl Γ q1 u1) ++ cf_Pl Γ q2 u3) ++ cf_Pl Γ q3 u5) ++ [(q4, .inl (Γ.2.1 5, 2, .inr (.inr (.inr (.inr (fun _ => none))))))]) ++ cf_Hi Γ q5 u8) ++ cf_Hi Γ q6 u10) ++ cf_Re Γ q7 u12) ++ cf_Ju Γ q8 u14) ++ cf_Rk Γ q9 u16) ++ [(q10, .inl (Γ.2.1 0, 19, .inl (fun _ => 0)))]) ++ cf_Ro Γ q11 u19) ++ [(q12, .inl (Γ.2.1 0, 128, .inl (fun _ => 0)))]) ++ [(q13, .inl (Γ.2.1 0, 128, .inl (fun _ => 0)))]) ++ [(q14, .inl (Γ.2.1 0, 5, .inl (fun _ => 0)))]))) S hw i_Sx t_Sx t_Sx_ok n_Sx hin 0 rfl rfl 13 (by decide) zwf_Sx_74 rfl rfl rfl rfl rfl (Nat.le_of_ble_eq_true rfl) rfl dSx_init_141 (fun H locs hw => ?_)
  refine lv_aload_n S.1 S.2.1 dSx_init_144 rfl (lv_at hl 0 rfl) ?_
  refine lv_iconst (v := (-1 : Int32)) S.1 S.2.1 dSx_init_145 (by decide) ?_
  refine sk_put (x' := ((h0, .inr (7, [.ref q1, .ref q2, .ref q3, .ref q4, .ref q5, .ref q6, .ref q7, .ref q8, .ref q9, .ref q10, .ref q11, .ref q12, .ref q13, .ref q14, .int 0, .int 0, .int (-1 : Int32)])) :: (((((((((((((([] ++ cf_Pl Γ q1 u1) ++ cf_Pl Γ q2 u3) ++ cf_Pl Γ q3 u5) ++ [(q4, .inl (Γ.2.1 5, 2, .inr (.inr (.inr (.inr (fun _ => none))))))]) ++ cf_Hi Γ q5 u8) ++ cf_Hi Γ q6 u10) ++ cf_Re Γ q7 u12) ++ cf_Ju Γ q8 u14) ++ cf_Rk Γ q9 u16) ++ [(q10, .inl (Γ.2.1 0, 19, .inl (fun _ => 0)))]) ++ cf_Ro Γ q11 u19) ++ [(q12, .inl (Γ.2.1 0, 128, .inl (fun _ => 0)))]) ++ [(q13, .inl (Γ.2.1 0, 128, .inl (fun _ => 0)))]) ++ [(q14, .inl (Γ.2.1 0, 5, .inl (fun _ => 0)))]))) S hw i_Sx t_Sx t_Sx_ok n_Sx 0 rfl rfl 16 (by decide) zwf_Sx_77 rfl rfl rfl rfl (Nat.le_of_ble_eq_true rfl) rfl dSx_init_146 (fun H locs hw => ?_)
  exact sk_vret (u := ((fun j => ([0, q1, q2, q3, q4, q5, q6, q7, q8, q9, q10, q11, q12, q13, q14] : List Nat).getD j 0), u1, u3, u5, u8, u10, u12, u14, u16, u19)) (cf := cf_Sx Γ h0) (pst := fun _ => True) S hr hlk hw trivial rfl dSx_init_149
