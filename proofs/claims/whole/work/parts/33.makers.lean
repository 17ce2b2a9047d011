section SWM
variable {p : Program} {l : Launch} {e : Env} {R : Room} {s : State} {m : MethodId} {args : Array Value} {below : List Frame} {meth : Method} {c : Code} {H : Heap} {locs : List Loc} {cells slots : Nat} {Q : State → Prop}
variable {cc : ByteArray} {pc nL index : Nat} {ls : Array Slot} {rest : List Value} {Γ : sw_C} {A : Nat → Prop} {ξ : sw_x} {g : sw_g} {μ : sw_m} {w0 : Cond} {own : String} {q n : Nat}
theorem sw_VT {y : MethodName} {bytes : ByteArray} {maxL k mc ms : Nat} {ret : Option FieldType} {rm : Room} {As : List Value} {g' : sw_g} {ci : Nat} {r : vw_C} {fs : List Value} {st0 : List Value} (S : CallFix p m c cc nL s args (w0 :: sw_tb) own) (hw : sw_S Γ A ξ g μ s H locs)
    (hM : Met l y (Cond.code y bytes maxL ret :: sw_tb) rm (va_Pc (.ref (ξ.2.2.2.1 q) :: As) (sw_V Γ A ξ g μ)) (sw_QT Γ A ξ n g' μ) mc ms A) (hy : sw_yv y bytes maxL ret k) (hl : Cond.methodLink own index y ∈ sw_tb) (hq : q < ξ.1) (he : sw_E Γ ξ g μ q = .inr (ci, fs)) (hc : swCl[ci]? = some r) (hC : r.1 = y.cls) (hst : st0 = As.reverse ++ .ref (ξ.2.2.2.1 q) :: rest) (hn : As.length = k) (hz : ls.size = nL)
    (hro : (rest.map fun v => v.category).sum ≤ 8) (hR : rm.cells = mc ∧ rm.slots = ms ∧ rm.frames + 1 ≤ R.frames ∧ 8 + (maxL + 11) + rm.locals ≤ R.locals) (hf : cells + mc ≤ R.cells ∧ slots + ms ≤ R.slots) (hdg : decode cc pc = .ok (.invokevirtual index, 3))
    (kk : ∀ (h : Nat) (u : Nat → Nat) (H1 : Heap) (locs1 : List Loc), sw_S Γ A (xT ξ h u n) g' μ s H1 locs1 → sw_wf (xT ξ h u n) g'.2.2 → W p l e R s m args below meth c H1 locs1 (cells + mc) (slots + ms) Q (F0 m (pc + 3) ls (.ref h :: rest))) : W p l e R s m args below meth c H locs cells slots Q (F0 m pc ls st0) := by
  subst hst
  refine va_callq (va_runV (C := y.cls) (As := As) (rest := rest) S hM ⟨callB_of k S.2.2.2.2 (tb_good hy.1.1) rfl hR.1 hR.2.1 (sw_word S hy.1.2.1) (sw_word S hl) hy.1.2.2 hR.2.2, sw_word S hy.2.1, sw_word S hy.2.2⟩ ⟨sw_blind, by rw [← hC]; exact va_recv hw.2.1 hw.1 hc (sw_at hw hq he), sw_pre hw _⟩ rfl hn hz rfl (lv_room hro) hdg hf) hw.2.2.2.1 (fun _ _ h => h) (fun _ h => h) (fun r w t H1 locs1 ht hvm hr hB _ _ hS => ?_)
  subst hr
  rw [← ht] at hS ⊢
  exact kk w.1 w.2 t.heap locs1 ⟨hB.1.1, va_K.moved hvm.symm hB.1.2.1, hB.1.2.2, hS, hw.2.2.2.2⟩ hB.2
end SWM
theorem wm_Sx_180 : Cond.methodLink R_Sx 180 yTe_copy ∈ sw_tb := tb_mem 657 (by decide +kernel) (by decide +kernel)
theorem wl_Sx_9 : Cond.classLink R_Sx 9 R_Pl ∈ sw_tb := tb_mem 26 (by decide +kernel) (by decide +kernel)
theorem wn_Pl : Cond.instantiable R_Pl 12 ∈ sw_tb := tb_mem 27 (by decide +kernel) (by decide +kernel)
theorem wi_Pl : Cond.initialized R_Pl ∈ sw_tb := tb_mem 2 (by decide +kernel) (by decide +kernel)
theorem wv_Pl : Cond.instanceMethod yPl_init ∈ sw_tb := tb_mem 29 (by decide +kernel) (by decide +kernel)
theorem wm_Sx_11 : Cond.methodLink R_Sx 11 yPl_init ∈ sw_tb := tb_mem 28 (by decide +kernel) (by decide +kernel)
theorem wa_long : Cond.arrayClass .long ∈ sw_tb := tb_mem 222 (by decide +kernel) (by decide +kernel)
abbrev sw_QLa (Γ : sw_C) (A : Nat → Prop) (ξ : sw_x) (n : Nat) (g : sw_g) (μ : sw_m) (v : Int32) : Array Value → State → Outcome → State → Prop := va_Qi (fun r (_ : Nat × (Nat → Nat)) => r = v) (fun w t => sw_W Γ A (xT ξ w.1 w.2 n) g μ t ∧ sw_wf (xT ξ w.1 w.2 n) g.2.2) A
abbrev sw_QIm (Γ : sw_C) (A : Nat → Prop) (ξ : sw_x) (g : sw_g) (μ : sw_m) (v : Int32) : Array Value → State → Outcome → State → Prop := va_Qi (fun r (_ : Nat × (Nat → Nat)) => r = v) (fun w t => sw_W Γ A (xP ξ w.1 w.2) g μ t ∧ sw_wf (xP ξ w.1 w.2) g.2.2) A
abbrev sw_QFe (Γ : sw_C) (A : Nat → Prop) (ξ : sw_x) (g : sw_g) (μ : sw_m) (v : Int64) : Array Value → State → Outcome → State → Prop := va_Ql (fun r (_ : Nat) => r = v) (fun w t => sw_W Γ A (xF ξ w 20) g μ t ∧ sw_wf (xF ξ w 20) g.2.2) A
set_option maxHeartbeats 4000000 in
set_option maxRecDepth 100000 in
theorem cSx_law (l : Launch) (N : Nat) {Γ : sw_C} {A : Nat → Prop} {ξ : sw_x} {g : sw_g} {μ : sw_m} (hf : sw_wf ξ g.2.2) (hd : sw_dyn ξ) (h6 : g.1 1 9 < 6) {v : Int32} {g2 : sw_g} (hr1 : fRe_reads N ξ.2.2.1 g 1 = some (v, g2)) (hv : ¬ v = 0) {n : Nat} (hn0 : ¬ jmax (0 : Int32) (g2.1 35 6) < 0) (hn1 : (jmax (0 : Int32) (g2.1 35 6)).toNatClampNeg = n) (hn2 : n ≤ 1000) {g3 : sw_g} (hm1 : fTe_copy_t_12t N (lT ξ n) 35 ξ.1 (gZ g2 ξ.1) = some (some ξ.1, g3)) {res : Int32 × sw_g} (hm2 : fSx_law_t_60t N (lT ξ n) ξ.1 g3 = some res) : Met l ySx_law (Cond.code ySx_law prog_1_method_11_code 1 (some .int) :: sw_tb) (rmSx_law n) (va_Pc [.ref (ξ.2.2.2.1 0)] (sw_V Γ A ξ g μ)) (sw_QLa Γ A ξ n res.2 μ res.1) 7 (68 + n) A := by
  refine Met.ofW (cc := prog_1_method_11_code) (maxL := 1) (ret := some .int) (by decide) rfl ?_
  intro p e s m args below meth c s₁ B hml hv0
  obtain ⟨rfl, hv0⟩ := hv0
  have S : CallFix p m c prog_1_method_11_code 1 s _ (Cond.code ySx_law prog_1_method_11_code 1 (some .int) :: sw_tb) R_Sx := ⟨B.exec, B.bytes, hml, findClass_of_methodNamed B.named, atoms_spec (ws := Cond.code ySx_law prog_1_method_11_code 1 (some .int) :: sw_tb) B.pre⟩
  have hr := B.returns
  have hlk := B.notSynchronized
  have hw := sw_begin hv0
  have hl := lv_entry [.ref (ξ.2.2.2.1 0)] (n := 1) (Nat.le_of_ble_eq_true rfl)
  rw [lg_entry_eq]
  generalize (lg_sl [.ref (ξ.2.2.2.1 0)] ++ List.replicate (1 - (lg_sl [.ref (ξ.2.2.2.1 0)]).length) Slot.unset).toArray = ls at hl ⊢
  have hl : lv_has ls 1 [(0, .ref (ξ.2.2.2.1 0))] := hl
  refine lv_aload_n S.1 S.2.1 dSx_law_0 rfl (lv_at hl 0 rfl) ?_
  refine get_Sx (v := .ref (ξ.2.2.2.1 1)) S hw (is_0 hf) 0 (by decide) rfl wf_Sx_12 dSx_law_1 ?_
  refine get_Pl (v := .int (g.1 1 9)) S hw (is_1 hf) 9 (by decide) rfl wf_Sx_169 dSx_law_4 ?_
  refine lv_bipush (v := (6 : Int32)) S.1 S.2.1 dSx_law_7 (by decide) ?_
  refine lv_icmp_lt (tgt := 27) S.1 S.2.1 dSx_law_9 (by decide) (fun _ => ?_) (fun h => absurd h6 h)
  refine lv_aload_n S.1 S.2.1 dSx_law_27 rfl (lv_at hl 0 rfl) ?_
  refine get_Sx (v := .ref (ξ.2.2.2.1 33)) S hw (is_0 hf) 6 (by decide) rfl wf_Sx_39 dSx_law_28 ?_
  refine lv_iconst (v := (1 : Int32)) S.1 S.2.1 dSx_law_31 (by decide) ?_
  refine sw_Vi (q := 33) (rest := []) S hw (cRe_reads l N hf 1 hr1) kRe_reads wm_Sx_172 (is_33 hf).1 (e_Re (is_33 hf)) rfl rfl rfl rfl hl.1 (Nat.le_of_ble_eq_true rfl) ⟨rfl, rfl, Nat.le_of_ble_eq_true rfl, Nat.le_of_ble_eq_true rfl⟩ ⟨Nat.le_of_ble_eq_true rfl, by show 0 + 0 ≤ 68 + n; omega⟩ dSx_law_32 (fun H locs hw hf => ?_)
  refine lv_if_ne (tgt := 45) S.1 S.2.1 dSx_law_35 (by decide) (fun _ => ?_) (fun h => absurd h hv)
  refine lv_aload_n S.1 S.2.1 dSx_law_45 rfl (lv_at hl 0 rfl) ?_
  refine lv_aload_n S.1 S.2.1 dSx_law_46 rfl (lv_at hl 0 rfl) ?_
  refine get_Sx (v := .ref (ξ.2.2.2.1 1)) S hw (is_0 hf) 0 (by decide) rfl wf_Sx_12 dSx_law_47 ?_
  refine lv_aload_n S.1 S.2.1 dSx_law_50 rfl (lv_at hl 0 rfl) ?_
  refine get_Sx (v := .ref (ξ.2.2.2.1 33)) S hw (is_0 hf) 6 (by decide) rfl wf_Sx_39 dSx_law_51 ?_
  refine get_Re (v := .ref (ξ.2.2.2.1 35)) S hw (is_33 hf) 3 (by decide) rfl wf_Sx_176 dSx_law_54 ?_
  refine sw_VT (q := 35) (n := n) (rest := [.ref (ξ.2.2.2.1 1), .ref (ξ.2.2.2.1 0)]) S hw (cTe_copy l N hf hd 35 (is_35 hf) hn0 hn1 hn2 hm1) kTe_copy wm_Sx_180 (is_35 hf).1 (e_Te (is_35 hf)) rfl rfl rfl rfl hl.1 (Nat.le_of_ble_eq_true rfl) ⟨rfl, rfl, Nat.le_of_ble_eq_true rfl, Nat.le_of_ble_eq_true rfl⟩ ⟨Nat.le_of_ble_eq_true rfl, by show 0 + 0 + (68 + n) ≤ 68 + n; omega⟩ dSx_law_57 (fun h u H locs hw hf1 => ?_)
  have eh : (xT ξ h u n).2.2.2.1 ξ.1 = h := (xT_tag (k := 0) (by omega)).2
  have e0 : (xT ξ h u n).2.2.2.1 0 = ξ.2.2.2.1 0 := (le_xT.2 0 (is_0 hf).1).2.2.1
  have e1 : (xT ξ h u n).2.2.2.1 1 = ξ.2.2.2.1 1 := (le_xT.2 1 (is_1 hf).1).2.2.1
  refine W.cs (cells' := 7) (slots' := 68 + n) rfl (by omega) ?_
  have k := wSx_law_60t (l := l) (e := e) (below := below) (n := n) S hr hlk ξ.1 (ξ := xT ξ h u n) ⟨(xT_tag (k := 0) (by omega)).1.1, (xT_tag (k := 0) (by omega)).1.2.1⟩ N g3 H locs ls hm2 hw hf1 (by rw [e0]; exact hl)
  rw [eh, e0, e1] at k
  refine W.mono (MQ.mono (fun o t hq => ?_)) k
  obtain ⟨⟨r, _, a1, a2, a3⟩, a4⟩ := hq
  exact ⟨⟨r, (h, u), a1, a2, a3.1, a3.2⟩, a4⟩
set_option maxHeartbeats 4000000 in
set_option maxRecDepth 100000 in
theorem cSx_image (l : Launch) (N : Nat) {Γ : sw_C} {A : Nat → Prop} {ξ : sw_x} {g : sw_g} {μ : sw_m} (hf : sw_wf ξ g.2.2) (hd : sw_dyn ξ) (a1 : Int32) (h0 : ¬ a1 < 0) (h2 : a1 < 2) (hnl : g.2.2 28 a1.toNatClampNeg = none) {res : Int32 × sw_g} (hm : fSx_image_t_33t N (lP ξ) ξ.1 (gP g ξ.1) a1 = some res) : Met l ySx_image (Cond.code ySx_image prog_1_method_37_code 3 (some .int) :: sw_tb) rmSx_image (va_Pc [.ref (ξ.2.2.2.1 0), .int a1] (sw_V Γ A ξ g μ)) (sw_QIm Γ A ξ res.2 μ res.1) 9 61 A := by
  refine Met.ofW (cc := prog_1_method_37_code) (maxL := 3) (ret := some .int) (by decide) rfl ?_
  intro p e s m args below meth c s₁ B hml hv0
  obtain ⟨rfl, hv0⟩ := hv0
  have S : CallFix p m c prog_1_method_37_code 3 s _ (Cond.code ySx_image prog_1_method_37_code 3 (some .int) :: sw_tb) R_Sx := ⟨B.exec, B.bytes, hml, findClass_of_methodNamed B.named, atoms_spec (ws := Cond.code ySx_image prog_1_method_37_code 3 (some .int) :: sw_tb) B.pre⟩
  have hr := B.returns
  have hlk := B.notSynchronized
  have hw := sw_begin hv0
  have hO := hw.2.2.2.2.2
  have hl := lv_entry [.ref (ξ.2.2.2.1 0), .int a1] (n := 3) (Nat.le_of_ble_eq_true rfl)
  rw [lg_entry_eq]
  generalize (lg_sl [.ref (ξ.2.2.2.1 0), .int a1] ++ List.replicate (3 - (lg_sl [.ref (ξ.2.2.2.1 0), .int a1]).length) Slot.unset).toArray = ls at hl ⊢
  have hl : lv_has ls 3 [(0, .ref (ξ.2.2.2.1 0)), (1, .int a1)] := hl
  refine lv_iload_n S.1 S.2.1 dSx_image_0 rfl (lv_at hl 1 rfl) ?_
  refine lv_if_lt (tgt := 9) S.1 S.2.1 dSx_image_1 (by decide) (fun h => absurd h h0) (fun _ => ?_)
  refine lv_iload_n S.1 S.2.1 dSx_image_4 rfl (lv_at hl 1 rfl) ?_
  refine lv_iconst (v := (2 : Int32)) S.1 S.2.1 dSx_image_5 (by decide) ?_
  refine lv_icmp_lt (tgt := 15) S.1 S.2.1 dSx_image_6 (by decide) (fun _ => ?_) (fun h => absurd h2 h)
  refine lv_aload_n S.1 S.2.1 dSx_image_15 rfl (lv_at hl 0 rfl) ?_
  refine get_Sx (v := .ref (ξ.2.2.2.1 28)) S hw (is_0 hf) 3 (by decide) rfl wf_Sx_22 dSx_image_16 ?_
  refine lv_iload_n S.1 S.2.1 dSx_image_19 rfl (lv_at hl 1 rfl) ?_
  have hin : vp_in a1 2 := fun h => by
    rcases h with h | h
    · exact h0 h
    · obtain ⟨j, hj, rfl⟩ := nI_of h0
      rw [nI_clamp hj] at h
      exact absurd h2 (nI_nlt h hj)
  refine va_aldq S.1 S.2.1 hw.2.1 hw.1 28 5 (sw_at hw (is_28 hf).1 (e_13 (is_28 hf))) rfl hin dSx_image_20 ?_
  rw [hnl]
  refine W.eq (g2 := F0 m 21 ls [.null]) rfl ?_
  refine lv_astore_nN (lv' := [(2, .null), (0, .ref (ξ.2.2.2.1 0)), (1, .int a1)]) S.1 S.2.1 dSx_image_21 rfl hl (by decide) rfl (fun ls hl => ?_)
  refine lv_aload_nN S.1 S.2.1 dSx_image_22 rfl (lv_at hl 0 rfl) ?_
  refine lv_ifnonnullN S.1 S.2.1 dSx_image_23 ?_
  refine sk_new (ci := 2) (fs := [.int 0, .null, .null, .null, .null, .int 0, .null, .null, .null, .int 0, .null, .int 0]) S (sk_of hw) i_Pl t_Pl t_Pl_ok wl_Sx_9 wn_Pl wi_Pl rfl df_Pl (Nat.le_of_ble_eq_true rfl) (Nat.le_of_ble_eq_true rfl) dSx_image_26 (fun h H hw => ?_)
  refine lv_dup S.1 S.2.1 dSx_image_29 rfl ?_
  refine sk_ctor (x0 := []) (rest := [.ref h]) S sk_Tg hw (cPl_init l sk_Tg (fun _ h => h)) y_Pl wm_Sx_11 wv_Pl rfl rfl rfl hl.1 (Nat.le_of_ble_eq_true rfl) ⟨rfl, rfl, Nat.le_of_ble_eq_true rfl, Nat.le_of_ble_eq_true rfl⟩ ⟨Nat.le_of_ble_eq_true rfl, Nat.le_of_ble_eq_true rfl⟩ dSx_image_30 (fun u H locs _ hw => ?_)
  have hw1 : sw_S Γ A (xP ξ h u) (gP g ξ.1) μ s H locs := sw_of hw hO (wl_xP hf hd)
  have eh : (xP ξ h u).2.2.2.1 ξ.1 = h := (xP_tag (k := 0) (by omega)).2
  have e0 : (xP ξ h u).2.2.2.1 0 = ξ.2.2.2.1 0 := (le_xP.2 0 (is_0 hf).1).2.2.1
  refine W.cs (cells' := 9) (slots' := 61) rfl rfl ?_
  have k := wSx_image_33t (l := l) (e := e) (below := below) S hr hlk ξ.1 (ξ := xP ξ h u) ⟨(xP_tag (k := 0) (by omega)).1.1, (xP_tag (k := 0) (by omega)).1.2.1⟩ N (gP g ξ.1) a1 H locs ls hm hw1 (wf_xP hf) (by rw [e0]; exact lv_sub hl [1, 2] rfl)
  rw [eh] at k
  refine W.mono (MQ.mono (fun o t hq => ?_)) k
  obtain ⟨⟨r, _, b1, b2, b3⟩, b4⟩ := hq
  exact ⟨⟨r, (h, u), b1, b2, b3.1, b3.2⟩, b4⟩
set_option maxHeartbeats 4000000 in
set_option maxRecDepth 100000 in
theorem cSx_few (l : Launch) (N : Nat) {Γ : sw_C} {A : Nat → Prop} {ξ : sw_x} {g : sw_g} {μ : sw_m} (hf : sw_wf ξ g.2.2) (hd : sw_dyn ξ) (a1 a2 : Int32) (h1 : ¬ a1 < 1) (h2 : ¬ 20 < a1) (h3 : ¬ a2 < 0) (h4 : a2 ≤ 99) {res : Int64 × sw_g} (hm : fSx_few_t_29t N (lF ξ 20) ξ.1 (gZ g ξ.1) a1 a2 = some res) : Met l ySx_few (Cond.code ySx_few prog_1_method_33_code 8 (some .long) :: sw_tb) rmSx_few (va_Pc [.ref (ξ.2.2.2.1 0), .int a1, .int a2] (sw_V Γ A ξ g μ)) (sw_QFe Γ A ξ res.2 μ res.1) 1 20 A := by
  refine Met.ofW (cc := prog_1_method_33_code) (maxL := 8) (ret := some .long) (by decide) rfl ?_
  intro p e s m args below meth c s₁ B hml hv0
  obtain ⟨rfl, hv0⟩ := hv0
  have S : CallFix p m c prog_1_method_33_code 8 s _ (Cond.code ySx_few prog_1_method_33_code 8 (some .long) :: sw_tb) R_Sx := ⟨B.exec, B.bytes, hml, findClass_of_methodNamed B.named, atoms_spec (ws := Cond.code ySx_few prog_1_method_33_code 8 (some .long) :: sw_tb) B.pre⟩
  have hr := B.returns
  have hlk := B.notSynchronized
  have hw := sw_begin hv0
  have hO := hw.2.2.2.2.2
  have hl := lv_entry [.ref (ξ.2.2.2.1 0), .int a1, .int a2] (n := 8) (Nat.le_of_ble_eq_true rfl)
  rw [lg_entry_eq]
  generalize (lg_sl [.ref (ξ.2.2.2.1 0), .int a1, .int a2] ++ List.replicate (8 - (lg_sl [.ref (ξ.2.2.2.1 0), .int a1, .int a2]).length) Slot.unset).toArray = ls at hl ⊢
  have hl : lv_has ls 8 [(0, .ref (ξ.2.2.2.1 0)), (1, .int a1), (2, .int a2)] := hl
  refine lv_iload_n S.1 S.2.1 dSx_few_0 rfl (lv_at hl 1 rfl) ?_
  refine lv_iconst (v := (1 : Int32)) S.1 S.2.1 dSx_few_1 (by decide) ?_
  refine lv_icmp_lt (tgt := 21) S.1 S.2.1 dSx_few_2 (by decide) (fun h => absurd h h1) (fun _ => ?_)
  refine lv_iload_n S.1 S.2.1 dSx_few_5 rfl (lv_at hl 1 rfl) ?_
  refine lv_bipush (v := (20 : Int32)) S.1 S.2.1 dSx_few_6 (by decide) ?_
  refine lv_icmp_gt (tgt := 21) S.1 S.2.1 dSx_few_8 (by decide) (fun h => absurd h h2) (fun _ => ?_)
  refine lv_iload_n S.1 S.2.1 dSx_few_11 rfl (lv_at hl 2 rfl) ?_
  refine lv_if_lt (tgt := 21) S.1 S.2.1 dSx_few_12 (by decide) (fun h => absurd h h3) (fun _ => ?_)
  refine lv_iload_n S.1 S.2.1 dSx_few_15 rfl (lv_at hl 2 rfl) ?_
  refine lv_bipush (v := (99 : Int32)) S.1 S.2.1 dSx_few_16 (by decide) ?_
  refine lv_icmp_le (tgt := 25) S.1 S.2.1 dSx_few_18 (by decide) (fun _ => ?_) (fun h => absurd h4 h)
  refine lv_bipush (v := (20 : Int32)) S.1 S.2.1 dSx_few_25 (by decide) ?_
  refine sk_newl (n := 20) S (sk_of hw) wa_long (by decide) (by decide) (Nat.le_of_ble_eq_true rfl) (Nat.le_of_ble_eq_true rfl) (Nat.le_of_ble_eq_true rfl) dSx_few_27 (fun h H hw => ?_)
  have hw1 : sw_S Γ A (xF ξ h 20) (gZ g ξ.1) μ s H _ := sw_of hw hO (wl_xF hf hd)
  have eh : (xF ξ h 20).2.2.2.1 ξ.1 = h := xF_tag.2
  have e0 : (xF ξ h 20).2.2.2.1 0 = ξ.2.2.2.1 0 := (le_xF.2 0 (is_0 hf).1).2.2.1
  refine W.cs (cells' := 1) (slots' := 20) rfl rfl ?_
  have k := wSx_few_29t (l := l) (e := e) (below := below) S hr hlk ξ.1 (ξ := xF ξ h 20) xF_tag.1 N (gZ g ξ.1) a1 a2 H _ ls hm hw1 (wf_xF hf) (by rw [e0]; exact hl)
  rw [eh] at k
  refine W.mono (MQ.mono (fun o t hq => ?_)) k
  obtain ⟨⟨r, _, b1, b2, b3⟩, b4⟩ := hq
  exact ⟨⟨r, h, b1, b2, b3.1, b3.2⟩, b4⟩
