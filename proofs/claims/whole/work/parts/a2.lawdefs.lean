/-! THE CLAIM OUT OF ONE WALK OF THE LAW'S BODY. Your part is whole_start (and what it stands on); all else here is the same for every law, but numbers. -/
def R_law : String := "SeeSawsLaw"
def lw_P (b : Addr) (xs : List Int32) (args : Array Value) (s : State) : Prop := args = #[.ref b] ∧ s.IntsAt b xs ∧ xs.length ≤ 3072 ∧ (Jvm.Cond.and given_1 narrow_1).before args s = true
def lw_Q (_ : Array Value) (s : State) (o : Outcome) (t : State) : Prop := o = .returned (some (.int 1)) ∧ Framed s o t [] 600000 7302250
def lw_Z (below : List Frame) (a : Array Value) (s : State) : State → Prop := fun t => ∃ o, t.status = .running ∧ Ended t below o ∧ lw_Q a s o t
/-- the law's own end, with 1 on the stack, nothing written that was there before, its room as the claim has it -/
theorem lw_ret {p : Program} {l : Launch} {e : Env} {s : State} {m : MethodId} {below : List Frame} {meth : Method} {c : Code} {b : Nat} (hx : p.tables.exec = Jvm.exec) (hb : c.code = code) (hr : meth.sig.returnType = ret) (hlocks : meth.locks = false) {pc : Nat} {H : Heap} {ls : Array Slot} (hdg : decode code pc = .ok (.ireturn, 1)) : W p l e room_1 s m #[Value.ref b] below meth c H [] 600000 7302250 (lw_Z below #[Value.ref b] s) (F0 m pc ls [.int 1]) := by
  intro T hT X
  obtain ⟨fs, hret, hrun, hended, hW, hframe⟩ := X.leave (v := some (.int 1)) (hlocks := hlocks) (fun h => by rw [hr] at h; cases h)
  have hmeth' : T.vm.method? m = some meth := X.method'
  refine ⟨T.setFrames fs, ?_, .returned (some (.int 1)), hrun, hended, rfl, ⟨_, rfl⟩, hW, hframe⟩
  jvm_step X.here [X.here.top, hx, hb, hdg, hmeth', hr, ret, narrow_b1]
  (try refine ⟨rfl, ?_⟩); (try refine ⟨rfl, ?_⟩)
  first | (intro acts; rw [hret _ acts rfl rfl rfl]) | rw [hret _ _ rfl rfl rfl]
  exact Steps.refl _
/-- what holds at the law's entry: the machine, the code, the tables' words (any of lw_tbl by 'hts w (by decide +kernel)'), the script of L ints xs at the cell b, what the Statement gives of the start (any of its parts by flat_of_before) -/
def lw_At (p : Program) (s : State) (m : MethodId) (meth : Method) (c : Code) (b L : Nat) (xs : Nat → Int32) : Prop :=
  p.tables.exec = Jvm.exec ∧ c.code = code ∧ meth.sig.returnType = ret ∧ c.maxLocals = 4 ∧ s.vm.findClass R_law = some m.cls ∧ (∀ w ∈ lw_tbl, w.before #[Value.ref b] s = true) ∧ va_X b L xs s s.heap ∧ b < s.heap.size ∧ meth.locks = false ∧ (Jvm.Cond.and given_1 narrow_1).before #[Value.ref b] s = true
theorem tl_mem {w : Cond} (i : Nat) (h : tables_1[i]? = some w) : w ∈ lw_tbl := List.mem_append_right _ (List.mem_of_getElem? h)
theorem wmL_13 : Cond.methodLink R_law 13 ySx_claim ∈ sw_tb := tb_mem 318 (by decide +kernel) (by decide +kernel)
theorem wmL_17 : Cond.methodLink R_law 17 yMo_claim ∈ sw_tb := tb_mem 1175 (by decide +kernel) (by decide +kernel)
theorem wmL_18 : Cond.methodLink R_law 18 ySx_of ∈ sw_tb := tb_mem 344 (by decide +kernel) (by decide +kernel)
theorem wmL_21 : Cond.methodLink R_law 21 yMo_of ∈ sw_tb := tb_mem 1193 (by decide +kernel) (by decide +kernel)
theorem wmL_22 : Cond.methodLink R_law 22 ySx_asks ∈ sw_tb := tb_mem 399 (by decide +kernel) (by decide +kernel)
theorem wmL_26 : Cond.methodLink R_law 26 yMo_asks ∈ sw_tb := tb_mem 1277 (by decide +kernel) (by decide +kernel)
theorem wmL_27 : Cond.methodLink R_law 27 ySx_tilt ∈ sw_tb := tb_mem 431 (by decide +kernel) (by decide +kernel)
theorem wmL_31 : Cond.methodLink R_law 31 yMo_tilt ∈ sw_tb := tb_mem 1299 (by decide +kernel) (by decide +kernel)
theorem wmL_32 : Cond.methodLink R_law 32 ySx_terms ∈ sw_tb := tb_mem 439 (by decide +kernel) (by decide +kernel)
theorem wmL_35 : Cond.methodLink R_law 35 yMo_terms ∈ sw_tb := tb_mem 1307 (by decide +kernel) (by decide +kernel)
theorem wmL_36 : Cond.methodLink R_law 36 ySx_feed ∈ sw_tb := tb_mem 445 (by decide +kernel) (by decide +kernel)
theorem wmL_40 : Cond.methodLink R_law 40 yMo_feed ∈ sw_tb := tb_mem 1325 (by decide +kernel) (by decide +kernel)
theorem wmL_41 : Cond.methodLink R_law 41 ySx_end ∈ sw_tb := tb_mem 453 (by decide +kernel) (by decide +kernel)
theorem wmL_44 : Cond.methodLink R_law 44 yMo_end ∈ sw_tb := tb_mem 1329 (by decide +kernel) (by decide +kernel)
theorem wmL_45 : Cond.methodLink R_law 45 ySx_row ∈ sw_tb := tb_mem 457 (by decide +kernel) (by decide +kernel)
theorem wmL_49 : Cond.methodLink R_law 49 yMo_row ∈ sw_tb := tb_mem 1317 (by decide +kernel) (by decide +kernel)
theorem wmL_50 : Cond.methodLink R_law 50 ySx_sawdust ∈ sw_tb := tb_mem 461 (by decide +kernel) (by decide +kernel)
theorem wmL_53 : Cond.methodLink R_law 53 yMo_sawdust ∈ sw_tb := tb_mem 1321 (by decide +kernel) (by decide +kernel)
theorem wmL_54 : Cond.methodLink R_law 54 ySx_law ∈ sw_tb := tb_mem 465 (by decide +kernel) (by decide +kernel)
theorem wmL_57 : Cond.methodLink R_law 57 yMo_law ∈ sw_tb := tb_mem 1333 (by decide +kernel) (by decide +kernel)
theorem wmL_58 : Cond.methodLink R_law 58 ySx_orders ∈ sw_tb := tb_mem 671 (by decide +kernel) (by decide +kernel)
theorem wmL_61 : Cond.methodLink R_law 61 yMo_orders ∈ sw_tb := tb_mem 1657 (by decide +kernel) (by decide +kernel)
theorem wmL_62 : Cond.methodLink R_law 62 ySx_fault ∈ sw_tb := tb_mem 734 (by decide +kernel) (by decide +kernel)
theorem wmL_65 : Cond.methodLink R_law 65 yMo_fault ∈ sw_tb := tb_mem 1428 (by decide +kernel) (by decide +kernel)
theorem wmL_66 : Cond.methodLink R_law 66 ySx_stopped ∈ sw_tb := tb_mem 738 (by decide +kernel) (by decide +kernel)
theorem wmL_69 : Cond.methodLink R_law 69 yMo_stopped ∈ sw_tb := tb_mem 1653 (by decide +kernel) (by decide +kernel)
theorem wmL_70 : Cond.methodLink R_law 70 ySx_force ∈ sw_tb := tb_mem 742 (by decide +kernel) (by decide +kernel)
theorem wmL_73 : Cond.methodLink R_law 73 yMo_force ∈ sw_tb := tb_mem 1432 (by decide +kernel) (by decide +kernel)
theorem wmL_74 : Cond.methodLink R_law 74 ySx_put ∈ sw_tb := tb_mem 747 (by decide +kernel) (by decide +kernel)
theorem wmL_77 : Cond.methodLink R_law 77 yMo_put ∈ sw_tb := tb_mem 1444 (by decide +kernel) (by decide +kernel)
theorem wmL_78 : Cond.methodLink R_law 78 ySx_take ∈ sw_tb := tb_mem 751 (by decide +kernel) (by decide +kernel)
theorem wmL_81 : Cond.methodLink R_law 81 yMo_take ∈ sw_tb := tb_mem 1464 (by decide +kernel) (by decide +kernel)
theorem wmL_82 : Cond.methodLink R_law 82 ySx_pad ∈ sw_tb := tb_mem 755 (by decide +kernel) (by decide +kernel)
theorem wmL_85 : Cond.methodLink R_law 85 yMo_pad ∈ sw_tb := tb_mem 1472 (by decide +kernel) (by decide +kernel)
theorem wmL_86 : Cond.methodLink R_law 86 ySx_pass ∈ sw_tb := tb_mem 759 (by decide +kernel) (by decide +kernel)
theorem wmL_89 : Cond.methodLink R_law 89 yMo_pass ∈ sw_tb := tb_mem 1480 (by decide +kernel) (by decide +kernel)
theorem wmL_90 : Cond.methodLink R_law 90 ySx_undo ∈ sw_tb := tb_mem 763 (by decide +kernel) (by decide +kernel)
theorem wmL_93 : Cond.methodLink R_law 93 yMo_undo ∈ sw_tb := tb_mem 1440 (by decide +kernel) (by decide +kernel)
theorem wmL_94 : Cond.methodLink R_law 94 ySx_settle ∈ sw_tb := tb_mem 771 (by decide +kernel) (by decide +kernel)
theorem wmL_97 : Cond.methodLink R_law 97 yMo_settle ∈ sw_tb := tb_mem 1495 (by decide +kernel) (by decide +kernel)
theorem wmL_98 : Cond.methodLink R_law 98 ySx_least ∈ sw_tb := tb_mem 821 (by decide +kernel) (by decide +kernel)
theorem wmL_101 : Cond.methodLink R_law 101 yMo_least ∈ sw_tb := tb_mem 1546 (by decide +kernel) (by decide +kernel)
theorem wmL_102 : Cond.methodLink R_law 102 ySx_moved ∈ sw_tb := tb_mem 830 (by decide +kernel) (by decide +kernel)
theorem wmL_105 : Cond.methodLink R_law 105 yMo_moved ∈ sw_tb := tb_mem 1550 (by decide +kernel) (by decide +kernel)
theorem wmL_106 : Cond.methodLink R_law 106 ySx_alone ∈ sw_tb := tb_mem 834 (by decide +kernel) (by decide +kernel)
theorem wmL_109 : Cond.methodLink R_law 109 yMo_alone ∈ sw_tb := tb_mem 1554 (by decide +kernel) (by decide +kernel)
theorem wmL_110 : Cond.methodLink R_law 110 ySx_exchanged ∈ sw_tb := tb_mem 842 (by decide +kernel) (by decide +kernel)
theorem wmL_113 : Cond.methodLink R_law 113 yMo_exchanged ∈ sw_tb := tb_mem 1558 (by decide +kernel) (by decide +kernel)
theorem wmL_114 : Cond.methodLink R_law 114 ySx_shares ∈ sw_tb := tb_mem 854 (by decide +kernel) (by decide +kernel)
theorem wmL_117 : Cond.methodLink R_law 117 yMo_shares ∈ sw_tb := tb_mem 1570 (by decide +kernel) (by decide +kernel)
theorem wmL_118 : Cond.methodLink R_law 118 ySx_off ∈ sw_tb := tb_mem 866 (by decide +kernel) (by decide +kernel)
theorem wmL_121 : Cond.methodLink R_law 121 yMo_off ∈ sw_tb := tb_mem 1585 (by decide +kernel) (by decide +kernel)
theorem wmL_122 : Cond.methodLink R_law 122 ySx_byTurns ∈ sw_tb := tb_mem 886 (by decide +kernel) (by decide +kernel)
theorem wmL_125 : Cond.methodLink R_law 125 yMo_byTurns ∈ sw_tb := tb_mem 1605 (by decide +kernel) (by decide +kernel)
theorem wmL_126 : Cond.methodLink R_law 126 ySx_weighed ∈ sw_tb := tb_mem 898 (by decide +kernel) (by decide +kernel)
theorem wmL_129 : Cond.methodLink R_law 129 yMo_weighed ∈ sw_tb := tb_mem 1613 (by decide +kernel) (by decide +kernel)
theorem wmL_130 : Cond.methodLink R_law 130 ySx_forget ∈ sw_tb := tb_mem 909 (by decide +kernel) (by decide +kernel)
theorem wmL_133 : Cond.methodLink R_law 133 yMo_forget ∈ sw_tb := tb_mem 1617 (by decide +kernel) (by decide +kernel)
theorem wmL_134 : Cond.methodLink R_law 134 ySx_canBe ∈ sw_tb := tb_mem 913 (by decide +kernel) (by decide +kernel)
theorem wmL_137 : Cond.methodLink R_law 137 yMo_canBe ∈ sw_tb := tb_mem 1621 (by decide +kernel) (by decide +kernel)
theorem wmL_138 : Cond.methodLink R_law 138 ySx_weigh ∈ sw_tb := tb_mem 921 (by decide +kernel) (by decide +kernel)
theorem wmL_141 : Cond.methodLink R_law 141 yMo_weigh ∈ sw_tb := tb_mem 1637 (by decide +kernel) (by decide +kernel)
theorem wmL_142 : Cond.methodLink R_law 142 ySx_few ∈ sw_tb := tb_mem 936 (by decide +kernel) (by decide +kernel)
theorem wmL_146 : Cond.methodLink R_law 146 yMo_few ∈ sw_tb := tb_mem 1646 (by decide +kernel) (by decide +kernel)
theorem wmL_147 : Cond.methodLink R_law 147 ySx_compare ∈ sw_tb := tb_mem 943 (by decide +kernel) (by decide +kernel)
theorem wmL_150 : Cond.methodLink R_law 150 yMo_compare ∈ sw_tb := tb_mem 1566 (by decide +kernel) (by decide +kernel)
theorem wmL_151 : Cond.methodLink R_law 151 ySx_days ∈ sw_tb := tb_mem 947 (by decide +kernel) (by decide +kernel)
theorem wmL_154 : Cond.methodLink R_law 154 yMo_days ∈ sw_tb := tb_mem 1685 (by decide +kernel) (by decide +kernel)
theorem wmL_155 : Cond.methodLink R_law 155 ySx_drawn ∈ sw_tb := tb_mem 960 (by decide +kernel) (by decide +kernel)
theorem wmL_158 : Cond.methodLink R_law 158 yMo_drawn ∈ sw_tb := tb_mem 1696 (by decide +kernel) (by decide +kernel)
theorem wmL_159 : Cond.methodLink R_law 159 ySx_image ∈ sw_tb := tb_mem 964 (by decide +kernel) (by decide +kernel)
theorem wmL_162 : Cond.methodLink R_law 162 yMo_image ∈ sw_tb := tb_mem 1152 (by decide +kernel) (by decide +kernel)
theorem wmL_163 : Cond.methodLink R_law 163 ySx_back ∈ sw_tb := tb_mem 968 (by decide +kernel) (by decide +kernel)
theorem wmL_166 : Cond.methodLink R_law 166 yMo_back ∈ sw_tb := tb_mem 1167 (by decide +kernel) (by decide +kernel)
theorem wmL_167 : Cond.methodLink R_law 167 ySx_count ∈ sw_tb := tb_mem 972 (by decide +kernel) (by decide +kernel)
theorem wmL_170 : Cond.methodLink R_law 170 yMo_count ∈ sw_tb := tb_mem 1700 (by decide +kernel) (by decide +kernel)
theorem wmL_171 : Cond.methodLink R_law 171 ySx_status ∈ sw_tb := tb_mem 980 (by decide +kernel) (by decide +kernel)
theorem wmL_174 : Cond.methodLink R_law 174 yMo_status ∈ sw_tb := tb_mem 1704 (by decide +kernel) (by decide +kernel)
/-! the loop's words -/
abbrev lw_A (s : State) : Nat → Prop := fun q => s.heap.size ≤ q
def LC (p : Program) (m : MethodId) (c : Code) (s : State) (b L : Nat) (xs : Nat → Int32) (i N : Nat) : Prop := CallFix p m c code 4 s #[Value.ref b] (Cond.initialized R_Te :: sw_tb) R_law ∧ va_X b L xs s s.heap ∧ b < s.heap.size ∧ L ≤ 3072 ∧ i + 6 ≤ L ∧ 6000 ≤ N
def LI (Γ : sw_C) (s : State) (ξ : sw_x) (g : sw_g) (μ : sw_m) (H : Heap) (locs : List Loc) (a0 a1 : Nat) : Prop := sw_S Γ (lw_A s) ξ g μ s H locs ∧ sw_wf ξ g.2.2 ∧ sw_dyn ξ ∧ RR ξ.2.2.1 ξ.1 g μ ∧ ξ.2.2.2.1 0 = a0 ∧ ξ.2.2.2.1 84 = a1
abbrev LV (ls : Array Slot) (b a0 a1 i : Nat) : Prop := lv_has ls 4 [(0, .ref b), (1, .ref a0), (2, .ref a1), (3, .int (nI i))]
def LK (p : Program) (l : Launch) (e : Env) (s : State) (m : MethodId) (below : List Frame) (meth : Method) (c : Code) (Q : State → Prop) (Γ : sw_C) (b a0 a1 : Nat) (ls : Array Slot) (cells slots : Nat) : Prop := ∀ (ξ : sw_x) (g : sw_g) (μ : sw_m) (H : Heap) (locs : List Loc), LI Γ s ξ g μ H locs a0 a1 → W p l e room_1 s m #[Value.ref b] below meth c H locs (cells + 9) (slots + 1068) Q (F0 m 1142 ls [])
theorem jmax_nI {u : Nat} (h : u < 2 ^ 31) : jmax (0 : Int32) (nI u) = nI u := by
  unfold jmax
  by_cases h0 : u = 0
  · subst h0; rfl
  · rw [if_pos (show (0 : Int32) < nI u from nI_lt (a := 0) (by omega) h)]
theorem and63 (x : Int32) : ∃ k, k < 64 ∧ x &&& 63 = nI k := by
  have e : nI x.toBitVec.toNat = x := Int32.toBitVec_inj.1 (by show BitVec.ofNat 32 x.toBitVec.toNat = x.toBitVec; rw [BitVec.ofNat_toNat, BitVec.setWidth_eq])
  refine ⟨x.toBitVec.toNat &&& 63, Nat.lt_of_le_of_lt Nat.and_le_right (by decide), ?_⟩
  have h := nI_land x.toBitVec.toNat 63
  rw [e] at h
  exact h
section
variable {p : Program} {l : Launch} {e : Env} {R : Room} {s : State} {m : MethodId} {args : Array Value} {below : List Frame} {meth : Method} {c : Code} {H : Heap} {locs : List Loc} {cells slots : Nat} {Q : State → Prop}
variable {cc : ByteArray} {pc nL index : Nat} {ls : Array Slot} {rest : List Value} {Γ : sw_C} {A : Nat → Prop} {ξ : sw_x} {g : sw_g} {μ : sw_m} {w0 : Cond} {own : String} {q n b L i a0 a1 : Nat} {xs : Nat → Int32}
theorem lw_arg1 (S : CallFix p m c code 4 s #[Value.ref b] (w0 :: sw_tb) R_law) (hX : va_X b L xs s s.heap) (hbl : b < s.heap.size) (hw : sw_S Γ (lw_A s) ξ g μ s H locs) (hl : LV ls b a0 a1 i) (hi : i + 1 < L) (hL : L ≤ 3072) (d0 : decode code pc = .ok (.aload_n 0, 1)) (d1 : decode code (pc + 1) = .ok (.iload_n 3, 1)) (d2 : decode code (pc + 2) = .ok (.iconst 1, 1)) (d3 : decode code (pc + 3) = .ok (.iadd, 1)) (d4 : decode code (pc + 4) = .ok (.iaload, 1))
    (kk : W p l e room_1 s m #[Value.ref b] below meth c H locs cells slots Q (F0 m (pc + 5) ls (.int (xs (i + 1)) :: rest))) : W p l e room_1 s m #[Value.ref b] below meth c H locs cells slots Q (F0 m pc ls rest) := by
  refine lv_aload_n S.1 S.2.1 d0 rfl (lv_at hl 0 rfl) ?_
  refine lv_iload_n S.1 S.2.1 d1 rfl (lv_at hl 3 rfl) ?_
  refine lv_iconst (v := nI 1) S.1 S.2.1 d2 (by decide) ?_
  refine lv_iadd S.1 S.2.1 d3 ?_
  refine lv_topi (fun y ey => ?_)
  have ey : y = nI (i + 1) := by rw [ey]; exact nI_add i 1
  subst ey
  refine va_sld S.1 S.2.1 hX hbl (Nat.not_le.mpr hbl) hw.2.2.2.1 (vp_in_nI hi (by omega)) d4 ?_
  rw [nI_clamp (by omega)]
  exact kk
theorem lw_arg2 (S : CallFix p m c code 4 s #[Value.ref b] (w0 :: sw_tb) R_law) (hX : va_X b L xs s s.heap) (hbl : b < s.heap.size) (hw : sw_S Γ (lw_A s) ξ g μ s H locs) (hl : LV ls b a0 a1 i) (hi : i + 2 < L) (hL : L ≤ 3072) (d0 : decode code pc = .ok (.aload_n 0, 1)) (d1 : decode code (pc + 1) = .ok (.iload_n 3, 1)) (d2 : decode code (pc + 2) = .ok (.iconst 2, 1)) (d3 : decode code (pc + 3) = .ok (.iadd, 1)) (d4 : decode code (pc + 4) = .ok (.iaload, 1))
    (kk : W p l e room_1 s m #[Value.ref b] below meth c H locs cells slots Q (F0 m (pc + 5) ls (.int (xs (i + 2)) :: rest))) : W p l e room_1 s m #[Value.ref b] below meth c H locs cells slots Q (F0 m pc ls rest) := by
  refine lv_aload_n S.1 S.2.1 d0 rfl (lv_at hl 0 rfl) ?_
  refine lv_iload_n S.1 S.2.1 d1 rfl (lv_at hl 3 rfl) ?_
  refine lv_iconst (v := nI 2) S.1 S.2.1 d2 (by decide) ?_
  refine lv_iadd S.1 S.2.1 d3 ?_
  refine lv_topi (fun y ey => ?_)
  have ey : y = nI (i + 2) := by rw [ey]; exact nI_add i 2
  subst ey
  refine va_sld S.1 S.2.1 hX hbl (Nat.not_le.mpr hbl) hw.2.2.2.1 (vp_in_nI hi (by omega)) d4 ?_
  rw [nI_clamp (by omega)]
  exact kk
theorem lw_arg3 (S : CallFix p m c code 4 s #[Value.ref b] (w0 :: sw_tb) R_law) (hX : va_X b L xs s s.heap) (hbl : b < s.heap.size) (hw : sw_S Γ (lw_A s) ξ g μ s H locs) (hl : LV ls b a0 a1 i) (hi : i + 3 < L) (hL : L ≤ 3072) (d0 : decode code pc = .ok (.aload_n 0, 1)) (d1 : decode code (pc + 1) = .ok (.iload_n 3, 1)) (d2 : decode code (pc + 2) = .ok (.iconst 3, 1)) (d3 : decode code (pc + 3) = .ok (.iadd, 1)) (d4 : decode code (pc + 4) = .ok (.iaload, 1))
    (kk : W p l e room_1 s m #[Value.ref b] below meth c H locs cells slots Q (F0 m (pc + 5) ls (.int (xs (i + 3)) :: rest))) : W p l e room_1 s m #[Value.ref b] below meth c H locs cells slots Q (F0 m pc ls rest) := by
  refine lv_aload_n S.1 S.2.1 d0 rfl (lv_at hl 0 rfl) ?_
  refine lv_iload_n S.1 S.2.1 d1 rfl (lv_at hl 3 rfl) ?_
  refine lv_iconst (v := nI 3) S.1 S.2.1 d2 (by decide) ?_
  refine lv_iadd S.1 S.2.1 d3 ?_
  refine lv_topi (fun y ey => ?_)
  have ey : y = nI (i + 3) := by rw [ey]; exact nI_add i 3
  subst ey
  refine va_sld S.1 S.2.1 hX hbl (Nat.not_le.mpr hbl) hw.2.2.2.1 (vp_in_nI hi (by omega)) d4 ?_
  rw [nI_clamp (by omega)]
  exact kk
theorem lw_arg4 (S : CallFix p m c code 4 s #[Value.ref b] (w0 :: sw_tb) R_law) (hX : va_X b L xs s s.heap) (hbl : b < s.heap.size) (hw : sw_S Γ (lw_A s) ξ g μ s H locs) (hl : LV ls b a0 a1 i) (hi : i + 4 < L) (hL : L ≤ 3072) (d0 : decode code pc = .ok (.aload_n 0, 1)) (d1 : decode code (pc + 1) = .ok (.iload_n 3, 1)) (d2 : decode code (pc + 2) = .ok (.iconst 4, 1)) (d3 : decode code (pc + 3) = .ok (.iadd, 1)) (d4 : decode code (pc + 4) = .ok (.iaload, 1))
    (kk : W p l e room_1 s m #[Value.ref b] below meth c H locs cells slots Q (F0 m (pc + 5) ls (.int (xs (i + 4)) :: rest))) : W p l e room_1 s m #[Value.ref b] below meth c H locs cells slots Q (F0 m pc ls rest) := by
  refine lv_aload_n S.1 S.2.1 d0 rfl (lv_at hl 0 rfl) ?_
  refine lv_iload_n S.1 S.2.1 d1 rfl (lv_at hl 3 rfl) ?_
  refine lv_iconst (v := nI 4) S.1 S.2.1 d2 (by decide) ?_
  refine lv_iadd S.1 S.2.1 d3 ?_
  refine lv_topi (fun y ey => ?_)
  have ey : y = nI (i + 4) := by rw [ey]; exact nI_add i 4
  subst ey
  refine va_sld S.1 S.2.1 hX hbl (Nat.not_le.mpr hbl) hw.2.2.2.1 (vp_in_nI hi (by omega)) d4 ?_
  rw [nI_clamp (by omega)]
  exact kk
theorem lw_arg5 (S : CallFix p m c code 4 s #[Value.ref b] (w0 :: sw_tb) R_law) (hX : va_X b L xs s s.heap) (hbl : b < s.heap.size) (hw : sw_S Γ (lw_A s) ξ g μ s H locs) (hl : LV ls b a0 a1 i) (hi : i + 5 < L) (hL : L ≤ 3072) (d0 : decode code pc = .ok (.aload_n 0, 1)) (d1 : decode code (pc + 1) = .ok (.iload_n 3, 1)) (d2 : decode code (pc + 2) = .ok (.iconst 5, 1)) (d3 : decode code (pc + 3) = .ok (.iadd, 1)) (d4 : decode code (pc + 4) = .ok (.iaload, 1))
    (kk : W p l e room_1 s m #[Value.ref b] below meth c H locs cells slots Q (F0 m (pc + 5) ls (.int (xs (i + 5)) :: rest))) : W p l e room_1 s m #[Value.ref b] below meth c H locs cells slots Q (F0 m pc ls rest) := by
  refine lv_aload_n S.1 S.2.1 d0 rfl (lv_at hl 0 rfl) ?_
  refine lv_iload_n S.1 S.2.1 d1 rfl (lv_at hl 3 rfl) ?_
  refine lv_iconst (v := nI 5) S.1 S.2.1 d2 (by decide) ?_
  refine lv_iadd S.1 S.2.1 d3 ?_
  refine lv_topi (fun y ey => ?_)
  have ey : y = nI (i + 5) := by rw [ey]; exact nI_add i 5
  subst ey
  refine va_sld S.1 S.2.1 hX hbl (Nat.not_le.mpr hbl) hw.2.2.2.1 (vp_in_nI hi (by omega)) d4 ?_
  rw [nI_clamp (by omega)]
  exact kk
theorem sw_VLa {y : MethodName} {bytes : ByteArray} {maxL k mc ms : Nat} {ret : Option FieldType} {rm : Room} {As : List Value} {g' : sw_g} {v : Int32} {ci : Nat} {r : vw_C} {fs : List Value} {st0 : List Value} (S : CallFix p m c cc nL s args (w0 :: sw_tb) own) (hw : sw_S Γ A ξ g μ s H locs)
    (hM : Met l y (Cond.code y bytes maxL ret :: sw_tb) rm (va_Pc (.ref (ξ.2.2.2.1 q) :: As) (sw_V Γ A ξ g μ)) (sw_QLa Γ A ξ n g' μ v) mc ms A) (hy : sw_yv y bytes maxL ret k) (hl : Cond.methodLink own index y ∈ sw_tb) (hq : q < ξ.1) (he : sw_E Γ ξ g μ q = .inr (ci, fs)) (hc : swCl[ci]? = some r) (hC : r.1 = y.cls) (hst : st0 = As.reverse ++ .ref (ξ.2.2.2.1 q) :: rest) (hn : As.length = k) (hz : ls.size = nL)
    (hro : (rest.map fun v => v.category).sum ≤ 8) (hR : rm.cells = mc ∧ rm.slots = ms ∧ rm.frames + 1 ≤ R.frames ∧ 8 + (maxL + 11) + rm.locals ≤ R.locals) (hf : cells + mc ≤ R.cells ∧ slots + ms ≤ R.slots) (hdg : decode cc pc = .ok (.invokevirtual index, 3))
    (kk : ∀ (h : Nat) (u : Nat → Nat) (H1 : Heap) (locs1 : List Loc), sw_S Γ A (xT ξ h u n) g' μ s H1 locs1 → sw_wf (xT ξ h u n) g'.2.2 → W p l e R s m args below meth c H1 locs1 (cells + mc) (slots + ms) Q (F0 m (pc + 3) ls (.int v :: rest))) : W p l e R s m args below meth c H locs cells slots Q (F0 m pc ls st0) := by
  subst hst
  refine va_calli (va_runV (C := y.cls) (As := As) (rest := rest) S hM ⟨callB_of k S.2.2.2.2 (tb_good hy.1.1) rfl hR.1 hR.2.1 (sw_word S hy.1.2.1) (sw_word S hl) hy.1.2.2 hR.2.2, sw_word S hy.2.1, sw_word S hy.2.2⟩ ⟨sw_blind, by rw [← hC]; exact va_recv hw.2.1 hw.1 hc (sw_at hw hq he), sw_pre hw _⟩ rfl hn hz rfl (lv_room hro) hdg hf) hw.2.2.2.1 (fun _ _ h => h) (fun _ h => h) (fun r w t H1 locs1 ht hvm hr hB _ _ hS => ?_)
  subst hr
  rw [← ht] at hS ⊢
  exact kk w.1 w.2 t.heap locs1 ⟨hB.1.1, va_K.moved hvm.symm hB.1.2.1, hB.1.2.2, hS, hw.2.2.2.2⟩ hB.2
theorem sw_VIm {y : MethodName} {bytes : ByteArray} {maxL k mc ms : Nat} {ret : Option FieldType} {rm : Room} {As : List Value} {g' : sw_g} {v : Int32} {ci : Nat} {r : vw_C} {fs : List Value} {st0 : List Value} (S : CallFix p m c cc nL s args (w0 :: sw_tb) own) (hw : sw_S Γ A ξ g μ s H locs)
    (hM : Met l y (Cond.code y bytes maxL ret :: sw_tb) rm (va_Pc (.ref (ξ.2.2.2.1 q) :: As) (sw_V Γ A ξ g μ)) (sw_QIm Γ A ξ g' μ v) mc ms A) (hy : sw_yv y bytes maxL ret k) (hl : Cond.methodLink own index y ∈ sw_tb) (hq : q < ξ.1) (he : sw_E Γ ξ g μ q = .inr (ci, fs)) (hc : swCl[ci]? = some r) (hC : r.1 = y.cls) (hst : st0 = As.reverse ++ .ref (ξ.2.2.2.1 q) :: rest) (hn : As.length = k) (hz : ls.size = nL)
    (hro : (rest.map fun v => v.category).sum ≤ 8) (hR : rm.cells = mc ∧ rm.slots = ms ∧ rm.frames + 1 ≤ R.frames ∧ 8 + (maxL + 11) + rm.locals ≤ R.locals) (hf : cells + mc ≤ R.cells ∧ slots + ms ≤ R.slots) (hdg : decode cc pc = .ok (.invokevirtual index, 3))
    (kk : ∀ (h : Nat) (u : Nat → Nat) (H1 : Heap) (locs1 : List Loc), sw_S Γ A (xP ξ h u) g' μ s H1 locs1 → sw_wf (xP ξ h u) g'.2.2 → W p l e R s m args below meth c H1 locs1 (cells + mc) (slots + ms) Q (F0 m (pc + 3) ls (.int v :: rest))) : W p l e R s m args below meth c H locs cells slots Q (F0 m pc ls st0) := by
  subst hst
  refine va_calli (va_runV (C := y.cls) (As := As) (rest := rest) S hM ⟨callB_of k S.2.2.2.2 (tb_good hy.1.1) rfl hR.1 hR.2.1 (sw_word S hy.1.2.1) (sw_word S hl) hy.1.2.2 hR.2.2, sw_word S hy.2.1, sw_word S hy.2.2⟩ ⟨sw_blind, by rw [← hC]; exact va_recv hw.2.1 hw.1 hc (sw_at hw hq he), sw_pre hw _⟩ rfl hn hz rfl (lv_room hro) hdg hf) hw.2.2.2.1 (fun _ _ h => h) (fun _ h => h) (fun r w t H1 locs1 ht hvm hr hB _ _ hS => ?_)
  subst hr
  rw [← ht] at hS ⊢
  exact kk w.1 w.2 t.heap locs1 ⟨hB.1.1, va_K.moved hvm.symm hB.1.2.1, hB.1.2.2, hS, hw.2.2.2.2⟩ hB.2
theorem sw_VFe {y : MethodName} {bytes : ByteArray} {maxL k mc ms : Nat} {ret : Option FieldType} {rm : Room} {As : List Value} {g' : sw_g} {v : Int64} {ci : Nat} {r : vw_C} {fs : List Value} {st0 : List Value} (S : CallFix p m c cc nL s args (w0 :: sw_tb) own) (hw : sw_S Γ A ξ g μ s H locs)
    (hM : Met l y (Cond.code y bytes maxL ret :: sw_tb) rm (va_Pc (.ref (ξ.2.2.2.1 q) :: As) (sw_V Γ A ξ g μ)) (sw_QFe Γ A ξ g' μ v) mc ms A) (hy : sw_yv y bytes maxL ret k) (hl : Cond.methodLink own index y ∈ sw_tb) (hq : q < ξ.1) (he : sw_E Γ ξ g μ q = .inr (ci, fs)) (hc : swCl[ci]? = some r) (hC : r.1 = y.cls) (hst : st0 = As.reverse ++ .ref (ξ.2.2.2.1 q) :: rest) (hn : As.length = k) (hz : ls.size = nL)
    (hro : (rest.map fun v => v.category).sum ≤ 8) (hR : rm.cells = mc ∧ rm.slots = ms ∧ rm.frames + 1 ≤ R.frames ∧ 8 + (maxL + 11) + rm.locals ≤ R.locals) (hf : cells + mc ≤ R.cells ∧ slots + ms ≤ R.slots) (hdg : decode cc pc = .ok (.invokevirtual index, 3))
    (kk : ∀ (h : Nat) (H1 : Heap) (locs1 : List Loc), sw_S Γ A (xF ξ h 20) g' μ s H1 locs1 → sw_wf (xF ξ h 20) g'.2.2 → W p l e R s m args below meth c H1 locs1 (cells + mc) (slots + ms) Q (F0 m (pc + 3) ls (.long v :: rest))) : W p l e R s m args below meth c H locs cells slots Q (F0 m pc ls st0) := by
  subst hst
  refine va_calll (va_runV (C := y.cls) (As := As) (rest := rest) S hM ⟨callB_of k S.2.2.2.2 (tb_good hy.1.1) rfl hR.1 hR.2.1 (sw_word S hy.1.2.1) (sw_word S hl) hy.1.2.2 hR.2.2, sw_word S hy.2.1, sw_word S hy.2.2⟩ ⟨sw_blind, by rw [← hC]; exact va_recv hw.2.1 hw.1 hc (sw_at hw hq he), sw_pre hw _⟩ rfl hn hz rfl (lv_room hro) hdg hf) hw.2.2.2.1 (fun _ _ h => h) (fun _ h => h) (fun r w t H1 locs1 ht hvm hr hB _ _ hS => ?_)
  subst hr
  rw [← ht] at hS ⊢
  exact kk w t.heap locs1 ⟨hB.1.1, va_K.moved hvm.symm hB.1.2.1, hB.1.2.2, hS, hw.2.2.2.2⟩ hB.2
end
