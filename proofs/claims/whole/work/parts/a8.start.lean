/-! ===== the law: what its start gives ===== -/
def sw_bx : List Nat := [34, 44, 49, 54, 63, 72, 80, 89, 96, 103, 111, 120, 128, 138, 146, 152, 158, 163, 168, 173, 178, 183, 192, 200, 207, 215, 222, 228, 236, 245, 251, 258, 263, 268, 273, 278, 283, 290, 296]
def sw_sx : List Nat := [484, 557, 566, 580, 581, 582, 583, 584, 585, 586, 587, 592, 593, 594, 595, 596, 606, 607, 608, 609, 610, 611, 612, 621, 622, 623, 624, 625, 626, 631, 644, 645, 646, 647, 648, 649, 650, 655, 656]
abbrev sw_tm (i : Nat) : Term := .string R_Re (sw_sk.getD i 0)
abbrev sw_vl (i : Nat) : Term := .field (sw_tm i) "java/lang/String" "value" "[B"
abbrev sw_fl : List Cond := flatC (Jvm.Cond.and given_1 narrow_1)
theorem bx_0 : ∀ i, i < 39 → sw_fl[sw_bx.getD i 0]? = some (Cond.exactly (sw_tm i) "java/lang/String") := by decide +kernel
theorem bx_1 : ∀ i, i < 39 → sw_fl[sw_bx.getD i 0 + 1]? = some (Cond.eq (.field (sw_tm i) "java/lang/String" "coder" "B") (.int 0)) := by decide +kernel
theorem bx_2 : ∀ i, i < 39 → sw_fl[sw_bx.getD i 0 + 2]? = some (Cond.arrayOf (sw_vl i) .byte) := by decide +kernel
theorem bx_3 : ∀ i, i < 39 → sw_fl[sw_bx.getD i 0 + 3]? = some (Cond.eq (.length (sw_vl i)) (.int (Int32.ofNat (sw_len.getD i 0)))) := by decide +kernel
theorem bx_4 : ∀ i, i < 39 → ∀ j, j < sw_len.getD i 0 → sw_fl[sw_bx.getD i 0 + 4 + j]? = some (Cond.eq (.elem (sw_vl i) (.int (Int32.ofNat j))) (.int ((sw_byt.getD i []).getD j 0))) := by decide +kernel
theorem sx_0 : ∀ i, i < 39 → tables_1[sw_sx.getD i 0]? = some (Cond.stringRef R_Re (sw_sk.getD i 0) (sw_st.getD i "")) := by decide +kernel
theorem sw_ln : ∀ i, i < 39 → sw_len.getD i 0 < 2 ^ 31 := by decide +kernel
theorem sw_dis : ∀ i, i < 39 → ∀ j, j < 39 → sw_len.getD i 0 = sw_len.getD j 0 → (∀ k, k < sw_len.getD i 0 → (sw_byt.getD i []).getD k 0 = (sw_byt.getD j []).getD k 0) → i = j := by decide +kernel
theorem lwn_Sx : Cond.instantiable R_Sx 17 ∈ sw_tb := tb_mem 19 (by decide +kernel) (by decide +kernel)
theorem lwn_Mo : Cond.instantiable R_Mo 53 ∈ sw_tb := tb_mem 985 (by decide +kernel) (by decide +kernel)
theorem lwl_Sx : Cond.classLink R_law 7 R_Sx ∈ sw_tb := tb_mem 18 (by decide +kernel) (by decide +kernel)
theorem lwl_Mo : Cond.classLink R_law 10 R_Mo ∈ sw_tb := tb_mem 984 (by decide +kernel) (by decide +kernel)
theorem lwi_Sx : Cond.initialized R_Sx ∈ sw_tb := tb_mem 1 (by decide +kernel) (by decide +kernel)
theorem lwi_Mo : Cond.initialized R_Mo ∈ sw_tb := tb_mem 10 (by decide +kernel) (by decide +kernel)
theorem lwm_Sx : Cond.methodLink R_law 9 ySx_init ∈ sw_tb := tb_mem 20 (by decide +kernel) (by decide +kernel)
theorem lwm_Mo : Cond.methodLink R_law 12 yMo_init ∈ sw_tb := tb_mem 986 (by decide +kernel) (by decide +kernel)
theorem lwv_Sx : Cond.instanceMethod ySx_init ∈ sw_tb := tb_mem 21 (by decide +kernel) (by decide +kernel)
theorem lwv_Mo : Cond.instanceMethod yMo_init ∈ sw_tb := tb_mem 987 (by decide +kernel) (by decide +kernel)
section
variable {s : State} {args : Array Value}
theorem kA_of {ty : FieldType} (h : (Cond.arrayClass ty).before args s = true) : ∃ cA, ArrOfT s cA ty ∧ s.vm.findClass ("[" ++ ty.toString) = some cA := by
  obtain ⟨c, k, comp, h1, h2, h3⟩ := Cond.arrayClass_spec h
  exact ⟨c, fun n z => ⟨fun k h => (by cases h), k, h2, comp, h3⟩, h1⟩
theorem kO_of {C : String} (h : (Cond.arrayOver (.object C)).before args s = true) : ∃ cA, ArrOfT s cA (.object C) ∧ va_RA s cA (.object C) := by
  obtain ⟨comp, c, k, h1, h2, h3, h4, h5⟩ := Cond.arrayOver_spec h
  exact ⟨c, fun n z => ⟨fun k h => (by cases h), k, h3, comp, h4⟩, k, comp, h3, h4, h1, h5⟩
theorem kR_of (h : (Cond.arrayOver (.array .int)).before args s = true) : ∃ cA, ArrOfT s cA (.array .int) ∧ va_RA s cA (.array .int) := by
  obtain ⟨comp, c, k, h1, h2, h3, h4⟩ := Cond.arrayOver_specA h
  exact ⟨c, fun n z => ⟨fun k h => (by cases h), k, h2, comp, h3⟩, h4⟩
/-- the words' texts: apart, for they are spelled otherwise -/
theorem kS_of {A : Nat → Prop} (hA : ∀ a : Nat, a < s.heap.size → ¬ A a) (hs : ∀ w ∈ sw_fl, w.before args s = true) : ∃ adK adV : Nat → Nat, vk_S 39 sw_len sw_byt adK adV A s s.heap ∧ ∀ i : Nat, i < 39 → (sw_tm i).eval args s none [] s = some (.ref (adK i)) := by
  have h0 : ∀ i : Nat, ∃ q : Nat × Nat, i < 39 → (sw_tm i).eval args s none [] s = some (.ref q.1) ∧ va_O "java/lang/String" q.1 A s s.heap ∧ va_OF "java/lang/String" "coder" "B" (.int 0) q.1 A s s.heap ∧ va_OF "java/lang/String" "value" "[B" (.ref q.2) q.1 A s s.heap ∧ va_T .byte q.2 (sw_len.getD i 0) (fun j => .int ((sw_byt.getD i []).getD j 0)) A s s.heap := by
    intro i
    by_cases hi : i < 39
    · obtain ⟨a, c, cA, kA, q1, q2, q3, q4, q5, q6, -⟩ := Cond.exactly_spec (args := args) (first := s) (o := none) (s := s) (idx := []) (t := sw_tm i) (cls := "java/lang/String") (hs _ (List.mem_of_getElem? (bx_0 i hi)))
      obtain ⟨t, ht, hT⟩ := va_Tof (f := fun j => .int ((sw_byt.getD i []).getD j 0)) (A := A) (sw_ln i hi) (hs _ (List.mem_of_getElem? (bx_2 i hi))) (va_eqt (hs _ (List.mem_of_getElem? (bx_3 i hi)))) (fun j hj => va_eqt (hs _ (List.mem_of_getElem? (bx_4 i hi j hj)))) hA
      exact ⟨(a, t), fun _ => ⟨q1, ⟨cA, q3, q5, by rw [q6]; exact q2, hA a (Array.getElem?_eq_some_iff.mp q3).1⟩, vk_OFof q1 (va_eqt (hs _ (List.mem_of_getElem? (bx_1 i hi)))) hA, vk_OFof q1 ht hA, hT⟩⟩
    · exact ⟨(0, 0), fun h => absurd h hi⟩
  obtain ⟨ad, had⟩ := Classical.axiomOfChoice h0
  refine ⟨fun i => (ad i).1, fun i => (ad i).2, ⟨fun i hi => (had i hi).2, fun i j hi hj e => ?_⟩, fun i hi => (had i hi).1⟩
  have e : (ad i).1 = (ad j).1 := e
  obtain ⟨-, -, -, ⟨cf, k, fi, f, cell, f1, f2, f3, f4, f5, -⟩, ⟨c1, t1, -, -, -, t2, t3, -⟩⟩ := had i hi
  obtain ⟨-, -, -, ⟨cf', k', fi', f', cell', g1, g2, g3, g4, g5, -⟩, ⟨c2, u1, -, -, -, u2, u3, -⟩⟩ := had j hj
  rw [f1] at g1
  cases g1
  rw [← e, f3] at g3
  cases g3
  rw [f5] at g5
  have ev : (ad i).2 = (ad j).2 := by
    injection g5 with g5
    injection g5
  rw [← ev, t1] at u1
  cases u1
  have el : sw_len.getD i 0 = sw_len.getD j 0 := by
    have h := t2.symm.trans u2
    have hi' := sw_ln i hi
    have hj' := sw_ln j hj
    exact (nI_eq hi' hj').1 h
  refine sw_dis i hi j hj el (fun y hy => ?_)
  have h := (t3 y hy).symm.trans (u3 y (by rw [← el]; exact hy))
  injection h with h
  injection h
theorem kG_of (hts : ∀ w ∈ lw_tbl, w.before args s = true) : ∃ (D : va_G) (cs : Nat → ClassId), (∀ (c : Nat) (q : vw_C), swCl[c]? = some q → u_Kn s q.1 q.2.1 q.2.2 (D.1 c) (D.2 c)) ∧ ∀ (k : Nat) (q : ClassId × FieldType), (sw_tys (D, cs, fun _ => 0, fun _ => 0, 0))[k]? = some q → ArrOfT s q.1 q.2 ∧ va_RA s q.1 q.2 := by
  have ht : ∀ w ∈ sw_tb, w.before args s = true := fun w h => hts w (List.mem_filter.mp h).1
  obtain ⟨c0, i0, k0⟩ := u_known (C := R_Hi) (T := F_Hi) (N := 3) (n := 3) ht i_Hi (ht _ zwn_Hi)
  obtain ⟨c1, i1, k1⟩ := u_known (C := R_Ju) (T := F_Ju) (N := 2) (n := 2) ht i_Ju (ht _ zwn_Ju)
  obtain ⟨c2, i2, k2⟩ := u_known (C := R_Pl) (T := F_Pl) (N := 12) (n := 12) ht i_Pl (ht _ zwn_Pl)
  obtain ⟨c3, i3, k3⟩ := u_known (C := R_Re) (T := F_Re) (N := 9) (n := 9) ht i_Re (ht _ zwn_Re)
  obtain ⟨c4, i4, k4⟩ := u_known (C := R_Rk) (T := F_Rk) (N := 2) (n := 2) ht i_Rk (ht _ zwn_Rk)
  obtain ⟨c5, i5, k5⟩ := u_known (C := R_Ro) (T := F_Ro) (N := 8) (n := 8) ht i_Ro (ht _ zwn_Ro)
  obtain ⟨c6, i6, k6⟩ := u_known (C := R_Te) (T := F_Te) (N := 8) (n := 8) ht i_Te (ht _ zwn_Te)
  obtain ⟨c7, i7, k7⟩ := u_known (C := R_Sx) (T := F_Sx) (N := 17) (n := 17) ht i_Sx (ht _ lwn_Sx)
  obtain ⟨c8, i8, k8⟩ := u_known (C := R_Mo) (T := F_Mo) (N := 53) (n := 53) ht i_Mo (ht _ lwn_Mo)
  obtain ⟨a0, b0, e0⟩ := kA_of (ty := .int) (hts _ (tl_mem 90 (by decide +kernel)))
  obtain ⟨a1, b1, e1⟩ := kA_of (ty := .byte) (hts _ (tl_mem 670 (by decide +kernel)))
  obtain ⟨a2, b2, e2⟩ := kA_of (ty := .boolean) (hts _ (tl_mem 1151 (by decide +kernel)))
  obtain ⟨a3, b3, e3⟩ := kA_of (ty := .long) (hts _ (tl_mem 222 (by decide +kernel)))
  obtain ⟨a4, b4, e4⟩ := kO_of (C := R_Te) (hts _ (tl_mem 33 (by decide +kernel)))
  obtain ⟨a5, b5, e5⟩ := kO_of (C := R_Pl) (hts _ (tl_mem 91 (by decide +kernel)))
  obtain ⟨a6, b6, e6⟩ := kR_of (hts _ (tl_mem 239 (by decide +kernel)))
  refine ⟨(fun k => [c0, c1, c2, c3, c4, c5, c6, c7, c8].getD k c0, fun k => [i0, i1, i2, i3, i4, i5, i6, i7, i8].getD k i0), fun k => [a0, a1, a2, a3, a4, a5, a6].getD k a0, fun c q hq => ?_, fun k q hq => ?_⟩
  · match c, hq with
    | 0, hq => cases hq; exact k0
    | 1, hq => cases hq; exact k1
    | 2, hq => cases hq; exact k2
    | 3, hq => cases hq; exact k3
    | 4, hq => cases hq; exact k4
    | 5, hq => cases hq; exact k5
    | 6, hq => cases hq; exact k6
    | 7, hq => cases hq; exact k7
    | 8, hq => cases hq; exact k8
    | c + 9, hq => simp [swCl] at hq
  · match k, hq with
    | 0, hq => cases hq; exact ⟨b0, e0⟩
    | 1, hq => cases hq; exact ⟨b1, e1⟩
    | 2, hq => cases hq; exact ⟨b2, e2⟩
    | 3, hq => cases hq; exact ⟨b3, e3⟩
    | 4, hq => cases hq; exact ⟨b4, e4⟩
    | 5, hq => cases hq; exact ⟨b5, e5⟩
    | 6, hq => cases hq; exact ⟨b6, e6⟩
    | k + 7, hq => simp [sw_tys] at hq
theorem kT_of {A : Nat → Prop} (hA : ∀ a : Nat, a < s.heap.size → ¬ A a) (hts : ∀ w ∈ lw_tbl, w.before args s = true) (hs : ∀ w ∈ sw_fl, w.before args s = true) : ∃ t : Nat, va_Z "SeeSaws" "MOST_OF_TERM" "[I" (.ref t) A s s.heap ∧ va_T .int t 4 (fun j => .int (([999, 10, 9, 9] : List Int32).getD j 0)) A s s.heap := by
  have m : ∀ {w : Cond} (i : Nat), sw_fl[i]? = some w → w.before args s = true := fun i h => hs _ (List.mem_of_getElem? h)
  obtain ⟨t, ht, hT⟩ := va_Tof (tm := .static "SeeSaws" "MOST_OF_TERM" "[I") (ty := .int) (N := 4) (f := fun j => .int (([999, 10, 9, 9] : List Int32).getD j 0)) (A := A) (args := args) (s := s) (by decide) (m 5 (by decide +kernel)) (va_eqt (m 6 (by decide +kernel))) (fun j hj => by
    match j, hj with
    | 0, _ => exact va_eqt (m 7 (by decide +kernel))
    | 1, _ => exact va_eqt (m 8 (by decide +kernel))
    | 2, _ => exact va_eqt (m 9 (by decide +kernel))
    | 3, _ => exact va_eqt (m 10 (by decide +kernel))
    | j + 4, h => exact absurd h (by omega)) hA
  exact ⟨t, va_Zof (hts _ (tl_mem 444 (by decide +kernel))) (hts _ (tl_mem 1 (by decide +kernel))) ht hA, hT⟩
theorem kO_all {A : Nat → Prop} (hA : ∀ a : Nat, a < s.heap.size → ¬ A a) (hts : ∀ w ∈ lw_tbl, w.before args s = true) (hs : ∀ w ∈ sw_fl, w.before args s = true) : ∃ Γ : sw_C, va_K Γ.1 swCl (sw_tys Γ) s ∧ sw_O Γ A s s.heap := by
  have m : ∀ {w : Cond} (i : Nat), sw_fl[i]? = some w → w.before args s = true := fun i h => hs _ (List.mem_of_getElem? h)
  obtain ⟨D, cs, hK⟩ := kG_of hts
  obtain ⟨adK, adV, hS, hE⟩ := kS_of hA hs
  obtain ⟨t, hZ, hT⟩ := kT_of hA hts hs
  refine ⟨(D, cs, adK, adV, t), hK, hS, fun i hi => vk_R.of (hts _ (tl_mem (sw_sx.getD i 0) (sx_0 i hi))) (hE i hi), va_Zof (hts _ (tl_mem 502 (by decide +kernel))) (hts _ (tl_mem 11 (by decide +kernel))) (va_eqt (m 11 (by decide +kernel))) hA, va_Zqof (hts _ (tl_mem 518 (by decide +kernel))) (hts _ (tl_mem 13 (by decide +kernel))) (m 12 (by decide +kernel)) hA, hZ, hT, va_AO.of (hts _ (tl_mem 33 (by decide +kernel)))⟩
abbrev lw_Th : State → Prop := fun U => sk_O U ∧ sk_AA U
theorem lw_Thg : sk_good lw_Th := by
  refine ⟨fun u U h hz => ?_, fun s U hW hz => ?_⟩
  · obtain ⟨⟨h1, h2, h3, h4, h5, h6, h7⟩, h8⟩ := hz
    have ha : u.vm.Alike U.vm := by rw [h]; exact Vm.Alike.refl _
    exact ⟨⟨va_AO.moved ha h1, va_AO.moved ha h2, va_Nw.same rfl h.symm h3, va_Nw.same rfl h.symm h4, va_Nw.same rfl h.symm h5, va_Nw.same rfl h.symm h6, va_Nw.same rfl h.symm h7⟩, h8.same h⟩
  · obtain ⟨⟨h1, h2, h3, h4, h5, h6, h7⟩, h8⟩ := hz
    exact ⟨⟨va_AO.moved hW.alike h1, va_AO.moved hW.alike h2, va_Nw.warmM hW h3, va_Nw.warmM hW h4, va_Nw.warmM hW h5, va_Nw.warmM hW h6, va_Nw.warmM hW h7⟩, h8.warm hW⟩
theorem lw_AA_of (h : (Cond.arrayOver (.array .int)).before args s = true) : sk_AA s := h
theorem lw_Th_of (hts : ∀ w ∈ lw_tbl, w.before args s = true) : lw_Th s :=
  ⟨⟨va_AO.of (hts _ (tl_mem 33 (by decide +kernel))), va_AO.of (hts _ (tl_mem 91 (by decide +kernel))), va_Nw.of rfl (hts _ (tl_mem 94 (by decide +kernel))), va_Nw.of rfl (hts _ (tl_mem 203 (by decide +kernel))), va_Nw.of rfl (hts _ (tl_mem 209 (by decide +kernel))), va_Nw.of rfl (hts _ (tl_mem 231 (by decide +kernel))), va_Nw.of rfl (hts _ (tl_mem 234 (by decide +kernel)))⟩, lw_AA_of (hts _ (tl_mem 239 (by decide +kernel)))⟩
end
