/-! ===== the law: its cases, the second half ===== -/
section
variable {p : Program} {l : Launch} {e : Env} {s : State} {m : MethodId} {below : List Frame} {meth : Method} {c : Code} {H : Heap} {locs : List Loc} {cells slots : Nat} {Q : State → Prop}
variable {ls : Array Slot} {Γ : sw_C} {ξ : sw_x} {g : sw_g} {μ : sw_m} {b L N i : Nat} {xs : Nat → Int32} {a0 a1 : Nat}
set_option maxHeartbeats 1000000 in
theorem wl_19 (C : LC p m c s b L xs i N) (I : LI Γ s ξ g μ H locs a0 a1) (hl : LV ls b a0 a1 i) (hc : cells + 9 ≤ 600000) (hs : slots + 1068 ≤ 7302250) (kk : LK p l e s m below meth c Q Γ b a0 a1 ls cells slots) : W p l e room_1 s m #[Value.ref b] below meth c H locs cells slots Q (F0 m 671 ls []) := by
  obtain ⟨S, hX, hbl, hL, hi, hN⟩ := C
  obtain ⟨hw, hf, hd, hr, rfl, rfl⟩ := I
  obtain ⟨v, g1, μ1, m1, m2, hr1⟩ := settle_CR (N := N) hN hr (xs (i + 1))
  refine lv_aload_n S.1 S.2.1 dL_671 rfl (lv_at hl 1 rfl) ?_
  refine lw_arg1 S hX hbl hw hl (by omega) hL dL_672 dL_673 dL_674 dL_675 dL_676 ?_
  refine sw_Vi (q := 0) (rest := []) S hw (cSx_settle l N hf (xs (i + 1)) m1) kSx_settle wmL_94 (is_0 hf).1 (e_Sx (is_0 hf)) rfl rfl rfl rfl hl.1 (Nat.le_of_ble_eq_true rfl) ⟨rfl, rfl, Nat.le_of_ble_eq_true rfl, Nat.le_of_ble_eq_true rfl⟩ ⟨by show cells + 0 ≤ 600000; omega, by show slots + 0 ≤ 7302250; omega⟩ dL_677 (fun H1 locs1 hw hf => ?_)
  refine lv_aload_n S.1 S.2.1 dL_680 rfl (lv_at hl 2 rfl) ?_
  refine lw_arg1 S hX hbl hw hl (by omega) hL dL_681 dL_682 dL_683 dL_684 dL_685 ?_
  refine sw_Vi (q := 84) (rest := [.int v]) S hw (cMo_settle l N hf (xs (i + 1)) m2) kMo_settle wmL_97 (is_84 hf).1 (e_Mo (is_84 hf)) rfl rfl rfl rfl hl.1 (Nat.le_of_ble_eq_true rfl) ⟨rfl, rfl, Nat.le_of_ble_eq_true rfl, Nat.le_of_ble_eq_true rfl⟩ ⟨by show cells + 0 + 0 ≤ 600000; omega, by show slots + 0 + 0 ≤ 7302250; omega⟩ dL_686 (fun H2 locs2 hw _ => ?_)
  refine lv_icmp_eq (tgt := 1142) S.1 S.2.1 dL_689 (by decide) (fun _ => ?_) (fun h => absurd rfl h)
  refine W.widen (k := cells + 9) (n := slots + 1068) (by omega) (by omega) ?_
  exact kk ξ g1 μ1 _ _ ⟨hw, hf, hd, hr1, rfl, rfl⟩
set_option maxHeartbeats 1000000 in
theorem wl_20 (C : LC p m c s b L xs i N) (I : LI Γ s ξ g μ H locs a0 a1) (hl : LV ls b a0 a1 i) (hc : cells + 9 ≤ 600000) (hs : slots + 1068 ≤ 7302250) (kk : LK p l e s m below meth c Q Γ b a0 a1 ls cells slots) : W p l e room_1 s m #[Value.ref b] below meth c H locs cells slots Q (F0 m 694 ls []) := by
  obtain ⟨S, hX, hbl, hL, hi, hN⟩ := C
  obtain ⟨hw, hf, hd, hr, rfl, rfl⟩ := I
  obtain ⟨v, g1, μ1, m1, m2, hr1⟩ := least_CR (N := N) hN hr (xs (i + 1))
  refine lv_aload_n S.1 S.2.1 dL_694 rfl (lv_at hl 1 rfl) ?_
  refine lw_arg1 S hX hbl hw hl (by omega) hL dL_695 dL_696 dL_697 dL_698 dL_699 ?_
  refine sw_Vi (q := 0) (rest := []) S hw (cSx_least l N hf (xs (i + 1)) m1) kSx_least wmL_98 (is_0 hf).1 (e_Sx (is_0 hf)) rfl rfl rfl rfl hl.1 (Nat.le_of_ble_eq_true rfl) ⟨rfl, rfl, Nat.le_of_ble_eq_true rfl, Nat.le_of_ble_eq_true rfl⟩ ⟨by show cells + 0 ≤ 600000; omega, by show slots + 0 ≤ 7302250; omega⟩ dL_700 (fun H1 locs1 hw hf => ?_)
  refine lv_aload_n S.1 S.2.1 dL_703 rfl (lv_at hl 2 rfl) ?_
  refine lw_arg1 S hX hbl hw hl (by omega) hL dL_704 dL_705 dL_706 dL_707 dL_708 ?_
  refine sw_Vi (q := 84) (rest := [.int v]) S hw (cMo_least l N hf (xs (i + 1)) m2) kMo_least wmL_101 (is_84 hf).1 (e_Mo (is_84 hf)) rfl rfl rfl rfl hl.1 (Nat.le_of_ble_eq_true rfl) ⟨rfl, rfl, Nat.le_of_ble_eq_true rfl, Nat.le_of_ble_eq_true rfl⟩ ⟨by show cells + 0 + 0 ≤ 600000; omega, by show slots + 0 + 0 ≤ 7302250; omega⟩ dL_709 (fun H2 locs2 hw _ => ?_)
  refine lv_icmp_eq (tgt := 1142) S.1 S.2.1 dL_712 (by decide) (fun _ => ?_) (fun h => absurd rfl h)
  refine W.widen (k := cells + 9) (n := slots + 1068) (by omega) (by omega) ?_
  exact kk ξ g1 μ1 _ _ ⟨hw, hf, hd, hr1, rfl, rfl⟩
set_option maxHeartbeats 1000000 in
theorem wl_21 (C : LC p m c s b L xs i N) (I : LI Γ s ξ g μ H locs a0 a1) (hl : LV ls b a0 a1 i) (hc : cells + 9 ≤ 600000) (hs : slots + 1068 ≤ 7302250) (kk : LK p l e s m below meth c Q Γ b a0 a1 ls cells slots) : W p l e room_1 s m #[Value.ref b] below meth c H locs cells slots Q (F0 m 717 ls []) := by
  obtain ⟨S, hX, hbl, hL, hi, hN⟩ := C
  obtain ⟨hw, hf, hd, hr, rfl, rfl⟩ := I
  obtain ⟨v, g1, μ1, m1, m2, hr1⟩ := moved_CR (N := N) hN hr (xs (i + 1))
  refine lv_aload_n S.1 S.2.1 dL_717 rfl (lv_at hl 1 rfl) ?_
  refine lw_arg1 S hX hbl hw hl (by omega) hL dL_718 dL_719 dL_720 dL_721 dL_722 ?_
  refine sw_Vi (q := 0) (rest := []) S hw (cSx_moved l N hf (xs (i + 1)) m1) kSx_moved wmL_102 (is_0 hf).1 (e_Sx (is_0 hf)) rfl rfl rfl rfl hl.1 (Nat.le_of_ble_eq_true rfl) ⟨rfl, rfl, Nat.le_of_ble_eq_true rfl, Nat.le_of_ble_eq_true rfl⟩ ⟨by show cells + 0 ≤ 600000; omega, by show slots + 0 ≤ 7302250; omega⟩ dL_723 (fun H1 locs1 hw hf => ?_)
  refine lv_aload_n S.1 S.2.1 dL_726 rfl (lv_at hl 2 rfl) ?_
  refine lw_arg1 S hX hbl hw hl (by omega) hL dL_727 dL_728 dL_729 dL_730 dL_731 ?_
  refine sw_Vi (q := 84) (rest := [.int v]) S hw (cMo_moved l N hf (xs (i + 1)) m2) kMo_moved wmL_105 (is_84 hf).1 (e_Mo (is_84 hf)) rfl rfl rfl rfl hl.1 (Nat.le_of_ble_eq_true rfl) ⟨rfl, rfl, Nat.le_of_ble_eq_true rfl, Nat.le_of_ble_eq_true rfl⟩ ⟨by show cells + 0 + 0 ≤ 600000; omega, by show slots + 0 + 0 ≤ 7302250; omega⟩ dL_732 (fun H2 locs2 hw _ => ?_)
  refine lv_icmp_eq (tgt := 1142) S.1 S.2.1 dL_735 (by decide) (fun _ => ?_) (fun h => absurd rfl h)
  refine W.widen (k := cells + 9) (n := slots + 1068) (by omega) (by omega) ?_
  exact kk ξ g1 μ1 _ _ ⟨hw, hf, hd, hr1, rfl, rfl⟩
set_option maxHeartbeats 1000000 in
theorem wl_22 (C : LC p m c s b L xs i N) (I : LI Γ s ξ g μ H locs a0 a1) (hl : LV ls b a0 a1 i) (hc : cells + 9 ≤ 600000) (hs : slots + 1068 ≤ 7302250) (kk : LK p l e s m below meth c Q Γ b a0 a1 ls cells slots) : W p l e room_1 s m #[Value.ref b] below meth c H locs cells slots Q (F0 m 740 ls []) := by
  obtain ⟨S, hX, hbl, hL, hi, hN⟩ := C
  obtain ⟨hw, hf, hd, hr, rfl, rfl⟩ := I
  obtain ⟨v, g1, μ1, m1, m2, hr1⟩ := alone_CR (N := N) (by omega) hr
  refine lv_aload_n S.1 S.2.1 dL_740 rfl (lv_at hl 1 rfl) ?_
  refine sw_Vi (q := 0) (rest := []) S hw (cSx_alone l N hf  m1) kSx_alone wmL_106 (is_0 hf).1 (e_Sx (is_0 hf)) rfl rfl rfl rfl hl.1 (Nat.le_of_ble_eq_true rfl) ⟨rfl, rfl, Nat.le_of_ble_eq_true rfl, Nat.le_of_ble_eq_true rfl⟩ ⟨by show cells + 0 ≤ 600000; omega, by show slots + 0 ≤ 7302250; omega⟩ dL_741 (fun H1 locs1 hw hf => ?_)
  refine lv_aload_n S.1 S.2.1 dL_744 rfl (lv_at hl 2 rfl) ?_
  refine sw_Vi (q := 84) (rest := [.int v]) S hw (cMo_alone l N hf  m2) kMo_alone wmL_109 (is_84 hf).1 (e_Mo (is_84 hf)) rfl rfl rfl rfl hl.1 (Nat.le_of_ble_eq_true rfl) ⟨rfl, rfl, Nat.le_of_ble_eq_true rfl, Nat.le_of_ble_eq_true rfl⟩ ⟨by show cells + 0 + 0 ≤ 600000; omega, by show slots + 0 + 0 ≤ 7302250; omega⟩ dL_745 (fun H2 locs2 hw _ => ?_)
  refine lv_icmp_eq (tgt := 1142) S.1 S.2.1 dL_748 (by decide) (fun _ => ?_) (fun h => absurd rfl h)
  refine W.widen (k := cells + 9) (n := slots + 1068) (by omega) (by omega) ?_
  exact kk ξ g1 μ1 _ _ ⟨hw, hf, hd, hr1, rfl, rfl⟩
set_option maxHeartbeats 1000000 in
theorem wl_23 (C : LC p m c s b L xs i N) (I : LI Γ s ξ g μ H locs a0 a1) (hl : LV ls b a0 a1 i) (hc : cells + 9 ≤ 600000) (hs : slots + 1068 ≤ 7302250) (kk : LK p l e s m below meth c Q Γ b a0 a1 ls cells slots) : W p l e room_1 s m #[Value.ref b] below meth c H locs cells slots Q (F0 m 753 ls []) := by
  obtain ⟨S, hX, hbl, hL, hi, hN⟩ := C
  obtain ⟨hw, hf, hd, hr, rfl, rfl⟩ := I
  obtain ⟨v, g1, μ1, m1, m2, hr1⟩ := exchanged_CR (N := N) (by omega) hr (xs (i + 1))
  refine lv_aload_n S.1 S.2.1 dL_753 rfl (lv_at hl 1 rfl) ?_
  refine lw_arg1 S hX hbl hw hl (by omega) hL dL_754 dL_755 dL_756 dL_757 dL_758 ?_
  refine sw_Vi (q := 0) (rest := []) S hw (cSx_exchanged l N hf (xs (i + 1)) m1) kSx_exchanged wmL_110 (is_0 hf).1 (e_Sx (is_0 hf)) rfl rfl rfl rfl hl.1 (Nat.le_of_ble_eq_true rfl) ⟨rfl, rfl, Nat.le_of_ble_eq_true rfl, Nat.le_of_ble_eq_true rfl⟩ ⟨by show cells + 0 ≤ 600000; omega, by show slots + 0 ≤ 7302250; omega⟩ dL_759 (fun H1 locs1 hw hf => ?_)
  refine lv_aload_n S.1 S.2.1 dL_762 rfl (lv_at hl 2 rfl) ?_
  refine lw_arg1 S hX hbl hw hl (by omega) hL dL_763 dL_764 dL_765 dL_766 dL_767 ?_
  refine sw_Vi (q := 84) (rest := [.int v]) S hw (cMo_exchanged l N hf (xs (i + 1)) m2) kMo_exchanged wmL_113 (is_84 hf).1 (e_Mo (is_84 hf)) rfl rfl rfl rfl hl.1 (Nat.le_of_ble_eq_true rfl) ⟨rfl, rfl, Nat.le_of_ble_eq_true rfl, Nat.le_of_ble_eq_true rfl⟩ ⟨by show cells + 0 + 0 ≤ 600000; omega, by show slots + 0 + 0 ≤ 7302250; omega⟩ dL_768 (fun H2 locs2 hw _ => ?_)
  refine lv_icmp_eq (tgt := 1142) S.1 S.2.1 dL_771 (by decide) (fun _ => ?_) (fun h => absurd rfl h)
  refine W.widen (k := cells + 9) (n := slots + 1068) (by omega) (by omega) ?_
  exact kk ξ g1 μ1 _ _ ⟨hw, hf, hd, hr1, rfl, rfl⟩
set_option maxHeartbeats 1000000 in
theorem wl_24 (C : LC p m c s b L xs i N) (I : LI Γ s ξ g μ H locs a0 a1) (hl : LV ls b a0 a1 i) (hc : cells + 9 ≤ 600000) (hs : slots + 1068 ≤ 7302250) (kk : LK p l e s m below meth c Q Γ b a0 a1 ls cells slots) : W p l e room_1 s m #[Value.ref b] below meth c H locs cells slots Q (F0 m 776 ls []) := by
  obtain ⟨S, hX, hbl, hL, hi, hN⟩ := C
  obtain ⟨hw, hf, hd, hr, rfl, rfl⟩ := I
  obtain ⟨v, g1, μ1, m1, m2, hr1⟩ := shares_CR (N := N) (by omega) hr (xs (i + 1))
  refine lv_aload_n S.1 S.2.1 dL_776 rfl (lv_at hl 1 rfl) ?_
  refine lw_arg1 S hX hbl hw hl (by omega) hL dL_777 dL_778 dL_779 dL_780 dL_781 ?_
  refine sw_Vi (q := 0) (rest := []) S hw (cSx_shares l N hf (xs (i + 1)) m1) kSx_shares wmL_114 (is_0 hf).1 (e_Sx (is_0 hf)) rfl rfl rfl rfl hl.1 (Nat.le_of_ble_eq_true rfl) ⟨rfl, rfl, Nat.le_of_ble_eq_true rfl, Nat.le_of_ble_eq_true rfl⟩ ⟨by show cells + 0 ≤ 600000; omega, by show slots + 0 ≤ 7302250; omega⟩ dL_782 (fun H1 locs1 hw hf => ?_)
  refine lv_aload_n S.1 S.2.1 dL_785 rfl (lv_at hl 2 rfl) ?_
  refine lw_arg1 S hX hbl hw hl (by omega) hL dL_786 dL_787 dL_788 dL_789 dL_790 ?_
  refine sw_Vi (q := 84) (rest := [.int v]) S hw (cMo_shares l N hf (xs (i + 1)) m2) kMo_shares wmL_117 (is_84 hf).1 (e_Mo (is_84 hf)) rfl rfl rfl rfl hl.1 (Nat.le_of_ble_eq_true rfl) ⟨rfl, rfl, Nat.le_of_ble_eq_true rfl, Nat.le_of_ble_eq_true rfl⟩ ⟨by show cells + 0 + 0 ≤ 600000; omega, by show slots + 0 + 0 ≤ 7302250; omega⟩ dL_791 (fun H2 locs2 hw _ => ?_)
  refine lv_icmp_eq (tgt := 1142) S.1 S.2.1 dL_794 (by decide) (fun _ => ?_) (fun h => absurd rfl h)
  refine W.widen (k := cells + 9) (n := slots + 1068) (by omega) (by omega) ?_
  exact kk ξ g1 μ1 _ _ ⟨hw, hf, hd, hr1, rfl, rfl⟩
set_option maxHeartbeats 1000000 in
theorem wl_25 (C : LC p m c s b L xs i N) (I : LI Γ s ξ g μ H locs a0 a1) (hl : LV ls b a0 a1 i) (hc : cells + 9 ≤ 600000) (hs : slots + 1068 ≤ 7302250) (kk : LK p l e s m below meth c Q Γ b a0 a1 ls cells slots) : W p l e room_1 s m #[Value.ref b] below meth c H locs cells slots Q (F0 m 799 ls []) := by
  obtain ⟨S, hX, hbl, hL, hi, hN⟩ := C
  obtain ⟨hw, hf, hd, hr, rfl, rfl⟩ := I
  obtain ⟨v, g1, μ1, m1, m2, hr1⟩ := off_CR (N := N) (by omega) hr (xs (i + 1))
  refine lv_aload_n S.1 S.2.1 dL_799 rfl (lv_at hl 1 rfl) ?_
  refine lw_arg1 S hX hbl hw hl (by omega) hL dL_800 dL_801 dL_802 dL_803 dL_804 ?_
  refine sw_Vi (q := 0) (rest := []) S hw (cSx_off l N hf (xs (i + 1)) m1) kSx_off wmL_118 (is_0 hf).1 (e_Sx (is_0 hf)) rfl rfl rfl rfl hl.1 (Nat.le_of_ble_eq_true rfl) ⟨rfl, rfl, Nat.le_of_ble_eq_true rfl, Nat.le_of_ble_eq_true rfl⟩ ⟨by show cells + 0 ≤ 600000; omega, by show slots + 0 ≤ 7302250; omega⟩ dL_805 (fun H1 locs1 hw hf => ?_)
  refine lv_aload_n S.1 S.2.1 dL_808 rfl (lv_at hl 2 rfl) ?_
  refine lw_arg1 S hX hbl hw hl (by omega) hL dL_809 dL_810 dL_811 dL_812 dL_813 ?_
  refine sw_Vi (q := 84) (rest := [.int v]) S hw (cMo_off l N hf (xs (i + 1)) m2) kMo_off wmL_121 (is_84 hf).1 (e_Mo (is_84 hf)) rfl rfl rfl rfl hl.1 (Nat.le_of_ble_eq_true rfl) ⟨rfl, rfl, Nat.le_of_ble_eq_true rfl, Nat.le_of_ble_eq_true rfl⟩ ⟨by show cells + 0 + 0 ≤ 600000; omega, by show slots + 0 + 0 ≤ 7302250; omega⟩ dL_814 (fun H2 locs2 hw _ => ?_)
  refine lv_icmp_eq (tgt := 1142) S.1 S.2.1 dL_817 (by decide) (fun _ => ?_) (fun h => absurd rfl h)
  refine W.widen (k := cells + 9) (n := slots + 1068) (by omega) (by omega) ?_
  exact kk ξ g1 μ1 _ _ ⟨hw, hf, hd, hr1, rfl, rfl⟩
set_option maxHeartbeats 1000000 in
theorem wl_26 (C : LC p m c s b L xs i N) (I : LI Γ s ξ g μ H locs a0 a1) (hl : LV ls b a0 a1 i) (hc : cells + 9 ≤ 600000) (hs : slots + 1068 ≤ 7302250) (kk : LK p l e s m below meth c Q Γ b a0 a1 ls cells slots) : W p l e room_1 s m #[Value.ref b] below meth c H locs cells slots Q (F0 m 822 ls []) := by
  obtain ⟨S, hX, hbl, hL, hi, hN⟩ := C
  obtain ⟨hw, hf, hd, hr, rfl, rfl⟩ := I
  obtain ⟨v, g1, μ1, m1, m2, hr1⟩ := byTurns_CR (N := N) (by omega) hr (xs (i + 1))
  refine lv_aload_n S.1 S.2.1 dL_822 rfl (lv_at hl 1 rfl) ?_
  refine lw_arg1 S hX hbl hw hl (by omega) hL dL_823 dL_824 dL_825 dL_826 dL_827 ?_
  refine sw_Vi (q := 0) (rest := []) S hw (cSx_byTurns l N hf (xs (i + 1)) m1) kSx_byTurns wmL_122 (is_0 hf).1 (e_Sx (is_0 hf)) rfl rfl rfl rfl hl.1 (Nat.le_of_ble_eq_true rfl) ⟨rfl, rfl, Nat.le_of_ble_eq_true rfl, Nat.le_of_ble_eq_true rfl⟩ ⟨by show cells + 0 ≤ 600000; omega, by show slots + 0 ≤ 7302250; omega⟩ dL_828 (fun H1 locs1 hw hf => ?_)
  refine lv_aload_n S.1 S.2.1 dL_831 rfl (lv_at hl 2 rfl) ?_
  refine lw_arg1 S hX hbl hw hl (by omega) hL dL_832 dL_833 dL_834 dL_835 dL_836 ?_
  refine sw_Vi (q := 84) (rest := [.int v]) S hw (cMo_byTurns l N hf (xs (i + 1)) m2) kMo_byTurns wmL_125 (is_84 hf).1 (e_Mo (is_84 hf)) rfl rfl rfl rfl hl.1 (Nat.le_of_ble_eq_true rfl) ⟨rfl, rfl, Nat.le_of_ble_eq_true rfl, Nat.le_of_ble_eq_true rfl⟩ ⟨by show cells + 0 + 0 ≤ 600000; omega, by show slots + 0 + 0 ≤ 7302250; omega⟩ dL_837 (fun H2 locs2 hw _ => ?_)
  refine lv_icmp_eq (tgt := 1142) S.1 S.2.1 dL_840 (by decide) (fun _ => ?_) (fun h => absurd rfl h)
  refine W.widen (k := cells + 9) (n := slots + 1068) (by omega) (by omega) ?_
  exact kk ξ g1 μ1 _ _ ⟨hw, hf, hd, hr1, rfl, rfl⟩
set_option maxHeartbeats 1000000 in
theorem wl_27 (C : LC p m c s b L xs i N) (I : LI Γ s ξ g μ H locs a0 a1) (hl : LV ls b a0 a1 i) (hc : cells + 9 ≤ 600000) (hs : slots + 1068 ≤ 7302250) (kk : LK p l e s m below meth c Q Γ b a0 a1 ls cells slots) : W p l e room_1 s m #[Value.ref b] below meth c H locs cells slots Q (F0 m 845 ls []) := by
  obtain ⟨S, hX, hbl, hL, hi, hN⟩ := C
  obtain ⟨hw, hf, hd, hr, rfl, rfl⟩ := I
  obtain ⟨v, g1, μ1, m1, m2, hr1⟩ := weighed_CR (N := N) hr (xs (i + 1)) (xs (i + 2)) (xs (i + 3))
  refine lv_aload_n S.1 S.2.1 dL_845 rfl (lv_at hl 1 rfl) ?_
  refine lw_arg1 S hX hbl hw hl (by omega) hL dL_846 dL_847 dL_848 dL_849 dL_850 ?_
  refine lw_arg2 S hX hbl hw hl (by omega) hL dL_851 dL_852 dL_853 dL_854 dL_855 ?_
  refine lw_arg3 S hX hbl hw hl (by omega) hL dL_856 dL_857 dL_858 dL_859 dL_860 ?_
  refine sw_Vi (q := 0) (rest := []) S hw (cSx_weighed l N hf (xs (i + 1)) (xs (i + 2)) (xs (i + 3)) m1) kSx_weighed wmL_126 (is_0 hf).1 (e_Sx (is_0 hf)) rfl rfl rfl rfl hl.1 (Nat.le_of_ble_eq_true rfl) ⟨rfl, rfl, Nat.le_of_ble_eq_true rfl, Nat.le_of_ble_eq_true rfl⟩ ⟨by show cells + 0 ≤ 600000; omega, by show slots + 0 ≤ 7302250; omega⟩ dL_861 (fun H1 locs1 hw hf => ?_)
  refine lv_aload_n S.1 S.2.1 dL_864 rfl (lv_at hl 2 rfl) ?_
  refine lw_arg1 S hX hbl hw hl (by omega) hL dL_865 dL_866 dL_867 dL_868 dL_869 ?_
  refine lw_arg2 S hX hbl hw hl (by omega) hL dL_870 dL_871 dL_872 dL_873 dL_874 ?_
  refine lw_arg3 S hX hbl hw hl (by omega) hL dL_875 dL_876 dL_877 dL_878 dL_879 ?_
  refine sw_Vi (q := 84) (rest := [.int v]) S hw (cMo_weighed l N hf (xs (i + 1)) (xs (i + 2)) (xs (i + 3)) m2) kMo_weighed wmL_129 (is_84 hf).1 (e_Mo (is_84 hf)) rfl rfl rfl rfl hl.1 (Nat.le_of_ble_eq_true rfl) ⟨rfl, rfl, Nat.le_of_ble_eq_true rfl, Nat.le_of_ble_eq_true rfl⟩ ⟨by show cells + 0 + 0 ≤ 600000; omega, by show slots + 0 + 0 ≤ 7302250; omega⟩ dL_880 (fun H2 locs2 hw _ => ?_)
  refine lv_icmp_eq (tgt := 1142) S.1 S.2.1 dL_883 (by decide) (fun _ => ?_) (fun h => absurd rfl h)
  refine W.widen (k := cells + 9) (n := slots + 1068) (by omega) (by omega) ?_
  exact kk ξ g1 μ1 _ _ ⟨hw, hf, hd, hr1, rfl, rfl⟩
set_option maxHeartbeats 1000000 in
theorem wl_28 (C : LC p m c s b L xs i N) (I : LI Γ s ξ g μ H locs a0 a1) (hl : LV ls b a0 a1 i) (hc : cells + 9 ≤ 600000) (hs : slots + 1068 ≤ 7302250) (kk : LK p l e s m below meth c Q Γ b a0 a1 ls cells slots) : W p l e room_1 s m #[Value.ref b] below meth c H locs cells slots Q (F0 m 888 ls []) := by
  obtain ⟨S, hX, hbl, hL, hi, hN⟩ := C
  obtain ⟨hw, hf, hd, hr, rfl, rfl⟩ := I
  obtain ⟨v, g1, μ1, m1, m2, hr1⟩ := forget_CR hr
  refine lv_aload_n S.1 S.2.1 dL_888 rfl (lv_at hl 1 rfl) ?_
  refine sw_Vi (q := 0) (rest := []) S hw (cSx_forget l hf  m1) kSx_forget wmL_130 (is_0 hf).1 (e_Sx (is_0 hf)) rfl rfl rfl rfl hl.1 (Nat.le_of_ble_eq_true rfl) ⟨rfl, rfl, Nat.le_of_ble_eq_true rfl, Nat.le_of_ble_eq_true rfl⟩ ⟨by show cells + 0 ≤ 600000; omega, by show slots + 0 ≤ 7302250; omega⟩ dL_889 (fun H1 locs1 hw hf => ?_)
  refine lv_aload_n S.1 S.2.1 dL_892 rfl (lv_at hl 2 rfl) ?_
  refine sw_Vi (q := 84) (rest := [.int v]) S hw (cMo_forget l hf  m2) kMo_forget wmL_133 (is_84 hf).1 (e_Mo (is_84 hf)) rfl rfl rfl rfl hl.1 (Nat.le_of_ble_eq_true rfl) ⟨rfl, rfl, Nat.le_of_ble_eq_true rfl, Nat.le_of_ble_eq_true rfl⟩ ⟨by show cells + 0 + 0 ≤ 600000; omega, by show slots + 0 + 0 ≤ 7302250; omega⟩ dL_893 (fun H2 locs2 hw _ => ?_)
  refine lv_icmp_eq (tgt := 1142) S.1 S.2.1 dL_896 (by decide) (fun _ => ?_) (fun h => absurd rfl h)
  refine W.widen (k := cells + 9) (n := slots + 1068) (by omega) (by omega) ?_
  exact kk ξ g1 μ1 _ _ ⟨hw, hf, hd, hr1, rfl, rfl⟩
set_option maxHeartbeats 1000000 in
theorem wl_29 (C : LC p m c s b L xs i N) (I : LI Γ s ξ g μ H locs a0 a1) (hl : LV ls b a0 a1 i) (hc : cells + 9 ≤ 600000) (hs : slots + 1068 ≤ 7302250) (kk : LK p l e s m below meth c Q Γ b a0 a1 ls cells slots) : W p l e room_1 s m #[Value.ref b] below meth c H locs cells slots Q (F0 m 901 ls []) := by
  obtain ⟨S, hX, hbl, hL, hi, hN⟩ := C
  obtain ⟨hw, hf, hd, hr, rfl, rfl⟩ := I
  obtain ⟨v, g1, μ1, m1, m2, hr1⟩ := canBe_CR (N := N) (by omega) hr
  refine lv_aload_n S.1 S.2.1 dL_901 rfl (lv_at hl 1 rfl) ?_
  refine sw_Vi (q := 0) (rest := []) S hw (cSx_canBe l N hf  m1) kSx_canBe wmL_134 (is_0 hf).1 (e_Sx (is_0 hf)) rfl rfl rfl rfl hl.1 (Nat.le_of_ble_eq_true rfl) ⟨rfl, rfl, Nat.le_of_ble_eq_true rfl, Nat.le_of_ble_eq_true rfl⟩ ⟨by show cells + 0 ≤ 600000; omega, by show slots + 0 ≤ 7302250; omega⟩ dL_902 (fun H1 locs1 hw hf => ?_)
  refine lv_aload_n S.1 S.2.1 dL_905 rfl (lv_at hl 2 rfl) ?_
  refine sw_Vi (q := 84) (rest := [.int v]) S hw (cMo_canBe l N hf  m2) kMo_canBe wmL_137 (is_84 hf).1 (e_Mo (is_84 hf)) rfl rfl rfl rfl hl.1 (Nat.le_of_ble_eq_true rfl) ⟨rfl, rfl, Nat.le_of_ble_eq_true rfl, Nat.le_of_ble_eq_true rfl⟩ ⟨by show cells + 0 + 0 ≤ 600000; omega, by show slots + 0 + 0 ≤ 7302250; omega⟩ dL_906 (fun H2 locs2 hw _ => ?_)
  refine lv_icmp_eq (tgt := 1142) S.1 S.2.1 dL_909 (by decide) (fun _ => ?_) (fun h => absurd rfl h)
  refine W.widen (k := cells + 9) (n := slots + 1068) (by omega) (by omega) ?_
  exact kk ξ g1 μ1 _ _ ⟨hw, hf, hd, hr1, rfl, rfl⟩
set_option maxHeartbeats 1000000 in
theorem wl_30 (C : LC p m c s b L xs i N) (I : LI Γ s ξ g μ H locs a0 a1) (hl : LV ls b a0 a1 i) (hc : cells + 9 ≤ 600000) (hs : slots + 1068 ≤ 7302250) (kk : LK p l e s m below meth c Q Γ b a0 a1 ls cells slots) : W p l e room_1 s m #[Value.ref b] below meth c H locs cells slots Q (F0 m 914 ls []) := by
  obtain ⟨S, hX, hbl, hL, hi, hN⟩ := C
  obtain ⟨hw, hf, hd, hr, rfl, rfl⟩ := I
  obtain ⟨v, g1, μ1, m1, m2, hr1⟩ := weigh_CR (N := N) (by omega) hr (xs (i + 1))
  refine lv_aload_n S.1 S.2.1 dL_914 rfl (lv_at hl 1 rfl) ?_
  refine lw_arg1 S hX hbl hw hl (by omega) hL dL_915 dL_916 dL_917 dL_918 dL_919 ?_
  refine sw_Vi (q := 0) (rest := []) S hw (cSx_weigh l N hf (xs (i + 1)) m1) kSx_weigh wmL_138 (is_0 hf).1 (e_Sx (is_0 hf)) rfl rfl rfl rfl hl.1 (Nat.le_of_ble_eq_true rfl) ⟨rfl, rfl, Nat.le_of_ble_eq_true rfl, Nat.le_of_ble_eq_true rfl⟩ ⟨by show cells + 0 ≤ 600000; omega, by show slots + 0 ≤ 7302250; omega⟩ dL_920 (fun H1 locs1 hw hf => ?_)
  refine lv_aload_n S.1 S.2.1 dL_923 rfl (lv_at hl 2 rfl) ?_
  refine lw_arg1 S hX hbl hw hl (by omega) hL dL_924 dL_925 dL_926 dL_927 dL_928 ?_
  refine sw_Vi (q := 84) (rest := [.int v]) S hw (cMo_weigh l N hf (xs (i + 1)) m2) kMo_weigh wmL_141 (is_84 hf).1 (e_Mo (is_84 hf)) rfl rfl rfl rfl hl.1 (Nat.le_of_ble_eq_true rfl) ⟨rfl, rfl, Nat.le_of_ble_eq_true rfl, Nat.le_of_ble_eq_true rfl⟩ ⟨by show cells + 0 + 0 ≤ 600000; omega, by show slots + 0 + 0 ≤ 7302250; omega⟩ dL_929 (fun H2 locs2 hw _ => ?_)
  refine lv_icmp_eq (tgt := 1142) S.1 S.2.1 dL_932 (by decide) (fun _ => ?_) (fun h => absurd rfl h)
  refine W.widen (k := cells + 9) (n := slots + 1068) (by omega) (by omega) ?_
  exact kk ξ g1 μ1 _ _ ⟨hw, hf, hd, hr1, rfl, rfl⟩
set_option maxHeartbeats 1000000 in
theorem wl_32 (C : LC p m c s b L xs i N) (I : LI Γ s ξ g μ H locs a0 a1) (hl : LV ls b a0 a1 i) (hc : cells + 9 ≤ 600000) (hs : slots + 1068 ≤ 7302250) (kk : LK p l e s m below meth c Q Γ b a0 a1 ls cells slots) : W p l e room_1 s m #[Value.ref b] below meth c H locs cells slots Q (F0 m 971 ls []) := by
  obtain ⟨S, hX, hbl, hL, hi, hN⟩ := C
  obtain ⟨hw, hf, hd, hr, rfl, rfl⟩ := I
  obtain ⟨v, g1, μ1, m1, m2, hr1⟩ := compare_CR (N := N) (by omega) hr (xs (i + 1))
  refine lv_aload_n S.1 S.2.1 dL_971 rfl (lv_at hl 1 rfl) ?_
  refine lw_arg1 S hX hbl hw hl (by omega) hL dL_972 dL_973 dL_974 dL_975 dL_976 ?_
  refine sw_Vi (q := 0) (rest := []) S hw (cSx_compare l N hf (xs (i + 1)) m1) kSx_compare wmL_147 (is_0 hf).1 (e_Sx (is_0 hf)) rfl rfl rfl rfl hl.1 (Nat.le_of_ble_eq_true rfl) ⟨rfl, rfl, Nat.le_of_ble_eq_true rfl, Nat.le_of_ble_eq_true rfl⟩ ⟨by show cells + 0 ≤ 600000; omega, by show slots + 0 ≤ 7302250; omega⟩ dL_977 (fun H1 locs1 hw hf => ?_)
  refine lv_aload_n S.1 S.2.1 dL_980 rfl (lv_at hl 2 rfl) ?_
  refine lw_arg1 S hX hbl hw hl (by omega) hL dL_981 dL_982 dL_983 dL_984 dL_985 ?_
  refine sw_Vi (q := 84) (rest := [.int v]) S hw (cMo_compare l N hf (xs (i + 1)) m2) kMo_compare wmL_150 (is_84 hf).1 (e_Mo (is_84 hf)) rfl rfl rfl rfl hl.1 (Nat.le_of_ble_eq_true rfl) ⟨rfl, rfl, Nat.le_of_ble_eq_true rfl, Nat.le_of_ble_eq_true rfl⟩ ⟨by show cells + 0 + 0 ≤ 600000; omega, by show slots + 0 + 0 ≤ 7302250; omega⟩ dL_986 (fun H2 locs2 hw _ => ?_)
  refine lv_icmp_eq (tgt := 1142) S.1 S.2.1 dL_989 (by decide) (fun _ => ?_) (fun h => absurd rfl h)
  refine W.widen (k := cells + 9) (n := slots + 1068) (by omega) (by omega) ?_
  exact kk ξ g1 μ1 _ _ ⟨hw, hf, hd, hr1, rfl, rfl⟩
set_option maxHeartbeats 1000000 in
theorem wl_33 (C : LC p m c s b L xs i N) (I : LI Γ s ξ g μ H locs a0 a1) (hl : LV ls b a0 a1 i) (hc : cells + 9 ≤ 600000) (hs : slots + 1068 ≤ 7302250) (kk : LK p l e s m below meth c Q Γ b a0 a1 ls cells slots) : W p l e room_1 s m #[Value.ref b] below meth c H locs cells slots Q (F0 m 994 ls []) := by
  obtain ⟨S, hX, hbl, hL, hi, hN⟩ := C
  obtain ⟨hw, hf, hd, hr, rfl, rfl⟩ := I
  obtain ⟨v, g1, μ1, m1, m2, hr1⟩ := days_CR (N := N) (by omega) hr (xs (i + 1)) (xs (i + 2))
  refine lv_aload_n S.1 S.2.1 dL_994 rfl (lv_at hl 1 rfl) ?_
  refine lw_arg1 S hX hbl hw hl (by omega) hL dL_995 dL_996 dL_997 dL_998 dL_999 ?_
  refine lw_arg2 S hX hbl hw hl (by omega) hL dL_1000 dL_1001 dL_1002 dL_1003 dL_1004 ?_
  refine sw_Vi (q := 0) (rest := []) S hw (cSx_days l N hf (xs (i + 1)) (xs (i + 2)) m1) kSx_days wmL_151 (is_0 hf).1 (e_Sx (is_0 hf)) rfl rfl rfl rfl hl.1 (Nat.le_of_ble_eq_true rfl) ⟨rfl, rfl, Nat.le_of_ble_eq_true rfl, Nat.le_of_ble_eq_true rfl⟩ ⟨by show cells + 0 ≤ 600000; omega, by show slots + 0 ≤ 7302250; omega⟩ dL_1005 (fun H1 locs1 hw hf => ?_)
  refine lv_aload_n S.1 S.2.1 dL_1008 rfl (lv_at hl 2 rfl) ?_
  refine lw_arg1 S hX hbl hw hl (by omega) hL dL_1009 dL_1010 dL_1011 dL_1012 dL_1013 ?_
  refine lw_arg2 S hX hbl hw hl (by omega) hL dL_1014 dL_1015 dL_1016 dL_1017 dL_1018 ?_
  refine sw_Vi (q := 84) (rest := [.int v]) S hw (cMo_days l N hf (xs (i + 1)) (xs (i + 2)) m2) kMo_days wmL_154 (is_84 hf).1 (e_Mo (is_84 hf)) rfl rfl rfl rfl hl.1 (Nat.le_of_ble_eq_true rfl) ⟨rfl, rfl, Nat.le_of_ble_eq_true rfl, Nat.le_of_ble_eq_true rfl⟩ ⟨by show cells + 0 + 0 ≤ 600000; omega, by show slots + 0 + 0 ≤ 7302250; omega⟩ dL_1019 (fun H2 locs2 hw _ => ?_)
  refine lv_icmp_eq (tgt := 1142) S.1 S.2.1 dL_1022 (by decide) (fun _ => ?_) (fun h => absurd rfl h)
  refine W.widen (k := cells + 9) (n := slots + 1068) (by omega) (by omega) ?_
  exact kk ξ g1 μ1 _ _ ⟨hw, hf, hd, hr1, rfl, rfl⟩
set_option maxHeartbeats 1000000 in
theorem wl_34 (C : LC p m c s b L xs i N) (I : LI Γ s ξ g μ H locs a0 a1) (hl : LV ls b a0 a1 i) (hc : cells + 9 ≤ 600000) (hs : slots + 1068 ≤ 7302250) (kk : LK p l e s m below meth c Q Γ b a0 a1 ls cells slots) : W p l e room_1 s m #[Value.ref b] below meth c H locs cells slots Q (F0 m 1027 ls []) := by
  obtain ⟨S, hX, hbl, hL, hi, hN⟩ := C
  obtain ⟨hw, hf, hd, hr, rfl, rfl⟩ := I
  obtain ⟨v, g1, μ1, m1, m2, hr1⟩ := drawn_CR hr (xs (i + 1)) (xs (i + 2))
  refine lv_aload_n S.1 S.2.1 dL_1027 rfl (lv_at hl 1 rfl) ?_
  refine lw_arg1 S hX hbl hw hl (by omega) hL dL_1028 dL_1029 dL_1030 dL_1031 dL_1032 ?_
  refine lw_arg2 S hX hbl hw hl (by omega) hL dL_1033 dL_1034 dL_1035 dL_1036 dL_1037 ?_
  refine sw_Vi (q := 0) (rest := []) S hw (cSx_drawn l hf (xs (i + 1)) (xs (i + 2)) m1) kSx_drawn wmL_155 (is_0 hf).1 (e_Sx (is_0 hf)) rfl rfl rfl rfl hl.1 (Nat.le_of_ble_eq_true rfl) ⟨rfl, rfl, Nat.le_of_ble_eq_true rfl, Nat.le_of_ble_eq_true rfl⟩ ⟨by show cells + 0 ≤ 600000; omega, by show slots + 0 ≤ 7302250; omega⟩ dL_1038 (fun H1 locs1 hw hf => ?_)
  refine lv_aload_n S.1 S.2.1 dL_1041 rfl (lv_at hl 2 rfl) ?_
  refine lw_arg1 S hX hbl hw hl (by omega) hL dL_1042 dL_1043 dL_1044 dL_1045 dL_1046 ?_
  refine lw_arg2 S hX hbl hw hl (by omega) hL dL_1047 dL_1048 dL_1049 dL_1050 dL_1051 ?_
  refine sw_Vi (q := 84) (rest := [.int v]) S hw (cMo_drawn l hf (xs (i + 1)) (xs (i + 2)) m2) kMo_drawn wmL_158 (is_84 hf).1 (e_Mo (is_84 hf)) rfl rfl rfl rfl hl.1 (Nat.le_of_ble_eq_true rfl) ⟨rfl, rfl, Nat.le_of_ble_eq_true rfl, Nat.le_of_ble_eq_true rfl⟩ ⟨by show cells + 0 + 0 ≤ 600000; omega, by show slots + 0 + 0 ≤ 7302250; omega⟩ dL_1052 (fun H2 locs2 hw _ => ?_)
  refine lv_icmp_eq (tgt := 1142) S.1 S.2.1 dL_1055 (by decide) (fun _ => ?_) (fun h => absurd rfl h)
  refine W.widen (k := cells + 9) (n := slots + 1068) (by omega) (by omega) ?_
  exact kk ξ g1 μ1 _ _ ⟨hw, hf, hd, hr1, rfl, rfl⟩
set_option maxHeartbeats 1000000 in
theorem wl_36 (C : LC p m c s b L xs i N) (I : LI Γ s ξ g μ H locs a0 a1) (hl : LV ls b a0 a1 i) (hc : cells + 9 ≤ 600000) (hs : slots + 1068 ≤ 7302250) (kk : LK p l e s m below meth c Q Γ b a0 a1 ls cells slots) : W p l e room_1 s m #[Value.ref b] below meth c H locs cells slots Q (F0 m 1083 ls []) := by
  obtain ⟨S, hX, hbl, hL, hi, hN⟩ := C
  obtain ⟨hw, hf, hd, hr, rfl, rfl⟩ := I
  obtain ⟨v, g1, μ1, m1, m2, hr1⟩ := back_CR (N := N) hN hr (xs (i + 1))
  refine lv_aload_n S.1 S.2.1 dL_1083 rfl (lv_at hl 1 rfl) ?_
  refine lw_arg1 S hX hbl hw hl (by omega) hL dL_1084 dL_1085 dL_1086 dL_1087 dL_1088 ?_
  refine sw_Vi (q := 0) (rest := []) S hw (cSx_back l N hf (xs (i + 1)) m1) kSx_back wmL_163 (is_0 hf).1 (e_Sx (is_0 hf)) rfl rfl rfl rfl hl.1 (Nat.le_of_ble_eq_true rfl) ⟨rfl, rfl, Nat.le_of_ble_eq_true rfl, Nat.le_of_ble_eq_true rfl⟩ ⟨by show cells + 0 ≤ 600000; omega, by show slots + 0 ≤ 7302250; omega⟩ dL_1089 (fun H1 locs1 hw hf => ?_)
  refine lv_aload_n S.1 S.2.1 dL_1092 rfl (lv_at hl 2 rfl) ?_
  refine lw_arg1 S hX hbl hw hl (by omega) hL dL_1093 dL_1094 dL_1095 dL_1096 dL_1097 ?_
  refine sw_Vi (q := 84) (rest := [.int v]) S hw (cMo_back l N hf (xs (i + 1)) m2) kMo_back wmL_166 (is_84 hf).1 (e_Mo (is_84 hf)) rfl rfl rfl rfl hl.1 (Nat.le_of_ble_eq_true rfl) ⟨rfl, rfl, Nat.le_of_ble_eq_true rfl, Nat.le_of_ble_eq_true rfl⟩ ⟨by show cells + 0 + 0 ≤ 600000; omega, by show slots + 0 + 0 ≤ 7302250; omega⟩ dL_1098 (fun H2 locs2 hw _ => ?_)
  refine lv_icmp_eq (tgt := 1142) S.1 S.2.1 dL_1101 (by decide) (fun _ => ?_) (fun h => absurd rfl h)
  refine W.widen (k := cells + 9) (n := slots + 1068) (by omega) (by omega) ?_
  exact kk ξ g1 μ1 _ _ ⟨hw, hf, hd, hr1, rfl, rfl⟩
set_option maxHeartbeats 1000000 in
theorem wl_37 (C : LC p m c s b L xs i N) (I : LI Γ s ξ g μ H locs a0 a1) (hl : LV ls b a0 a1 i) (hc : cells + 9 ≤ 600000) (hs : slots + 1068 ≤ 7302250) (kk : LK p l e s m below meth c Q Γ b a0 a1 ls cells slots) : W p l e room_1 s m #[Value.ref b] below meth c H locs cells slots Q (F0 m 1106 ls []) := by
  obtain ⟨S, hX, hbl, hL, hi, hN⟩ := C
  obtain ⟨hw, hf, hd, hr, rfl, rfl⟩ := I
  obtain ⟨v, g1, μ1, m1, m2, hr1⟩ := count_CR (N := N) (by omega) hr (xs (i + 1))
  refine lv_aload_n S.1 S.2.1 dL_1106 rfl (lv_at hl 1 rfl) ?_
  refine lw_arg1 S hX hbl hw hl (by omega) hL dL_1107 dL_1108 dL_1109 dL_1110 dL_1111 ?_
  refine sw_Vi (q := 0) (rest := []) S hw (cSx_count l N hf (xs (i + 1)) m1) kSx_count wmL_167 (is_0 hf).1 (e_Sx (is_0 hf)) rfl rfl rfl rfl hl.1 (Nat.le_of_ble_eq_true rfl) ⟨rfl, rfl, Nat.le_of_ble_eq_true rfl, Nat.le_of_ble_eq_true rfl⟩ ⟨by show cells + 0 ≤ 600000; omega, by show slots + 0 ≤ 7302250; omega⟩ dL_1112 (fun H1 locs1 hw hf => ?_)
  refine lv_aload_n S.1 S.2.1 dL_1115 rfl (lv_at hl 2 rfl) ?_
  refine lw_arg1 S hX hbl hw hl (by omega) hL dL_1116 dL_1117 dL_1118 dL_1119 dL_1120 ?_
  refine sw_Vi (q := 84) (rest := [.int v]) S hw (cMo_count l N hf (xs (i + 1)) m2) kMo_count wmL_170 (is_84 hf).1 (e_Mo (is_84 hf)) rfl rfl rfl rfl hl.1 (Nat.le_of_ble_eq_true rfl) ⟨rfl, rfl, Nat.le_of_ble_eq_true rfl, Nat.le_of_ble_eq_true rfl⟩ ⟨by show cells + 0 + 0 ≤ 600000; omega, by show slots + 0 + 0 ≤ 7302250; omega⟩ dL_1121 (fun H2 locs2 hw _ => ?_)
  refine lv_icmp_eq (tgt := 1142) S.1 S.2.1 dL_1124 (by decide) (fun _ => ?_) (fun h => absurd rfl h)
  refine W.widen (k := cells + 9) (n := slots + 1068) (by omega) (by omega) ?_
  exact kk ξ g1 μ1 _ _ ⟨hw, hf, hd, hr1, rfl, rfl⟩
set_option maxHeartbeats 1000000 in
theorem wl_38 (C : LC p m c s b L xs i N) (I : LI Γ s ξ g μ H locs a0 a1) (hl : LV ls b a0 a1 i) (hc : cells + 9 ≤ 600000) (hs : slots + 1068 ≤ 7302250) (kk : LK p l e s m below meth c Q Γ b a0 a1 ls cells slots) : W p l e room_1 s m #[Value.ref b] below meth c H locs cells slots Q (F0 m 1129 ls []) := by
  obtain ⟨S, hX, hbl, hL, hi, hN⟩ := C
  obtain ⟨hw, hf, hd, hr, rfl, rfl⟩ := I
  obtain ⟨v, g1, μ1, m1, m2, hr1⟩ := status_CR hr
  refine lv_aload_n S.1 S.2.1 dL_1129 rfl (lv_at hl 1 rfl) ?_
  refine sw_Vi (q := 0) (rest := []) S hw (cSx_status l hf  m1) kSx_status wmL_171 (is_0 hf).1 (e_Sx (is_0 hf)) rfl rfl rfl rfl hl.1 (Nat.le_of_ble_eq_true rfl) ⟨rfl, rfl, Nat.le_of_ble_eq_true rfl, Nat.le_of_ble_eq_true rfl⟩ ⟨by show cells + 0 ≤ 600000; omega, by show slots + 0 ≤ 7302250; omega⟩ dL_1130 (fun H1 locs1 hw hf => ?_)
  refine lv_aload_n S.1 S.2.1 dL_1133 rfl (lv_at hl 2 rfl) ?_
  refine sw_Vi (q := 84) (rest := [.int v]) S hw (cMo_status l hf  m2) kMo_status wmL_174 (is_84 hf).1 (e_Mo (is_84 hf)) rfl rfl rfl rfl hl.1 (Nat.le_of_ble_eq_true rfl) ⟨rfl, rfl, Nat.le_of_ble_eq_true rfl, Nat.le_of_ble_eq_true rfl⟩ ⟨by show cells + 0 + 0 ≤ 600000; omega, by show slots + 0 + 0 ≤ 7302250; omega⟩ dL_1134 (fun H2 locs2 hw _ => ?_)
  refine lv_icmp_eq (tgt := 1142) S.1 S.2.1 dL_1137 (by decide) (fun _ => ?_) (fun h => absurd rfl h)
  refine W.widen (k := cells + 9) (n := slots + 1068) (by omega) (by omega) ?_
  exact kk ξ g1 μ1 _ _ ⟨hw, hf, hd, hr1, rfl, rfl⟩
end
