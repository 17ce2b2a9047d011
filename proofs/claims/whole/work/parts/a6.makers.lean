/-! ===== the law: the cases that make cells ===== -/
section
variable {p : Program} {l : Launch} {e : Env} {s : State} {m : MethodId} {below : List Frame} {meth : Method} {c : Code} {H : Heap} {locs : List Loc} {cells slots : Nat} {Q : State → Prop}
variable {ls : Array Slot} {Γ : sw_C} {ξ : sw_x} {g : sw_g} {μ : sw_m} {b L N i : Nat} {xs : Nat → Int32} {a0 a1 : Nat}
set_option maxHeartbeats 1000000 in
theorem wl_9 (C : LC p m c s b L xs i N) (I : LI Γ s ξ g μ H locs a0 a1) (hl : LV ls b a0 a1 i) (hc : cells + 9 ≤ 600000) (hs : slots + 1068 ≤ 7302250) (kk : LK p l e s m below meth c Q Γ b a0 a1 ls cells slots) : W p l e room_1 s m #[Value.ref b] below meth c H locs cells slots Q (F0 m 481 ls []) := by
  obtain ⟨S, hX, hbl, hL, hi, hN⟩ := C
  obtain ⟨hw, hf, hd, hr, rfl, rfl⟩ := I
  refine lv_aload_n S.1 S.2.1 dL_481 rfl (lv_at hl 1 rfl) ?_
  rcases law_all (N := N) (by omega) hr hf.1 (by rw [(wf_is hf 41 (by decide)).2.2]; decide) (by rw [(wf_is hf 41 (by decide)).2.2]; decide) with ⟨v, g1, μ1, m1, m2, hr1⟩ | ⟨h6, g2, u, e1, e2, e3, e4⟩
  · refine sw_Vi (q := 0) (rest := []) S hw (cSx_law_o l N hf m1) kSx_law wmL_54 (is_0 hf).1 (e_Sx (is_0 hf)) rfl rfl rfl rfl hl.1 (Nat.le_of_ble_eq_true rfl) ⟨rfl, rfl, Nat.le_of_ble_eq_true rfl, Nat.le_of_ble_eq_true rfl⟩ ⟨by show cells + 0 ≤ 600000; omega, by show slots + 0 ≤ 7302250; omega⟩ dL_482 (fun H1 locs1 hw hf => ?_)
    refine lv_aload_n S.1 S.2.1 dL_485 rfl (lv_at hl 2 rfl) ?_
    refine sw_Vi (q := 84) (rest := [.int v]) S hw (cMo_law l N hf  m2) kMo_law wmL_57 (is_84 hf).1 (e_Mo (is_84 hf)) rfl rfl rfl rfl hl.1 (Nat.le_of_ble_eq_true rfl) ⟨rfl, rfl, Nat.le_of_ble_eq_true rfl, Nat.le_of_ble_eq_true rfl⟩ ⟨by show cells + 0 + 0 ≤ 600000; omega, by show slots + 0 + 0 ≤ 7302250; omega⟩ dL_486 (fun H2 locs2 hw _ => ?_)
    refine lv_icmp_eq (tgt := 1142) S.1 S.2.1 dL_489 (by decide) (fun _ => ?_) (fun h => absurd rfl h)
    refine W.widen (k := cells + 9) (n := slots + 1068) (by omega) (by omega) ?_
    exact kk ξ g1 μ1 _ _ ⟨hw, hf, hd, hr1, rfl, rfl⟩
  · obtain ⟨g3, c1, v, g1, μ1, m1, m2, hr1⟩ := e4 (lT ξ u) (fun q hq => if_pos hq) (by show (if ξ.1 + 6 < ξ.1 then _ else if ξ.1 + 6 = ξ.1 + 6 then u else 12) = u; rw [if_neg (by omega), if_pos rfl])
    have j0 : jmax (0 : Int32) (g2.1 35 6) = nI u := by rw [e2]; exact jmax_nI (by omega)
    refine sw_VLa (q := 0) (rest := []) S hw (cSx_law l N hf hd h6 e1 (by decide) (n := u) (by rw [j0]; exact nI_nlt (Nat.zero_le u) (by omega)) (by rw [j0]; exact nI_clamp (by omega)) (by omega) c1 m1) kSx_law wmL_54 (is_0 hf).1 (e_Sx (is_0 hf)) rfl rfl rfl rfl hl.1 (Nat.le_of_ble_eq_true rfl) ⟨rfl, rfl, Nat.le_of_ble_eq_true rfl, Nat.le_of_ble_eq_true rfl⟩ ⟨by show cells + 7 ≤ 600000; omega, by show slots + (68 + u) ≤ 7302250; omega⟩ dL_482 (fun h w H1 locs1 hw hf1 => ?_)
    have f0 : (xT ξ h w u).2.2.2.1 0 = ξ.2.2.2.1 0 := (le_xT.2 0 (is_0 hf).1).2.2.1
    have f1 : (xT ξ h w u).2.2.2.1 84 = ξ.2.2.2.1 84 := (le_xT.2 84 (is_84 hf).1).2.2.1
    have hd := dyn_xT (h := h) (u := w) (n := u) hd
    have hl : LV ls b ((xT ξ h w u).2.2.2.1 0) ((xT ξ h w u).2.2.2.1 84) i := by rw [f0, f1]; exact hl
    rw [← f0, ← f1] at kk
    have hf := hf1
    have hr1 : RR (xT ξ h w u).2.2.1 (xT ξ h w u).1 g1 μ1 := hr1
    generalize xT ξ h w u = ξ1 at hw hf hd hl kk hr1
    refine lv_aload_n S.1 S.2.1 dL_485 rfl (lv_at hl 2 rfl) ?_
    refine sw_Vi (q := 84) (rest := [.int v]) S hw (cMo_law l N hf  m2) kMo_law wmL_57 (is_84 hf).1 (e_Mo (is_84 hf)) rfl rfl rfl rfl hl.1 (Nat.le_of_ble_eq_true rfl) ⟨rfl, rfl, Nat.le_of_ble_eq_true rfl, Nat.le_of_ble_eq_true rfl⟩ ⟨by show cells + 7 + 0 ≤ 600000; omega, by show slots + (68 + u) + 0 ≤ 7302250; omega⟩ dL_486 (fun H2 locs2 hw _ => ?_)
    refine lv_icmp_eq (tgt := 1142) S.1 S.2.1 dL_489 (by decide) (fun _ => ?_) (fun h => absurd rfl h)
    refine W.widen (k := cells + 9) (n := slots + 1068) (by omega) (by omega) ?_
    exact kk ξ1 g1 μ1 _ _ ⟨hw, hf, hd, hr1, rfl, rfl⟩
set_option maxHeartbeats 1000000 in
theorem wl_35 (C : LC p m c s b L xs i N) (I : LI Γ s ξ g μ H locs a0 a1) (hl : LV ls b a0 a1 i) (hc : cells + 9 ≤ 600000) (hs : slots + 1068 ≤ 7302250) (kk : LK p l e s m below meth c Q Γ b a0 a1 ls cells slots) : W p l e room_1 s m #[Value.ref b] below meth c H locs cells slots Q (F0 m 1060 ls []) := by
  obtain ⟨S, hX, hbl, hL, hi, hN⟩ := C
  obtain ⟨hw, hf, hd, hr, rfl, rfl⟩ := I
  refine lv_aload_n S.1 S.2.1 dL_1060 rfl (lv_at hl 1 rfl) ?_
  refine lw_arg1 S hX hbl hw hl (by omega) hL dL_1061 dL_1062 dL_1063 dL_1064 dL_1065 ?_
  by_cases hn : ∀ k, k < 2 → xs (i + 1) = nI k → g.2.2 28 k ≠ none
  · obtain ⟨v, g1, μ1, m1, m2, hr1⟩ := image_old (N := N) hN hr (xs (i + 1)) hn
    refine sw_Vi (q := 0) (rest := []) S hw (cSx_image_o l N hf (xs (i + 1)) m1) kSx_image wmL_159 (is_0 hf).1 (e_Sx (is_0 hf)) rfl rfl rfl rfl hl.1 (Nat.le_of_ble_eq_true rfl) ⟨rfl, rfl, Nat.le_of_ble_eq_true rfl, Nat.le_of_ble_eq_true rfl⟩ ⟨by show cells + 0 ≤ 600000; omega, by show slots + 0 ≤ 7302250; omega⟩ dL_1066 (fun H1 locs1 hw hf => ?_)
    refine lv_aload_n S.1 S.2.1 dL_1069 rfl (lv_at hl 2 rfl) ?_
    refine lw_arg1 S hX hbl hw hl (by omega) hL dL_1070 dL_1071 dL_1072 dL_1073 dL_1074 ?_
    refine sw_Vi (q := 84) (rest := [.int v]) S hw (cMo_image l N hf (xs (i + 1)) m2) kMo_image wmL_162 (is_84 hf).1 (e_Mo (is_84 hf)) rfl rfl rfl rfl hl.1 (Nat.le_of_ble_eq_true rfl) ⟨rfl, rfl, Nat.le_of_ble_eq_true rfl, Nat.le_of_ble_eq_true rfl⟩ ⟨by show cells + 0 + 0 ≤ 600000; omega, by show slots + 0 + 0 ≤ 7302250; omega⟩ dL_1075 (fun H2 locs2 hw _ => ?_)
    refine lv_icmp_eq (tgt := 1142) S.1 S.2.1 dL_1078 (by decide) (fun _ => ?_) (fun h => absurd rfl h)
    refine W.widen (k := cells + 9) (n := slots + 1068) (by omega) (by omega) ?_
    exact kk ξ g1 μ1 _ _ ⟨hw, hf, hd, hr1, rfl, rfl⟩
  · obtain ⟨k, k2, ka, kn⟩ : ∃ k, k < 2 ∧ xs (i + 1) = nI k ∧ g.2.2 28 k = none := Classical.byContradiction fun q => hn fun k x y z => q ⟨k, x, y, z⟩
    obtain ⟨v, g1, μ1, m1, m2, hr1⟩ := image_new (N := N) (ln' := lP ξ) hN hr hf.1 (fun q hq => if_pos hq) k2 kn
    rw [← ka] at m1 m2
    refine sw_VIm (q := 0) (rest := []) S hw (cSx_image l N hf hd (xs (i + 1)) (by rw [ka]; exact nI_nlt (Nat.zero_le k) (by omega)) (by rw [ka]; exact nI_lt (b := 2) k2 (by decide)) (by rw [ka, nI_clamp (by omega)]; exact kn) m1) kSx_image wmL_159 (is_0 hf).1 (e_Sx (is_0 hf)) rfl rfl rfl rfl hl.1 (Nat.le_of_ble_eq_true rfl) ⟨rfl, rfl, Nat.le_of_ble_eq_true rfl, Nat.le_of_ble_eq_true rfl⟩ ⟨by show cells + 9 ≤ 600000; omega, by show slots + 61 ≤ 7302250; omega⟩ dL_1066 (fun h w H1 locs1 hw hf1 => ?_)
    have f0 : (xP ξ h w).2.2.2.1 0 = ξ.2.2.2.1 0 := (le_xP.2 0 (is_0 hf).1).2.2.1
    have f1 : (xP ξ h w).2.2.2.1 84 = ξ.2.2.2.1 84 := (le_xP.2 84 (is_84 hf).1).2.2.1
    have hd := dyn_xP (h := h) (u := w) hd
    have hl : LV ls b ((xP ξ h w).2.2.2.1 0) ((xP ξ h w).2.2.2.1 84) i := by rw [f0, f1]; exact hl
    rw [← f0, ← f1] at kk
    have hf := hf1
    have hr1 : RR (xP ξ h w).2.2.1 (xP ξ h w).1 g1 μ1 := hr1
    generalize xP ξ h w = ξ1 at hw hf hd hl kk hr1
    refine lv_aload_n S.1 S.2.1 dL_1069 rfl (lv_at hl 2 rfl) ?_
    refine lw_arg1 S hX hbl hw hl (by omega) hL dL_1070 dL_1071 dL_1072 dL_1073 dL_1074 ?_
    refine sw_Vi (q := 84) (rest := [.int v]) S hw (cMo_image l N hf (xs (i + 1)) m2) kMo_image wmL_162 (is_84 hf).1 (e_Mo (is_84 hf)) rfl rfl rfl rfl hl.1 (Nat.le_of_ble_eq_true rfl) ⟨rfl, rfl, Nat.le_of_ble_eq_true rfl, Nat.le_of_ble_eq_true rfl⟩ ⟨by show cells + 9 + 0 ≤ 600000; omega, by show slots + 61 + 0 ≤ 7302250; omega⟩ dL_1075 (fun H2 locs2 hw _ => ?_)
    refine lv_icmp_eq (tgt := 1142) S.1 S.2.1 dL_1078 (by decide) (fun _ => ?_) (fun h => absurd rfl h)
    refine W.widen (k := cells + 9) (n := slots + 1068) (by omega) (by omega) ?_
    exact kk ξ1 g1 μ1 _ _ ⟨hw, hf, hd, hr1, rfl, rfl⟩
set_option maxHeartbeats 1000000 in
theorem wl_31 (C : LC p m c s b L xs i N) (I : LI Γ s ξ g μ H locs a0 a1) (hl : LV ls b a0 a1 i) (hc : cells + 9 ≤ 600000) (hs : slots + 1068 ≤ 7302250) (kk : LK p l e s m below meth c Q Γ b a0 a1 ls cells slots) : W p l e room_1 s m #[Value.ref b] below meth c H locs cells slots Q (F0 m 937 ls []) := by
  obtain ⟨S, hX, hbl, hL, hi, hN⟩ := C
  obtain ⟨hw, hf, hd, hr, rfl, rfl⟩ := I
  refine lv_aload_n S.1 S.2.1 dL_937 rfl (lv_at hl 1 rfl) ?_
  refine lw_arg1 S hX hbl hw hl (by omega) hL dL_938 dL_939 dL_940 dL_941 dL_942 ?_
  refine lw_arg2 S hX hbl hw hl (by omega) hL dL_943 dL_944 dL_945 dL_946 dL_947 ?_
  by_cases hn : ¬ xs (i + 1) < 1 ∧ ¬ 20 < xs (i + 1) ∧ ¬ xs (i + 2) < 0 ∧ xs (i + 2) ≤ 99
  · obtain ⟨n1, n2, n3, n4⟩ := hn
    obtain ⟨v, g1, μ1, m1, m2, hr1⟩ := few_new (N := N) (ln' := lF ξ 20) (by omega) hr hf.1 (fun q hq => if_pos hq) n1 n2 n3 n4
    refine sw_VFe (q := 0) (rest := []) S hw (cSx_few l N hf hd (xs (i + 1)) (xs (i + 2)) n1 n2 n3 n4 m1) kSx_few wmL_142 (is_0 hf).1 (e_Sx (is_0 hf)) rfl rfl rfl rfl hl.1 (Nat.le_of_ble_eq_true rfl) ⟨rfl, rfl, Nat.le_of_ble_eq_true rfl, Nat.le_of_ble_eq_true rfl⟩ ⟨by show cells + 1 ≤ 600000; omega, by show slots + 20 ≤ 7302250; omega⟩ dL_948 (fun h H1 locs1 hw hf1 => ?_)
    have f0 : (xF ξ h 20).2.2.2.1 0 = ξ.2.2.2.1 0 := (le_xF.2 0 (is_0 hf).1).2.2.1
    have f1 : (xF ξ h 20).2.2.2.1 84 = ξ.2.2.2.1 84 := (le_xF.2 84 (is_84 hf).1).2.2.1
    have hd := dyn_xF (h := h) (n := 20) hd
    have hl : LV ls b ((xF ξ h 20).2.2.2.1 0) ((xF ξ h 20).2.2.2.1 84) i := by rw [f0, f1]; exact hl
    rw [← f0, ← f1] at kk
    have hf := hf1
    have hr1 : RR (xF ξ h 20).2.2.1 (xF ξ h 20).1 g1 μ1 := hr1
    generalize xF ξ h 20 = ξ1 at hw hf hd hl kk hr1
    refine lv_aload_n S.1 S.2.1 dL_951 rfl (lv_at hl 2 rfl) ?_
    refine lw_arg1 S hX hbl hw hl (by omega) hL dL_952 dL_953 dL_954 dL_955 dL_956 ?_
    refine lw_arg2 S hX hbl hw hl (by omega) hL dL_957 dL_958 dL_959 dL_960 dL_961 ?_
    refine sw_Vl (q := 84) (rest := [.long v]) S hw (cMo_few l N hf (xs (i + 1)) (xs (i + 2)) m2) kMo_few wmL_146 (is_84 hf).1 (e_Mo (is_84 hf)) rfl rfl rfl rfl hl.1 (Nat.le_of_ble_eq_true rfl) ⟨rfl, rfl, Nat.le_of_ble_eq_true rfl, Nat.le_of_ble_eq_true rfl⟩ ⟨by show cells + 1 + 0 ≤ 600000; omega, by show slots + 20 + 0 ≤ 7302250; omega⟩ dL_962 (fun H2 locs2 hw _ => ?_)
    refine W.lcmp S.1 S.2.1 dL_965 ?_
    refine lv_if_eq (tgt := 1142) S.1 S.2.1 dL_966 (by decide) (fun _ => ?_) (fun h => absurd (by rw [cmp_eq]) h)
    refine W.widen (k := cells + 9) (n := slots + 1068) (by omega) (by omega) ?_
    exact kk ξ1 g1 μ1 _ _ ⟨hw, hf, hd, hr1, rfl, rfl⟩
  · obtain ⟨m1, m2⟩ := few_old (N := N) (ln := ξ.2.2.1) (g := g) (μ := μ) hn
    generalize (-1 : Int64) = v at m1 m2
    refine sw_Vl (q := 0) (rest := []) S hw (cSx_few_o l hf (xs (i + 1)) (xs (i + 2)) m1) kSx_few wmL_142 (is_0 hf).1 (e_Sx (is_0 hf)) rfl rfl rfl rfl hl.1 (Nat.le_of_ble_eq_true rfl) ⟨rfl, rfl, Nat.le_of_ble_eq_true rfl, Nat.le_of_ble_eq_true rfl⟩ ⟨by show cells + 0 ≤ 600000; omega, by show slots + 0 ≤ 7302250; omega⟩ dL_948 (fun H1 locs1 hw hf => ?_)
    refine lv_aload_n S.1 S.2.1 dL_951 rfl (lv_at hl 2 rfl) ?_
    refine lw_arg1 S hX hbl hw hl (by omega) hL dL_952 dL_953 dL_954 dL_955 dL_956 ?_
    refine lw_arg2 S hX hbl hw hl (by omega) hL dL_957 dL_958 dL_959 dL_960 dL_961 ?_
    refine sw_Vl (q := 84) (rest := [.long v]) S hw (cMo_few l N hf (xs (i + 1)) (xs (i + 2)) m2) kMo_few wmL_146 (is_84 hf).1 (e_Mo (is_84 hf)) rfl rfl rfl rfl hl.1 (Nat.le_of_ble_eq_true rfl) ⟨rfl, rfl, Nat.le_of_ble_eq_true rfl, Nat.le_of_ble_eq_true rfl⟩ ⟨by show cells + 0 + 0 ≤ 600000; omega, by show slots + 0 + 0 ≤ 7302250; omega⟩ dL_962 (fun H2 locs2 hw _ => ?_)
    refine W.lcmp S.1 S.2.1 dL_965 ?_
    refine lv_if_eq (tgt := 1142) S.1 S.2.1 dL_966 (by decide) (fun _ => ?_) (fun h => absurd (by rw [cmp_eq]) h)
    refine W.widen (k := cells + 9) (n := slots + 1068) (by omega) (by omega) ?_
    exact kk ξ g μ _ _ ⟨hw, hf, hd, hr, rfl, rfl⟩
end
