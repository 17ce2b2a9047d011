/-! ===== the law: the switch, the loop ===== -/
section
variable {p : Program} {l : Launch} {e : Env} {s : State} {m : MethodId} {below : List Frame} {meth : Method} {c : Code} {H : Heap} {locs : List Loc} {cells slots : Nat} {Q : State → Prop}
variable {ls : Array Slot} {Γ : sw_C} {ξ : sw_x} {g : sw_g} {μ : sw_m} {b L N i : Nat} {xs : Nat → Int32} {a0 a1 : Nat}
theorem lw_switch (C : LC p m c s b L xs i N) (I : LI Γ s ξ g μ H locs a0 a1) (hl : LV ls b a0 a1 i) (hc : cells + 9 ≤ 600000) (hs : slots + 1068 ≤ 7302250) (kk : LK p l e s m below meth c Q Γ b a0 a1 ls cells slots) : W p l e room_1 s m #[Value.ref b] below meth c H locs cells slots Q (F0 m 33 ls [.int (xs i &&& 63)]) := by
  obtain ⟨S, hX, hbl, hL, hi, hN⟩ := id C
  have hx := and63 (xs i)
  generalize (xs i &&& 63) = x at hx ⊢
  obtain ⟨k, hk, rfl⟩ := hx
  by_cases h39 : k < 39
  · have t1 : ¬ (nI k).toInt < 0 := by rw [nI_toInt (by omega)]; omega
    have t2 : ¬ (38 : Int) < (nI k).toInt := by rw [nI_toInt (by omega)]; omega
    have t3 : ((nI k).toInt - 0).toNat = k := by rw [nI_toInt (by omega)]; omega
    match k, h39 with
    | 0, _ => exact lv_tableIn (off := 171) (tgt := 204) S.1 S.2.1 dL_33 t1 t2 (by rw [t3]; rfl) (by decide) (wl_0 C I hl hc hs kk)
    | 1, _ => exact lv_tableIn (off := 204) (tgt := 237) S.1 S.2.1 dL_33 t1 t2 (by rw [t3]; rfl) (by decide) (wl_1 C I hl hc hs kk)
    | 2, _ => exact lv_tableIn (off := 237) (tgt := 270) S.1 S.2.1 dL_33 t1 t2 (by rw [t3]; rfl) (by decide) (wl_2 C I hl hc hs kk)
    | 3, _ => exact lv_tableIn (off := 280) (tgt := 313) S.1 S.2.1 dL_33 t1 t2 (by rw [t3]; rfl) (by decide) (wl_3 C I hl hc hs kk)
    | 4, _ => exact lv_tableIn (off := 303) (tgt := 336) S.1 S.2.1 dL_33 t1 t2 (by rw [t3]; rfl) (by decide) (wl_4 C I hl hc hs kk)
    | 5, _ => exact lv_tableIn (off := 336) (tgt := 369) S.1 S.2.1 dL_33 t1 t2 (by rw [t3]; rfl) (by decide) (wl_5 C I hl hc hs kk)
    | 6, _ => exact lv_tableIn (off := 399) (tgt := 432) S.1 S.2.1 dL_33 t1 t2 (by rw [t3]; rfl) (by decide) (wl_6 C I hl hc hs kk)
    | 7, _ => exact lv_tableIn (off := 422) (tgt := 455) S.1 S.2.1 dL_33 t1 t2 (by rw [t3]; rfl) (by decide) (wl_7 C I hl hc hs kk)
    | 8, _ => exact lv_tableIn (off := 435) (tgt := 468) S.1 S.2.1 dL_33 t1 t2 (by rw [t3]; rfl) (by decide) (wl_8 C I hl hc hs kk)
    | 9, _ => exact lv_tableIn (off := 448) (tgt := 481) S.1 S.2.1 dL_33 t1 t2 (by rw [t3]; rfl) (by decide) (wl_9 C I hl hc hs kk)
    | 10, _ => exact lv_tableIn (off := 461) (tgt := 494) S.1 S.2.1 dL_33 t1 t2 (by rw [t3]; rfl) (by decide) (wl_10 C I hl hc hs kk)
    | 11, _ => exact lv_tableIn (off := 474) (tgt := 507) S.1 S.2.1 dL_33 t1 t2 (by rw [t3]; rfl) (by decide) (wl_11 C I hl hc hs kk)
    | 12, _ => exact lv_tableIn (off := 487) (tgt := 520) S.1 S.2.1 dL_33 t1 t2 (by rw [t3]; rfl) (by decide) (wl_12 C I hl hc hs kk)
    | 13, _ => exact lv_tableIn (off := 500) (tgt := 533) S.1 S.2.1 dL_33 t1 t2 (by rw [t3]; rfl) (by decide) (wl_13 C I hl hc hs kk)
    | 14, _ => exact lv_tableIn (off := 523) (tgt := 556) S.1 S.2.1 dL_33 t1 t2 (by rw [t3]; rfl) (by decide) (wl_14 C I hl hc hs kk)
    | 15, _ => exact lv_tableIn (off := 556) (tgt := 589) S.1 S.2.1 dL_33 t1 t2 (by rw [t3]; rfl) (by decide) (wl_15 C I hl hc hs kk)
    | 16, _ => exact lv_tableIn (off := 579) (tgt := 612) S.1 S.2.1 dL_33 t1 t2 (by rw [t3]; rfl) (by decide) (wl_16 C I hl hc hs kk)
    | 17, _ => exact lv_tableIn (off := 612) (tgt := 645) S.1 S.2.1 dL_33 t1 t2 (by rw [t3]; rfl) (by decide) (wl_17 C I hl hc hs kk)
    | 18, _ => exact lv_tableIn (off := 625) (tgt := 658) S.1 S.2.1 dL_33 t1 t2 (by rw [t3]; rfl) (by decide) (wl_18 C I hl hc hs kk)
    | 19, _ => exact lv_tableIn (off := 638) (tgt := 671) S.1 S.2.1 dL_33 t1 t2 (by rw [t3]; rfl) (by decide) (wl_19 C I hl hc hs kk)
    | 20, _ => exact lv_tableIn (off := 661) (tgt := 694) S.1 S.2.1 dL_33 t1 t2 (by rw [t3]; rfl) (by decide) (wl_20 C I hl hc hs kk)
    | 21, _ => exact lv_tableIn (off := 684) (tgt := 717) S.1 S.2.1 dL_33 t1 t2 (by rw [t3]; rfl) (by decide) (wl_21 C I hl hc hs kk)
    | 22, _ => exact lv_tableIn (off := 707) (tgt := 740) S.1 S.2.1 dL_33 t1 t2 (by rw [t3]; rfl) (by decide) (wl_22 C I hl hc hs kk)
    | 23, _ => exact lv_tableIn (off := 720) (tgt := 753) S.1 S.2.1 dL_33 t1 t2 (by rw [t3]; rfl) (by decide) (wl_23 C I hl hc hs kk)
    | 24, _ => exact lv_tableIn (off := 743) (tgt := 776) S.1 S.2.1 dL_33 t1 t2 (by rw [t3]; rfl) (by decide) (wl_24 C I hl hc hs kk)
    | 25, _ => exact lv_tableIn (off := 766) (tgt := 799) S.1 S.2.1 dL_33 t1 t2 (by rw [t3]; rfl) (by decide) (wl_25 C I hl hc hs kk)
    | 26, _ => exact lv_tableIn (off := 789) (tgt := 822) S.1 S.2.1 dL_33 t1 t2 (by rw [t3]; rfl) (by decide) (wl_26 C I hl hc hs kk)
    | 27, _ => exact lv_tableIn (off := 812) (tgt := 845) S.1 S.2.1 dL_33 t1 t2 (by rw [t3]; rfl) (by decide) (wl_27 C I hl hc hs kk)
    | 28, _ => exact lv_tableIn (off := 855) (tgt := 888) S.1 S.2.1 dL_33 t1 t2 (by rw [t3]; rfl) (by decide) (wl_28 C I hl hc hs kk)
    | 29, _ => exact lv_tableIn (off := 868) (tgt := 901) S.1 S.2.1 dL_33 t1 t2 (by rw [t3]; rfl) (by decide) (wl_29 C I hl hc hs kk)
    | 30, _ => exact lv_tableIn (off := 881) (tgt := 914) S.1 S.2.1 dL_33 t1 t2 (by rw [t3]; rfl) (by decide) (wl_30 C I hl hc hs kk)
    | 31, _ => exact lv_tableIn (off := 904) (tgt := 937) S.1 S.2.1 dL_33 t1 t2 (by rw [t3]; rfl) (by decide) (wl_31 C I hl hc hs kk)
    | 32, _ => exact lv_tableIn (off := 938) (tgt := 971) S.1 S.2.1 dL_33 t1 t2 (by rw [t3]; rfl) (by decide) (wl_32 C I hl hc hs kk)
    | 33, _ => exact lv_tableIn (off := 961) (tgt := 994) S.1 S.2.1 dL_33 t1 t2 (by rw [t3]; rfl) (by decide) (wl_33 C I hl hc hs kk)
    | 34, _ => exact lv_tableIn (off := 994) (tgt := 1027) S.1 S.2.1 dL_33 t1 t2 (by rw [t3]; rfl) (by decide) (wl_34 C I hl hc hs kk)
    | 35, _ => exact lv_tableIn (off := 1027) (tgt := 1060) S.1 S.2.1 dL_33 t1 t2 (by rw [t3]; rfl) (by decide) (wl_35 C I hl hc hs kk)
    | 36, _ => exact lv_tableIn (off := 1050) (tgt := 1083) S.1 S.2.1 dL_33 t1 t2 (by rw [t3]; rfl) (by decide) (wl_36 C I hl hc hs kk)
    | 37, _ => exact lv_tableIn (off := 1073) (tgt := 1106) S.1 S.2.1 dL_33 t1 t2 (by rw [t3]; rfl) (by decide) (wl_37 C I hl hc hs kk)
    | 38, _ => exact lv_tableIn (off := 1096) (tgt := 1129) S.1 S.2.1 dL_33 t1 t2 (by rw [t3]; rfl) (by decide) (wl_38 C I hl hc hs kk)
    | k + 39, h => exact absurd h (by omega)
  · refine lv_tableOut (tgt := 1142) S.1 S.2.1 dL_33 (.inr (by rw [nI_toInt (by omega)]; omega)) (by decide) ?_
    refine W.widen (k := cells + 9) (n := slots + 1068) (by omega) (by omega) ?_
    exact kk _ _ _ _ _ I
theorem lw_gt {i L : Nat} (hL : L ≤ 3072) (hi : i ≤ 3078) : (Int32.ofNat L - 6 < nI i) ↔ L < i + 6 := by
  rw [Int32.lt_iff_toInt_lt, nI_toInt (by omega), Int32.toInt_sub, show (Int32.ofNat L).toInt = (L : Int) from nI_toInt (n := L) (by omega), show (6 : Int32).toInt = 6 from rfl, Int.bmod_eq_of_le (by omega) (by omega)]
  omega
theorem lw_loop (S : CallFix p m c code 4 s #[Value.ref b] (Cond.initialized R_Te :: sw_tb) R_law) (hr : meth.sig.returnType = ret) (hlk : meth.locks = false) (hX : va_X b L xs s s.heap) (hbl : b < s.heap.size) (hL : L ≤ 3072) (hN : 6000 ≤ N) :
    ∀ (n t : Nat), t + n = 513 → 6 * t ≤ L + 5 → ∀ (ξ : sw_x) (g : sw_g) (μ : sw_m) (H : Heap) (locs : List Loc) (ls : Array Slot), LI Γ s ξ g μ H locs a0 a1 → LV ls b a0 a1 (6 * t) → W p l e room_1 s m #[Value.ref b] below meth c H locs (1000 + 9 * t) (100000 + 1068 * t) (lw_Z below #[Value.ref b] s) (F0 m 18 ls []) := by
  intro n
  induction n with
  | zero =>
    intro t h1 h2
    exact absurd h2 (by omega)
  | succ n ih =>
    intro t h1 h2 ξ g μ H locs ls I hl
    have hw := I.1
    refine lv_iload_n S.1 S.2.1 dL_18 rfl (lv_at hl 3 rfl) ?_
    refine lv_aload_n S.1 S.2.1 dL_19 rfl (lv_at hl 0 rfl) ?_
    refine va_slen S.1 S.2.1 hX hbl (Nat.not_le.mpr hbl) hw.2.2.2.1 dL_20 ?_
    refine lv_bipush (v := (6 : Int32)) S.1 S.2.1 dL_21 (by decide) ?_
    refine lv_isub S.1 S.2.1 dL_23 ?_
    refine lv_icmp_gt (tgt := 1148) S.1 S.2.1 dL_24 (by decide) (fun c1 => ?_) (fun c1 => ?_)
    · refine lv_iconst (v := 1) S.1 S.2.1 dL_1148 (by decide) ?_
      refine va_forget (fun q hq => hw.2.2.2.1.2.2 q hq) ?_
      refine W.widen (k := 600000) (n := 7302250) (by omega) (by omega) ?_
      exact lw_ret S.1 S.2.1 hr hlk dL_1149
    · have hlt : 6 * t + 6 ≤ L := Nat.le_of_not_lt fun q => c1 ((lw_gt hL (by omega)).2 q)
      refine lv_aload_n S.1 S.2.1 dL_27 rfl (lv_at hl 0 rfl) ?_
      refine lv_iload_n S.1 S.2.1 dL_28 rfl (lv_at hl 3 rfl) ?_
      refine va_sld S.1 S.2.1 hX hbl (Nat.not_le.mpr hbl) hw.2.2.2.1 (vp_in_nI (n := 6 * t) (by omega) (by omega)) dL_29 ?_
      rw [nI_clamp (n := 6 * t) (by omega)]
      refine lv_bipush (v := (63 : Int32)) S.1 S.2.1 dL_30 (by decide) ?_
      refine lv_iand S.1 S.2.1 dL_32 ?_
      refine lw_switch ⟨S, hX, hbl, hL, hlt, hN⟩ I hl (by omega) (by omega) (fun ξ g μ H locs I => ?_)
      refine lv_iinc (v := nI (6 * (t + 1))) (lv' := [(3, .int (nI (6 * (t + 1)))), (0, .ref b), (1, .ref a0), (2, .ref a1)]) S.1 S.2.1 dL_1142 hl (k := 3) rfl (by rw [show 6 * (t + 1) = 6 * t + 6 by omega]; exact nI_add (6 * t) 6) (by decide) rfl (fun ls hl => ?_)
      refine lv_goto (tgt := 18) S.1 S.2.1 dL_1145 (by decide) ?_
      refine W.cs (cells' := 1000 + 9 * (t + 1)) (slots' := 100000 + 1068 * (t + 1)) (by omega) (by omega) ?_
      exact ih (t + 1) (by omega) (by omega) ξ g μ H locs ls I (lv_sub hl [1, 2, 3, 0] rfl)
end
