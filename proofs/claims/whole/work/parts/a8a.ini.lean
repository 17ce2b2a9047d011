/-! ===== the first memory ===== -/
def ir_z : Nat → Int32 := fun _ => 0
def ir_0 : Nat → Int32 := fun j => if j = 16 then -1 else 0
def ir_P : Nat → Int32 := fun j => if j = 11 then -1 else 0
def ir_T : Nat → Int32 := upd (fun _ => 0) (1 : Int32).toNatClampNeg (1 : Int32)
def ir_R : Nat → Int32 := fun j => if j = 2 then -1 else 0
def ir_M : Nat → Int32 := fun j => if j = 14 then -1 else if j = 43 then -1 else if j = 51 then -1 else 0
def ir_K : Nat → Int32 := upd (upd (fun _ => 0) (40 : Int32).toNatClampNeg (1 : Int32)) (46 : Int32).toNatClampNeg (-1 : Int32)
def ig : sw_g := (fun q => [ir_0, ir_P, ir_z, ir_z, ir_z, ir_T, ir_z, ir_z, ir_z, ir_z, ir_P, ir_z, ir_z, ir_z, ir_T, ir_z, ir_z, ir_z, ir_z, ir_P, ir_z, ir_z, ir_z, ir_T, ir_z, ir_z, ir_z, ir_z, ir_z, ir_z, ir_z, ir_z, ir_z, ir_R, ir_z, ir_z, ir_z, ir_z, ir_z, ir_z, ir_z, ir_z, ir_z, ir_z, ir_z, ir_z, ir_z, ir_z, ir_z, ir_z, ir_z, ir_z, ir_z, ir_z, ir_z, ir_z, ir_z, ir_z, ir_z, ir_z, ir_z, ir_z, ir_z, ir_z, ir_z, ir_z, ir_z, ir_z, ir_z, ir_z, ir_z, ir_z, ir_z, ir_z, ir_z, ir_z, ir_z, ir_z, ir_z, ir_z, ir_z, ir_z, ir_z, ir_z].getD q ir_z, fun _ _ => 0, fun _ _ => none)
def im : sw_m := (fun q => [ir_z, ir_z, ir_z, ir_z, ir_z, ir_z, ir_z, ir_z, ir_z, ir_z, ir_z, ir_z, ir_z, ir_z, ir_z, ir_z, ir_z, ir_z, ir_z, ir_z, ir_z, ir_z, ir_z, ir_z, ir_z, ir_z, ir_z, ir_z, ir_z, ir_z, ir_z, ir_z, ir_z, ir_z, ir_z, ir_z, ir_z, ir_z, ir_z, ir_z, ir_z, ir_z, ir_z, ir_z, ir_z, ir_z, ir_z, ir_z, ir_z, ir_z, ir_z, ir_z, ir_z, ir_z, ir_z, ir_z, ir_z, ir_z, ir_z, ir_z, ir_z, ir_z, ir_z, ir_z, ir_z, ir_z, ir_z, ir_z, ir_z, ir_z, ir_z, ir_z, ir_z, ir_z, ir_z, ir_z, ir_z, ir_z, ir_z, ir_z, ir_z, ir_z, ir_z, ir_z, ir_M, ir_z, ir_K, ir_z, ir_z, ir_z, (wd 124), ir_z, ir_z, ir_z, ir_z, ir_z, ir_z, ir_z, ir_z, ir_z, ir_z, ir_z, ir_z, ir_z, ir_z, ir_z, ir_z, ir_z, ir_z, ir_z].getD q ir_z, fun _ _ => 0)
def i0ad (h0 : Nat) (u : ((Nat → Nat) × (Nat → Nat) × (Nat → Nat) × (Nat → Nat) × (Nat → Nat) × (Nat → Nat) × ((Nat → Nat) × (Nat → Nat)) × ((Nat → Nat) × (Nat → Nat)) × (Nat → Nat) × ((Nat → Nat) × (Nat → Nat) × (Nat → Nat) × (Nat → Nat) × (Nat → Nat)))) (h1 : Nat) (v : Nat → Nat) : List Nat := [h0, u.1 1, u.2.1 1, u.2.1 2, u.2.1 3, u.2.1 4, u.2.1 5, u.2.1 6, u.2.1 7, u.2.1 8, u.1 2, u.2.2.1 1, u.2.2.1 2, u.2.2.1 3, u.2.2.1 4, u.2.2.1 5, u.2.2.1 6, u.2.2.1 7, u.2.2.1 8, u.1 3, u.2.2.2.1 1, u.2.2.2.1 2, u.2.2.2.1 3, u.2.2.2.1 4, u.2.2.2.1 5, u.2.2.2.1 6, u.2.2.2.1 7, u.2.2.2.1 8, u.1 4, u.1 5, u.2.2.2.2.1 1, u.1 6, u.2.2.2.2.2.1 1, u.1 7, u.2.2.2.2.2.2.1.1 1, u.2.2.2.2.2.2.1.1 2, u.2.2.2.2.2.2.1.2 1, u.2.2.2.2.2.2.1.2 2, u.2.2.2.2.2.2.1.2 3, u.2.2.2.2.2.2.1.2 4, u.2.2.2.2.2.2.1.2 5, u.2.2.2.2.2.2.1.2 6, u.1 8, u.2.2.2.2.2.2.2.1.1 1, u.2.2.2.2.2.2.2.1.2 1, u.2.2.2.2.2.2.2.1.1 2, u.1 9, u.2.2.2.2.2.2.2.2.1 1, u.1 10, u.1 11, u.2.2.2.2.2.2.2.2.2.1 1, u.2.2.2.2.2.2.2.2.2.1 2, u.2.2.2.2.2.2.2.2.2.1 3, u.2.2.2.2.2.2.2.2.2.2.1 0, u.2.2.2.2.2.2.2.2.2.2.1 1, u.2.2.2.2.2.2.2.2.2.2.1 2, u.2.2.2.2.2.2.2.2.2.2.1 3, u.2.2.2.2.2.2.2.2.2.2.1 4, u.2.2.2.2.2.2.2.2.2.2.1 5, u.2.2.2.2.2.2.2.2.2.2.1 6, u.2.2.2.2.2.2.2.2.2.1 4, u.2.2.2.2.2.2.2.2.2.2.2.1 0, u.2.2.2.2.2.2.2.2.2.2.2.1 1, u.2.2.2.2.2.2.2.2.2.2.2.1 2, u.2.2.2.2.2.2.2.2.2.2.2.1 3, u.2.2.2.2.2.2.2.2.2.2.2.1 4, u.2.2.2.2.2.2.2.2.2.2.2.1 5, u.2.2.2.2.2.2.2.2.2.2.2.1 6, u.2.2.2.2.2.2.2.2.2.1 5, u.2.2.2.2.2.2.2.2.2.2.2.2.1 0, u.2.2.2.2.2.2.2.2.2.2.2.2.1 1, u.2.2.2.2.2.2.2.2.2.2.2.2.1 2, u.2.2.2.2.2.2.2.2.2.2.2.2.1 3, u.2.2.2.2.2.2.2.2.2.2.2.2.1 4, u.2.2.2.2.2.2.2.2.2.2.2.2.1 5, u.2.2.2.2.2.2.2.2.2.2.2.2.1 6, u.2.2.2.2.2.2.2.2.2.1 6, u.2.2.2.2.2.2.2.2.2.2.2.2.2 0, u.2.2.2.2.2.2.2.2.2.2.2.2.2 1, u.2.2.2.2.2.2.2.2.2.2.2.2.2 2, u.2.2.2.2.2.2.2.2.2.2.2.2.2 3, u.1 12, u.1 13, u.1 14, h1, v 1, v 2, v 3, v 4, v 5, v 6, v 7, v 8, v 9, v 10, v 11, v 12, v 13, v 14, v 15, v 16, v 17, v 18, v 19, v 20, v 21, v 22, v 23, v 24, v 25]
def i0x (Γ : sw_C) (h0 : Nat) (u : ((Nat → Nat) × (Nat → Nat) × (Nat → Nat) × (Nat → Nat) × (Nat → Nat) × (Nat → Nat) × ((Nat → Nat) × (Nat → Nat)) × ((Nat → Nat) × (Nat → Nat)) × (Nat → Nat) × ((Nat → Nat) × (Nat → Nat) × (Nat → Nat) × (Nat → Nat) × (Nat → Nat)))) (h1 : Nat) (v : Nat → Nat) : sw_x := (110, sw_lt, sw_ll, fun q => (i0ad h0 u h1 v).getD q 0, fun _ => .inl (Γ.2.1 0, 0, .inl (fun _ => 0)))
section
variable {Γ : sw_C} {h0 : Nat} {u : ((Nat → Nat) × (Nat → Nat) × (Nat → Nat) × (Nat → Nat) × (Nat → Nat) × (Nat → Nat) × ((Nat → Nat) × (Nat → Nat)) × ((Nat → Nat) × (Nat → Nat)) × (Nat → Nat) × ((Nat → Nat) × (Nat → Nat) × (Nat → Nat) × (Nat → Nat) × (Nat → Nat)))} {h1 : Nat} {v : Nat → Nat}
theorem i0x_3 : ∀ q, q < 110 → sw_lt q = 3 → q = 1 ∨ q = 10 ∨ q = 19 := by decide +kernel
theorem i0x_7 : ∀ q, q < 110 → sw_lt q = 7 → q = 35 := by decide +kernel
theorem wf_ini : sw_wf (i0x Γ h0 u h1 v) ig.2.2 := by
  refine ⟨Nat.le_refl 110, fun q _ => ⟨rfl, rfl⟩, fun q hq => ?_, fun q hq => ?_, fun q k t _ h => ?_, fun q k t _ h => ?_⟩
  · rcases i0x_3 q hq.1 hq.2 with rfl | rfl | rfl <;> exact ⟨⟨Nat.le_of_ble_eq_true rfl, rfl, rfl⟩, ⟨Nat.le_of_ble_eq_true rfl, rfl, rfl⟩, ⟨Nat.le_of_ble_eq_true rfl, rfl, rfl⟩, ⟨Nat.le_of_ble_eq_true rfl, rfl, rfl⟩, ⟨Nat.le_of_ble_eq_true rfl, rfl, rfl⟩, ⟨Nat.le_of_ble_eq_true rfl, rfl, rfl⟩, ⟨Nat.le_of_ble_eq_true rfl, rfl, rfl⟩, ⟨Nat.le_of_ble_eq_true rfl, rfl, rfl⟩⟩
  · have e := i0x_7 q hq.1 hq.2
    subst e
    exact ⟨⟨Nat.le_of_ble_eq_true rfl, rfl, rfl⟩, ⟨Nat.le_of_ble_eq_true rfl, rfl, rfl⟩, ⟨Nat.le_of_ble_eq_true rfl, rfl, rfl⟩, ⟨Nat.le_of_ble_eq_true rfl, rfl, rfl⟩, ⟨Nat.le_of_ble_eq_true rfl, rfl, rfl⟩, ⟨Nat.le_of_ble_eq_true rfl, rfl, rfl⟩⟩
  · cases h
  · cases h
theorem dyn_ini : sw_dyn (i0x Γ h0 u h1 v) := fun q h1 h2 => absurd (show q < 110 from h2) (by omega)
theorem iad_0 : (i0x Γ h0 u h1 v).2.2.2.1 0 = h0 := rfl
theorem iad_1 : (i0x Γ h0 u h1 v).2.2.2.1 1 = u.1 1 := rfl
theorem iad_2 : (i0x Γ h0 u h1 v).2.2.2.1 2 = u.2.1 1 := rfl
theorem iad_3 : (i0x Γ h0 u h1 v).2.2.2.1 3 = u.2.1 2 := rfl
theorem iad_4 : (i0x Γ h0 u h1 v).2.2.2.1 4 = u.2.1 3 := rfl
theorem iad_5 : (i0x Γ h0 u h1 v).2.2.2.1 5 = u.2.1 4 := rfl
theorem iad_6 : (i0x Γ h0 u h1 v).2.2.2.1 6 = u.2.1 5 := rfl
theorem iad_7 : (i0x Γ h0 u h1 v).2.2.2.1 7 = u.2.1 6 := rfl
theorem iad_8 : (i0x Γ h0 u h1 v).2.2.2.1 8 = u.2.1 7 := rfl
theorem iad_9 : (i0x Γ h0 u h1 v).2.2.2.1 9 = u.2.1 8 := rfl
theorem iad_10 : (i0x Γ h0 u h1 v).2.2.2.1 10 = u.1 2 := rfl
theorem iad_11 : (i0x Γ h0 u h1 v).2.2.2.1 11 = u.2.2.1 1 := rfl
theorem iad_12 : (i0x Γ h0 u h1 v).2.2.2.1 12 = u.2.2.1 2 := rfl
theorem iad_13 : (i0x Γ h0 u h1 v).2.2.2.1 13 = u.2.2.1 3 := rfl
theorem iad_14 : (i0x Γ h0 u h1 v).2.2.2.1 14 = u.2.2.1 4 := rfl
theorem iad_15 : (i0x Γ h0 u h1 v).2.2.2.1 15 = u.2.2.1 5 := rfl
theorem iad_16 : (i0x Γ h0 u h1 v).2.2.2.1 16 = u.2.2.1 6 := rfl
theorem iad_17 : (i0x Γ h0 u h1 v).2.2.2.1 17 = u.2.2.1 7 := rfl
theorem iad_18 : (i0x Γ h0 u h1 v).2.2.2.1 18 = u.2.2.1 8 := rfl
theorem iad_19 : (i0x Γ h0 u h1 v).2.2.2.1 19 = u.1 3 := rfl
theorem iad_20 : (i0x Γ h0 u h1 v).2.2.2.1 20 = u.2.2.2.1 1 := rfl
theorem iad_21 : (i0x Γ h0 u h1 v).2.2.2.1 21 = u.2.2.2.1 2 := rfl
theorem iad_22 : (i0x Γ h0 u h1 v).2.2.2.1 22 = u.2.2.2.1 3 := rfl
theorem iad_23 : (i0x Γ h0 u h1 v).2.2.2.1 23 = u.2.2.2.1 4 := rfl
theorem iad_24 : (i0x Γ h0 u h1 v).2.2.2.1 24 = u.2.2.2.1 5 := rfl
theorem iad_25 : (i0x Γ h0 u h1 v).2.2.2.1 25 = u.2.2.2.1 6 := rfl
theorem iad_26 : (i0x Γ h0 u h1 v).2.2.2.1 26 = u.2.2.2.1 7 := rfl
theorem iad_27 : (i0x Γ h0 u h1 v).2.2.2.1 27 = u.2.2.2.1 8 := rfl
theorem iad_28 : (i0x Γ h0 u h1 v).2.2.2.1 28 = u.1 4 := rfl
theorem iad_29 : (i0x Γ h0 u h1 v).2.2.2.1 29 = u.1 5 := rfl
theorem iad_30 : (i0x Γ h0 u h1 v).2.2.2.1 30 = u.2.2.2.2.1 1 := rfl
theorem iad_31 : (i0x Γ h0 u h1 v).2.2.2.1 31 = u.1 6 := rfl
theorem iad_32 : (i0x Γ h0 u h1 v).2.2.2.1 32 = u.2.2.2.2.2.1 1 := rfl
theorem iad_33 : (i0x Γ h0 u h1 v).2.2.2.1 33 = u.1 7 := rfl
theorem iad_34 : (i0x Γ h0 u h1 v).2.2.2.1 34 = u.2.2.2.2.2.2.1.1 1 := rfl
theorem iad_35 : (i0x Γ h0 u h1 v).2.2.2.1 35 = u.2.2.2.2.2.2.1.1 2 := rfl
theorem iad_36 : (i0x Γ h0 u h1 v).2.2.2.1 36 = u.2.2.2.2.2.2.1.2 1 := rfl
theorem iad_37 : (i0x Γ h0 u h1 v).2.2.2.1 37 = u.2.2.2.2.2.2.1.2 2 := rfl
theorem iad_38 : (i0x Γ h0 u h1 v).2.2.2.1 38 = u.2.2.2.2.2.2.1.2 3 := rfl
theorem iad_39 : (i0x Γ h0 u h1 v).2.2.2.1 39 = u.2.2.2.2.2.2.1.2 4 := rfl
theorem iad_40 : (i0x Γ h0 u h1 v).2.2.2.1 40 = u.2.2.2.2.2.2.1.2 5 := rfl
theorem iad_41 : (i0x Γ h0 u h1 v).2.2.2.1 41 = u.2.2.2.2.2.2.1.2 6 := rfl
theorem iad_42 : (i0x Γ h0 u h1 v).2.2.2.1 42 = u.1 8 := rfl
theorem iad_43 : (i0x Γ h0 u h1 v).2.2.2.1 43 = u.2.2.2.2.2.2.2.1.1 1 := rfl
theorem iad_44 : (i0x Γ h0 u h1 v).2.2.2.1 44 = u.2.2.2.2.2.2.2.1.2 1 := rfl
theorem iad_45 : (i0x Γ h0 u h1 v).2.2.2.1 45 = u.2.2.2.2.2.2.2.1.1 2 := rfl
theorem iad_46 : (i0x Γ h0 u h1 v).2.2.2.1 46 = u.1 9 := rfl
theorem iad_47 : (i0x Γ h0 u h1 v).2.2.2.1 47 = u.2.2.2.2.2.2.2.2.1 1 := rfl
theorem iad_48 : (i0x Γ h0 u h1 v).2.2.2.1 48 = u.1 10 := rfl
theorem iad_49 : (i0x Γ h0 u h1 v).2.2.2.1 49 = u.1 11 := rfl
theorem iad_50 : (i0x Γ h0 u h1 v).2.2.2.1 50 = u.2.2.2.2.2.2.2.2.2.1 1 := rfl
theorem iad_51 : (i0x Γ h0 u h1 v).2.2.2.1 51 = u.2.2.2.2.2.2.2.2.2.1 2 := rfl
theorem iad_52 : (i0x Γ h0 u h1 v).2.2.2.1 52 = u.2.2.2.2.2.2.2.2.2.1 3 := rfl
theorem iad_53 : (i0x Γ h0 u h1 v).2.2.2.1 53 = u.2.2.2.2.2.2.2.2.2.2.1 0 := rfl
theorem iad_54 : (i0x Γ h0 u h1 v).2.2.2.1 54 = u.2.2.2.2.2.2.2.2.2.2.1 1 := rfl
theorem iad_55 : (i0x Γ h0 u h1 v).2.2.2.1 55 = u.2.2.2.2.2.2.2.2.2.2.1 2 := rfl
theorem iad_56 : (i0x Γ h0 u h1 v).2.2.2.1 56 = u.2.2.2.2.2.2.2.2.2.2.1 3 := rfl
theorem iad_57 : (i0x Γ h0 u h1 v).2.2.2.1 57 = u.2.2.2.2.2.2.2.2.2.2.1 4 := rfl
theorem iad_58 : (i0x Γ h0 u h1 v).2.2.2.1 58 = u.2.2.2.2.2.2.2.2.2.2.1 5 := rfl
theorem iad_59 : (i0x Γ h0 u h1 v).2.2.2.1 59 = u.2.2.2.2.2.2.2.2.2.2.1 6 := rfl
theorem iad_60 : (i0x Γ h0 u h1 v).2.2.2.1 60 = u.2.2.2.2.2.2.2.2.2.1 4 := rfl
theorem iad_61 : (i0x Γ h0 u h1 v).2.2.2.1 61 = u.2.2.2.2.2.2.2.2.2.2.2.1 0 := rfl
theorem iad_62 : (i0x Γ h0 u h1 v).2.2.2.1 62 = u.2.2.2.2.2.2.2.2.2.2.2.1 1 := rfl
theorem iad_63 : (i0x Γ h0 u h1 v).2.2.2.1 63 = u.2.2.2.2.2.2.2.2.2.2.2.1 2 := rfl
theorem iad_64 : (i0x Γ h0 u h1 v).2.2.2.1 64 = u.2.2.2.2.2.2.2.2.2.2.2.1 3 := rfl
theorem iad_65 : (i0x Γ h0 u h1 v).2.2.2.1 65 = u.2.2.2.2.2.2.2.2.2.2.2.1 4 := rfl
theorem iad_66 : (i0x Γ h0 u h1 v).2.2.2.1 66 = u.2.2.2.2.2.2.2.2.2.2.2.1 5 := rfl
theorem iad_67 : (i0x Γ h0 u h1 v).2.2.2.1 67 = u.2.2.2.2.2.2.2.2.2.2.2.1 6 := rfl
theorem iad_68 : (i0x Γ h0 u h1 v).2.2.2.1 68 = u.2.2.2.2.2.2.2.2.2.1 5 := rfl
theorem iad_69 : (i0x Γ h0 u h1 v).2.2.2.1 69 = u.2.2.2.2.2.2.2.2.2.2.2.2.1 0 := rfl
theorem iad_70 : (i0x Γ h0 u h1 v).2.2.2.1 70 = u.2.2.2.2.2.2.2.2.2.2.2.2.1 1 := rfl
theorem iad_71 : (i0x Γ h0 u h1 v).2.2.2.1 71 = u.2.2.2.2.2.2.2.2.2.2.2.2.1 2 := rfl
theorem iad_72 : (i0x Γ h0 u h1 v).2.2.2.1 72 = u.2.2.2.2.2.2.2.2.2.2.2.2.1 3 := rfl
theorem iad_73 : (i0x Γ h0 u h1 v).2.2.2.1 73 = u.2.2.2.2.2.2.2.2.2.2.2.2.1 4 := rfl
theorem iad_74 : (i0x Γ h0 u h1 v).2.2.2.1 74 = u.2.2.2.2.2.2.2.2.2.2.2.2.1 5 := rfl
theorem iad_75 : (i0x Γ h0 u h1 v).2.2.2.1 75 = u.2.2.2.2.2.2.2.2.2.2.2.2.1 6 := rfl
theorem iad_76 : (i0x Γ h0 u h1 v).2.2.2.1 76 = u.2.2.2.2.2.2.2.2.2.1 6 := rfl
theorem iad_77 : (i0x Γ h0 u h1 v).2.2.2.1 77 = u.2.2.2.2.2.2.2.2.2.2.2.2.2 0 := rfl
theorem iad_78 : (i0x Γ h0 u h1 v).2.2.2.1 78 = u.2.2.2.2.2.2.2.2.2.2.2.2.2 1 := rfl
theorem iad_79 : (i0x Γ h0 u h1 v).2.2.2.1 79 = u.2.2.2.2.2.2.2.2.2.2.2.2.2 2 := rfl
theorem iad_80 : (i0x Γ h0 u h1 v).2.2.2.1 80 = u.2.2.2.2.2.2.2.2.2.2.2.2.2 3 := rfl
theorem iad_81 : (i0x Γ h0 u h1 v).2.2.2.1 81 = u.1 12 := rfl
theorem iad_82 : (i0x Γ h0 u h1 v).2.2.2.1 82 = u.1 13 := rfl
theorem iad_83 : (i0x Γ h0 u h1 v).2.2.2.1 83 = u.1 14 := rfl
theorem iad_84 : (i0x Γ h0 u h1 v).2.2.2.1 84 = h1 := rfl
theorem iad_85 : (i0x Γ h0 u h1 v).2.2.2.1 85 = v 1 := rfl
theorem iad_86 : (i0x Γ h0 u h1 v).2.2.2.1 86 = v 2 := rfl
theorem iad_87 : (i0x Γ h0 u h1 v).2.2.2.1 87 = v 3 := rfl
theorem iad_88 : (i0x Γ h0 u h1 v).2.2.2.1 88 = v 4 := rfl
theorem iad_89 : (i0x Γ h0 u h1 v).2.2.2.1 89 = v 5 := rfl
theorem iad_90 : (i0x Γ h0 u h1 v).2.2.2.1 90 = v 6 := rfl
theorem iad_91 : (i0x Γ h0 u h1 v).2.2.2.1 91 = v 7 := rfl
theorem iad_92 : (i0x Γ h0 u h1 v).2.2.2.1 92 = v 8 := rfl
theorem iad_93 : (i0x Γ h0 u h1 v).2.2.2.1 93 = v 9 := rfl
theorem iad_94 : (i0x Γ h0 u h1 v).2.2.2.1 94 = v 10 := rfl
theorem iad_95 : (i0x Γ h0 u h1 v).2.2.2.1 95 = v 11 := rfl
theorem iad_96 : (i0x Γ h0 u h1 v).2.2.2.1 96 = v 12 := rfl
theorem iad_97 : (i0x Γ h0 u h1 v).2.2.2.1 97 = v 13 := rfl
theorem iad_98 : (i0x Γ h0 u h1 v).2.2.2.1 98 = v 14 := rfl
theorem iad_99 : (i0x Γ h0 u h1 v).2.2.2.1 99 = v 15 := rfl
theorem iad_100 : (i0x Γ h0 u h1 v).2.2.2.1 100 = v 16 := rfl
theorem iad_101 : (i0x Γ h0 u h1 v).2.2.2.1 101 = v 17 := rfl
theorem iad_102 : (i0x Γ h0 u h1 v).2.2.2.1 102 = v 18 := rfl
theorem iad_103 : (i0x Γ h0 u h1 v).2.2.2.1 103 = v 19 := rfl
theorem iad_104 : (i0x Γ h0 u h1 v).2.2.2.1 104 = v 20 := rfl
theorem iad_105 : (i0x Γ h0 u h1 v).2.2.2.1 105 = v 21 := rfl
theorem iad_106 : (i0x Γ h0 u h1 v).2.2.2.1 106 = v 22 := rfl
theorem iad_107 : (i0x Γ h0 u h1 v).2.2.2.1 107 = v 23 := rfl
theorem iad_108 : (i0x Γ h0 u h1 v).2.2.2.1 108 = v 24 := rfl
theorem iad_109 : (i0x Γ h0 u h1 v).2.2.2.1 109 = v 25 := rfl
theorem iel_0 : ((i0x Γ h0 u h1 v).2.2.2.1 0, sw_E Γ (i0x Γ h0 u h1 v) ig im 0) = (h0, (.inr (7, [.ref (u.1 1), .ref (u.1 2), .ref (u.1 3), .ref (u.1 4), .ref (u.1 5), .ref (u.1 6), .ref (u.1 7), .ref (u.1 8), .ref (u.1 9), .ref (u.1 10), .ref (u.1 11), .ref (u.1 12), .ref (u.1 13), .ref (u.1 14), .int 0, .int 0, .int (-1 : Int32)]) : va_E)) := by
  rw [e_Sx (is_0 wf_ini), iad_0]
  show (h0, (.inr (7, [.ref ((i0x Γ h0 u h1 v).2.2.2.1 1), .ref ((i0x Γ h0 u h1 v).2.2.2.1 10), .ref ((i0x Γ h0 u h1 v).2.2.2.1 19), .ref ((i0x Γ h0 u h1 v).2.2.2.1 28), .ref ((i0x Γ h0 u h1 v).2.2.2.1 29), .ref ((i0x Γ h0 u h1 v).2.2.2.1 31), .ref ((i0x Γ h0 u h1 v).2.2.2.1 33), .ref ((i0x Γ h0 u h1 v).2.2.2.1 42), .ref ((i0x Γ h0 u h1 v).2.2.2.1 46), .ref ((i0x Γ h0 u h1 v).2.2.2.1 48), .ref ((i0x Γ h0 u h1 v).2.2.2.1 49), .ref ((i0x Γ h0 u h1 v).2.2.2.1 81), .ref ((i0x Γ h0 u h1 v).2.2.2.1 82), .ref ((i0x Γ h0 u h1 v).2.2.2.1 83), .int (ig.1 0 14), .int (ig.1 0 15), .int (ig.1 0 16)]) : va_E)) = _
  rw [iad_1, iad_10, iad_19, iad_28, iad_29, iad_31, iad_33, iad_42, iad_46, iad_48, iad_49, iad_81, iad_82, iad_83]
  try rfl
theorem iel_1 : ((i0x Γ h0 u h1 v).2.2.2.1 1, sw_E Γ (i0x Γ h0 u h1 v) ig im 1) = (u.1 1, (.inr (2, [.int 0, .ref (u.2.1 1), .ref (u.2.1 2), .ref (u.2.1 3), .ref (u.2.1 4), .int 0, .ref (u.2.1 5), .ref (u.2.1 6), .ref (u.2.1 7), .int 0, .ref (u.2.1 8), .int (-1 : Int32)]) : va_E)) := by
  rw [e_Pl (is_1 wf_ini), iad_1]
  show (u.1 1, (.inr (2, [.int (ig.1 1 0), .ref ((i0x Γ h0 u h1 v).2.2.2.1 2), .ref ((i0x Γ h0 u h1 v).2.2.2.1 3), .ref ((i0x Γ h0 u h1 v).2.2.2.1 4), .ref ((i0x Γ h0 u h1 v).2.2.2.1 5), .int (ig.1 1 5), .ref ((i0x Γ h0 u h1 v).2.2.2.1 6), .ref ((i0x Γ h0 u h1 v).2.2.2.1 7), .ref ((i0x Γ h0 u h1 v).2.2.2.1 8), .int (ig.1 1 9), .ref ((i0x Γ h0 u h1 v).2.2.2.1 9), .int (ig.1 1 11)]) : va_E)) = _
  rw [iad_2, iad_3, iad_4, iad_5, iad_6, iad_7, iad_8, iad_9]
  try rfl
theorem iel_2 : ((i0x Γ h0 u h1 v).2.2.2.1 2, sw_E Γ (i0x Γ h0 u h1 v) ig im 2) = (u.2.1 1, (.inl (Γ.2.1 0, 7, .inl (fun _ => 0)) : va_E)) := by
  rw [e_10 (is_2 wf_ini), iad_2]
  try rfl
theorem iel_3 : ((i0x Γ h0 u h1 v).2.2.2.1 3, sw_E Γ (i0x Γ h0 u h1 v) ig im 3) = (u.2.1 2, (.inl (Γ.2.1 0, 7, .inl (fun _ => 0)) : va_E)) := by
  rw [e_10 (is_3 wf_ini), iad_3]
  try rfl
theorem iel_4 : ((i0x Γ h0 u h1 v).2.2.2.1 4, sw_E Γ (i0x Γ h0 u h1 v) ig im 4) = (u.2.1 3, (.inl (Γ.2.1 0, 7, .inl (fun _ => 0)) : va_E)) := by
  rw [e_10 (is_4 wf_ini), iad_4]
  try rfl
theorem iel_5 : ((i0x Γ h0 u h1 v).2.2.2.1 5, sw_E Γ (i0x Γ h0 u h1 v) ig im 5) = (u.2.1 4, (.inl (Γ.2.1 0, 4, .inl (upd (fun _ => 0) (1 : Int32).toNatClampNeg (1 : Int32))) : va_E)) := by
  rw [e_10 (is_5 wf_ini), iad_5]
  try rfl
theorem iel_6 : ((i0x Γ h0 u h1 v).2.2.2.1 6, sw_E Γ (i0x Γ h0 u h1 v) ig im 6) = (u.2.1 5, (.inl (Γ.2.1 0, 6, .inl (fun _ => 0)) : va_E)) := by
  rw [e_10 (is_6 wf_ini), iad_6]
  try rfl
theorem iel_7 : ((i0x Γ h0 u h1 v).2.2.2.1 7, sw_E Γ (i0x Γ h0 u h1 v) ig im 7) = (u.2.1 6, (.inl (Γ.2.1 0, 6, .inl (fun _ => 0)) : va_E)) := by
  rw [e_10 (is_7 wf_ini), iad_7]
  try rfl
theorem iel_8 : ((i0x Γ h0 u h1 v).2.2.2.1 8, sw_E Γ (i0x Γ h0 u h1 v) ig im 8) = (u.2.1 7, (.inl (Γ.2.1 0, 6, .inl (fun _ => 0)) : va_E)) := by
  rw [e_10 (is_8 wf_ini), iad_8]
  try rfl
theorem iel_9 : ((i0x Γ h0 u h1 v).2.2.2.1 9, sw_E Γ (i0x Γ h0 u h1 v) ig im 9) = (u.2.1 8, (.inl (Γ.2.1 4, 6, .inr (.inr (.inr (.inr (fun _ => none))))) : va_E)) := by
  rw [e_12 (is_9 wf_ini), iad_9]
  try rfl
theorem iel_10 : ((i0x Γ h0 u h1 v).2.2.2.1 10, sw_E Γ (i0x Γ h0 u h1 v) ig im 10) = (u.1 2, (.inr (2, [.int 0, .ref (u.2.2.1 1), .ref (u.2.2.1 2), .ref (u.2.2.1 3), .ref (u.2.2.1 4), .int 0, .ref (u.2.2.1 5), .ref (u.2.2.1 6), .ref (u.2.2.1 7), .int 0, .ref (u.2.2.1 8), .int (-1 : Int32)]) : va_E)) := by
  rw [e_Pl (is_10 wf_ini), iad_10]
  show (u.1 2, (.inr (2, [.int (ig.1 10 0), .ref ((i0x Γ h0 u h1 v).2.2.2.1 11), .ref ((i0x Γ h0 u h1 v).2.2.2.1 12), .ref ((i0x Γ h0 u h1 v).2.2.2.1 13), .ref ((i0x Γ h0 u h1 v).2.2.2.1 14), .int (ig.1 10 5), .ref ((i0x Γ h0 u h1 v).2.2.2.1 15), .ref ((i0x Γ h0 u h1 v).2.2.2.1 16), .ref ((i0x Γ h0 u h1 v).2.2.2.1 17), .int (ig.1 10 9), .ref ((i0x Γ h0 u h1 v).2.2.2.1 18), .int (ig.1 10 11)]) : va_E)) = _
  rw [iad_11, iad_12, iad_13, iad_14, iad_15, iad_16, iad_17, iad_18]
  try rfl
theorem iel_11 : ((i0x Γ h0 u h1 v).2.2.2.1 11, sw_E Γ (i0x Γ h0 u h1 v) ig im 11) = (u.2.2.1 1, (.inl (Γ.2.1 0, 7, .inl (fun _ => 0)) : va_E)) := by
  rw [e_10 (is_11 wf_ini), iad_11]
  try rfl
theorem iel_12 : ((i0x Γ h0 u h1 v).2.2.2.1 12, sw_E Γ (i0x Γ h0 u h1 v) ig im 12) = (u.2.2.1 2, (.inl (Γ.2.1 0, 7, .inl (fun _ => 0)) : va_E)) := by
  rw [e_10 (is_12 wf_ini), iad_12]
  try rfl
theorem iel_13 : ((i0x Γ h0 u h1 v).2.2.2.1 13, sw_E Γ (i0x Γ h0 u h1 v) ig im 13) = (u.2.2.1 3, (.inl (Γ.2.1 0, 7, .inl (fun _ => 0)) : va_E)) := by
  rw [e_10 (is_13 wf_ini), iad_13]
  try rfl
theorem iel_14 : ((i0x Γ h0 u h1 v).2.2.2.1 14, sw_E Γ (i0x Γ h0 u h1 v) ig im 14) = (u.2.2.1 4, (.inl (Γ.2.1 0, 4, .inl (upd (fun _ => 0) (1 : Int32).toNatClampNeg (1 : Int32))) : va_E)) := by
  rw [e_10 (is_14 wf_ini), iad_14]
  try rfl
theorem iel_15 : ((i0x Γ h0 u h1 v).2.2.2.1 15, sw_E Γ (i0x Γ h0 u h1 v) ig im 15) = (u.2.2.1 5, (.inl (Γ.2.1 0, 6, .inl (fun _ => 0)) : va_E)) := by
  rw [e_10 (is_15 wf_ini), iad_15]
  try rfl
theorem iel_16 : ((i0x Γ h0 u h1 v).2.2.2.1 16, sw_E Γ (i0x Γ h0 u h1 v) ig im 16) = (u.2.2.1 6, (.inl (Γ.2.1 0, 6, .inl (fun _ => 0)) : va_E)) := by
  rw [e_10 (is_16 wf_ini), iad_16]
  try rfl
theorem iel_17 : ((i0x Γ h0 u h1 v).2.2.2.1 17, sw_E Γ (i0x Γ h0 u h1 v) ig im 17) = (u.2.2.1 7, (.inl (Γ.2.1 0, 6, .inl (fun _ => 0)) : va_E)) := by
  rw [e_10 (is_17 wf_ini), iad_17]
  try rfl
theorem iel_18 : ((i0x Γ h0 u h1 v).2.2.2.1 18, sw_E Γ (i0x Γ h0 u h1 v) ig im 18) = (u.2.2.1 8, (.inl (Γ.2.1 4, 6, .inr (.inr (.inr (.inr (fun _ => none))))) : va_E)) := by
  rw [e_12 (is_18 wf_ini), iad_18]
  try rfl
theorem iel_19 : ((i0x Γ h0 u h1 v).2.2.2.1 19, sw_E Γ (i0x Γ h0 u h1 v) ig im 19) = (u.1 3, (.inr (2, [.int 0, .ref (u.2.2.2.1 1), .ref (u.2.2.2.1 2), .ref (u.2.2.2.1 3), .ref (u.2.2.2.1 4), .int 0, .ref (u.2.2.2.1 5), .ref (u.2.2.2.1 6), .ref (u.2.2.2.1 7), .int 0, .ref (u.2.2.2.1 8), .int (-1 : Int32)]) : va_E)) := by
  rw [e_Pl (is_19 wf_ini), iad_19]
  show (u.1 3, (.inr (2, [.int (ig.1 19 0), .ref ((i0x Γ h0 u h1 v).2.2.2.1 20), .ref ((i0x Γ h0 u h1 v).2.2.2.1 21), .ref ((i0x Γ h0 u h1 v).2.2.2.1 22), .ref ((i0x Γ h0 u h1 v).2.2.2.1 23), .int (ig.1 19 5), .ref ((i0x Γ h0 u h1 v).2.2.2.1 24), .ref ((i0x Γ h0 u h1 v).2.2.2.1 25), .ref ((i0x Γ h0 u h1 v).2.2.2.1 26), .int (ig.1 19 9), .ref ((i0x Γ h0 u h1 v).2.2.2.1 27), .int (ig.1 19 11)]) : va_E)) = _
  rw [iad_20, iad_21, iad_22, iad_23, iad_24, iad_25, iad_26, iad_27]
  try rfl
theorem iel_20 : ((i0x Γ h0 u h1 v).2.2.2.1 20, sw_E Γ (i0x Γ h0 u h1 v) ig im 20) = (u.2.2.2.1 1, (.inl (Γ.2.1 0, 7, .inl (fun _ => 0)) : va_E)) := by
  rw [e_10 (is_20 wf_ini), iad_20]
  try rfl
theorem iel_21 : ((i0x Γ h0 u h1 v).2.2.2.1 21, sw_E Γ (i0x Γ h0 u h1 v) ig im 21) = (u.2.2.2.1 2, (.inl (Γ.2.1 0, 7, .inl (fun _ => 0)) : va_E)) := by
  rw [e_10 (is_21 wf_ini), iad_21]
  try rfl
theorem iel_22 : ((i0x Γ h0 u h1 v).2.2.2.1 22, sw_E Γ (i0x Γ h0 u h1 v) ig im 22) = (u.2.2.2.1 3, (.inl (Γ.2.1 0, 7, .inl (fun _ => 0)) : va_E)) := by
  rw [e_10 (is_22 wf_ini), iad_22]
  try rfl
theorem iel_23 : ((i0x Γ h0 u h1 v).2.2.2.1 23, sw_E Γ (i0x Γ h0 u h1 v) ig im 23) = (u.2.2.2.1 4, (.inl (Γ.2.1 0, 4, .inl (upd (fun _ => 0) (1 : Int32).toNatClampNeg (1 : Int32))) : va_E)) := by
  rw [e_10 (is_23 wf_ini), iad_23]
  try rfl
theorem iel_24 : ((i0x Γ h0 u h1 v).2.2.2.1 24, sw_E Γ (i0x Γ h0 u h1 v) ig im 24) = (u.2.2.2.1 5, (.inl (Γ.2.1 0, 6, .inl (fun _ => 0)) : va_E)) := by
  rw [e_10 (is_24 wf_ini), iad_24]
  try rfl
theorem iel_25 : ((i0x Γ h0 u h1 v).2.2.2.1 25, sw_E Γ (i0x Γ h0 u h1 v) ig im 25) = (u.2.2.2.1 6, (.inl (Γ.2.1 0, 6, .inl (fun _ => 0)) : va_E)) := by
  rw [e_10 (is_25 wf_ini), iad_25]
  try rfl
theorem iel_26 : ((i0x Γ h0 u h1 v).2.2.2.1 26, sw_E Γ (i0x Γ h0 u h1 v) ig im 26) = (u.2.2.2.1 7, (.inl (Γ.2.1 0, 6, .inl (fun _ => 0)) : va_E)) := by
  rw [e_10 (is_26 wf_ini), iad_26]
  try rfl
theorem iel_27 : ((i0x Γ h0 u h1 v).2.2.2.1 27, sw_E Γ (i0x Γ h0 u h1 v) ig im 27) = (u.2.2.2.1 8, (.inl (Γ.2.1 4, 6, .inr (.inr (.inr (.inr (fun _ => none))))) : va_E)) := by
  rw [e_12 (is_27 wf_ini), iad_27]
  try rfl
theorem iel_28 : ((i0x Γ h0 u h1 v).2.2.2.1 28, sw_E Γ (i0x Γ h0 u h1 v) ig im 28) = (u.1 4, (.inl (Γ.2.1 5, 2, .inr (.inr (.inr (.inr (fun _ => none))))) : va_E)) := by
  rw [e_13 (is_28 wf_ini), iad_28]
  try rfl
theorem iel_29 : ((i0x Γ h0 u h1 v).2.2.2.1 29, sw_E Γ (i0x Γ h0 u h1 v) ig im 29) = (u.1 5, (.inr (0, [.int 0, .int 0, .ref (u.2.2.2.2.1 1)]) : va_E)) := by
  rw [e_Hi (is_29 wf_ini), iad_29]
  show (u.1 5, (.inr (0, [.int (ig.1 29 0), .int (ig.1 29 1), .ref ((i0x Γ h0 u h1 v).2.2.2.1 30)]) : va_E)) = _
  rw [iad_30]
  try rfl
theorem iel_30 : ((i0x Γ h0 u h1 v).2.2.2.1 30, sw_E Γ (i0x Γ h0 u h1 v) ig im 30) = (u.2.2.2.2.1 1, (.inl (Γ.2.1 0, 256, .inl (fun _ => 0)) : va_E)) := by
  rw [e_10 (is_30 wf_ini), iad_30]
  try rfl
theorem iel_31 : ((i0x Γ h0 u h1 v).2.2.2.1 31, sw_E Γ (i0x Γ h0 u h1 v) ig im 31) = (u.1 6, (.inr (0, [.int 0, .int 0, .ref (u.2.2.2.2.2.1 1)]) : va_E)) := by
  rw [e_Hi (is_31 wf_ini), iad_31]
  show (u.1 6, (.inr (0, [.int (ig.1 31 0), .int (ig.1 31 1), .ref ((i0x Γ h0 u h1 v).2.2.2.1 32)]) : va_E)) = _
  rw [iad_32]
  try rfl
theorem iel_32 : ((i0x Γ h0 u h1 v).2.2.2.1 32, sw_E Γ (i0x Γ h0 u h1 v) ig im 32) = (u.2.2.2.2.2.1 1, (.inl (Γ.2.1 0, 256, .inl (fun _ => 0)) : va_E)) := by
  rw [e_10 (is_32 wf_ini), iad_32]
  try rfl
theorem iel_33 : ((i0x Γ h0 u h1 v).2.2.2.1 33, sw_E Γ (i0x Γ h0 u h1 v) ig im 33) = (u.1 7, (.inr (3, [.int 0, .ref (u.2.2.2.2.2.2.1.1 1), .int (-1 : Int32), .ref (u.2.2.2.2.2.2.1.1 2), .int 0, .int 0, .int 0, .int 0, .int 0]) : va_E)) := by
  rw [e_Re (is_33 wf_ini), iad_33]
  show (u.1 7, (.inr (3, [.int (ig.1 33 0), .ref ((i0x Γ h0 u h1 v).2.2.2.1 34), .int (ig.1 33 2), .ref ((i0x Γ h0 u h1 v).2.2.2.1 35), .int (ig.1 33 4), .int (ig.1 33 5), .int (ig.1 33 6), .int (ig.1 33 7), .int (ig.1 33 8)]) : va_E)) = _
  rw [iad_34, iad_35]
  try rfl
theorem iel_34 : ((i0x Γ h0 u h1 v).2.2.2.1 34, sw_E Γ (i0x Γ h0 u h1 v) ig im 34) = (u.2.2.2.2.2.2.1.1 1, (.inl (Γ.2.1 0, 400, .inl (fun _ => 0)) : va_E)) := by
  rw [e_10 (is_34 wf_ini), iad_34]
  try rfl
theorem iel_35 : ((i0x Γ h0 u h1 v).2.2.2.1 35, sw_E Γ (i0x Γ h0 u h1 v) ig im 35) = (u.2.2.2.2.2.2.1.1 2, (.inr (6, [.int 0, .ref (u.2.2.2.2.2.2.1.2 1), .ref (u.2.2.2.2.2.2.1.2 2), .ref (u.2.2.2.2.2.2.1.2 3), .ref (u.2.2.2.2.2.2.1.2 4), .ref (u.2.2.2.2.2.2.1.2 5), .int 0, .ref (u.2.2.2.2.2.2.1.2 6)]) : va_E)) := by
  rw [e_Te (is_35 wf_ini), iad_35]
  show (u.2.2.2.2.2.2.1.1 2, (.inr (6, [.int (ig.1 35 0), .ref ((i0x Γ h0 u h1 v).2.2.2.1 36), .ref ((i0x Γ h0 u h1 v).2.2.2.1 37), .ref ((i0x Γ h0 u h1 v).2.2.2.1 38), .ref ((i0x Γ h0 u h1 v).2.2.2.1 39), .ref ((i0x Γ h0 u h1 v).2.2.2.1 40), .int (ig.1 35 6), .ref ((i0x Γ h0 u h1 v).2.2.2.1 41)]) : va_E)) = _
  rw [iad_36, iad_37, iad_38, iad_39, iad_40, iad_41]
  try rfl
theorem iel_36 : ((i0x Γ h0 u h1 v).2.2.2.1 36, sw_E Γ (i0x Γ h0 u h1 v) ig im 36) = (u.2.2.2.2.2.2.1.2 1, (.inl (Γ.2.1 0, 12, .inl (fun _ => 0)) : va_E)) := by
  rw [e_10 (is_36 wf_ini), iad_36]
  try rfl
theorem iel_37 : ((i0x Γ h0 u h1 v).2.2.2.1 37, sw_E Γ (i0x Γ h0 u h1 v) ig im 37) = (u.2.2.2.2.2.2.1.2 2, (.inl (Γ.2.1 0, 12, .inl (fun _ => 0)) : va_E)) := by
  rw [e_10 (is_37 wf_ini), iad_37]
  try rfl
theorem iel_38 : ((i0x Γ h0 u h1 v).2.2.2.1 38, sw_E Γ (i0x Γ h0 u h1 v) ig im 38) = (u.2.2.2.2.2.2.1.2 3, (.inl (Γ.2.1 0, 12, .inl (fun _ => 0)) : va_E)) := by
  rw [e_10 (is_38 wf_ini), iad_38]
  try rfl
theorem iel_39 : ((i0x Γ h0 u h1 v).2.2.2.1 39, sw_E Γ (i0x Γ h0 u h1 v) ig im 39) = (u.2.2.2.2.2.2.1.2 4, (.inl (Γ.2.1 0, 12, .inl (fun _ => 0)) : va_E)) := by
  rw [e_10 (is_39 wf_ini), iad_39]
  try rfl
theorem iel_40 : ((i0x Γ h0 u h1 v).2.2.2.1 40, sw_E Γ (i0x Γ h0 u h1 v) ig im 40) = (u.2.2.2.2.2.2.1.2 5, (.inl (Γ.2.1 0, 12, .inl (fun _ => 0)) : va_E)) := by
  rw [e_10 (is_40 wf_ini), iad_40]
  try rfl
theorem iel_41 : ((i0x Γ h0 u h1 v).2.2.2.1 41, sw_E Γ (i0x Γ h0 u h1 v) ig im 41) = (u.2.2.2.2.2.2.1.2 6, (.inl (Γ.2.1 0, 512, .inl (fun _ => 0)) : va_E)) := by
  rw [e_10 (is_41 wf_ini), iad_41]
  try rfl
theorem iel_42 : ((i0x Γ h0 u h1 v).2.2.2.1 42, sw_E Γ (i0x Γ h0 u h1 v) ig im 42) = (u.1 8, (.inr (1, [.ref (u.2.2.2.2.2.2.2.1.1 1), .ref (u.2.2.2.2.2.2.2.1.1 2)]) : va_E)) := by
  rw [e_Ju (is_42 wf_ini), iad_42]
  show (u.1 8, (.inr (1, [.ref ((i0x Γ h0 u h1 v).2.2.2.1 43), .ref ((i0x Γ h0 u h1 v).2.2.2.1 45)]) : va_E)) = _
  rw [iad_43, iad_45]
  try rfl
theorem iel_43 : ((i0x Γ h0 u h1 v).2.2.2.1 43, sw_E Γ (i0x Γ h0 u h1 v) ig im 43) = (u.2.2.2.2.2.2.2.1.1 1, (.inr (4, [.int 0, .ref (u.2.2.2.2.2.2.2.1.2 1)]) : va_E)) := by
  rw [e_Rk (is_43 wf_ini), iad_43]
  show (u.2.2.2.2.2.2.2.1.1 1, (.inr (4, [.int (ig.1 43 0), .ref ((i0x Γ h0 u h1 v).2.2.2.1 44)]) : va_E)) = _
  rw [iad_44]
  try rfl
theorem iel_44 : ((i0x Γ h0 u h1 v).2.2.2.1 44, sw_E Γ (i0x Γ h0 u h1 v) ig im 44) = (u.2.2.2.2.2.2.2.1.2 1, (.inl (Γ.2.1 3, 40, .inr (.inl (fun _ => 0))) : va_E)) := by
  rw [e_11 (is_44 wf_ini), iad_44]
  try rfl
theorem iel_45 : ((i0x Γ h0 u h1 v).2.2.2.1 45, sw_E Γ (i0x Γ h0 u h1 v) ig im 45) = (u.2.2.2.2.2.2.2.1.1 2, (.inl (Γ.2.1 0, 8, .inl (fun _ => 0)) : va_E)) := by
  rw [e_10 (is_45 wf_ini), iad_45]
  try rfl
theorem iel_46 : ((i0x Γ h0 u h1 v).2.2.2.1 46, sw_E Γ (i0x Γ h0 u h1 v) ig im 46) = (u.1 9, (.inr (4, [.int 0, .ref (u.2.2.2.2.2.2.2.2.1 1)]) : va_E)) := by
  rw [e_Rk (is_46 wf_ini), iad_46]
  show (u.1 9, (.inr (4, [.int (ig.1 46 0), .ref ((i0x Γ h0 u h1 v).2.2.2.1 47)]) : va_E)) = _
  rw [iad_47]
  try rfl
theorem iel_47 : ((i0x Γ h0 u h1 v).2.2.2.1 47, sw_E Γ (i0x Γ h0 u h1 v) ig im 47) = (u.2.2.2.2.2.2.2.2.1 1, (.inl (Γ.2.1 3, 40, .inr (.inl (fun _ => 0))) : va_E)) := by
  rw [e_11 (is_47 wf_ini), iad_47]
  try rfl
theorem iel_48 : ((i0x Γ h0 u h1 v).2.2.2.1 48, sw_E Γ (i0x Γ h0 u h1 v) ig im 48) = (u.1 10, (.inl (Γ.2.1 0, 19, .inl (fun _ => 0)) : va_E)) := by
  rw [e_10 (is_48 wf_ini), iad_48]
  try rfl
theorem iel_49 : ((i0x Γ h0 u h1 v).2.2.2.1 49, sw_E Γ (i0x Γ h0 u h1 v) ig im 49) = (u.1 11, (.inr (5, [.ref (u.2.2.2.2.2.2.2.2.2.1 1), .ref (u.2.2.2.2.2.2.2.2.2.1 2), .ref (u.2.2.2.2.2.2.2.2.2.1 3), .ref (u.2.2.2.2.2.2.2.2.2.1 4), .ref (u.2.2.2.2.2.2.2.2.2.1 5), .ref (u.2.2.2.2.2.2.2.2.2.1 6), .int 0, .int 0]) : va_E)) := by
  rw [e_Ro (is_49 wf_ini), iad_49]
  show (u.1 11, (.inr (5, [.ref ((i0x Γ h0 u h1 v).2.2.2.1 50), .ref ((i0x Γ h0 u h1 v).2.2.2.1 51), .ref ((i0x Γ h0 u h1 v).2.2.2.1 52), .ref ((i0x Γ h0 u h1 v).2.2.2.1 60), .ref ((i0x Γ h0 u h1 v).2.2.2.1 68), .ref ((i0x Γ h0 u h1 v).2.2.2.1 76), .int (ig.1 49 6), .int (ig.1 49 7)]) : va_E)) = _
  rw [iad_50, iad_51, iad_52, iad_60, iad_68, iad_76]
  try rfl
theorem iel_50 : ((i0x Γ h0 u h1 v).2.2.2.1 50, sw_E Γ (i0x Γ h0 u h1 v) ig im 50) = (u.2.2.2.2.2.2.2.2.2.1 1, (.inl (Γ.2.1 0, 7, .inl (fun _ => 0)) : va_E)) := by
  rw [e_10 (is_50 wf_ini), iad_50]
  try rfl
theorem iel_51 : ((i0x Γ h0 u h1 v).2.2.2.1 51, sw_E Γ (i0x Γ h0 u h1 v) ig im 51) = (u.2.2.2.2.2.2.2.2.2.1 2, (.inl (Γ.2.1 0, 7, .inl (fun _ => 0)) : va_E)) := by
  rw [e_10 (is_51 wf_ini), iad_51]
  try rfl
theorem iel_52 : ((i0x Γ h0 u h1 v).2.2.2.1 52, sw_E Γ (i0x Γ h0 u h1 v) ig im 52) = (u.2.2.2.2.2.2.2.2.2.1 3, (.inl (Γ.2.1 6, 7, .inr (.inr (.inr (.inr (fun i => if i < 7 then some (u.2.2.2.2.2.2.2.2.2.2.1 i) else none))))) : va_E)) := by
  have e : (fun k => if k < 7 then some ((i0x Γ h0 u h1 v).2.2.2.1 (52 + 1 + k)) else none) = (fun k => if k < 7 then some (u.2.2.2.2.2.2.2.2.2.2.1 k) else none) := by
    funext k
    by_cases hk : k < 7
    · rw [if_pos hk, if_pos hk]
      match k, hk with
      | 0, _ => exact congrArg some iad_53
      | 1, _ => exact congrArg some iad_54
      | 2, _ => exact congrArg some iad_55
      | 3, _ => exact congrArg some iad_56
      | 4, _ => exact congrArg some iad_57
      | 5, _ => exact congrArg some iad_58
      | 6, _ => exact congrArg some iad_59
      | k + 7, h => exact absurd h (by omega)
    · rw [if_neg hk, if_neg hk]
  rw [e_14 (is_52 wf_ini), iad_52, e]
theorem iel_53 : ((i0x Γ h0 u h1 v).2.2.2.1 53, sw_E Γ (i0x Γ h0 u h1 v) ig im 53) = (u.2.2.2.2.2.2.2.2.2.2.1 0, (.inl (Γ.2.1 0, 7, .inl (fun _ => 0)) : va_E)) := by
  rw [e_10 (is_53 wf_ini), iad_53]
  try rfl
theorem iel_54 : ((i0x Γ h0 u h1 v).2.2.2.1 54, sw_E Γ (i0x Γ h0 u h1 v) ig im 54) = (u.2.2.2.2.2.2.2.2.2.2.1 1, (.inl (Γ.2.1 0, 7, .inl (fun _ => 0)) : va_E)) := by
  rw [e_10 (is_54 wf_ini), iad_54]
  try rfl
theorem iel_55 : ((i0x Γ h0 u h1 v).2.2.2.1 55, sw_E Γ (i0x Γ h0 u h1 v) ig im 55) = (u.2.2.2.2.2.2.2.2.2.2.1 2, (.inl (Γ.2.1 0, 7, .inl (fun _ => 0)) : va_E)) := by
  rw [e_10 (is_55 wf_ini), iad_55]
  try rfl
theorem iel_56 : ((i0x Γ h0 u h1 v).2.2.2.1 56, sw_E Γ (i0x Γ h0 u h1 v) ig im 56) = (u.2.2.2.2.2.2.2.2.2.2.1 3, (.inl (Γ.2.1 0, 7, .inl (fun _ => 0)) : va_E)) := by
  rw [e_10 (is_56 wf_ini), iad_56]
  try rfl
theorem iel_57 : ((i0x Γ h0 u h1 v).2.2.2.1 57, sw_E Γ (i0x Γ h0 u h1 v) ig im 57) = (u.2.2.2.2.2.2.2.2.2.2.1 4, (.inl (Γ.2.1 0, 7, .inl (fun _ => 0)) : va_E)) := by
  rw [e_10 (is_57 wf_ini), iad_57]
  try rfl
theorem iel_58 : ((i0x Γ h0 u h1 v).2.2.2.1 58, sw_E Γ (i0x Γ h0 u h1 v) ig im 58) = (u.2.2.2.2.2.2.2.2.2.2.1 5, (.inl (Γ.2.1 0, 7, .inl (fun _ => 0)) : va_E)) := by
  rw [e_10 (is_58 wf_ini), iad_58]
  try rfl
theorem iel_59 : ((i0x Γ h0 u h1 v).2.2.2.1 59, sw_E Γ (i0x Γ h0 u h1 v) ig im 59) = (u.2.2.2.2.2.2.2.2.2.2.1 6, (.inl (Γ.2.1 0, 7, .inl (fun _ => 0)) : va_E)) := by
  rw [e_10 (is_59 wf_ini), iad_59]
  try rfl
theorem iel_60 : ((i0x Γ h0 u h1 v).2.2.2.1 60, sw_E Γ (i0x Γ h0 u h1 v) ig im 60) = (u.2.2.2.2.2.2.2.2.2.1 4, (.inl (Γ.2.1 6, 7, .inr (.inr (.inr (.inr (fun i => if i < 7 then some (u.2.2.2.2.2.2.2.2.2.2.2.1 i) else none))))) : va_E)) := by
  have e : (fun k => if k < 7 then some ((i0x Γ h0 u h1 v).2.2.2.1 (60 + 1 + k)) else none) = (fun k => if k < 7 then some (u.2.2.2.2.2.2.2.2.2.2.2.1 k) else none) := by
    funext k
    by_cases hk : k < 7
    · rw [if_pos hk, if_pos hk]
      match k, hk with
      | 0, _ => exact congrArg some iad_61
      | 1, _ => exact congrArg some iad_62
      | 2, _ => exact congrArg some iad_63
      | 3, _ => exact congrArg some iad_64
      | 4, _ => exact congrArg some iad_65
      | 5, _ => exact congrArg some iad_66
      | 6, _ => exact congrArg some iad_67
      | k + 7, h => exact absurd h (by omega)
    · rw [if_neg hk, if_neg hk]
  rw [e_14 (is_60 wf_ini), iad_60, e]
theorem iel_61 : ((i0x Γ h0 u h1 v).2.2.2.1 61, sw_E Γ (i0x Γ h0 u h1 v) ig im 61) = (u.2.2.2.2.2.2.2.2.2.2.2.1 0, (.inl (Γ.2.1 0, 7, .inl (fun _ => 0)) : va_E)) := by
  rw [e_10 (is_61 wf_ini), iad_61]
  try rfl
theorem iel_62 : ((i0x Γ h0 u h1 v).2.2.2.1 62, sw_E Γ (i0x Γ h0 u h1 v) ig im 62) = (u.2.2.2.2.2.2.2.2.2.2.2.1 1, (.inl (Γ.2.1 0, 7, .inl (fun _ => 0)) : va_E)) := by
  rw [e_10 (is_62 wf_ini), iad_62]
  try rfl
theorem iel_63 : ((i0x Γ h0 u h1 v).2.2.2.1 63, sw_E Γ (i0x Γ h0 u h1 v) ig im 63) = (u.2.2.2.2.2.2.2.2.2.2.2.1 2, (.inl (Γ.2.1 0, 7, .inl (fun _ => 0)) : va_E)) := by
  rw [e_10 (is_63 wf_ini), iad_63]
  try rfl
theorem iel_64 : ((i0x Γ h0 u h1 v).2.2.2.1 64, sw_E Γ (i0x Γ h0 u h1 v) ig im 64) = (u.2.2.2.2.2.2.2.2.2.2.2.1 3, (.inl (Γ.2.1 0, 7, .inl (fun _ => 0)) : va_E)) := by
  rw [e_10 (is_64 wf_ini), iad_64]
  try rfl
theorem iel_65 : ((i0x Γ h0 u h1 v).2.2.2.1 65, sw_E Γ (i0x Γ h0 u h1 v) ig im 65) = (u.2.2.2.2.2.2.2.2.2.2.2.1 4, (.inl (Γ.2.1 0, 7, .inl (fun _ => 0)) : va_E)) := by
  rw [e_10 (is_65 wf_ini), iad_65]
  try rfl
theorem iel_66 : ((i0x Γ h0 u h1 v).2.2.2.1 66, sw_E Γ (i0x Γ h0 u h1 v) ig im 66) = (u.2.2.2.2.2.2.2.2.2.2.2.1 5, (.inl (Γ.2.1 0, 7, .inl (fun _ => 0)) : va_E)) := by
  rw [e_10 (is_66 wf_ini), iad_66]
  try rfl
theorem iel_67 : ((i0x Γ h0 u h1 v).2.2.2.1 67, sw_E Γ (i0x Γ h0 u h1 v) ig im 67) = (u.2.2.2.2.2.2.2.2.2.2.2.1 6, (.inl (Γ.2.1 0, 7, .inl (fun _ => 0)) : va_E)) := by
  rw [e_10 (is_67 wf_ini), iad_67]
  try rfl
theorem iel_68 : ((i0x Γ h0 u h1 v).2.2.2.1 68, sw_E Γ (i0x Γ h0 u h1 v) ig im 68) = (u.2.2.2.2.2.2.2.2.2.1 5, (.inl (Γ.2.1 6, 7, .inr (.inr (.inr (.inr (fun i => if i < 7 then some (u.2.2.2.2.2.2.2.2.2.2.2.2.1 i) else none))))) : va_E)) := by
  have e : (fun k => if k < 7 then some ((i0x Γ h0 u h1 v).2.2.2.1 (68 + 1 + k)) else none) = (fun k => if k < 7 then some (u.2.2.2.2.2.2.2.2.2.2.2.2.1 k) else none) := by
    funext k
    by_cases hk : k < 7
    · rw [if_pos hk, if_pos hk]
      match k, hk with
      | 0, _ => exact congrArg some iad_69
      | 1, _ => exact congrArg some iad_70
      | 2, _ => exact congrArg some iad_71
      | 3, _ => exact congrArg some iad_72
      | 4, _ => exact congrArg some iad_73
      | 5, _ => exact congrArg some iad_74
      | 6, _ => exact congrArg some iad_75
      | k + 7, h => exact absurd h (by omega)
    · rw [if_neg hk, if_neg hk]
  rw [e_14 (is_68 wf_ini), iad_68, e]
theorem iel_69 : ((i0x Γ h0 u h1 v).2.2.2.1 69, sw_E Γ (i0x Γ h0 u h1 v) ig im 69) = (u.2.2.2.2.2.2.2.2.2.2.2.2.1 0, (.inl (Γ.2.1 0, 7, .inl (fun _ => 0)) : va_E)) := by
  rw [e_10 (is_69 wf_ini), iad_69]
  try rfl
theorem iel_70 : ((i0x Γ h0 u h1 v).2.2.2.1 70, sw_E Γ (i0x Γ h0 u h1 v) ig im 70) = (u.2.2.2.2.2.2.2.2.2.2.2.2.1 1, (.inl (Γ.2.1 0, 7, .inl (fun _ => 0)) : va_E)) := by
  rw [e_10 (is_70 wf_ini), iad_70]
  try rfl
theorem iel_71 : ((i0x Γ h0 u h1 v).2.2.2.1 71, sw_E Γ (i0x Γ h0 u h1 v) ig im 71) = (u.2.2.2.2.2.2.2.2.2.2.2.2.1 2, (.inl (Γ.2.1 0, 7, .inl (fun _ => 0)) : va_E)) := by
  rw [e_10 (is_71 wf_ini), iad_71]
  try rfl
theorem iel_72 : ((i0x Γ h0 u h1 v).2.2.2.1 72, sw_E Γ (i0x Γ h0 u h1 v) ig im 72) = (u.2.2.2.2.2.2.2.2.2.2.2.2.1 3, (.inl (Γ.2.1 0, 7, .inl (fun _ => 0)) : va_E)) := by
  rw [e_10 (is_72 wf_ini), iad_72]
  try rfl
theorem iel_73 : ((i0x Γ h0 u h1 v).2.2.2.1 73, sw_E Γ (i0x Γ h0 u h1 v) ig im 73) = (u.2.2.2.2.2.2.2.2.2.2.2.2.1 4, (.inl (Γ.2.1 0, 7, .inl (fun _ => 0)) : va_E)) := by
  rw [e_10 (is_73 wf_ini), iad_73]
  try rfl
theorem iel_74 : ((i0x Γ h0 u h1 v).2.2.2.1 74, sw_E Γ (i0x Γ h0 u h1 v) ig im 74) = (u.2.2.2.2.2.2.2.2.2.2.2.2.1 5, (.inl (Γ.2.1 0, 7, .inl (fun _ => 0)) : va_E)) := by
  rw [e_10 (is_74 wf_ini), iad_74]
  try rfl
theorem iel_75 : ((i0x Γ h0 u h1 v).2.2.2.1 75, sw_E Γ (i0x Γ h0 u h1 v) ig im 75) = (u.2.2.2.2.2.2.2.2.2.2.2.2.1 6, (.inl (Γ.2.1 0, 7, .inl (fun _ => 0)) : va_E)) := by
  rw [e_10 (is_75 wf_ini), iad_75]
  try rfl
theorem iel_76 : ((i0x Γ h0 u h1 v).2.2.2.1 76, sw_E Γ (i0x Γ h0 u h1 v) ig im 76) = (u.2.2.2.2.2.2.2.2.2.1 6, (.inl (Γ.2.1 6, 4, .inr (.inr (.inr (.inr (fun i => if i < 4 then some (u.2.2.2.2.2.2.2.2.2.2.2.2.2 i) else none))))) : va_E)) := by
  have e : (fun k => if k < 4 then some ((i0x Γ h0 u h1 v).2.2.2.1 (76 + 1 + k)) else none) = (fun k => if k < 4 then some (u.2.2.2.2.2.2.2.2.2.2.2.2.2 k) else none) := by
    funext k
    by_cases hk : k < 4
    · rw [if_pos hk, if_pos hk]
      match k, hk with
      | 0, _ => exact congrArg some iad_77
      | 1, _ => exact congrArg some iad_78
      | 2, _ => exact congrArg some iad_79
      | 3, _ => exact congrArg some iad_80
      | k + 4, h => exact absurd h (by omega)
    · rw [if_neg hk, if_neg hk]
  rw [e_14 (is_76 wf_ini), iad_76, e]
theorem iel_77 : ((i0x Γ h0 u h1 v).2.2.2.1 77, sw_E Γ (i0x Γ h0 u h1 v) ig im 77) = (u.2.2.2.2.2.2.2.2.2.2.2.2.2 0, (.inl (Γ.2.1 0, 1784, .inl (fun _ => 0)) : va_E)) := by
  rw [e_10 (is_77 wf_ini), iad_77]
  try rfl
theorem iel_78 : ((i0x Γ h0 u h1 v).2.2.2.1 78, sw_E Γ (i0x Γ h0 u h1 v) ig im 78) = (u.2.2.2.2.2.2.2.2.2.2.2.2.2 1, (.inl (Γ.2.1 0, 1784, .inl (fun _ => 0)) : va_E)) := by
  rw [e_10 (is_78 wf_ini), iad_78]
  try rfl
theorem iel_79 : ((i0x Γ h0 u h1 v).2.2.2.1 79, sw_E Γ (i0x Γ h0 u h1 v) ig im 79) = (u.2.2.2.2.2.2.2.2.2.2.2.2.2 2, (.inl (Γ.2.1 0, 1784, .inl (fun _ => 0)) : va_E)) := by
  rw [e_10 (is_79 wf_ini), iad_79]
  try rfl
theorem iel_80 : ((i0x Γ h0 u h1 v).2.2.2.1 80, sw_E Γ (i0x Γ h0 u h1 v) ig im 80) = (u.2.2.2.2.2.2.2.2.2.2.2.2.2 3, (.inl (Γ.2.1 0, 1784, .inl (fun _ => 0)) : va_E)) := by
  rw [e_10 (is_80 wf_ini), iad_80]
  try rfl
theorem iel_81 : ((i0x Γ h0 u h1 v).2.2.2.1 81, sw_E Γ (i0x Γ h0 u h1 v) ig im 81) = (u.1 12, (.inl (Γ.2.1 0, 128, .inl (fun _ => 0)) : va_E)) := by
  rw [e_10 (is_81 wf_ini), iad_81]
  try rfl
theorem iel_82 : ((i0x Γ h0 u h1 v).2.2.2.1 82, sw_E Γ (i0x Γ h0 u h1 v) ig im 82) = (u.1 13, (.inl (Γ.2.1 0, 128, .inl (fun _ => 0)) : va_E)) := by
  rw [e_10 (is_82 wf_ini), iad_82]
  try rfl
theorem iel_83 : ((i0x Γ h0 u h1 v).2.2.2.1 83, sw_E Γ (i0x Γ h0 u h1 v) ig im 83) = (u.1 14, (.inl (Γ.2.1 0, 5, .inl (fun _ => 0)) : va_E)) := by
  rw [e_10 (is_83 wf_ini), iad_83]
  try rfl
theorem iel_84 : ((i0x Γ h0 u h1 v).2.2.2.1 84, sw_E Γ (i0x Γ h0 u h1 v) ig im 84) = (h1, (.inr (8, [.int 0, .ref (v 1), .ref (v 2), .ref (v 3), .ref (v 4), .ref (v 5), .int 0, .ref (v 6), .int 0, .int 0, .int 0, .ref (v 7), .ref (v 8), .int 0, .int (-1 : Int32), .ref (v 9), .ref (v 10), .ref (v 11), .int 0, .int 0, .int 0, .int 0, .int 0, .int 0, .int 0, .int 0, .ref (v 12), .int 0, .int 0, .int 0, .ref (v 13), .ref (v 14), .ref (v 15), .int 0, .ref (v 16), .ref (v 17), .ref (v 18), .int 0, .ref (v 19), .ref (v 20), .ref (v 21), .ref (v 22), .ref (v 23), .int (-1 : Int32), .int 0, .int 0, .int 0, .int 0, .int 0, .ref (v 24), .ref (v 25), .int (-1 : Int32), .int 0]) : va_E)) := by
  rw [e_Mo (is_84 wf_ini), iad_84]
  show (h1, (.inr (8, [.int (im.1 84 0), .ref ((i0x Γ h0 u h1 v).2.2.2.1 85), .ref ((i0x Γ h0 u h1 v).2.2.2.1 86), .ref ((i0x Γ h0 u h1 v).2.2.2.1 87), .ref ((i0x Γ h0 u h1 v).2.2.2.1 88), .ref ((i0x Γ h0 u h1 v).2.2.2.1 89), .int (im.1 84 6), .ref ((i0x Γ h0 u h1 v).2.2.2.1 90), .int (im.1 84 8), .int (im.1 84 9), .int (im.1 84 10), .ref ((i0x Γ h0 u h1 v).2.2.2.1 91), .ref ((i0x Γ h0 u h1 v).2.2.2.1 92), .int (im.1 84 13), .int (im.1 84 14), .ref ((i0x Γ h0 u h1 v).2.2.2.1 93), .ref ((i0x Γ h0 u h1 v).2.2.2.1 94), .ref ((i0x Γ h0 u h1 v).2.2.2.1 95), .int (im.1 84 18), .int (im.1 84 19), .int (im.1 84 20), .int (im.1 84 21), .int (im.1 84 22), .int (im.1 84 23), .int (im.1 84 24), .int (im.1 84 25), .ref ((i0x Γ h0 u h1 v).2.2.2.1 96), .int (im.1 84 27), .int (im.1 84 28), .int (im.1 84 29), .ref ((i0x Γ h0 u h1 v).2.2.2.1 97), .ref ((i0x Γ h0 u h1 v).2.2.2.1 98), .ref ((i0x Γ h0 u h1 v).2.2.2.1 99), .int (im.1 84 33), .ref ((i0x Γ h0 u h1 v).2.2.2.1 100), .ref ((i0x Γ h0 u h1 v).2.2.2.1 101), .ref ((i0x Γ h0 u h1 v).2.2.2.1 102), .int (im.1 84 37), .ref ((i0x Γ h0 u h1 v).2.2.2.1 103), .ref ((i0x Γ h0 u h1 v).2.2.2.1 104), .ref ((i0x Γ h0 u h1 v).2.2.2.1 105), .ref ((i0x Γ h0 u h1 v).2.2.2.1 106), .ref ((i0x Γ h0 u h1 v).2.2.2.1 107), .int (im.1 84 43), .int (im.1 84 44), .int (im.1 84 45), .int (im.1 84 46), .int (im.1 84 47), .int (im.1 84 48), .ref ((i0x Γ h0 u h1 v).2.2.2.1 108), .ref ((i0x Γ h0 u h1 v).2.2.2.1 109), .int (im.1 84 51), .int (im.1 84 52)]) : va_E)) = _
  rw [iad_85, iad_86, iad_87, iad_88, iad_89, iad_90, iad_91, iad_92, iad_93, iad_94, iad_95, iad_96, iad_97, iad_98, iad_99, iad_100, iad_101, iad_102, iad_103, iad_104, iad_105, iad_106, iad_107, iad_108, iad_109]
  try rfl
theorem iel_85 : ((i0x Γ h0 u h1 v).2.2.2.1 85, sw_E Γ (i0x Γ h0 u h1 v) ig im 85) = (v 1, (.inl (Γ.2.1 0, 7, .inl (fun _ => 0)) : va_E)) := by
  rw [e_20 (is_85 wf_ini), iad_85]
  try rfl
theorem iel_86 : ((i0x Γ h0 u h1 v).2.2.2.1 86, sw_E Γ (i0x Γ h0 u h1 v) ig im 86) = (v 2, (.inl (Γ.2.1 0, 5654, .inl (upd (upd (fun _ => 0) (40 : Int32).toNatClampNeg (1 : Int32)) (46 : Int32).toNatClampNeg (-1 : Int32))) : va_E)) := by
  rw [e_20 (is_86 wf_ini), iad_86]
  try rfl
theorem iel_87 : ((i0x Γ h0 u h1 v).2.2.2.1 87, sw_E Γ (i0x Γ h0 u h1 v) ig im 87) = (v 3, (.inl (Γ.2.1 0, 11308, .inl (fun _ => 0)) : va_E)) := by
  rw [e_20 (is_87 wf_ini), iad_87]
  try rfl
theorem iel_88 : ((i0x Γ h0 u h1 v).2.2.2.1 88, sw_E Γ (i0x Γ h0 u h1 v) ig im 88) = (v 4, (.inl (Γ.2.1 2, 2, .inl (fun _ => 0)) : va_E)) := by
  rw [e_22 (is_88 wf_ini), iad_88]
  try rfl
theorem iel_89 : ((i0x Γ h0 u h1 v).2.2.2.1 89, sw_E Γ (i0x Γ h0 u h1 v) ig im 89) = (v 5, (.inl (Γ.2.1 0, 30, .inl (fun _ => 0)) : va_E)) := by
  rw [e_20 (is_89 wf_ini), iad_89]
  try rfl
theorem iel_90 : ((i0x Γ h0 u h1 v).2.2.2.1 90, sw_E Γ (i0x Γ h0 u h1 v) ig im 90) = (v 6, (.inl (Γ.2.1 1, 124, .inl (wd 124)) : va_E)) := by
  rw [e_21 (is_90 wf_ini), iad_90]
  try rfl
theorem iel_91 : ((i0x Γ h0 u h1 v).2.2.2.1 91, sw_E Γ (i0x Γ h0 u h1 v) ig im 91) = (v 7, (.inl (Γ.2.1 1, 400, .inl (fun _ => 0)) : va_E)) := by
  rw [e_21 (is_91 wf_ini), iad_91]
  try rfl
theorem iel_92 : ((i0x Γ h0 u h1 v).2.2.2.1 92, sw_E Γ (i0x Γ h0 u h1 v) ig im 92) = (v 8, (.inl (Γ.2.1 0, 5, .inl (fun _ => 0)) : va_E)) := by
  rw [e_20 (is_92 wf_ini), iad_92]
  try rfl
theorem iel_93 : ((i0x Γ h0 u h1 v).2.2.2.1 93, sw_E Γ (i0x Γ h0 u h1 v) ig im 93) = (v 9, (.inl (Γ.2.1 0, 401, .inl (fun _ => 0)) : va_E)) := by
  rw [e_20 (is_93 wf_ini), iad_93]
  try rfl
theorem iel_94 : ((i0x Γ h0 u h1 v).2.2.2.1 94, sw_E Γ (i0x Γ h0 u h1 v) ig im 94) = (v 10, (.inl (Γ.2.1 0, 401, .inl (fun _ => 0)) : va_E)) := by
  rw [e_20 (is_94 wf_ini), iad_94]
  try rfl
theorem iel_95 : ((i0x Γ h0 u h1 v).2.2.2.1 95, sw_E Γ (i0x Γ h0 u h1 v) ig im 95) = (v 11, (.inl (Γ.2.1 0, 401, .inl (fun _ => 0)) : va_E)) := by
  rw [e_20 (is_95 wf_ini), iad_95]
  try rfl
theorem iel_96 : ((i0x Γ h0 u h1 v).2.2.2.1 96, sw_E Γ (i0x Γ h0 u h1 v) ig im 96) = (v 12, (.inl (Γ.2.1 0, 8, .inl (fun _ => 0)) : va_E)) := by
  rw [e_20 (is_96 wf_ini), iad_96]
  try rfl
theorem iel_97 : ((i0x Γ h0 u h1 v).2.2.2.1 97, sw_E Γ (i0x Γ h0 u h1 v) ig im 97) = (v 13, (.inl (Γ.2.1 0, 7, .inl (fun _ => 0)) : va_E)) := by
  rw [e_20 (is_97 wf_ini), iad_97]
  try rfl
theorem iel_98 : ((i0x Γ h0 u h1 v).2.2.2.1 98, sw_E Γ (i0x Γ h0 u h1 v) ig im 98) = (v 14, (.inl (Γ.2.1 0, 256, .inl (fun _ => 0)) : va_E)) := by
  rw [e_20 (is_98 wf_ini), iad_98]
  try rfl
theorem iel_99 : ((i0x Γ h0 u h1 v).2.2.2.1 99, sw_E Γ (i0x Γ h0 u h1 v) ig im 99) = (v 15, (.inl (Γ.2.1 0, 256, .inl (fun _ => 0)) : va_E)) := by
  rw [e_20 (is_99 wf_ini), iad_99]
  try rfl
theorem iel_100 : ((i0x Γ h0 u h1 v).2.2.2.1 100, sw_E Γ (i0x Γ h0 u h1 v) ig im 100) = (v 16, (.inl (Γ.2.1 0, 49, .inl (fun _ => 0)) : va_E)) := by
  rw [e_20 (is_100 wf_ini), iad_100]
  try rfl
theorem iel_101 : ((i0x Γ h0 u h1 v).2.2.2.1 101, sw_E Γ (i0x Γ h0 u h1 v) ig im 101) = (v 17, (.inl (Γ.2.1 2, 49, .inl (fun _ => 0)) : va_E)) := by
  rw [e_22 (is_101 wf_ini), iad_101]
  try rfl
theorem iel_102 : ((i0x Γ h0 u h1 v).2.2.2.1 102, sw_E Γ (i0x Γ h0 u h1 v) ig im 102) = (v 18, (.inl (Γ.2.1 0, 33608, .inl (fun _ => 0)) : va_E)) := by
  rw [e_20 (is_102 wf_ini), iad_102]
  try rfl
theorem iel_103 : ((i0x Γ h0 u h1 v).2.2.2.1 103, sw_E Γ (i0x Γ h0 u h1 v) ig im 103) = (v 19, (.inl (Γ.2.1 0, 128, .inl (fun _ => 0)) : va_E)) := by
  rw [e_20 (is_103 wf_ini), iad_103]
  try rfl
theorem iel_104 : ((i0x Γ h0 u h1 v).2.2.2.1 104, sw_E Γ (i0x Γ h0 u h1 v) ig im 104) = (v 20, (.inl (Γ.2.1 0, 128, .inl (fun _ => 0)) : va_E)) := by
  rw [e_20 (is_104 wf_ini), iad_104]
  try rfl
theorem iel_105 : ((i0x Γ h0 u h1 v).2.2.2.1 105, sw_E Γ (i0x Γ h0 u h1 v) ig im 105) = (v 21, (.inl (Γ.2.1 2, 128, .inl (fun _ => 0)) : va_E)) := by
  rw [e_22 (is_105 wf_ini), iad_105]
  try rfl
theorem iel_106 : ((i0x Γ h0 u h1 v).2.2.2.1 106, sw_E Γ (i0x Γ h0 u h1 v) ig im 106) = (v 22, (.inl (Γ.2.1 0, 3, .inl (fun _ => 0)) : va_E)) := by
  rw [e_20 (is_106 wf_ini), iad_106]
  try rfl
theorem iel_107 : ((i0x Γ h0 u h1 v).2.2.2.1 107, sw_E Γ (i0x Γ h0 u h1 v) ig im 107) = (v 23, (.inl (Γ.2.1 3, 21, .inr (.inl (fun _ => 0))) : va_E)) := by
  rw [e_23 (is_107 wf_ini), iad_107]
  try rfl
theorem iel_108 : ((i0x Γ h0 u h1 v).2.2.2.1 108, sw_E Γ (i0x Γ h0 u h1 v) ig im 108) = (v 24, (.inl (Γ.2.1 3, 2, .inr (.inl (fun _ => 0))) : va_E)) := by
  rw [e_23 (is_108 wf_ini), iad_108]
  try rfl
theorem iel_109 : ((i0x Γ h0 u h1 v).2.2.2.1 109, sw_E Γ (i0x Γ h0 u h1 v) ig im 109) = (v 25, (.inl (Γ.2.1 0, 15, .inl (fun _ => 0)) : va_E)) := by
  rw [e_20 (is_109 wf_ini), iad_109]
  try rfl
end
