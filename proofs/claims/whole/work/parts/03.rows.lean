/-! ===== ROWS: an instruction over the memory; a mirror's head is taken off with it ===== -/
theorem wl_get {Γ : sw_C} {ξ : sw_x} {g : sw_g} {μ : sw_m} {q : Nat} (h : q < ξ.1) : (sw_wl Γ ξ g μ)[q]? = some (ξ.2.2.2.1 q, sw_E Γ ξ g μ q) := by
  unfold sw_wl
  rw [List.getElem?_map, List.getElem?_range h]
  rfl
theorem wl_len {Γ : sw_C} {ξ : sw_x} {g : sw_g} {μ : sw_m} : (sw_wl Γ ξ g μ).length = ξ.1 := by simp [sw_wl]
theorem wl_set {Γ : sw_C} {ξ : sw_x} {g g' : sw_g} {μ μ' : sw_m} {q : Nat} {e : va_E} (hq : q < ξ.1) (he : sw_E Γ ξ g' μ' q = e) (ho : ∀ x, x ≠ q → sw_E Γ ξ g' μ' x = sw_E Γ ξ g μ x) : (sw_wl Γ ξ g μ).set q (ξ.2.2.2.1 q, e) = sw_wl Γ ξ g' μ' := by
  apply List.ext_getElem?
  intro i
  by_cases hi : i < ξ.1
  · rw [wl_get hi]
    by_cases h : i = q
    · subst h
      rw [List.getElem?_set_self (by rw [wl_len]; exact hi), he]
    · rw [List.getElem?_set_ne (Ne.symm h), wl_get hi, ho i h]
  · rw [List.getElem?_eq_none (by rw [List.length_set, wl_len]; omega), List.getElem?_eq_none (by rw [wl_len]; omega)]
/-! what lies outside: the texts of the Reader's words, two statics of the JDK, the one static row -/
def sw_sk : List Nat := [105, 206, 208, 219, 221, 223, 225, 227, 229, 231, 233, 235, 237, 239, 241, 126, 200, 202, 204, 193, 195, 116, 118, 124, 131, 133, 135, 137, 139, 153, 171, 173, 179, 184, 186, 188, 169, 161, 65]
def sw_st : List String := ["counts", "[", "]", "claim", "heavy", "kind", "place", "arm", "day", "mood", "slack", "done", "latest", "tilt", "on", "at", "*", "/", "%", "+", "-", "sheds", "bars", "put", "take", "pad", "to", "pass", "times", "if", "not", "(", ")", "<", ">", "=", "and", "or", ";"]
def sw_len : List Nat := [6, 1, 1, 5, 5, 4, 5, 3, 3, 4, 5, 4, 6, 4, 2, 2, 1, 1, 1, 1, 1, 5, 4, 3, 4, 3, 2, 4, 5, 2, 3, 1, 1, 1, 1, 1, 3, 2, 1]
def sw_byt : List (List Int32) := [[99, 111, 117, 110, 116, 115], [91], [93], [99, 108, 97, 105, 109], [104, 101, 97, 118, 121], [107, 105, 110, 100], [112, 108, 97, 99, 101], [97, 114, 109], [100, 97, 121], [109, 111, 111, 100], [115, 108, 97, 99, 107], [100, 111, 110, 101], [108, 97, 116, 101, 115, 116], [116, 105, 108, 116], [111, 110], [97, 116], [42], [47], [37], [43], [45], [115, 104, 101, 100, 115], [98, 97, 114, 115], [112, 117, 116], [116, 97, 107, 101], [112, 97, 100], [116, 111], [112, 97, 115, 115], [116, 105, 109, 101, 115], [105, 102], [110, 111, 116], [40], [41], [60], [62], [61], [97, 110, 100], [111, 114], [59]]
def sw_O (Γ : sw_C) (A : Nat → Prop) (U : State) (H : Heap) : Prop := vk_S 39 sw_len sw_byt Γ.2.2.1 Γ.2.2.2.1 A U H ∧ (∀ i, i < 39 → vk_R R_Re (sw_sk.getD i 0) (sw_st.getD i "") (Γ.2.2.1 i) U)
  ∧ va_Z "java/lang/String" "COMPACT_STRINGS" "Z" (.int 1) A U H ∧ va_Zq "jdk/internal/util/Preconditions" "SIOOBE_FORMATTER" "Ljava/util/function/BiFunction;" A U H
  ∧ va_Z "SeeSaws" "MOST_OF_TERM" "[I" (.ref Γ.2.2.2.2) A U H ∧ va_T .int Γ.2.2.2.2 4 (fun j => .int (([999, 10, 9, 9] : List Int32).getD j 0)) A U H
  ∧ va_AO "SeeSaws$Text" U
theorem sw_O.same {Γ : sw_C} {A : Nat → Prop} {u U : State} {H : Heap} (hv : U.vm = u.vm) (h : sw_O Γ A u H) : sw_O Γ A U H := by
  have ha : u.vm.Alike U.vm := by rw [hv]; exact Vm.Alike.refl _
  exact ⟨h.1.moved ha, fun i hi => vk_R.same hv (h.2.1 i hi), h.2.2.1.moved ha, va_Zq.moved ha h.2.2.2.1, h.2.2.2.2.1.moved ha, h.2.2.2.2.2.1.moved ha, va_AO.moved ha h.2.2.2.2.2.2⟩
theorem sw_O.warm {Γ : sw_C} {A : Nat → Prop} {s U : State} {H : Heap} {locs : List Loc} (hW : s.WarmedH U.vm) (hS : va_S A s.heap H locs) (h : sw_O Γ A s s.heap) : sw_O Γ A U H :=
  ⟨(h.1.kept hS.2.1).moved hW.alike, fun i hi => vk_R.warm hW (h.2.1 i hi), (h.2.2.1.kept hS.2.1).moved hW.alike, va_Zq.moved hW.alike (va_Zq.kept h.2.2.2.1 hS.2.1), (h.2.2.2.2.1.kept hS.2.1).moved hW.alike, (h.2.2.2.2.2.1.kept hS.2.1).moved hW.alike, va_AO.moved hW.alike h.2.2.2.2.2.2⟩
/-- the world at a state -/
def sw_W (Γ : sw_C) (A : Nat → Prop) (ξ : sw_x) (g : sw_g) (μ : sw_m) (U : State) : Prop := va_P Γ.1 swCl (sw_wl Γ ξ g μ) U.heap ∧ va_K Γ.1 swCl (sw_tys Γ) U ∧ va_D A (sw_wl Γ ξ g μ)
/-- the world at a call's beginning -/
def sw_V (Γ : sw_C) (A : Nat → Prop) (ξ : sw_x) (g : sw_g) (μ : sw_m) (U : State) : Prop := sw_W Γ A ξ g μ U ∧ (∀ q : Nat, U.heap.size ≤ q → A q) ∧ sw_O Γ A U U.heap
/-- the world along a method's way -/
def sw_S (Γ : sw_C) (A : Nat → Prop) (ξ : sw_x) (g : sw_g) (μ : sw_m) (s : State) (H : Heap) (locs : List Loc) : Prop := va_P Γ.1 swCl (sw_wl Γ ξ g μ) H ∧ va_K Γ.1 swCl (sw_tys Γ) s ∧ va_D A (sw_wl Γ ξ g μ) ∧ va_S A s.heap H locs ∧ (∀ q : Nat, s.heap.size ≤ q → A q) ∧ sw_O Γ A s s.heap
theorem sw_begin {Γ : sw_C} {A : Nat → Prop} {ξ : sw_x} {g : sw_g} {μ : sw_m} {s : State} (h : sw_V Γ A ξ g μ s) : sw_S Γ A ξ g μ s s.heap [] := ⟨h.1.1, h.1.2.1, h.1.2.2, va_S.rf, h.2.1, h.2.2⟩
theorem sw_blind {Γ : sw_C} {A : Nat → Prop} {ξ : sw_x} {g : sw_g} {μ : sw_m} {av : List Value} : FrameBlind (va_Pc av (sw_V Γ A ξ g μ)) := fun a U f mk h => ⟨h.1, ⟨h.2.1.1, va_K.moved (u := U) (U := U.calling f mk a) (Vm.Alike.refl U.vm) h.2.1.2.1, h.2.1.2.2⟩, h.2.2.1, sw_O.same rfl h.2.2.2⟩
theorem sw_pre {Γ : sw_C} {A : Nat → Prop} {ξ : sw_x} {g : sw_g} {μ : sw_m} {s : State} {H : Heap} {locs : List Loc} (h : sw_S Γ A ξ g μ s H locs) (av : List Value) : ∀ U : State, U.heap = H → s.WarmedH U.vm → va_Pc av (sw_V Γ A ξ g μ) av.toArray U := fun U hU hW => ⟨rfl, ⟨by rw [hU]; exact h.1, va_K.moved hW.alike h.2.1, h.2.2.1⟩, fun q hq => h.2.2.2.2.1 q (Nat.le_trans h.2.2.2.1.1 (by rw [← hU]; exact hq)), by rw [hU]; exact sw_O.warm hW h.2.2.2.1 h.2.2.2.2.2⟩
theorem sw_end {Γ : sw_C} {A : Nat → Prop} {ξ : sw_x} {g : sw_g} {μ : sw_m} {s t : State} {H : Heap} {locs : List Loc} (h : sw_S Γ A ξ g μ s H locs) (ht : t.heap = H) (hW : s.WarmedH t.vm) : sw_W Γ A ξ g μ t := ⟨by rw [ht]; exact h.1, va_K.moved hW.alike h.2.1, h.2.2.1⟩
/-- what a method is called by: its words among the tables' -/
def sw_y (y : MethodName) (bytes : ByteArray) (maxL : Nat) (ret : Option FieldType) (n : Nat) : Prop := Cond.code y bytes maxL ret ∈ sw_tb ∧ Cond.initialized y.cls ∈ sw_tb ∧ (y.cls ≠ "java/lang/invoke/MethodHandle" ∧ y.cls ≠ "java/lang/invoke/VarHandle" ∧ (parseMethodDescriptor y.desc).map (fun d => d.parameters.length) = some n)
def sw_yv (y : MethodName) (bytes : ByteArray) (maxL : Nat) (ret : Option FieldType) (n : Nat) : Prop := sw_y y bytes maxL ret n ∧ Cond.instanceMethod y ∈ sw_tb ∧ Cond.selects y.cls y y ∈ sw_tb
def sw_ys (y : MethodName) (bytes : ByteArray) (maxL : Nat) (ret : Option FieldType) (n : Nat) : Prop := sw_y y bytes maxL ret n ∧ Cond.static y ∈ sw_tb
/-- contracts' ends -/
abbrev sw_Qi (Γ : sw_C) (A : Nat → Prop) (ξ : sw_x) (g : sw_g) (μ : sw_m) (v : Int32) (Λ : Prop) : Array Value → State → Outcome → State → Prop := va_Qi (fun r (_ : Unit) => r = v) (fun _ t => sw_W Γ A ξ g μ t ∧ Λ) A
abbrev sw_Ql (Γ : sw_C) (A : Nat → Prop) (ξ : sw_x) (g : sw_g) (μ : sw_m) (v : Int64) (Λ : Prop) : Array Value → State → Outcome → State → Prop := va_Ql (fun r (_ : Unit) => r = v) (fun _ t => sw_W Γ A ξ g μ t ∧ Λ) A
abbrev sw_Qv (Γ : sw_C) (A : Nat → Prop) (ξ : sw_x) (g : sw_g) (μ : sw_m) (Λ : Prop) : Array Value → State → Outcome → State → Prop := va_Qv (fun (_ : Unit) => True) (fun _ t => sw_W Γ A ξ g μ t ∧ Λ) A
abbrev sw_Qq (Γ : sw_C) (A : Nat → Prop) (ξ : sw_x) (g : sw_g) (μ : sw_m) (v : Option Nat) (Λ : Prop) : Array Value → State → Outcome → State → Prop := va_Qq (fun r (_ : Unit) => r = v) (fun _ t => sw_W Γ A ξ g μ t ∧ Λ) A
section SWR
variable {p : Program} {l : Launch} {e : Env} {R : Room} {s : State} {m : MethodId} {args : Array Value} {below : List Frame} {meth : Method} {c : Code} {H : Heap} {locs : List Loc} {cells slots : Nat} {Q : State → Prop}
variable {cc : ByteArray} {pc nL index : Nat} {ls : Array Slot} {rest : List Value} {Γ : sw_C} {A : Nat → Prop} {ξ : sw_x} {g : sw_g} {μ : sw_m} {w0 : Cond} {own : String} {q n : Nat} {ρ : Type} {res : ρ}
theorem sw_word (S : CallFix p m c cc nL s args (w0 :: sw_tb) own) {w : Cond} (h : w ∈ sw_tb) : w.before args s = true := S.2.2.2.2 w (List.mem_cons_of_mem _ h)
theorem sw_put {g' : sw_g} {μ' : sw_m} {H1 : Heap} {locs1 : List Loc} {e1 : va_E} (hw : sw_S Γ A ξ g μ s H locs) (hq : q < ξ.1) (he : sw_E Γ ξ g' μ' q = e1) (ho : ∀ x, x ≠ q → sw_E Γ ξ g' μ' x = sw_E Γ ξ g μ x)
    (h1 : va_P Γ.1 swCl ((sw_wl Γ ξ g μ).set q (ξ.2.2.2.1 q, e1)) H1) (h2 : va_D A ((sw_wl Γ ξ g μ).set q (ξ.2.2.2.1 q, e1))) (h3 : va_S A s.heap H1 locs1) : sw_S Γ A ξ g' μ' s H1 locs1 := by
  rw [wl_set hq he ho] at h1 h2
  exact ⟨h1, hw.2.1, h2, h3, hw.2.2.2.2⟩
theorem E_gI {k : Nat} {v : Int32} {x : Nat} (h : x ≠ q) : sw_E Γ ξ (gI g q k v) μ x = sw_E Γ ξ g μ x := by show sw_cell Γ ξ (sw_u g.1 q k v x) _ _ _ _ x = _; rw [sw_u_ne h]; rfl
theorem E_gL {k : Nat} {v : Int64} {x : Nat} (h : x ≠ q) : sw_E Γ ξ (gL g q k v) μ x = sw_E Γ ξ g μ x := by show sw_cell Γ ξ _ (sw_u g.2.1 q k v x) _ _ _ x = _; rw [sw_u_ne h]; rfl
theorem E_gR {k : Nat} {v : Option Nat} {x : Nat} (h : x ≠ q) : sw_E Γ ξ (gR g q k v) μ x = sw_E Γ ξ g μ x := by show sw_cell Γ ξ _ _ (sw_u g.2.2 q k v x) _ _ x = _; rw [sw_u_ne h]; rfl
theorem E_mI {k : Nat} {v : Int32} {x : Nat} (h : x ≠ q) : sw_E Γ ξ g (mI μ q k v) x = sw_E Γ ξ g μ x := by show sw_cell Γ ξ _ _ _ (sw_u μ.1 q k v x) _ x = _; rw [sw_u_ne h]; rfl
theorem E_mL {k : Nat} {v : Int64} {x : Nat} (h : x ≠ q) : sw_E Γ ξ g (mL μ q k v) x = sw_E Γ ξ g μ x := by show sw_cell Γ ξ _ _ _ _ (sw_u μ.2 q k v x) x = _; rw [sw_u_ne h]; rfl
theorem sw_at (hw : sw_S Γ A ξ g μ s H locs) (hq : q < ξ.1) {e1 : va_E} (he : sw_E Γ ξ g μ q = e1) : (sw_wl Γ ξ g μ)[q]? = some (ξ.2.2.2.1 q, e1) := by rw [wl_get hq, he]
-- loads of arrays
theorem sm_iald (S : CallFix p m c cc nL s args (w0 :: sw_tb) own) (hw : sw_S Γ A ξ g μ s H locs) (hi : sw_is ξ q 20 n) {i : Int32} {k : Int32 → Option ρ} (hm : rd n i (μ.1 q) k = some res) (hdg : decode cc pc = .ok (.iaload, 1))
    (kk : ∀ v, k v = some res → W p l e R s m args below meth c H locs cells slots Q (F0 m (pc + 1) ls (.int v :: rest))) : W p l e R s m args below meth c H locs cells slots Q (F0 m pc ls (.int i :: .ref (ξ.2.2.2.1 q) :: rest)) := by
  obtain ⟨h1, h2⟩ := ob_rd hm
  exact va_iald S.1 S.2.1 hw.2.1 hw.1 q 0 (sw_at hw hi.1 (e_20 hi)) rfl h1 hdg (kk _ h2)
theorem sm_bald (S : CallFix p m c cc nL s args (w0 :: sw_tb) own) (hw : sw_S Γ A ξ g μ s H locs) (hi : sw_is ξ q 21 n) {i : Int32} {k : Int32 → Option ρ} (hm : rd n i (μ.1 q) k = some res) (hdg : decode cc pc = .ok (.baload, 1))
    (kk : ∀ v, k v = some res → W p l e R s m args below meth c H locs cells slots Q (F0 m (pc + 1) ls (.int v :: rest))) : W p l e R s m args below meth c H locs cells slots Q (F0 m pc ls (.int i :: .ref (ξ.2.2.2.1 q) :: rest)) := by
  obtain ⟨h1, h2⟩ := ob_rd hm
  exact va_bald S.1 S.2.1 hw.2.1 hw.1 q 1 (sw_at hw hi.1 (e_21 hi)) rfl h1 hdg (kk _ h2)
theorem sm_zald (S : CallFix p m c cc nL s args (w0 :: sw_tb) own) (hw : sw_S Γ A ξ g μ s H locs) (hi : sw_is ξ q 22 n) {i : Int32} {k : Int32 → Option ρ} (hm : rd n i (μ.1 q) k = some res) (hdg : decode cc pc = .ok (.baload, 1))
    (kk : ∀ v, k v = some res → W p l e R s m args below meth c H locs cells slots Q (F0 m (pc + 1) ls (.int v :: rest))) : W p l e R s m args below meth c H locs cells slots Q (F0 m pc ls (.int i :: .ref (ξ.2.2.2.1 q) :: rest)) := by
  obtain ⟨h1, h2⟩ := ob_rd hm
  exact va_zald S.1 S.2.1 hw.2.1 hw.1 q 2 (sw_at hw hi.1 (e_22 hi)) rfl h1 hdg (kk _ h2)
theorem sm_lald (S : CallFix p m c cc nL s args (w0 :: sw_tb) own) (hw : sw_S Γ A ξ g μ s H locs) (hi : sw_is ξ q 23 n) {i : Int32} {k : Int64 → Option ρ} (hm : rd n i (μ.2 q) k = some res) (hdg : decode cc pc = .ok (.laload, 1))
    (kk : ∀ v, k v = some res → W p l e R s m args below meth c H locs cells slots Q (F0 m (pc + 1) ls (.long v :: rest))) : W p l e R s m args below meth c H locs cells slots Q (F0 m pc ls (.int i :: .ref (ξ.2.2.2.1 q) :: rest)) := by
  obtain ⟨h1, h2⟩ := ob_rd hm
  exact va_lald S.1 S.2.1 hw.2.1 hw.1 q 3 (sw_at hw hi.1 (e_23 hi)) rfl h1 hdg (kk _ h2)
theorem sx_iald (S : CallFix p m c cc nL s args (w0 :: sw_tb) own) (hw : sw_S Γ A ξ g μ s H locs) (hi : sw_is ξ q 10 n) {i : Int32} {k : Int32 → Option ρ} (hm : rd n i (g.1 q) k = some res) (hdg : decode cc pc = .ok (.iaload, 1))
    (kk : ∀ v, k v = some res → W p l e R s m args below meth c H locs cells slots Q (F0 m (pc + 1) ls (.int v :: rest))) : W p l e R s m args below meth c H locs cells slots Q (F0 m pc ls (.int i :: .ref (ξ.2.2.2.1 q) :: rest)) := by
  obtain ⟨h1, h2⟩ := ob_rd hm
  exact va_iald S.1 S.2.1 hw.2.1 hw.1 q 0 (sw_at hw hi.1 (e_10 hi)) rfl h1 hdg (kk _ h2)
theorem sx_lald (S : CallFix p m c cc nL s args (w0 :: sw_tb) own) (hw : sw_S Γ A ξ g μ s H locs) (hi : sw_is ξ q 11 n) {i : Int32} {k : Int64 → Option ρ} (hm : rd n i (g.2.1 q) k = some res) (hdg : decode cc pc = .ok (.laload, 1))
    (kk : ∀ v, k v = some res → W p l e R s m args below meth c H locs cells slots Q (F0 m (pc + 1) ls (.long v :: rest))) : W p l e R s m args below meth c H locs cells slots Q (F0 m pc ls (.int i :: .ref (ξ.2.2.2.1 q) :: rest)) := by
  obtain ⟨h1, h2⟩ := ob_rd hm
  exact va_lald S.1 S.2.1 hw.2.1 hw.1 q 3 (sw_at hw hi.1 (e_11 hi)) rfl h1 hdg (kk _ h2)
theorem sx_tald (S : CallFix p m c cc nL s args (w0 :: sw_tb) own) (hw : sw_S Γ A ξ g μ s H locs) (hi : sw_is ξ q 12 n) {i : Int32} {k : Option Nat → Option ρ} (hm : rd n i (g.2.2 q) k = some res) (hdg : decode cc pc = .ok (.aaload, 1))
    (kk : ∀ (j : Nat) (v : Option Nat), g.2.2 q j = v → k v = some res → W p l e R s m args below meth c H locs cells slots Q (F0 m (pc + 1) ls (va_rf (v.map ξ.2.2.2.1) :: rest))) : W p l e R s m args below meth c H locs cells slots Q (F0 m pc ls (.int i :: .ref (ξ.2.2.2.1 q) :: rest)) := by
  obtain ⟨h1, h2⟩ := ob_rd hm
  exact va_aldq S.1 S.2.1 hw.2.1 hw.1 q 4 (sw_at hw hi.1 (e_12 hi)) rfl h1 hdg (kk _ _ rfl h2)
theorem sx_pald (S : CallFix p m c cc nL s args (w0 :: sw_tb) own) (hw : sw_S Γ A ξ g μ s H locs) (hi : sw_is ξ q 13 n) {i : Int32} {k : Option Nat → Option ρ} (hm : rd n i (g.2.2 q) k = some res) (hdg : decode cc pc = .ok (.aaload, 1))
    (kk : ∀ (j : Nat) (v : Option Nat), g.2.2 q j = v → k v = some res → W p l e R s m args below meth c H locs cells slots Q (F0 m (pc + 1) ls (va_rf (v.map ξ.2.2.2.1) :: rest))) : W p l e R s m args below meth c H locs cells slots Q (F0 m pc ls (.int i :: .ref (ξ.2.2.2.1 q) :: rest)) := by
  obtain ⟨h1, h2⟩ := ob_rd hm
  exact va_aldq S.1 S.2.1 hw.2.1 hw.1 q 5 (sw_at hw hi.1 (e_13 hi)) rfl h1 hdg (kk _ _ rfl h2)
theorem sx_rald (S : CallFix p m c cc nL s args (w0 :: sw_tb) own) (hw : sw_S Γ A ξ g μ s H locs) (hi : sw_is ξ q 14 n) {i : Int32} {k : Nat → Option ρ} (hm : rd n i (fun j => j) k = some res) (hdg : decode cc pc = .ok (.aaload, 1))
    (kk : ∀ j : Nat, j < n → k j = some res → W p l e R s m args below meth c H locs cells slots Q (F0 m (pc + 1) ls (.ref (ξ.2.2.2.1 (q + 1 + j)) :: rest))) : W p l e R s m args below meth c H locs cells slots Q (F0 m pc ls (.int i :: .ref (ξ.2.2.2.1 q) :: rest)) := by
  obtain ⟨h1, h2⟩ := ob_rd hm
  have hlt : i.toNatClampNeg < n := Nat.not_le.mp fun z => h1 (Or.inr z)
  have hc := hw.1 q _ (sw_at hw hi.1 (e_14 hi))
  refine W.aald (v := .ref (ξ.2.2.2.1 (q + 1 + i.toNatClampNeg))) (ty := .array .int) S.1 S.2.1 hc ((hw.2.1.2 6 _ rfl).1 n _) rfl (fun z => by cases z) (by show ¬ (i < 0 ∨ (arrV _ _ _).slots.size ≤ _); rw [arrV_size]; exact h1) (by show (arrV _ _ _).slots[_]? = _; rw [arrV_read _ _ hlt]; simp [va_rf, hlt]) rfl rfl hdg (kk _ hlt h2)
-- stores into arrays
theorem sm_iast (S : CallFix p m c cc nL s args (w0 :: sw_tb) own) (hw : sw_S Γ A ξ g μ s H locs) (hi : sw_is ξ q 20 n) {i v : Int32} {k : sw_m → Option ρ} (hm : wr n i (fun j => mI μ q j v) k = some res) (hdg : decode cc pc = .ok (.iastore, 1))
    (kk : ∀ (μ' : sw_m) (H1 : Heap) (locs1 : List Loc), k μ' = some res → sw_S Γ A ξ g μ' s H1 locs1 → W p l e R s m args below meth c H1 locs1 cells slots Q (F0 m (pc + 1) ls rest)) : W p l e R s m args below meth c H locs cells slots Q (F0 m pc ls (.int v :: .int i :: .ref (ξ.2.2.2.1 q) :: rest)) := by
  obtain ⟨h1, h2⟩ := ob_wr hm
  exact va_iast S.1 S.2.1 hw.2.1 hw.1 hw.2.2.1 hw.2.2.2.1 q 0 (sw_at hw hi.1 (e_20 hi)) rfl h1 hdg (fun H1 locs1 a1 a2 a3 => kk _ H1 locs1 h2 (sw_put hw hi.1 (by rw [e_20 hi]; show Sum.inl (_, _, Sum.inl (sw_u μ.1 q _ v q)) = _; rw [sw_u_at]; rfl) (fun x hx => E_mI hx) a1 a2 a3))
theorem sm_bast (S : CallFix p m c cc nL s args (w0 :: sw_tb) own) (hw : sw_S Γ A ξ g μ s H locs) (hi : sw_is ξ q 21 n) {i v : Int32} {k : sw_m → Option ρ} (hm : wr n i (fun j => mI μ q j (vp_nar .byte v)) k = some res) (hdg : decode cc pc = .ok (.bastore, 1))
    (kk : ∀ (μ' : sw_m) (H1 : Heap) (locs1 : List Loc), k μ' = some res → sw_S Γ A ξ g μ' s H1 locs1 → W p l e R s m args below meth c H1 locs1 cells slots Q (F0 m (pc + 1) ls rest)) : W p l e R s m args below meth c H locs cells slots Q (F0 m pc ls (.int v :: .int i :: .ref (ξ.2.2.2.1 q) :: rest)) := by
  obtain ⟨h1, h2⟩ := ob_wr hm
  exact va_bast S.1 S.2.1 hw.2.1 hw.1 hw.2.2.1 hw.2.2.2.1 q 1 (sw_at hw hi.1 (e_21 hi)) rfl h1 hdg (fun H1 locs1 a1 a2 a3 => kk _ H1 locs1 h2 (sw_put hw hi.1 (by rw [e_21 hi]; show Sum.inl (_, _, Sum.inl (sw_u μ.1 q _ _ q)) = _; rw [sw_u_at]; rfl) (fun x hx => E_mI hx) a1 a2 a3))
theorem sm_zast (S : CallFix p m c cc nL s args (w0 :: sw_tb) own) (hw : sw_S Γ A ξ g μ s H locs) (hi : sw_is ξ q 22 n) {i v : Int32} {k : sw_m → Option ρ} (hm : wr n i (fun j => mI μ q j (vp_nar .boolean v)) k = some res) (hdg : decode cc pc = .ok (.bastore, 1))
    (kk : ∀ (μ' : sw_m) (H1 : Heap) (locs1 : List Loc), k μ' = some res → sw_S Γ A ξ g μ' s H1 locs1 → W p l e R s m args below meth c H1 locs1 cells slots Q (F0 m (pc + 1) ls rest)) : W p l e R s m args below meth c H locs cells slots Q (F0 m pc ls (.int v :: .int i :: .ref (ξ.2.2.2.1 q) :: rest)) := by
  obtain ⟨h1, h2⟩ := ob_wr hm
  exact va_zast S.1 S.2.1 hw.2.1 hw.1 hw.2.2.1 hw.2.2.2.1 q 2 (sw_at hw hi.1 (e_22 hi)) rfl h1 hdg (fun H1 locs1 a1 a2 a3 => kk _ H1 locs1 h2 (sw_put hw hi.1 (by rw [e_22 hi]; show Sum.inl (_, _, Sum.inl (sw_u μ.1 q _ _ q)) = _; rw [sw_u_at]; rfl) (fun x hx => E_mI hx) a1 a2 a3))
theorem sm_last (S : CallFix p m c cc nL s args (w0 :: sw_tb) own) (hw : sw_S Γ A ξ g μ s H locs) (hi : sw_is ξ q 23 n) {i : Int32} {v : Int64} {k : sw_m → Option ρ} (hm : wr n i (fun j => mL μ q j v) k = some res) (hdg : decode cc pc = .ok (.lastore, 1))
    (kk : ∀ (μ' : sw_m) (H1 : Heap) (locs1 : List Loc), k μ' = some res → sw_S Γ A ξ g μ' s H1 locs1 → W p l e R s m args below meth c H1 locs1 cells slots Q (F0 m (pc + 1) ls rest)) : W p l e R s m args below meth c H locs cells slots Q (F0 m pc ls (.long v :: .int i :: .ref (ξ.2.2.2.1 q) :: rest)) := by
  obtain ⟨h1, h2⟩ := ob_wr hm
  exact va_last S.1 S.2.1 hw.2.1 hw.1 hw.2.2.1 hw.2.2.2.1 q 3 (sw_at hw hi.1 (e_23 hi)) rfl h1 hdg (fun H1 locs1 a1 a2 a3 => kk _ H1 locs1 h2 (sw_put hw hi.1 (by rw [e_23 hi]; show Sum.inl (_, _, Sum.inr (Sum.inl (sw_u μ.2 q _ _ q))) = _; rw [sw_u_at]; rfl) (fun x hx => E_mL hx) a1 a2 a3))
theorem sx_iast (S : CallFix p m c cc nL s args (w0 :: sw_tb) own) (hw : sw_S Γ A ξ g μ s H locs) (hf : sw_wf ξ g.2.2) (hi : sw_is ξ q 10 n) {i v : Int32} {k : sw_g → Option ρ} (hm : wr n i (fun j => gI g q j v) k = some res) (hdg : decode cc pc = .ok (.iastore, 1))
    (kk : ∀ (g' : sw_g) (H1 : Heap) (locs1 : List Loc), sw_wf ξ g'.2.2 → k g' = some res → sw_S Γ A ξ g' μ s H1 locs1 → W p l e R s m args below meth c H1 locs1 cells slots Q (F0 m (pc + 1) ls rest)) : W p l e R s m args below meth c H locs cells slots Q (F0 m pc ls (.int v :: .int i :: .ref (ξ.2.2.2.1 q) :: rest)) := by
  obtain ⟨h1, h2⟩ := ob_wr hm
  exact va_iast S.1 S.2.1 hw.2.1 hw.1 hw.2.2.1 hw.2.2.2.1 q 0 (sw_at hw hi.1 (e_10 hi)) rfl h1 hdg (fun H1 locs1 a1 a2 a3 => kk (gI g q i.toNatClampNeg v) H1 locs1 hf h2 (sw_put hw hi.1 (by rw [e_10 hi]; show Sum.inl (_, _, Sum.inl (sw_u g.1 q _ v q)) = _; rw [sw_u_at]; rfl) (fun x hx => E_gI hx) a1 a2 a3))
theorem sx_last (S : CallFix p m c cc nL s args (w0 :: sw_tb) own) (hw : sw_S Γ A ξ g μ s H locs) (hf : sw_wf ξ g.2.2) (hi : sw_is ξ q 11 n) {i : Int32} {v : Int64} {k : sw_g → Option ρ} (hm : wr n i (fun j => gL g q j v) k = some res) (hdg : decode cc pc = .ok (.lastore, 1))
    (kk : ∀ (g' : sw_g) (H1 : Heap) (locs1 : List Loc), sw_wf ξ g'.2.2 → k g' = some res → sw_S Γ A ξ g' μ s H1 locs1 → W p l e R s m args below meth c H1 locs1 cells slots Q (F0 m (pc + 1) ls rest)) : W p l e R s m args below meth c H locs cells slots Q (F0 m pc ls (.long v :: .int i :: .ref (ξ.2.2.2.1 q) :: rest)) := by
  obtain ⟨h1, h2⟩ := ob_wr hm
  exact va_last S.1 S.2.1 hw.2.1 hw.1 hw.2.2.1 hw.2.2.2.1 q 3 (sw_at hw hi.1 (e_11 hi)) rfl h1 hdg (fun H1 locs1 a1 a2 a3 => kk (gL g q i.toNatClampNeg v) H1 locs1 hf h2 (sw_put hw hi.1 (by rw [e_11 hi]; show Sum.inl (_, _, Sum.inr (Sum.inl (sw_u g.2.1 q _ _ q))) = _; rw [sw_u_at]; rfl) (fun x hx => E_gL hx) a1 a2 a3))
-- calls
theorem sw_Vi {y : MethodName} {bytes : ByteArray} {maxL k mc ms : Nat} {ret : Option FieldType} {rm : Room} {As : List Value} {ξ' : sw_x} {g' : sw_g} {μ' : sw_m} {v : Int32} {ci : Nat} {r : vw_C} {fs : List Value} {st0 : List Value} {Λ : Prop} (S : CallFix p m c cc nL s args (w0 :: sw_tb) own) (hw : sw_S Γ A ξ g μ s H locs)
    (hM : Met l y (Cond.code y bytes maxL ret :: sw_tb) rm (va_Pc (.ref (ξ.2.2.2.1 q) :: As) (sw_V Γ A ξ g μ)) (sw_Qi Γ A ξ' g' μ' v Λ) mc ms A) (hy : sw_yv y bytes maxL ret k) (hl : Cond.methodLink own index y ∈ sw_tb) (hq : q < ξ.1) (he : sw_E Γ ξ g μ q = .inr (ci, fs)) (hc : swCl[ci]? = some r) (hC : r.1 = y.cls) (hst : st0 = As.reverse ++ .ref (ξ.2.2.2.1 q) :: rest) (hn : As.length = k) (hz : ls.size = nL)
    (hro : (rest.map fun v => v.category).sum ≤ 8) (hR : rm.cells = mc ∧ rm.slots = ms ∧ rm.frames + 1 ≤ R.frames ∧ 8 + (maxL + 11) + rm.locals ≤ R.locals) (hf : cells + mc ≤ R.cells ∧ slots + ms ≤ R.slots) (hdg : decode cc pc = .ok (.invokevirtual index, 3))
    (kk : ∀ (H1 : Heap) (locs1 : List Loc), sw_S Γ A ξ' g' μ' s H1 locs1 → Λ → W p l e R s m args below meth c H1 locs1 (cells + mc) (slots + ms) Q (F0 m (pc + 3) ls (.int v :: rest))) : W p l e R s m args below meth c H locs cells slots Q (F0 m pc ls st0) := by
  subst hst
  refine va_calli (va_runV (C := y.cls) (As := As) (rest := rest) S hM ⟨callB_of k S.2.2.2.2 (tb_good hy.1.1) rfl hR.1 hR.2.1 (sw_word S hy.1.2.1) (sw_word S hl) hy.1.2.2 hR.2.2, sw_word S hy.2.1, sw_word S hy.2.2⟩ ⟨sw_blind, by rw [← hC]; exact va_recv hw.2.1 hw.1 hc (sw_at hw hq he), sw_pre hw _⟩ rfl hn hz rfl (lv_room hro) hdg hf) hw.2.2.2.1 (fun _ _ h => h) (fun _ h => h) (fun r u t H1 locs1 ht hvm hr hB _ _ hS => ?_)
  subst hr
  rw [← ht] at hS ⊢
  exact kk t.heap locs1 ⟨hB.1.1, va_K.moved hvm.symm hB.1.2.1, hB.1.2.2, hS, hw.2.2.2.2⟩ hB.2
theorem sw_Vl {y : MethodName} {bytes : ByteArray} {maxL k mc ms : Nat} {ret : Option FieldType} {rm : Room} {As : List Value} {ξ' : sw_x} {g' : sw_g} {μ' : sw_m} {v : Int64} {ci : Nat} {r : vw_C} {fs : List Value} {st0 : List Value} {Λ : Prop} (S : CallFix p m c cc nL s args (w0 :: sw_tb) own) (hw : sw_S Γ A ξ g μ s H locs)
    (hM : Met l y (Cond.code y bytes maxL ret :: sw_tb) rm (va_Pc (.ref (ξ.2.2.2.1 q) :: As) (sw_V Γ A ξ g μ)) (sw_Ql Γ A ξ' g' μ' v Λ) mc ms A) (hy : sw_yv y bytes maxL ret k) (hl : Cond.methodLink own index y ∈ sw_tb) (hq : q < ξ.1) (he : sw_E Γ ξ g μ q = .inr (ci, fs)) (hc : swCl[ci]? = some r) (hC : r.1 = y.cls) (hst : st0 = As.reverse ++ .ref (ξ.2.2.2.1 q) :: rest) (hn : As.length = k) (hz : ls.size = nL)
    (hro : (rest.map fun v => v.category).sum ≤ 8) (hR : rm.cells = mc ∧ rm.slots = ms ∧ rm.frames + 1 ≤ R.frames ∧ 8 + (maxL + 11) + rm.locals ≤ R.locals) (hf : cells + mc ≤ R.cells ∧ slots + ms ≤ R.slots) (hdg : decode cc pc = .ok (.invokevirtual index, 3))
    (kk : ∀ (H1 : Heap) (locs1 : List Loc), sw_S Γ A ξ' g' μ' s H1 locs1 → Λ → W p l e R s m args below meth c H1 locs1 (cells + mc) (slots + ms) Q (F0 m (pc + 3) ls (.long v :: rest))) : W p l e R s m args below meth c H locs cells slots Q (F0 m pc ls st0) := by
  subst hst
  refine va_calll (va_runV (C := y.cls) (As := As) (rest := rest) S hM ⟨callB_of k S.2.2.2.2 (tb_good hy.1.1) rfl hR.1 hR.2.1 (sw_word S hy.1.2.1) (sw_word S hl) hy.1.2.2 hR.2.2, sw_word S hy.2.1, sw_word S hy.2.2⟩ ⟨sw_blind, by rw [← hC]; exact va_recv hw.2.1 hw.1 hc (sw_at hw hq he), sw_pre hw _⟩ rfl hn hz rfl (lv_room hro) hdg hf) hw.2.2.2.1 (fun _ _ h => h) (fun _ h => h) (fun r u t H1 locs1 ht hvm hr hB _ _ hS => ?_)
  subst hr
  rw [← ht] at hS ⊢
  exact kk t.heap locs1 ⟨hB.1.1, va_K.moved hvm.symm hB.1.2.1, hB.1.2.2, hS, hw.2.2.2.2⟩ hB.2
theorem sw_Vq {y : MethodName} {bytes : ByteArray} {maxL k mc ms : Nat} {ret : Option FieldType} {rm : Room} {As : List Value} {ξ' : sw_x} {g' : sw_g} {μ' : sw_m} {v : Option Nat} {ci : Nat} {r : vw_C} {fs : List Value} {st0 : List Value} {Λ : Prop} (S : CallFix p m c cc nL s args (w0 :: sw_tb) own) (hw : sw_S Γ A ξ g μ s H locs)
    (hM : Met l y (Cond.code y bytes maxL ret :: sw_tb) rm (va_Pc (.ref (ξ.2.2.2.1 q) :: As) (sw_V Γ A ξ g μ)) (sw_Qq Γ A ξ' g' μ' v Λ) mc ms A) (hy : sw_yv y bytes maxL ret k) (hl : Cond.methodLink own index y ∈ sw_tb) (hq : q < ξ.1) (he : sw_E Γ ξ g μ q = .inr (ci, fs)) (hc : swCl[ci]? = some r) (hC : r.1 = y.cls) (hst : st0 = As.reverse ++ .ref (ξ.2.2.2.1 q) :: rest) (hn : As.length = k) (hz : ls.size = nL)
    (hro : (rest.map fun v => v.category).sum ≤ 8) (hR : rm.cells = mc ∧ rm.slots = ms ∧ rm.frames + 1 ≤ R.frames ∧ 8 + (maxL + 11) + rm.locals ≤ R.locals) (hf : cells + mc ≤ R.cells ∧ slots + ms ≤ R.slots) (hdg : decode cc pc = .ok (.invokevirtual index, 3))
    (kk : ∀ (H1 : Heap) (locs1 : List Loc), sw_S Γ A ξ' g' μ' s H1 locs1 → Λ → W p l e R s m args below meth c H1 locs1 (cells + mc) (slots + ms) Q (F0 m (pc + 3) ls (va_rf v :: rest))) : W p l e R s m args below meth c H locs cells slots Q (F0 m pc ls st0) := by
  subst hst
  refine va_callq (va_runV (C := y.cls) (As := As) (rest := rest) S hM ⟨callB_of k S.2.2.2.2 (tb_good hy.1.1) rfl hR.1 hR.2.1 (sw_word S hy.1.2.1) (sw_word S hl) hy.1.2.2 hR.2.2, sw_word S hy.2.1, sw_word S hy.2.2⟩ ⟨sw_blind, by rw [← hC]; exact va_recv hw.2.1 hw.1 hc (sw_at hw hq he), sw_pre hw _⟩ rfl hn hz rfl (lv_room hro) hdg hf) hw.2.2.2.1 (fun _ _ h => h) (fun _ h => h) (fun r u t H1 locs1 ht hvm hr hB _ _ hS => ?_)
  subst hr
  rw [← ht] at hS ⊢
  exact kk t.heap locs1 ⟨hB.1.1, va_K.moved hvm.symm hB.1.2.1, hB.1.2.2, hS, hw.2.2.2.2⟩ hB.2
theorem sw_Vv {y : MethodName} {bytes : ByteArray} {maxL k mc ms : Nat} {ret : Option FieldType} {rm : Room} {As : List Value} {ξ' : sw_x} {g' : sw_g} {μ' : sw_m} {ci : Nat} {r : vw_C} {fs : List Value} {st0 : List Value} {Λ : Prop} (S : CallFix p m c cc nL s args (w0 :: sw_tb) own) (hw : sw_S Γ A ξ g μ s H locs)
    (hM : Met l y (Cond.code y bytes maxL ret :: sw_tb) rm (va_Pc (.ref (ξ.2.2.2.1 q) :: As) (sw_V Γ A ξ g μ)) (sw_Qv Γ A ξ' g' μ' Λ) mc ms A) (hy : sw_yv y bytes maxL ret k) (hl : Cond.methodLink own index y ∈ sw_tb) (hq : q < ξ.1) (he : sw_E Γ ξ g μ q = .inr (ci, fs)) (hc : swCl[ci]? = some r) (hC : r.1 = y.cls) (hst : st0 = As.reverse ++ .ref (ξ.2.2.2.1 q) :: rest) (hn : As.length = k) (hz : ls.size = nL)
    (hro : (rest.map fun v => v.category).sum ≤ 8) (hR : rm.cells = mc ∧ rm.slots = ms ∧ rm.frames + 1 ≤ R.frames ∧ 8 + (maxL + 11) + rm.locals ≤ R.locals) (hf : cells + mc ≤ R.cells ∧ slots + ms ≤ R.slots) (hdg : decode cc pc = .ok (.invokevirtual index, 3))
    (kk : ∀ (H1 : Heap) (locs1 : List Loc), sw_S Γ A ξ' g' μ' s H1 locs1 → Λ → W p l e R s m args below meth c H1 locs1 (cells + mc) (slots + ms) Q (F0 m (pc + 3) ls rest)) : W p l e R s m args below meth c H locs cells slots Q (F0 m pc ls st0) := by
  subst hst
  refine va_callv (va_runV (C := y.cls) (As := As) (rest := rest) S hM ⟨callB_of k S.2.2.2.2 (tb_good hy.1.1) rfl hR.1 hR.2.1 (sw_word S hy.1.2.1) (sw_word S hl) hy.1.2.2 hR.2.2, sw_word S hy.2.1, sw_word S hy.2.2⟩ ⟨sw_blind, by rw [← hC]; exact va_recv hw.2.1 hw.1 hc (sw_at hw hq he), sw_pre hw _⟩ rfl hn hz rfl (lv_room hro) hdg hf) hw.2.2.2.1 (fun _ _ h => h) (fun _ h => h) (fun u t H1 locs1 ht hvm hr hB _ _ hS => ?_)
  rw [← ht] at hS ⊢
  exact kk t.heap locs1 ⟨hB.1.1, va_K.moved hvm.symm hB.1.2.1, hB.1.2.2, hS, hw.2.2.2.2⟩ hB.2
theorem sw_Si {y : MethodName} {bytes : ByteArray} {maxL k mc ms : Nat} {ret : Option FieldType} {rm : Room} {As : List Value} {ξ' : sw_x} {g' : sw_g} {μ' : sw_m} {v : Int32} {st0 : List Value} {Λ : Prop} (S : CallFix p m c cc nL s args (w0 :: sw_tb) own) (hw : sw_S Γ A ξ g μ s H locs)
    (hM : Met l y (Cond.code y bytes maxL ret :: sw_tb) rm (va_Pc As (sw_V Γ A ξ g μ)) (sw_Qi Γ A ξ' g' μ' v Λ) mc ms A) (hy : sw_ys y bytes maxL ret k) (hl : Cond.methodLink own index y ∈ sw_tb) (hst : st0 = As.reverse ++ rest) (hn : As.length = k) (hz : ls.size = nL)
    (hro : (rest.map fun v => v.category).sum ≤ 8) (hR : rm.cells = mc ∧ rm.slots = ms ∧ rm.frames + 1 ≤ R.frames ∧ 8 + (maxL + 11) + rm.locals ≤ R.locals) (hf : cells + mc ≤ R.cells ∧ slots + ms ≤ R.slots) (hdg : decode cc pc = .ok (.invokestatic index, 3))
    (kk : ∀ (H1 : Heap) (locs1 : List Loc), sw_S Γ A ξ' g' μ' s H1 locs1 → Λ → W p l e R s m args below meth c H1 locs1 (cells + mc) (slots + ms) Q (F0 m (pc + 3) ls (.int v :: rest))) : W p l e R s m args below meth c H locs cells slots Q (F0 m pc ls st0) := by
  subst hst
  refine va_calli (va_runS (As := As) (rest := rest) S hM ⟨callB_of k S.2.2.2.2 (tb_good hy.1.1) rfl hR.1 hR.2.1 (sw_word S hy.1.2.1) (sw_word S hl) hy.1.2.2 hR.2.2, sw_word S hy.2⟩ ⟨sw_blind, sw_pre hw _⟩ rfl hn hz rfl (lv_room hro) hdg hf) hw.2.2.2.1 (fun _ _ h => h) (fun _ h => h) (fun r u t H1 locs1 ht hvm hr hB _ _ hS => ?_)
  subst hr
  rw [← ht] at hS ⊢
  exact kk t.heap locs1 ⟨hB.1.1, va_K.moved hvm.symm hB.1.2.1, hB.1.2.2, hS, hw.2.2.2.2⟩ hB.2
theorem sw_Sl {y : MethodName} {bytes : ByteArray} {maxL k mc ms : Nat} {ret : Option FieldType} {rm : Room} {As : List Value} {ξ' : sw_x} {g' : sw_g} {μ' : sw_m} {v : Int64} {st0 : List Value} {Λ : Prop} (S : CallFix p m c cc nL s args (w0 :: sw_tb) own) (hw : sw_S Γ A ξ g μ s H locs)
    (hM : Met l y (Cond.code y bytes maxL ret :: sw_tb) rm (va_Pc As (sw_V Γ A ξ g μ)) (sw_Ql Γ A ξ' g' μ' v Λ) mc ms A) (hy : sw_ys y bytes maxL ret k) (hl : Cond.methodLink own index y ∈ sw_tb) (hst : st0 = As.reverse ++ rest) (hn : As.length = k) (hz : ls.size = nL)
    (hro : (rest.map fun v => v.category).sum ≤ 8) (hR : rm.cells = mc ∧ rm.slots = ms ∧ rm.frames + 1 ≤ R.frames ∧ 8 + (maxL + 11) + rm.locals ≤ R.locals) (hf : cells + mc ≤ R.cells ∧ slots + ms ≤ R.slots) (hdg : decode cc pc = .ok (.invokestatic index, 3))
    (kk : ∀ (H1 : Heap) (locs1 : List Loc), sw_S Γ A ξ' g' μ' s H1 locs1 → Λ → W p l e R s m args below meth c H1 locs1 (cells + mc) (slots + ms) Q (F0 m (pc + 3) ls (.long v :: rest))) : W p l e R s m args below meth c H locs cells slots Q (F0 m pc ls st0) := by
  subst hst
  refine va_calll (va_runS (As := As) (rest := rest) S hM ⟨callB_of k S.2.2.2.2 (tb_good hy.1.1) rfl hR.1 hR.2.1 (sw_word S hy.1.2.1) (sw_word S hl) hy.1.2.2 hR.2.2, sw_word S hy.2⟩ ⟨sw_blind, sw_pre hw _⟩ rfl hn hz rfl (lv_room hro) hdg hf) hw.2.2.2.1 (fun _ _ h => h) (fun _ h => h) (fun r u t H1 locs1 ht hvm hr hB _ _ hS => ?_)
  subst hr
  rw [← ht] at hS ⊢
  exact kk t.heap locs1 ⟨hB.1.1, va_K.moved hvm.symm hB.1.2.1, hB.1.2.2, hS, hw.2.2.2.2⟩ hB.2
-- returns
theorem sw_iret {v : Int32} {mc ms : Nat} {Λ : Prop} (S : CallFix p m c cc nL s args (w0 :: sw_tb) own) (hr : meth.sig.returnType = some .int) (hlk : meth.locks = false) (hw : sw_S Γ A ξ g μ s H locs) (hΛ : Λ) (hdg : decode cc pc = .ok (.ireturn, 1)) : W p l e R s m args below meth c H locs mc ms (MQ below (sw_Qi Γ A ξ g μ v Λ) args s mc ms A) (F0 m pc ls [.int v]) :=
  W.iret (v := v) S.1 S.2.1 hr (fun t ht hW => ⟨⟨v, (), rfl, rfl, ⟨sw_end hw ht hW, hΛ⟩⟩, hw.2.2.2.1.F ht⟩) hw.2.2.2.1.2.2 hdg
theorem sw_zret {v : Int32} {mc ms : Nat} {Λ : Prop} (S : CallFix p m c cc nL s args (w0 :: sw_tb) own) (hr : meth.sig.returnType = some .boolean) (hlk : meth.locks = false) (hv : v = 0 ∨ v = 1) (hw : sw_S Γ A ξ g μ s H locs) (hΛ : Λ) (hdg : decode cc pc = .ok (.ireturn, 1)) : W p l e R s m args below meth c H locs mc ms (MQ below (sw_Qi Γ A ξ g μ v Λ) args s mc ms A) (F0 m pc ls [.int v]) :=
  W.zret (v := v) S.1 S.2.1 hr (tz_narrow hv) (fun t ht hW => ⟨⟨v, (), rfl, rfl, ⟨sw_end hw ht hW, hΛ⟩⟩, hw.2.2.2.1.F ht⟩) hw.2.2.2.1.2.2 hdg
theorem sw_lret {v : Int64} {mc ms : Nat} {Λ : Prop} (S : CallFix p m c cc nL s args (w0 :: sw_tb) own) (hr : meth.sig.returnType = some .long) (hlk : meth.locks = false) (hw : sw_S Γ A ξ g μ s H locs) (hΛ : Λ) (hdg : decode cc pc = .ok (.lreturn, 1)) : W p l e R s m args below meth c H locs mc ms (MQ below (sw_Ql Γ A ξ g μ v Λ) args s mc ms A) (F0 m pc ls [.long v]) :=
  W.lret (v := v) S.1 S.2.1 hr (fun t ht hW => ⟨⟨v, (), rfl, rfl, ⟨sw_end hw ht hW, hΛ⟩⟩, hw.2.2.2.1.F ht⟩) hw.2.2.2.1.2.2 hdg
theorem sw_vret {mc ms : Nat} {Λ : Prop} (S : CallFix p m c cc nL s args (w0 :: sw_tb) own) (hr : meth.sig.returnType = none) (hlk : meth.locks = false) (hw : sw_S Γ A ξ g μ s H locs) (hΛ : Λ) (hdg : decode cc pc = .ok (.return_, 1)) : W p l e R s m args below meth c H locs mc ms (MQ below (sw_Qv Γ A ξ g μ Λ) args s mc ms A) (F0 m pc ls []) :=
  W.vret S.1 S.2.1 hr (fun t ht hW => ⟨⟨(), rfl, trivial, ⟨sw_end hw ht hW, hΛ⟩⟩, hw.2.2.2.1.F ht⟩) hw.2.2.2.1.2.2 hdg
end SWR
