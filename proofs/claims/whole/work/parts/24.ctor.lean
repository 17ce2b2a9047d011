/-! ===== CONSTRUCTORS: a list of cells that grows behind what is there already ===== -/
def sk_good (Θ : State → Prop) : Prop := (∀ u U : State, U.vm = u.vm → Θ u → Θ U) ∧ ∀ s U : State, s.WarmedH U.vm → Θ s → Θ U
def sk_W (Γ : sw_C) (A : Nat → Prop) (ws l : va_W) (U : State) : Prop := va_P Γ.1 swCl (ws ++ l) U.heap ∧ va_K Γ.1 swCl (sw_tys Γ) U ∧ va_D A (ws ++ l)
def sk_V (Γ : sw_C) (A : Nat → Prop) (Θ : State → Prop) (ws l : va_W) (U : State) : Prop := sk_W Γ A ws l U ∧ (∀ q : Nat, U.heap.size ≤ q → A q) ∧ Θ U
def sk_S (Γ : sw_C) (A : Nat → Prop) (Θ : State → Prop) (ws l : va_W) (s : State) (H : Heap) (locs : List Loc) : Prop := va_P Γ.1 swCl (ws ++ l) H ∧ va_K Γ.1 swCl (sw_tys Γ) s ∧ va_D A (ws ++ l) ∧ va_S A s.heap H locs ∧ (∀ q : Nat, s.heap.size ≤ q → A q) ∧ Θ s
theorem sk_begin {Γ : sw_C} {A : Nat → Prop} {Θ : State → Prop} {ws l : va_W} {s : State} (h : sk_V Γ A Θ ws l s) : sk_S Γ A Θ ws l s s.heap [] := ⟨h.1.1, h.1.2.1, h.1.2.2, va_S.rf, h.2.1, h.2.2⟩
theorem sk_blind {Γ : sw_C} {A : Nat → Prop} {Θ : State → Prop} (hΘ : sk_good Θ) {ws l : va_W} {av : List Value} : FrameBlind (va_Pc av (sk_V Γ A Θ ws l)) := fun a U f mk h => ⟨h.1, ⟨h.2.1.1, va_K.moved (u := U) (U := U.calling f mk a) (Vm.Alike.refl U.vm) h.2.1.2.1, h.2.1.2.2⟩, h.2.2.1, hΘ.1 U _ rfl h.2.2.2⟩
theorem sk_end {Γ : sw_C} {A : Nat → Prop} {Θ : State → Prop} {ws l : va_W} {s t : State} {H : Heap} {locs : List Loc} (h : sk_S Γ A Θ ws l s H locs) (ht : t.heap = H) (hW : s.WarmedH t.vm) : sk_W Γ A ws l t := ⟨by rw [ht]; exact h.1, va_K.moved hW.alike h.2.1, h.2.2.1⟩
theorem sk_at {ws l : va_W} {k : Nat} {x : Nat × va_E} (h : l[k]? = some x) : (ws ++ l)[ws.length + k]? = some x := by
  rw [List.getElem?_append_right (Nat.le_add_right _ _), Nat.add_sub_cancel_left]
  exact h
theorem sk_set {ws l : va_W} {k : Nat} {x : Nat × va_E} : (ws ++ l).set (ws.length + k) x = ws ++ l.set k x := by
  rw [List.set_append_right _ _ (Nat.le_add_right _ _), Nat.add_sub_cancel_left]
section SKR
variable {p : Program} {l : Launch} {e : Env} {R : Room} {s : State} {m : MethodId} {args : Array Value} {below : List Frame} {meth : Method} {c : Code} {H : Heap} {locs : List Loc} {cells slots : Nat} {Q : State → Prop}
variable {cc : ByteArray} {pc nL index : Nat} {ls : Array Slot} {rest : List Value} {Γ : sw_C} {A : Nat → Prop} {Θ : State → Prop} {ws x x' : va_W} {w0 : Cond} {own : String} {n a : Nat}
theorem sk_setS {k : Nat} {y : Nat × va_E} {H1 : Heap} {locs1 : List Loc} (hw : sk_S Γ A Θ ws x s H locs) (hx : x.set k y = x') (h1 : va_P Γ.1 swCl ((ws ++ x).set (ws.length + k) y) H1) (h2 : va_D A ((ws ++ x).set (ws.length + k) y)) (h3 : va_S A s.heap H1 locs1) : sk_S Γ A Θ ws x' s H1 locs1 := by
  rw [sk_set, hx] at h1 h2
  exact ⟨h1, hw.2.1, h2, h3, hw.2.2.2.2⟩
theorem sk_addS {y : Nat × va_E} {H1 : Heap} (hw : sk_S Γ A Θ ws x s H locs) (hx : x ++ [y] = x') (h1 : va_P Γ.1 swCl ((ws ++ x) ++ [y]) H1) (h2 : va_D A ((ws ++ x) ++ [y])) (h3 : va_S A s.heap H1 locs) : sk_S Γ A Θ ws x' s H1 locs := by
  rw [List.append_assoc, hx] at h1 h2
  exact ⟨h1, hw.2.1, h2, h3, hw.2.2.2.2⟩
theorem sk_new {C : String} {T : u_T} {N ci : Nat} {fs : List Value} (S : CallFix p m c cc nL s args (w0 :: sw_tb) own) (hw : sk_S Γ A Θ ws x s H locs) (hin : ∀ w ∈ u_ws C T N, w ∈ sw_tb) (ty : Nat → FieldType) (hty : ∀ k, k < N → parseFieldDescriptor (T k).2.2.1 = some (ty k)) (h1 : Cond.classLink own index C ∈ sw_tb) (h2 : Cond.instantiable C N ∈ sw_tb) (h3 : Cond.initialized C ∈ sw_tb) (hc : swCl[ci]? = some (C, T, N)) (hfs : ∀ j, j < N → defaultValue (ty j) = vp_V fs j) (hcl : cells + 1 ≤ R.cells) (hsl : slots + N ≤ R.slots) (hdg : decode cc pc = .ok (.new index, 3))
    (kk : ∀ (q : Nat) (H1 : Heap), sk_S Γ A Θ ws (x ++ [(q, .inr (ci, fs))]) s H1 locs → W p l e R s m args below meth c H1 locs (cells + 1) (slots + N) Q (F0 m (pc + 3) ls (.ref q :: rest))) : W p l e R s m args below meth c H locs cells slots Q (F0 m pc ls rest) :=
  va_new S.1 S.2.1 S.2.2.2.2 (fun w h => List.mem_cons_of_mem _ (hin w h)) ty hty S.2.2.2.1 (sw_word S h1) (sw_word S h2) (sw_word S h3) hw.2.1 hw.1 hw.2.2.1 hw.2.2.2.1 hw.2.2.2.2.1 hc hfs hcl hsl hdg (fun q H1 b1 b2 b3 => kk q H1 (sk_addS hw rfl b1 b2 b3))
theorem sk_same {cA cB : ClassId} {t0 : Nat} {ty : FieldType} {tys : List (ClassId × FieldType)} (hK : va_K Γ.1 swCl (tys ++ [(cA, ty)]) s) (h : tys[t0]? = some (cB, ty)) : cA = cB := by
  have h1 := (hK.2 tys.length (cA, ty) (by rw [List.getElem?_append_right (Nat.le_refl _), Nat.sub_self]; rfl)).2
  have h2 := (hK.2 t0 (cB, ty) (by rw [List.getElem?_append_left (List.getElem?_eq_some_iff.mp h).1]; exact h)).2
  cases ty with
  | object C =>
    obtain ⟨_, _, -, -, -, e1⟩ := h1
    obtain ⟨_, _, -, -, -, e2⟩ := h2
    exact Option.some.inj (e1.symm.trans e2)
  | _ => exact Option.some.inj (h1.symm.trans h2)
theorem sk_newi {k : Int32} {n : Nat} (S : CallFix p m c cc nL s args (w0 :: sw_tb) own) (hw : sk_S Γ A Θ ws x s H locs) (ha : Cond.arrayClass .int ∈ sw_tb) (hk : ¬ k < 0) (hn : k.toNatClampNeg = n) (hb : n * 4 ≤ 536870912) (hcl : cells + 1 ≤ R.cells) (hsl : slots + n ≤ R.slots) (hdg : decode cc pc = .ok (.newarray .int, 2))
    (kk : ∀ (q : Nat) (H1 : Heap), sk_S Γ A Θ ws (x ++ [(q, .inl (Γ.2.1 0, n, .inl (fun _ => 0)))]) s H1 locs → W p l e R s m args below meth c H1 locs (cells + 1) (slots + n) Q (F0 m (pc + 2) ls (.ref q :: rest))) : W p l e R s m args below meth c H locs cells slots Q (F0 m pc ls (.int k :: rest)) :=
  va_newa (atype := .int) S.1 S.2.1 (sw_word S ha) rfl hw.2.1 hw.1 hw.2.2.1 hw.2.2.2.1 hw.2.2.2.2.1 (a0 := (n, .inl (fun _ => 0))) (fun _ => rfl) hk hn hb hcl hsl hdg (fun q cA H1 hK b1 b2 b3 => by
    have e1 : cA = Γ.2.1 0 := sk_same (t0 := 0) hK rfl
    subst e1
    exact kk q H1 (sk_addS hw rfl b1 b2 b3))
theorem sk_newb {k : Int32} {n : Nat} (S : CallFix p m c cc nL s args (w0 :: sw_tb) own) (hw : sk_S Γ A Θ ws x s H locs) (ha : Cond.arrayClass .byte ∈ sw_tb) (hk : ¬ k < 0) (hn : k.toNatClampNeg = n) (hb : n * 1 ≤ 536870912) (hcl : cells + 1 ≤ R.cells) (hsl : slots + n ≤ R.slots) (hdg : decode cc pc = .ok (.newarray .byte, 2))
    (kk : ∀ (q : Nat) (H1 : Heap), sk_S Γ A Θ ws (x ++ [(q, .inl (Γ.2.1 1, n, .inl (fun _ => 0)))]) s H1 locs → W p l e R s m args below meth c H1 locs (cells + 1) (slots + n) Q (F0 m (pc + 2) ls (.ref q :: rest))) : W p l e R s m args below meth c H locs cells slots Q (F0 m pc ls (.int k :: rest)) :=
  va_newa (atype := .byte) S.1 S.2.1 (sw_word S ha) rfl hw.2.1 hw.1 hw.2.2.1 hw.2.2.2.1 hw.2.2.2.2.1 (a0 := (n, .inl (fun _ => 0))) (fun _ => rfl) hk hn hb hcl hsl hdg (fun q cA H1 hK b1 b2 b3 => by
    have e1 : cA = Γ.2.1 1 := sk_same (t0 := 1) hK rfl
    subst e1
    exact kk q H1 (sk_addS hw rfl b1 b2 b3))
theorem sk_newz {k : Int32} {n : Nat} (S : CallFix p m c cc nL s args (w0 :: sw_tb) own) (hw : sk_S Γ A Θ ws x s H locs) (ha : Cond.arrayClass .boolean ∈ sw_tb) (hk : ¬ k < 0) (hn : k.toNatClampNeg = n) (hb : n * 1 ≤ 536870912) (hcl : cells + 1 ≤ R.cells) (hsl : slots + n ≤ R.slots) (hdg : decode cc pc = .ok (.newarray .boolean, 2))
    (kk : ∀ (q : Nat) (H1 : Heap), sk_S Γ A Θ ws (x ++ [(q, .inl (Γ.2.1 2, n, .inl (fun _ => 0)))]) s H1 locs → W p l e R s m args below meth c H1 locs (cells + 1) (slots + n) Q (F0 m (pc + 2) ls (.ref q :: rest))) : W p l e R s m args below meth c H locs cells slots Q (F0 m pc ls (.int k :: rest)) :=
  va_newa (atype := .boolean) S.1 S.2.1 (sw_word S ha) rfl hw.2.1 hw.1 hw.2.2.1 hw.2.2.2.1 hw.2.2.2.2.1 (a0 := (n, .inl (fun _ => 0))) (fun _ => rfl) hk hn hb hcl hsl hdg (fun q cA H1 hK b1 b2 b3 => by
    have e1 : cA = Γ.2.1 2 := sk_same (t0 := 2) hK rfl
    subst e1
    exact kk q H1 (sk_addS hw rfl b1 b2 b3))
theorem sk_newl {k : Int32} {n : Nat} (S : CallFix p m c cc nL s args (w0 :: sw_tb) own) (hw : sk_S Γ A Θ ws x s H locs) (ha : Cond.arrayClass .long ∈ sw_tb) (hk : ¬ k < 0) (hn : k.toNatClampNeg = n) (hb : n * 8 ≤ 536870912) (hcl : cells + 1 ≤ R.cells) (hsl : slots + n ≤ R.slots) (hdg : decode cc pc = .ok (.newarray .long, 2))
    (kk : ∀ (q : Nat) (H1 : Heap), sk_S Γ A Θ ws (x ++ [(q, .inl (Γ.2.1 3, n, .inr (.inl (fun _ => 0))))]) s H1 locs → W p l e R s m args below meth c H1 locs (cells + 1) (slots + n) Q (F0 m (pc + 2) ls (.ref q :: rest))) : W p l e R s m args below meth c H locs cells slots Q (F0 m pc ls (.int k :: rest)) :=
  va_newa (atype := .long) S.1 S.2.1 (sw_word S ha) rfl hw.2.1 hw.1 hw.2.2.1 hw.2.2.2.1 hw.2.2.2.2.1 (a0 := (n, .inr (.inl (fun _ => 0)))) (fun _ => rfl) hk hn hb hcl hsl hdg (fun q cA H1 hK b1 b2 b3 => by
    have e1 : cA = Γ.2.1 3 := sk_same (t0 := 3) hK rfl
    subst e1
    exact kk q H1 (sk_addS hw rfl b1 b2 b3))
theorem sk_newq {C : String} {k : Int32} {n t0 : Nat} {cB : ClassId} (S : CallFix p m c cc nL s args (w0 :: sw_tb) own) (hw : sk_S Γ A Θ ws x s H locs) (hl : Cond.classLink own index C ∈ sw_tb) (ho : va_AO C s) (ht : (sw_tys Γ)[t0]? = some (cB, .object C)) (hk : ¬ k < 0) (hn : k.toNatClampNeg = n) (hb : n * 4 ≤ 536870912) (hcl : cells + 1 ≤ R.cells) (hsl : slots + n ≤ R.slots) (hdg : decode cc pc = .ok (.anewarray index, 3))
    (kk : ∀ (q : Nat) (H1 : Heap), sk_S Γ A Θ ws (x ++ [(q, .inl (cB, n, .inr (.inr (.inr (.inr (fun _ => none))))))]) s H1 locs → W p l e R s m args below meth c H1 locs (cells + 1) (slots + n) Q (F0 m (pc + 3) ls (.ref q :: rest))) : W p l e R s m args below meth c H locs cells slots Q (F0 m pc ls (.int k :: rest)) :=
  va_newq S.1 S.2.1 S.2.2.2.1 (sw_word S hl) ho hw.2.1 hw.1 hw.2.2.1 hw.2.2.2.1 hw.2.2.2.2.1 hk hn hb hcl hsl hdg (fun q cA H1 hK b1 b2 b3 => by
    have e1 : cA = cB := sk_same (t0 := t0) hK ht
    subst e1
    exact kk q H1 (sk_addS hw rfl b1 b2 b3))
theorem sk_get {C : String} {T : u_T} {N ci : Nat} {fs : List Value} (S : CallFix p m c cc nL s args (w0 :: sw_tb) own) (hw : sk_S Γ A Θ ws x s H locs) (hin : ∀ w ∈ u_ws C T N, w ∈ sw_tb) (h : Nat) (he : x[h]? = some (a, .inr (ci, fs))) (hc : swCl[ci]? = some (C, T, N)) (k : Nat) (hN : k < N) (hl : Cond.fieldLink own index C (T k).2.1 (T k).2.2.1 ∈ sw_tb) (hcl : (T k).1 = C) {v : Value} (hv : fs[k]? = some v) (hdg : decode cc pc = .ok (.getfield index, 3))
    (kk : W p l e R s m args below meth c H locs cells slots Q (F0 m (pc + 3) ls (v :: rest))) : W p l e R s m args below meth c H locs cells slots Q (F0 m pc ls (.ref a :: rest)) :=
  va_get (T := T) (N := N) S.1 S.2.1 S.2.2.2.2 (fun w h => List.mem_cons_of_mem _ (hin w h)) S.2.2.2.1 hw.2.1 hw.1 (ws.length + h) (sk_at he) hc k hN (sw_word S hl) (fun z h => by rw [hcl] at h; exact h) hv hdg kk
theorem sk_putF {C : String} {T : u_T} {N ci : Nat} {fs : List Value} (S : CallFix p m c cc nL s args (w0 :: sw_tb) own) (hw : sk_S Γ A Θ ws x s H locs) (hin : ∀ w ∈ u_ws C T N, w ∈ sw_tb) (ty : Nat → FieldType) (hty : ∀ k, k < N → parseFieldDescriptor (T k).2.2.1 = some (ty k)) (hnm : ∀ a, a < N → ∀ b, b < N → a ≠ b → (T a).2.1 ≠ (T b).2.1) (hi : meth.name = "<init>") (h : Nat) (he : x[h]? = some (a, .inr (ci, fs))) (hc : swCl[ci]? = some (C, T, N)) (k : Nat) (hN : k < N) (hl : Cond.fieldLink own index C (T k).2.1 (T k).2.2.1 ∈ sw_tb) (hcl : (T k).1 = C) (hC : (T k).1 = own) (hfin : (T k).2.2.2 = true) {v : Value} (hn : narrow (ty k) v = v) (hfit : fits (ty k) v = true) (hlen : k < fs.length) (hx : x.set h (a, .inr (ci, fs.set k v)) = x') (hdg : decode cc pc = .ok (.putfield index, 3))
    (kk : ∀ (H1 : Heap) (locs1 : List Loc), sk_S Γ A Θ ws x' s H1 locs1 → W p l e R s m args below meth c H1 locs1 cells slots Q (F0 m (pc + 3) ls rest)) : W p l e R s m args below meth c H locs cells slots Q (F0 m pc ls (v :: .ref a :: rest)) :=
  va_putF (T := T) (N := N) S.1 S.2.1 S.2.2.2.2 (fun w h => List.mem_cons_of_mem _ (hin w h)) ty hty hnm S.2.2.2.1 hw.2.1 hw.1 hw.2.2.1 hw.2.2.2.1 (ws.length + h) (sk_at he) hc k hN (sw_word S hl) (fun z h => by rw [hcl] at h; exact h) hfin hi hC (hty k hN) hn hfit hlen hdg (fun H1 locs1 b1 b2 b3 => kk H1 locs1 (sk_setS hw hx b1 b2 b3))
theorem sk_put {C : String} {T : u_T} {N ci : Nat} {fs : List Value} (S : CallFix p m c cc nL s args (w0 :: sw_tb) own) (hw : sk_S Γ A Θ ws x s H locs) (hin : ∀ w ∈ u_ws C T N, w ∈ sw_tb) (ty : Nat → FieldType) (hty : ∀ k, k < N → parseFieldDescriptor (T k).2.2.1 = some (ty k)) (hnm : ∀ a, a < N → ∀ b, b < N → a ≠ b → (T a).2.1 ≠ (T b).2.1) (h : Nat) (he : x[h]? = some (a, .inr (ci, fs))) (hc : swCl[ci]? = some (C, T, N)) (k : Nat) (hN : k < N) (hl : Cond.fieldLink own index C (T k).2.1 (T k).2.2.1 ∈ sw_tb) (hcl : (T k).1 = C) (hfin : (T k).2.2.2 = false) {v : Value} (hn : narrow (ty k) v = v) (hfit : fits (ty k) v = true) (hlen : k < fs.length) (hx : x.set h (a, .inr (ci, fs.set k v)) = x') (hdg : decode cc pc = .ok (.putfield index, 3))
    (kk : ∀ (H1 : Heap) (locs1 : List Loc), sk_S Γ A Θ ws x' s H1 locs1 → W p l e R s m args below meth c H1 locs1 cells slots Q (F0 m (pc + 3) ls rest)) : W p l e R s m args below meth c H locs cells slots Q (F0 m pc ls (v :: .ref a :: rest)) :=
  va_put (T := T) (N := N) S.1 S.2.1 S.2.2.2.2 (fun w h => List.mem_cons_of_mem _ (hin w h)) ty hty hnm S.2.2.2.1 hw.2.1 hw.1 hw.2.2.1 hw.2.2.2.1 (ws.length + h) (sk_at he) hc k hN (sw_word S hl) (fun z h => by rw [hcl] at h; exact h) hfin (hty k hN) hn hfit hlen hdg (fun H1 locs1 b1 b2 b3 => kk H1 locs1 (sk_setS hw hx b1 b2 b3))
theorem sk_iast {f : Nat → Int32} (S : CallFix p m c cc nL s args (w0 :: sw_tb) own) (hw : sk_S Γ A Θ ws x s H locs) (h : Nat) (he : x[h]? = some (a, .inl (Γ.2.1 0, n, .inl f))) {i v : Int32} (hi : vp_in i n) (hx : x.set h (a, .inl (Γ.2.1 0, n, .inl (upd f i.toNatClampNeg v))) = x') (hdg : decode cc pc = .ok (.iastore, 1))
    (kk : ∀ (H1 : Heap) (locs1 : List Loc), sk_S Γ A Θ ws x' s H1 locs1 → W p l e R s m args below meth c H1 locs1 cells slots Q (F0 m (pc + 1) ls rest)) : W p l e R s m args below meth c H locs cells slots Q (F0 m pc ls (.int v :: .int i :: .ref a :: rest)) :=
  va_iast S.1 S.2.1 hw.2.1 hw.1 hw.2.2.1 hw.2.2.2.1 (ws.length + h) 0 (sk_at he) rfl hi hdg (fun H1 locs1 b1 b2 b3 => kk H1 locs1 (sk_setS hw hx b1 b2 b3))
theorem sk_bast {f : Nat → Int32} (S : CallFix p m c cc nL s args (w0 :: sw_tb) own) (hw : sk_S Γ A Θ ws x s H locs) (h : Nat) (he : x[h]? = some (a, .inl (Γ.2.1 1, n, .inl f))) {i v : Int32} (hi : vp_in i n) {f' : Nat → Int32} (hf : upd f i.toNatClampNeg (vp_nar .byte v) = f') (hx : x.set h (a, .inl (Γ.2.1 1, n, .inl f')) = x') (hdg : decode cc pc = .ok (.bastore, 1))
    (kk : ∀ (H1 : Heap) (locs1 : List Loc), sk_S Γ A Θ ws x' s H1 locs1 → W p l e R s m args below meth c H1 locs1 cells slots Q (F0 m (pc + 1) ls rest)) : W p l e R s m args below meth c H locs cells slots Q (F0 m pc ls (.int v :: .int i :: .ref a :: rest)) := by
  subst hf
  exact va_bast S.1 S.2.1 hw.2.1 hw.1 hw.2.2.1 hw.2.2.2.1 (ws.length + h) 1 (sk_at he) rfl hi hdg (fun H1 locs1 b1 b2 b3 => kk H1 locs1 (sk_setS hw hx b1 b2 b3))
theorem wO_link {i : Nat} (h : Cond.methodLink own i objectInit ∈ sw_tb) : Cond.methodLink own i objectInit ∈ sw_tb := h
theorem wO_inst : Cond.instanceMethod objectInit ∈ sw_tb := tb_mem 24 (by decide +kernel) (by decide +kernel)
theorem wO_code : Cond.code objectInit ⟨#[0xb1]⟩ 1 none ∈ sw_tb := tb_mem 25 (by decide +kernel) (by decide +kernel)
theorem sk_obj (S : CallFix p m c cc nL s args (w0 :: sw_tb) own) (hz : ls.size = nL) (hl : Cond.methodLink own index objectInit ∈ sw_tb) (h1 : 1 ≤ R.frames) (h2 : (rest.map fun v => v.category).sum + 12 ≤ R.locals) (hdg : decode cc pc = .ok (.invokespecial index, 3)) (kk : W p l e R s m args below meth c H locs cells slots Q (F0 m (pc + 3) ls rest)) : W p l e R s m args below meth c H locs cells slots Q (F0 m pc ls (.ref a :: rest)) :=
  W.objInit S.1 S.2.1 S.2.2.2.1 (sw_word S hl) (sw_word S wO_inst) (sw_word S wO_code) rfl (hz.trans S.2.2.1.symm) rfl hdg h1 (by show 2 * 0 + _ + 12 ≤ _; omega) kk
theorem sk_vret {U : Type} {u : U} {pst : U → Prop} {cf : U → va_W} {mc ms : Nat} (S : CallFix p m c cc nL s args (w0 :: sw_tb) own) (hr : meth.sig.returnType = none) (hlk : meth.locks = false) (hw : sk_S Γ A Θ ws x s H locs) (hu : pst u) (hx : cf u = x) (hdg : decode cc pc = .ok (.return_, 1)) : W p l e R s m args below meth c H locs mc ms (MQ below (va_Qv pst (fun u t => sk_W Γ A ws (cf u) t) A) args s mc ms A) (F0 m pc ls []) :=
  W.vret S.1 S.2.1 hr (fun t ht hW => ⟨⟨u, rfl, hu, by rw [hx]; exact sk_end hw ht hW⟩, hw.2.2.2.1.F ht⟩) hw.2.2.2.1.2.2 hdg
/-- a constructor's call on the last cell -/
theorem sk_ctor {U : Type} {y : MethodName} {bytes : ByteArray} {maxL k mc ms q : Nat} {rm : Room} {As : List Value} {pst : U → Prop} {cf : U → va_W} {x0 : va_W} {y0 : Nat × va_E} {st0 : List Value} (S : CallFix p m c cc nL s args (w0 :: sw_tb) own) (hΘ : sk_good Θ) (hw : sk_S Γ A Θ ws (x0 ++ [y0]) s H locs)
    (hM : Met l y (Cond.code y bytes maxL none :: sw_tb) rm (va_Pc (.ref q :: As) (sk_V Γ A Θ (ws ++ x0) [y0])) (va_Qv pst (fun u t => sk_W Γ A (ws ++ x0) (cf u) t) A) mc ms A) (hy : sw_y y bytes maxL none k) (hl : Cond.methodLink own index y ∈ sw_tb) (hin : Cond.instanceMethod y ∈ sw_tb) (hnm : y.name = "<init>") (hst : st0 = As.reverse ++ .ref q :: rest) (hn : As.length = k) (hz : ls.size = nL)
    (hro : (rest.map fun v => v.category).sum ≤ 8) (hR : rm.cells = mc ∧ rm.slots = ms ∧ rm.frames + 1 ≤ R.frames ∧ 8 + (maxL + 11) + rm.locals ≤ R.locals) (hf : cells + mc ≤ R.cells ∧ slots + ms ≤ R.slots) (hdg : decode cc pc = .ok (.invokespecial index, 3))
    (kk : ∀ (u : U) (H1 : Heap) (locs1 : List Loc), pst u → sk_S Γ A Θ ws (x0 ++ cf u) s H1 locs1 → W p l e R s m args below meth c H1 locs1 (cells + mc) (slots + ms) Q (F0 m (pc + 3) ls rest)) : W p l e R s m args below meth c H locs cells slots Q (F0 m pc ls st0) := by
  subst hst
  refine va_callv (va_runI (As := As) (rest := rest) S hM ⟨callB_of k S.2.2.2.2 (tb_good hy.1) rfl hR.1 hR.2.1 (sw_word S hy.2.1) (sw_word S hl) hy.2.2 hR.2.2, hnm, sw_word S hin⟩ ⟨sk_blind hΘ, fun V hV hW => ⟨rfl, ⟨by rw [hV, List.append_assoc]; exact hw.1, va_K.moved hW.alike hw.2.1, by rw [List.append_assoc]; exact hw.2.2.1⟩, fun q hq => hw.2.2.2.2.1 q (Nat.le_trans hw.2.2.2.1.1 (by rw [← hV]; exact hq)), hΘ.2 s V hW hw.2.2.2.2.2⟩⟩ rfl hn hz rfl (lv_room hro) hdg hf) hw.2.2.2.1 (fun _ _ h => h) (fun _ h => h) (fun u t H1 locs1 ht hvm hr hB _ _ hS => ?_)
  rw [← ht] at hS ⊢
  have hB1 := hB.1
  have hB2 := hB.2.2
  rw [List.append_assoc] at hB1 hB2
  exact kk u t.heap locs1 hr ⟨hB1, va_K.moved hvm.symm hB.2.1, hB2, hS, hw.2.2.2.2⟩
theorem sk_ctorN {U : Type} {y : MethodName} {host : String} {bytes : ByteArray} {maxL k mc ms q : Nat} {rm : Room} {As : List Value} {pst : U → Prop} {cf : U → va_W} {x0 : va_W} {y0 : Nat × va_E} {st0 : List Value} (S : CallFix p m c cc nL s args (w0 :: sw_tb) own) (hΘ : sk_good Θ) (hw : sk_S Γ A Θ ws (x0 ++ [y0]) s H locs)
    (hM : Met l y (Cond.code y bytes maxL none :: sw_tb) rm (va_Pc (.ref q :: As) (sk_V Γ A Θ (ws ++ x0) [y0])) (va_Qv pst (fun u t => sk_W Γ A (ws ++ x0) (cf u) t) A) mc ms A) (hy : sw_y y bytes maxL none k) (hl : va_Nw (.methodLinkNest own index y host) s) (hin : Cond.instanceMethod y ∈ sw_tb) (hnm : y.name = "<init>") (hst : st0 = As.reverse ++ .ref q :: rest) (hn : As.length = k) (hz : ls.size = nL)
    (hro : (rest.map fun v => v.category).sum ≤ 8) (hR : rm.cells = mc ∧ rm.slots = ms ∧ rm.frames + 1 ≤ R.frames ∧ 8 + (maxL + 11) + rm.locals ≤ R.locals) (hf : cells + mc ≤ R.cells ∧ slots + ms ≤ R.slots) (hdg : decode cc pc = .ok (.invokespecial index, 3))
    (kk : ∀ (u : U) (H1 : Heap) (locs1 : List Loc), pst u → sk_S Γ A Θ ws (x0 ++ cf u) s H1 locs1 → W p l e R s m args below meth c H1 locs1 (cells + mc) (slots + ms) Q (F0 m (pc + 3) ls rest)) : W p l e R s m args below meth c H locs cells slots Q (F0 m pc ls st0) := by
  subst hst
  refine va_callv (va_runIN (As := As) (rest := rest) S hM ⟨va_cnB k S.2.2.2.2 (tb_good hy.1) rfl hR.1 hR.2.1 hl (sw_word S hy.2.1) hy.2.2 hR.2.2, hnm, sw_word S hin⟩ ⟨sk_blind hΘ, fun V hV hW => ⟨rfl, ⟨by rw [hV, List.append_assoc]; exact hw.1, va_K.moved hW.alike hw.2.1, by rw [List.append_assoc]; exact hw.2.2.1⟩, fun q hq => hw.2.2.2.2.1 q (Nat.le_trans hw.2.2.2.1.1 (by rw [← hV]; exact hq)), hΘ.2 s V hW hw.2.2.2.2.2⟩⟩ rfl hn hz rfl (lv_room hro) hdg hf) hw.2.2.2.1 (fun _ _ h => h) (fun _ h => h) (fun u t H1 locs1 ht hvm hr hB _ _ hS => ?_)
  rw [← ht] at hS ⊢
  have hB1 := hB.1
  have hB2 := hB.2.2
  rw [List.append_assoc] at hB1 hB2
  exact kk u t.heap locs1 hr ⟨hB1, va_K.moved hvm.symm hB.2.1, hB2, hS, hw.2.2.2.2⟩
end SKR

def yHi_init : MethodName := ⟨R_Hi, "<init>", "()V"⟩
theorem y_Hi : sw_y yHi_init prog_2_method_1_code 1 none 0 := ⟨tb_mem 96 (by decide +kernel) (by decide +kernel), tb_mem 3 (by decide +kernel) (by decide +kernel), by decide +kernel, by decide +kernel, by decide +kernel⟩
theorem df_Hi : ∀ j, j < 3 → defaultValue (t_Hi j) = vp_V [.int 0, .int 0, .null] j := by decide +kernel
def yJu_init : MethodName := ⟨R_Ju, "<init>", "()V"⟩
theorem y_Ju : sw_y yJu_init prog_3_method_1_code 1 none 0 := ⟨tb_mem 205 (by decide +kernel) (by decide +kernel), tb_mem 7 (by decide +kernel) (by decide +kernel), by decide +kernel, by decide +kernel, by decide +kernel⟩
theorem df_Ju : ∀ j, j < 2 → defaultValue (t_Ju j) = vp_V [.null, .null] j := by decide +kernel
def yPl_init : MethodName := ⟨R_Pl, "<init>", "()V"⟩
theorem y_Pl : sw_y yPl_init prog_4_method_1_code 1 none 0 := ⟨tb_mem 30 (by decide +kernel) (by decide +kernel), tb_mem 2 (by decide +kernel) (by decide +kernel), by decide +kernel, by decide +kernel, by decide +kernel⟩
theorem df_Pl : ∀ j, j < 12 → defaultValue (t_Pl j) = vp_V [.int 0, .null, .null, .null, .null, .int 0, .null, .null, .null, .int 0, .null, .int 0] j := by decide +kernel
def yRe_init : MethodName := ⟨R_Re, "<init>", "()V"⟩
theorem y_Re : sw_y yRe_init prog_5_method_1_code 1 none 0 := ⟨tb_mem 113 (by decide +kernel) (by decide +kernel), tb_mem 4 (by decide +kernel) (by decide +kernel), by decide +kernel, by decide +kernel, by decide +kernel⟩
theorem df_Re : ∀ j, j < 9 → defaultValue (t_Re j) = vp_V [.int 0, .null, .int 0, .null, .int 0, .int 0, .int 0, .int 0, .int 0] j := by decide +kernel
def yRk_init : MethodName := ⟨R_Rk, "<init>", "()V"⟩
theorem y_Rk : sw_y yRk_init prog_6_method_1_code 1 none 0 := ⟨tb_mem 211 (by decide +kernel) (by decide +kernel), tb_mem 8 (by decide +kernel) (by decide +kernel), by decide +kernel, by decide +kernel, by decide +kernel⟩
theorem df_Rk : ∀ j, j < 2 → defaultValue (t_Rk j) = vp_V [.int 0, .null] j := by decide +kernel
def yRo_init : MethodName := ⟨R_Ro, "<init>", "()V"⟩
theorem y_Ro : sw_y yRo_init prog_7_method_1_code 1 none 0 := ⟨tb_mem 236 (by decide +kernel) (by decide +kernel), tb_mem 9 (by decide +kernel) (by decide +kernel), by decide +kernel, by decide +kernel, by decide +kernel⟩
theorem df_Ro : ∀ j, j < 8 → defaultValue (t_Ro j) = vp_V [.null, .null, .null, .null, .null, .null, .int 0, .int 0] j := by decide +kernel
def yTe_init : MethodName := ⟨R_Te, "<init>", "(I)V"⟩
theorem y_Te : sw_y yTe_init prog_8_method_1_code 2 none 1 := ⟨tb_mem 119 (by decide +kernel) (by decide +kernel), tb_mem 5 (by decide +kernel) (by decide +kernel), by decide +kernel, by decide +kernel, by decide +kernel⟩
theorem df_Te : ∀ j, j < 8 → defaultValue (t_Te j) = vp_V [.int 0, .null, .null, .null, .null, .null, .int 0, .null] j := by decide +kernel
def ySx_init : MethodName := ⟨R_Sx, "<init>", "()V"⟩
theorem y_Sx : sw_y ySx_init prog_1_method_1_code 1 none 0 := ⟨tb_mem 22 (by decide +kernel) (by decide +kernel), tb_mem 1 (by decide +kernel) (by decide +kernel), by decide +kernel, by decide +kernel, by decide +kernel⟩
theorem df_Sx : ∀ j, j < 17 → defaultValue (t_Sx j) = vp_V [.null, .null, .null, .null, .null, .null, .null, .null, .null, .null, .null, .null, .null, .null, .int 0, .int 0, .int 0] j := by decide +kernel
def yMo_init : MethodName := ⟨R_Mo, "<init>", "()V"⟩
theorem y_Mo : sw_y yMo_init prog_10_method_12_code 1 none 0 := ⟨tb_mem 988 (by decide +kernel) (by decide +kernel), tb_mem 10 (by decide +kernel) (by decide +kernel), by decide +kernel, by decide +kernel, by decide +kernel⟩
theorem df_Mo : ∀ j, j < 53 → defaultValue (t_Mo j) = vp_V [.int 0, .null, .null, .null, .null, .null, .int 0, .null, .int 0, .int 0, .int 0, .null, .null, .int 0, .int 0, .null, .null, .null, .int 0, .int 0, .int 0, .int 0, .int 0, .int 0, .int 0, .int 0, .null, .int 0, .int 0, .int 0, .null, .null, .null, .int 0, .null, .null, .null, .int 0, .null, .null, .null, .null, .null, .int 0, .int 0, .int 0, .int 0, .int 0, .int 0, .null, .null, .int 0, .int 0] j := by decide +kernel
def sk_O (U : State) : Prop := va_AO R_Te U ∧ va_AO R_Pl U ∧ va_Nw (.methodLinkNest R_Sx 28 yHi_init "SeeSaws") U ∧ va_Nw (.methodLinkNest R_Sx 45 yJu_init "SeeSaws") U ∧ va_Nw (.methodLinkNest R_Ju 11 yRk_init "SeeSaws") U ∧ va_Nw (.methodLinkNest R_Sx 52 yRk_init "SeeSaws") U ∧ va_Nw (.methodLinkNest R_Sx 63 yRo_init "SeeSaws") U
def wdl : List Int32 := [99, 111, 117, 110, 116, 115, 32, 115, 104, 101, 100, 115, 32, 98, 97, 114, 115, 32, 105, 102, 32, 111, 114, 32, 97, 110, 100, 32, 110, 111, 116, 32, 99, 108, 97, 105, 109, 32, 107, 105, 110, 100, 32, 112, 108, 97, 99, 101, 32, 97, 114, 109, 32, 109, 111, 111, 100, 32, 115, 108, 97, 99, 107, 32, 104, 101, 97, 118, 121, 32, 100, 97, 121, 32, 100, 111, 110, 101, 32, 108, 97, 116, 101, 115, 116, 32, 116, 105, 108, 116, 32, 111, 110, 32, 97, 116, 32, 112, 117, 116, 32, 116, 97, 107, 101, 32, 112, 97, 100, 32, 116, 111, 32, 112, 97, 115, 115, 32, 116, 105, 109, 101, 115, 32]
/-- the words' signs, the first k of them laid -/
def wd (k : Nat) : Nat → Int32 := fun j => if j < k then wdl.getD j 0 else 0
theorem wd_n : ∀ k, k < 124 → vp_nar .byte (wdl.getD k 0) = wdl.getD k 0 := by decide +kernel
theorem wd_u (k : Nat) {i v : Int32} (hi : i.toNatClampNeg = k) (hv : vp_nar .byte v = wdl.getD k 0) : upd (wd k) i.toNatClampNeg (vp_nar .byte v) = wd (k + 1) := by
  rw [hi, hv]
  funext j
  unfold upd wd
  by_cases h : j = k
  · subst h; simp
  · by_cases h2 : j < k
    · rw [if_neg h, if_pos h2, if_pos (by omega)]
    · rw [if_neg h, if_neg h2, if_neg (by omega)]
theorem zwa_0 : Cond.arrayClass .int ∈ sw_tb := tb_mem 90 (by decide +kernel) (by decide +kernel)
theorem zwa_1 : Cond.arrayClass .byte ∈ sw_tb := tb_mem 670 (by decide +kernel) (by decide +kernel)
theorem zwa_2 : Cond.arrayClass .boolean ∈ sw_tb := tb_mem 1151 (by decide +kernel) (by decide +kernel)
theorem zwa_3 : Cond.arrayClass .long ∈ sw_tb := tb_mem 222 (by decide +kernel) (by decide +kernel)
theorem zwc_Mo_81c : Cond.constant R_Mo 81 (33608 : Int32) ∈ sw_tb := tb_mem 990 (by decide +kernel) (by decide +kernel)
theorem zwf_Hi_11 : Cond.fieldLink R_Hi 11 R_Hi (F_Hi 2).2.1 (F_Hi 2).2.2.1 ∈ sw_tb := tb_mem 101 (by decide +kernel) (by decide +kernel)
theorem zwf_Ju_12 : Cond.fieldLink R_Ju 12 R_Ju (F_Ju 0).2.1 (F_Ju 0).2.2.1 ∈ sw_tb := tb_mem 223 (by decide +kernel) (by decide +kernel)
theorem zwf_Ju_18 : Cond.fieldLink R_Ju 18 R_Ju (F_Ju 1).2.1 (F_Ju 1).2.2.1 ∈ sw_tb := tb_mem 224 (by decide +kernel) (by decide +kernel)
theorem zwf_Mo_101 : Cond.fieldLink R_Mo 101 R_Mo (F_Mo 43).2.1 (F_Mo 43).2.2.1 ∈ sw_tb := tb_mem 1034 (by decide +kernel) (by decide +kernel)
theorem zwf_Mo_104 : Cond.fieldLink R_Mo 104 R_Mo (F_Mo 49).2.1 (F_Mo 49).2.2.1 ∈ sw_tb := tb_mem 1040 (by decide +kernel) (by decide +kernel)
theorem zwf_Mo_107 : Cond.fieldLink R_Mo 107 R_Mo (F_Mo 50).2.1 (F_Mo 50).2.2.1 ∈ sw_tb := tb_mem 1041 (by decide +kernel) (by decide +kernel)
theorem zwf_Mo_110 : Cond.fieldLink R_Mo 110 R_Mo (F_Mo 51).2.1 (F_Mo 51).2.2.1 ∈ sw_tb := tb_mem 1042 (by decide +kernel) (by decide +kernel)
theorem zwf_Mo_28 : Cond.fieldLink R_Mo 28 R_Mo (F_Mo 2).2.1 (F_Mo 2).2.2.1 ∈ sw_tb := tb_mem 993 (by decide +kernel) (by decide +kernel)
theorem zwf_Mo_31 : Cond.fieldLink R_Mo 31 R_Mo (F_Mo 3).2.1 (F_Mo 3).2.2.1 ∈ sw_tb := tb_mem 994 (by decide +kernel) (by decide +kernel)
theorem zwf_Mo_34 : Cond.fieldLink R_Mo 34 R_Mo (F_Mo 4).2.1 (F_Mo 4).2.2.1 ∈ sw_tb := tb_mem 995 (by decide +kernel) (by decide +kernel)
theorem zwf_Mo_38 : Cond.fieldLink R_Mo 38 R_Mo (F_Mo 5).2.1 (F_Mo 5).2.2.1 ∈ sw_tb := tb_mem 996 (by decide +kernel) (by decide +kernel)
theorem zwf_Mo_41 : Cond.fieldLink R_Mo 41 R_Mo (F_Mo 7).2.1 (F_Mo 7).2.2.1 ∈ sw_tb := tb_mem 998 (by decide +kernel) (by decide +kernel)
theorem zwf_Mo_45 : Cond.fieldLink R_Mo 45 R_Mo (F_Mo 11).2.1 (F_Mo 11).2.2.1 ∈ sw_tb := tb_mem 1002 (by decide +kernel) (by decide +kernel)
theorem zwf_Mo_48 : Cond.fieldLink R_Mo 48 R_Mo (F_Mo 12).2.1 (F_Mo 12).2.2.1 ∈ sw_tb := tb_mem 1003 (by decide +kernel) (by decide +kernel)
theorem zwf_Mo_51 : Cond.fieldLink R_Mo 51 R_Mo (F_Mo 14).2.1 (F_Mo 14).2.2.1 ∈ sw_tb := tb_mem 1005 (by decide +kernel) (by decide +kernel)
theorem zwf_Mo_54 : Cond.fieldLink R_Mo 54 R_Mo (F_Mo 15).2.1 (F_Mo 15).2.2.1 ∈ sw_tb := tb_mem 1006 (by decide +kernel) (by decide +kernel)
theorem zwf_Mo_57 : Cond.fieldLink R_Mo 57 R_Mo (F_Mo 16).2.1 (F_Mo 16).2.2.1 ∈ sw_tb := tb_mem 1007 (by decide +kernel) (by decide +kernel)
theorem zwf_Mo_60 : Cond.fieldLink R_Mo 60 R_Mo (F_Mo 17).2.1 (F_Mo 17).2.2.1 ∈ sw_tb := tb_mem 1008 (by decide +kernel) (by decide +kernel)
theorem zwf_Mo_63 : Cond.fieldLink R_Mo 63 R_Mo (F_Mo 26).2.1 (F_Mo 26).2.2.1 ∈ sw_tb := tb_mem 1017 (by decide +kernel) (by decide +kernel)
theorem zwf_Mo_66 : Cond.fieldLink R_Mo 66 R_Mo (F_Mo 30).2.1 (F_Mo 30).2.2.1 ∈ sw_tb := tb_mem 1021 (by decide +kernel) (by decide +kernel)
theorem zwf_Mo_69 : Cond.fieldLink R_Mo 69 R_Mo (F_Mo 31).2.1 (F_Mo 31).2.2.1 ∈ sw_tb := tb_mem 1022 (by decide +kernel) (by decide +kernel)
theorem zwf_Mo_7 : Cond.fieldLink R_Mo 7 R_Mo (F_Mo 1).2.1 (F_Mo 1).2.2.1 ∈ sw_tb := tb_mem 992 (by decide +kernel) (by decide +kernel)
theorem zwf_Mo_72 : Cond.fieldLink R_Mo 72 R_Mo (F_Mo 32).2.1 (F_Mo 32).2.2.1 ∈ sw_tb := tb_mem 1023 (by decide +kernel) (by decide +kernel)
theorem zwf_Mo_75 : Cond.fieldLink R_Mo 75 R_Mo (F_Mo 34).2.1 (F_Mo 34).2.2.1 ∈ sw_tb := tb_mem 1025 (by decide +kernel) (by decide +kernel)
theorem zwf_Mo_78 : Cond.fieldLink R_Mo 78 R_Mo (F_Mo 35).2.1 (F_Mo 35).2.2.1 ∈ sw_tb := tb_mem 1026 (by decide +kernel) (by decide +kernel)
theorem zwf_Mo_82 : Cond.fieldLink R_Mo 82 R_Mo (F_Mo 36).2.1 (F_Mo 36).2.2.1 ∈ sw_tb := tb_mem 1027 (by decide +kernel) (by decide +kernel)
theorem zwf_Mo_85 : Cond.fieldLink R_Mo 85 R_Mo (F_Mo 38).2.1 (F_Mo 38).2.2.1 ∈ sw_tb := tb_mem 1029 (by decide +kernel) (by decide +kernel)
theorem zwf_Mo_88 : Cond.fieldLink R_Mo 88 R_Mo (F_Mo 39).2.1 (F_Mo 39).2.2.1 ∈ sw_tb := tb_mem 1030 (by decide +kernel) (by decide +kernel)
theorem zwf_Mo_91 : Cond.fieldLink R_Mo 91 R_Mo (F_Mo 40).2.1 (F_Mo 40).2.2.1 ∈ sw_tb := tb_mem 1031 (by decide +kernel) (by decide +kernel)
theorem zwf_Mo_94 : Cond.fieldLink R_Mo 94 R_Mo (F_Mo 41).2.1 (F_Mo 41).2.2.1 ∈ sw_tb := tb_mem 1032 (by decide +kernel) (by decide +kernel)
theorem zwf_Mo_97 : Cond.fieldLink R_Mo 97 R_Mo (F_Mo 42).2.1 (F_Mo 42).2.2.1 ∈ sw_tb := tb_mem 1033 (by decide +kernel) (by decide +kernel)
theorem zwf_Pl_15 : Cond.fieldLink R_Pl 15 R_Pl (F_Pl 2).2.1 (F_Pl 2).2.2.1 ∈ sw_tb := tb_mem 40 (by decide +kernel) (by decide +kernel)
theorem zwf_Pl_18 : Cond.fieldLink R_Pl 18 R_Pl (F_Pl 3).2.1 (F_Pl 3).2.2.1 ∈ sw_tb := tb_mem 43 (by decide +kernel) (by decide +kernel)
theorem zwf_Pl_21 : Cond.fieldLink R_Pl 21 R_Pl (F_Pl 4).2.1 (F_Pl 4).2.2.1 ∈ sw_tb := tb_mem 47 (by decide +kernel) (by decide +kernel)
theorem zwf_Pl_24 : Cond.fieldLink R_Pl 24 R_Pl (F_Pl 6).2.1 (F_Pl 6).2.2.1 ∈ sw_tb := tb_mem 53 (by decide +kernel) (by decide +kernel)
theorem zwf_Pl_27 : Cond.fieldLink R_Pl 27 R_Pl (F_Pl 7).2.1 (F_Pl 7).2.2.1 ∈ sw_tb := tb_mem 55 (by decide +kernel) (by decide +kernel)
theorem zwf_Pl_30 : Cond.fieldLink R_Pl 30 R_Pl (F_Pl 8).2.1 (F_Pl 8).2.2.1 ∈ sw_tb := tb_mem 57 (by decide +kernel) (by decide +kernel)
theorem zwf_Pl_35 : Cond.fieldLink R_Pl 35 R_Pl (F_Pl 10).2.1 (F_Pl 10).2.2.1 ∈ sw_tb := tb_mem 61 (by decide +kernel) (by decide +kernel)
theorem zwf_Pl_39 : Cond.fieldLink R_Pl 39 R_Pl (F_Pl 11).2.1 (F_Pl 11).2.2.1 ∈ sw_tb := tb_mem 62 (by decide +kernel) (by decide +kernel)
theorem zwf_Pl_9 : Cond.fieldLink R_Pl 9 R_Pl (F_Pl 1).2.1 (F_Pl 1).2.2.1 ∈ sw_tb := tb_mem 36 (by decide +kernel) (by decide +kernel)
theorem zwf_Re_20 : Cond.fieldLink R_Re 20 R_Re (F_Re 3).2.1 (F_Re 3).2.2.1 ∈ sw_tb := tb_mem 175 (by decide +kernel) (by decide +kernel)
theorem zwf_Re_24 : Cond.fieldLink R_Re 24 R_Re (F_Re 2).2.1 (F_Re 2).2.2.1 ∈ sw_tb := tb_mem 173 (by decide +kernel) (by decide +kernel)
theorem zwf_Re_9 : Cond.fieldLink R_Re 9 R_Re (F_Re 1).2.1 (F_Re 1).2.2.1 ∈ sw_tb := tb_mem 171 (by decide +kernel) (by decide +kernel)
theorem zwf_Rk_9 : Cond.fieldLink R_Rk 9 R_Rk (F_Rk 1).2.1 (F_Rk 1).2.2.1 ∈ sw_tb := tb_mem 216 (by decide +kernel) (by decide +kernel)
theorem zwf_Te_15 : Cond.fieldLink R_Te 15 R_Te (F_Te 2).2.1 (F_Te 2).2.2.1 ∈ sw_tb := tb_mem 132 (by decide +kernel) (by decide +kernel)
theorem zwf_Te_18 : Cond.fieldLink R_Te 18 R_Te (F_Te 3).2.1 (F_Te 3).2.2.1 ∈ sw_tb := tb_mem 136 (by decide +kernel) (by decide +kernel)
theorem zwf_Te_21 : Cond.fieldLink R_Te 21 R_Te (F_Te 4).2.1 (F_Te 4).2.2.1 ∈ sw_tb := tb_mem 139 (by decide +kernel) (by decide +kernel)
theorem zwf_Te_24 : Cond.fieldLink R_Te 24 R_Te (F_Te 5).2.1 (F_Te 5).2.2.1 ∈ sw_tb := tb_mem 142 (by decide +kernel) (by decide +kernel)
theorem zwf_Te_33 : Cond.fieldLink R_Te 33 R_Te (F_Te 7).2.1 (F_Te 7).2.2.1 ∈ sw_tb := tb_mem 149 (by decide +kernel) (by decide +kernel)
theorem zwf_Te_9 : Cond.fieldLink R_Te 9 R_Te (F_Te 1).2.1 (F_Te 1).2.2.1 ∈ sw_tb := tb_mem 128 (by decide +kernel) (by decide +kernel)
theorem zwi_Rk : Cond.initialized R_Rk ∈ sw_tb := tb_mem 8 (by decide +kernel) (by decide +kernel)
theorem zwi_Te : Cond.initialized R_Te ∈ sw_tb := tb_mem 5 (by decide +kernel) (by decide +kernel)
theorem zwl_Ju_9 : Cond.classLink R_Ju 9 R_Rk ∈ sw_tb := tb_mem 207 (by decide +kernel) (by decide +kernel)
theorem zwl_Pl_33 : Cond.classLink R_Pl 33 R_Te ∈ sw_tb := tb_mem 32 (by decide +kernel) (by decide +kernel)
theorem zwl_Re_15 : Cond.classLink R_Re 15 R_Te ∈ sw_tb := tb_mem 115 (by decide +kernel) (by decide +kernel)
theorem zwm_Re_17 : Cond.methodLink R_Re 17 yTe_init ∈ sw_tb := tb_mem 117 (by decide +kernel) (by decide +kernel)
theorem zwm_Te_27 : Cond.methodLink R_Te 27 Lib.Math.max.name ∈ sw_tb := tb_mem 121 (by decide +kernel) (by decide +kernel)
theorem zwn_Rk : Cond.instantiable R_Rk 2 ∈ sw_tb := tb_mem 208 (by decide +kernel) (by decide +kernel)
theorem zwn_Te : Cond.instantiable R_Te 8 ∈ sw_tb := tb_mem 116 (by decide +kernel) (by decide +kernel)
theorem zwo_Hi_5 : Cond.methodLink R_Hi 5 objectInit ∈ sw_tb := tb_mem 97 (by decide +kernel) (by decide +kernel)
theorem zwo_Ju_3 : Cond.methodLink R_Ju 3 objectInit ∈ sw_tb := tb_mem 206 (by decide +kernel) (by decide +kernel)
theorem zwo_Mo_22 : Cond.methodLink R_Mo 22 objectInit ∈ sw_tb := tb_mem 989 (by decide +kernel) (by decide +kernel)
theorem zwo_Pl_3 : Cond.methodLink R_Pl 3 objectInit ∈ sw_tb := tb_mem 31 (by decide +kernel) (by decide +kernel)
theorem zwo_Re_3 : Cond.methodLink R_Re 3 objectInit ∈ sw_tb := tb_mem 114 (by decide +kernel) (by decide +kernel)
theorem zwo_Rk_3 : Cond.methodLink R_Rk 3 objectInit ∈ sw_tb := tb_mem 212 (by decide +kernel) (by decide +kernel)
theorem zwo_Te_3 : Cond.methodLink R_Te 3 objectInit ∈ sw_tb := tb_mem 120 (by decide +kernel) (by decide +kernel)
theorem zwv_Rk : Cond.instanceMethod yRk_init ∈ sw_tb := tb_mem 210 (by decide +kernel) (by decide +kernel)
theorem zwv_Te : Cond.instanceMethod yTe_init ∈ sw_tb := tb_mem 118 (by decide +kernel) (by decide +kernel)
theorem dHi_init_0 : decode prog_2_method_1_code 0 = .ok (.aload_n 0, 1) := by decide +kernel
theorem dHi_init_1 : decode prog_2_method_1_code 1 = .ok (.invokespecial 5, 3) := by decide +kernel
theorem dHi_init_4 : decode prog_2_method_1_code 4 = .ok (.aload_n 0, 1) := by decide +kernel
theorem dHi_init_5 : decode prog_2_method_1_code 5 = .ok (.sipush 256, 3) := by decide +kernel
theorem dHi_init_8 : decode prog_2_method_1_code 8 = .ok (.newarray .int, 2) := by decide +kernel
theorem dHi_init_10 : decode prog_2_method_1_code 10 = .ok (.putfield 11, 3) := by decide +kernel
theorem dHi_init_13 : decode prog_2_method_1_code 13 = .ok (.return_, 1) := by decide +kernel
theorem dRk_init_0 : decode prog_6_method_1_code 0 = .ok (.aload_n 0, 1) := by decide +kernel
theorem dRk_init_1 : decode prog_6_method_1_code 1 = .ok (.invokespecial 3, 3) := by decide +kernel
theorem dRk_init_4 : decode prog_6_method_1_code 4 = .ok (.aload_n 0, 1) := by decide +kernel
theorem dRk_init_5 : decode prog_6_method_1_code 5 = .ok (.bipush 40, 2) := by decide +kernel
theorem dRk_init_7 : decode prog_6_method_1_code 7 = .ok (.newarray .long, 2) := by decide +kernel
theorem dRk_init_9 : decode prog_6_method_1_code 9 = .ok (.putfield 9, 3) := by decide +kernel
theorem dRk_init_12 : decode prog_6_method_1_code 12 = .ok (.return_, 1) := by decide +kernel
theorem dTe_init_0 : decode prog_8_method_1_code 0 = .ok (.aload_n 0, 1) := by decide +kernel
theorem dTe_init_1 : decode prog_8_method_1_code 1 = .ok (.invokespecial 3, 3) := by decide +kernel
theorem dTe_init_4 : decode prog_8_method_1_code 4 = .ok (.aload_n 0, 1) := by decide +kernel
theorem dTe_init_5 : decode prog_8_method_1_code 5 = .ok (.bipush 12, 2) := by decide +kernel
theorem dTe_init_7 : decode prog_8_method_1_code 7 = .ok (.newarray .int, 2) := by decide +kernel
theorem dTe_init_9 : decode prog_8_method_1_code 9 = .ok (.putfield 9, 3) := by decide +kernel
theorem dTe_init_12 : decode prog_8_method_1_code 12 = .ok (.aload_n 0, 1) := by decide +kernel
theorem dTe_init_13 : decode prog_8_method_1_code 13 = .ok (.bipush 12, 2) := by decide +kernel
theorem dTe_init_15 : decode prog_8_method_1_code 15 = .ok (.newarray .int, 2) := by decide +kernel
theorem dTe_init_17 : decode prog_8_method_1_code 17 = .ok (.putfield 15, 3) := by decide +kernel
theorem dTe_init_20 : decode prog_8_method_1_code 20 = .ok (.aload_n 0, 1) := by decide +kernel
theorem dTe_init_21 : decode prog_8_method_1_code 21 = .ok (.bipush 12, 2) := by decide +kernel
theorem dTe_init_23 : decode prog_8_method_1_code 23 = .ok (.newarray .int, 2) := by decide +kernel
theorem dTe_init_25 : decode prog_8_method_1_code 25 = .ok (.putfield 18, 3) := by decide +kernel
theorem dTe_init_28 : decode prog_8_method_1_code 28 = .ok (.aload_n 0, 1) := by decide +kernel
theorem dTe_init_29 : decode prog_8_method_1_code 29 = .ok (.bipush 12, 2) := by decide +kernel
theorem dTe_init_31 : decode prog_8_method_1_code 31 = .ok (.newarray .int, 2) := by decide +kernel
theorem dTe_init_33 : decode prog_8_method_1_code 33 = .ok (.putfield 21, 3) := by decide +kernel
theorem dTe_init_36 : decode prog_8_method_1_code 36 = .ok (.aload_n 0, 1) := by decide +kernel
theorem dTe_init_37 : decode prog_8_method_1_code 37 = .ok (.bipush 12, 2) := by decide +kernel
theorem dTe_init_39 : decode prog_8_method_1_code 39 = .ok (.newarray .int, 2) := by decide +kernel
theorem dTe_init_41 : decode prog_8_method_1_code 41 = .ok (.putfield 24, 3) := by decide +kernel
theorem dTe_init_44 : decode prog_8_method_1_code 44 = .ok (.aload_n 0, 1) := by decide +kernel
theorem dTe_init_45 : decode prog_8_method_1_code 45 = .ok (.iconst 0, 1) := by decide +kernel
theorem dTe_init_46 : decode prog_8_method_1_code 46 = .ok (.iload_n 1, 1) := by decide +kernel
theorem dTe_init_47 : decode prog_8_method_1_code 47 = .ok (.invokestatic 27, 3) := by decide +kernel
theorem dTe_init_50 : decode prog_8_method_1_code 50 = .ok (.newarray .int, 2) := by decide +kernel
theorem dTe_init_52 : decode prog_8_method_1_code 52 = .ok (.putfield 33, 3) := by decide +kernel
theorem dTe_init_55 : decode prog_8_method_1_code 55 = .ok (.return_, 1) := by decide +kernel
theorem dPl_init_0 : decode prog_4_method_1_code 0 = .ok (.aload_n 0, 1) := by decide +kernel
theorem dPl_init_1 : decode prog_4_method_1_code 1 = .ok (.invokespecial 3, 3) := by decide +kernel
theorem dPl_init_4 : decode prog_4_method_1_code 4 = .ok (.aload_n 0, 1) := by decide +kernel
theorem dPl_init_5 : decode prog_4_method_1_code 5 = .ok (.bipush 7, 2) := by decide +kernel
theorem dPl_init_7 : decode prog_4_method_1_code 7 = .ok (.newarray .int, 2) := by decide +kernel
theorem dPl_init_9 : decode prog_4_method_1_code 9 = .ok (.putfield 9, 3) := by decide +kernel
theorem dPl_init_12 : decode prog_4_method_1_code 12 = .ok (.aload_n 0, 1) := by decide +kernel
theorem dPl_init_13 : decode prog_4_method_1_code 13 = .ok (.bipush 7, 2) := by decide +kernel
theorem dPl_init_15 : decode prog_4_method_1_code 15 = .ok (.newarray .int, 2) := by decide +kernel
theorem dPl_init_17 : decode prog_4_method_1_code 17 = .ok (.putfield 15, 3) := by decide +kernel
theorem dPl_init_20 : decode prog_4_method_1_code 20 = .ok (.aload_n 0, 1) := by decide +kernel
theorem dPl_init_21 : decode prog_4_method_1_code 21 = .ok (.bipush 7, 2) := by decide +kernel
theorem dPl_init_23 : decode prog_4_method_1_code 23 = .ok (.newarray .int, 2) := by decide +kernel
theorem dPl_init_25 : decode prog_4_method_1_code 25 = .ok (.putfield 18, 3) := by decide +kernel
theorem dPl_init_28 : decode prog_4_method_1_code 28 = .ok (.aload_n 0, 1) := by decide +kernel
theorem dPl_init_29 : decode prog_4_method_1_code 29 = .ok (.iconst 4, 1) := by decide +kernel
theorem dPl_init_30 : decode prog_4_method_1_code 30 = .ok (.newarray .int, 2) := by decide +kernel
theorem dPl_init_32 : decode prog_4_method_1_code 32 = .ok (.putfield 21, 3) := by decide +kernel
theorem dPl_init_35 : decode prog_4_method_1_code 35 = .ok (.aload_n 0, 1) := by decide +kernel
theorem dPl_init_36 : decode prog_4_method_1_code 36 = .ok (.bipush 6, 2) := by decide +kernel
theorem dPl_init_38 : decode prog_4_method_1_code 38 = .ok (.newarray .int, 2) := by decide +kernel
theorem dPl_init_40 : decode prog_4_method_1_code 40 = .ok (.putfield 24, 3) := by decide +kernel
theorem dPl_init_43 : decode prog_4_method_1_code 43 = .ok (.aload_n 0, 1) := by decide +kernel
theorem dPl_init_44 : decode prog_4_method_1_code 44 = .ok (.bipush 6, 2) := by decide +kernel
theorem dPl_init_46 : decode prog_4_method_1_code 46 = .ok (.newarray .int, 2) := by decide +kernel
theorem dPl_init_48 : decode prog_4_method_1_code 48 = .ok (.putfield 27, 3) := by decide +kernel
theorem dPl_init_51 : decode prog_4_method_1_code 51 = .ok (.aload_n 0, 1) := by decide +kernel
theorem dPl_init_52 : decode prog_4_method_1_code 52 = .ok (.bipush 6, 2) := by decide +kernel
theorem dPl_init_54 : decode prog_4_method_1_code 54 = .ok (.newarray .int, 2) := by decide +kernel
theorem dPl_init_56 : decode prog_4_method_1_code 56 = .ok (.putfield 30, 3) := by decide +kernel
theorem dPl_init_59 : decode prog_4_method_1_code 59 = .ok (.aload_n 0, 1) := by decide +kernel
theorem dPl_init_60 : decode prog_4_method_1_code 60 = .ok (.bipush 6, 2) := by decide +kernel
theorem dPl_init_62 : decode prog_4_method_1_code 62 = .ok (.anewarray 33, 3) := by decide +kernel
theorem dPl_init_65 : decode prog_4_method_1_code 65 = .ok (.putfield 35, 3) := by decide +kernel
theorem dPl_init_68 : decode prog_4_method_1_code 68 = .ok (.aload_n 0, 1) := by decide +kernel
theorem dPl_init_69 : decode prog_4_method_1_code 69 = .ok (.getfield 21, 3) := by decide +kernel
theorem dPl_init_72 : decode prog_4_method_1_code 72 = .ok (.iconst 1, 1) := by decide +kernel
theorem dPl_init_73 : decode prog_4_method_1_code 73 = .ok (.iconst 1, 1) := by decide +kernel
theorem dPl_init_74 : decode prog_4_method_1_code 74 = .ok (.iastore, 1) := by decide +kernel
theorem dPl_init_75 : decode prog_4_method_1_code 75 = .ok (.aload_n 0, 1) := by decide +kernel
theorem dPl_init_76 : decode prog_4_method_1_code 76 = .ok (.iconst (-1), 1) := by decide +kernel
theorem dPl_init_77 : decode prog_4_method_1_code 77 = .ok (.putfield 39, 3) := by decide +kernel
theorem dPl_init_80 : decode prog_4_method_1_code 80 = .ok (.return_, 1) := by decide +kernel
theorem dJu_init_0 : decode prog_3_method_1_code 0 = .ok (.aload_n 0, 1) := by decide +kernel
theorem dJu_init_1 : decode prog_3_method_1_code 1 = .ok (.invokespecial 3, 3) := by decide +kernel
theorem dJu_init_4 : decode prog_3_method_1_code 4 = .ok (.aload_n 0, 1) := by decide +kernel
theorem dJu_init_5 : decode prog_3_method_1_code 5 = .ok (.new 9, 3) := by decide +kernel
theorem dJu_init_8 : decode prog_3_method_1_code 8 = .ok (.dup, 1) := by decide +kernel
theorem dJu_init_9 : decode prog_3_method_1_code 9 = .ok (.invokespecial 11, 3) := by decide +kernel
theorem dJu_init_12 : decode prog_3_method_1_code 12 = .ok (.putfield 12, 3) := by decide +kernel
theorem dJu_init_15 : decode prog_3_method_1_code 15 = .ok (.aload_n 0, 1) := by decide +kernel
theorem dJu_init_16 : decode prog_3_method_1_code 16 = .ok (.bipush 8, 2) := by decide +kernel
theorem dJu_init_18 : decode prog_3_method_1_code 18 = .ok (.newarray .int, 2) := by decide +kernel
theorem dJu_init_20 : decode prog_3_method_1_code 20 = .ok (.putfield 18, 3) := by decide +kernel
theorem dJu_init_23 : decode prog_3_method_1_code 23 = .ok (.return_, 1) := by decide +kernel
theorem dRe_init_0 : decode prog_5_method_1_code 0 = .ok (.aload_n 0, 1) := by decide +kernel
theorem dRe_init_1 : decode prog_5_method_1_code 1 = .ok (.invokespecial 3, 3) := by decide +kernel
theorem dRe_init_4 : decode prog_5_method_1_code 4 = .ok (.aload_n 0, 1) := by decide +kernel
theorem dRe_init_5 : decode prog_5_method_1_code 5 = .ok (.sipush 400, 3) := by decide +kernel
theorem dRe_init_8 : decode prog_5_method_1_code 8 = .ok (.newarray .int, 2) := by decide +kernel
theorem dRe_init_10 : decode prog_5_method_1_code 10 = .ok (.putfield 9, 3) := by decide +kernel
theorem dRe_init_13 : decode prog_5_method_1_code 13 = .ok (.aload_n 0, 1) := by decide +kernel
theorem dRe_init_14 : decode prog_5_method_1_code 14 = .ok (.new 15, 3) := by decide +kernel
theorem dRe_init_17 : decode prog_5_method_1_code 17 = .ok (.dup, 1) := by decide +kernel
theorem dRe_init_18 : decode prog_5_method_1_code 18 = .ok (.sipush 512, 3) := by decide +kernel
theorem dRe_init_21 : decode prog_5_method_1_code 21 = .ok (.invokespecial 17, 3) := by decide +kernel
theorem dRe_init_24 : decode prog_5_method_1_code 24 = .ok (.putfield 20, 3) := by decide +kernel
theorem dRe_init_27 : decode prog_5_method_1_code 27 = .ok (.aload_n 0, 1) := by decide +kernel
theorem dRe_init_28 : decode prog_5_method_1_code 28 = .ok (.iconst (-1), 1) := by decide +kernel
theorem dRe_init_29 : decode prog_5_method_1_code 29 = .ok (.putfield 24, 3) := by decide +kernel
theorem dRe_init_32 : decode prog_5_method_1_code 32 = .ok (.return_, 1) := by decide +kernel
theorem dMo_init_0 : decode prog_10_method_12_code 0 = .ok (.aload_n 0, 1) := by decide +kernel
theorem dMo_init_1 : decode prog_10_method_12_code 1 = .ok (.invokespecial 22, 3) := by decide +kernel
theorem dMo_init_4 : decode prog_10_method_12_code 4 = .ok (.aload_n 0, 1) := by decide +kernel
theorem dMo_init_5 : decode prog_10_method_12_code 5 = .ok (.bipush 7, 2) := by decide +kernel
theorem dMo_init_7 : decode prog_10_method_12_code 7 = .ok (.newarray .int, 2) := by decide +kernel
theorem dMo_init_9 : decode prog_10_method_12_code 9 = .ok (.putfield 7, 3) := by decide +kernel
theorem dMo_init_12 : decode prog_10_method_12_code 12 = .ok (.aload_n 0, 1) := by decide +kernel
theorem dMo_init_13 : decode prog_10_method_12_code 13 = .ok (.sipush 5654, 3) := by decide +kernel
theorem dMo_init_16 : decode prog_10_method_12_code 16 = .ok (.newarray .int, 2) := by decide +kernel
theorem dMo_init_18 : decode prog_10_method_12_code 18 = .ok (.putfield 28, 3) := by decide +kernel
theorem dMo_init_21 : decode prog_10_method_12_code 21 = .ok (.aload_n 0, 1) := by decide +kernel
theorem dMo_init_22 : decode prog_10_method_12_code 22 = .ok (.sipush 11308, 3) := by decide +kernel
theorem dMo_init_25 : decode prog_10_method_12_code 25 = .ok (.newarray .int, 2) := by decide +kernel
theorem dMo_init_27 : decode prog_10_method_12_code 27 = .ok (.putfield 31, 3) := by decide +kernel
theorem dMo_init_30 : decode prog_10_method_12_code 30 = .ok (.aload_n 0, 1) := by decide +kernel
theorem dMo_init_31 : decode prog_10_method_12_code 31 = .ok (.iconst 2, 1) := by decide +kernel
theorem dMo_init_32 : decode prog_10_method_12_code 32 = .ok (.newarray .boolean, 2) := by decide +kernel
theorem dMo_init_34 : decode prog_10_method_12_code 34 = .ok (.putfield 34, 3) := by decide +kernel
theorem dMo_init_37 : decode prog_10_method_12_code 37 = .ok (.aload_n 0, 1) := by decide +kernel
theorem dMo_init_38 : decode prog_10_method_12_code 38 = .ok (.bipush 30, 2) := by decide +kernel
theorem dMo_init_40 : decode prog_10_method_12_code 40 = .ok (.newarray .int, 2) := by decide +kernel
theorem dMo_init_42 : decode prog_10_method_12_code 42 = .ok (.putfield 38, 3) := by decide +kernel
theorem dMo_init_45 : decode prog_10_method_12_code 45 = .ok (.aload_n 0, 1) := by decide +kernel
theorem dMo_init_46 : decode prog_10_method_12_code 46 = .ok (.bipush 124, 2) := by decide +kernel
theorem dMo_init_48 : decode prog_10_method_12_code 48 = .ok (.newarray .byte, 2) := by decide +kernel
theorem dMo_init_50 : decode prog_10_method_12_code 50 = .ok (.dup, 1) := by decide +kernel
theorem dMo_init_51 : decode prog_10_method_12_code 51 = .ok (.iconst 0, 1) := by decide +kernel
theorem dMo_init_52 : decode prog_10_method_12_code 52 = .ok (.bipush 99, 2) := by decide +kernel
theorem dMo_init_54 : decode prog_10_method_12_code 54 = .ok (.bastore, 1) := by decide +kernel
theorem dMo_init_55 : decode prog_10_method_12_code 55 = .ok (.dup, 1) := by decide +kernel
theorem dMo_init_56 : decode prog_10_method_12_code 56 = .ok (.iconst 1, 1) := by decide +kernel
theorem dMo_init_57 : decode prog_10_method_12_code 57 = .ok (.bipush 111, 2) := by decide +kernel
theorem dMo_init_59 : decode prog_10_method_12_code 59 = .ok (.bastore, 1) := by decide +kernel
theorem dMo_init_60 : decode prog_10_method_12_code 60 = .ok (.dup, 1) := by decide +kernel
theorem dMo_init_61 : decode prog_10_method_12_code 61 = .ok (.iconst 2, 1) := by decide +kernel
theorem dMo_init_62 : decode prog_10_method_12_code 62 = .ok (.bipush 117, 2) := by decide +kernel
theorem dMo_init_64 : decode prog_10_method_12_code 64 = .ok (.bastore, 1) := by decide +kernel
theorem dMo_init_65 : decode prog_10_method_12_code 65 = .ok (.dup, 1) := by decide +kernel
theorem dMo_init_66 : decode prog_10_method_12_code 66 = .ok (.iconst 3, 1) := by decide +kernel
theorem dMo_init_67 : decode prog_10_method_12_code 67 = .ok (.bipush 110, 2) := by decide +kernel
theorem dMo_init_69 : decode prog_10_method_12_code 69 = .ok (.bastore, 1) := by decide +kernel
theorem dMo_init_70 : decode prog_10_method_12_code 70 = .ok (.dup, 1) := by decide +kernel
theorem dMo_init_71 : decode prog_10_method_12_code 71 = .ok (.iconst 4, 1) := by decide +kernel
theorem dMo_init_72 : decode prog_10_method_12_code 72 = .ok (.bipush 116, 2) := by decide +kernel
theorem dMo_init_74 : decode prog_10_method_12_code 74 = .ok (.bastore, 1) := by decide +kernel
theorem dMo_init_75 : decode prog_10_method_12_code 75 = .ok (.dup, 1) := by decide +kernel
theorem dMo_init_76 : decode prog_10_method_12_code 76 = .ok (.iconst 5, 1) := by decide +kernel
theorem dMo_init_77 : decode prog_10_method_12_code 77 = .ok (.bipush 115, 2) := by decide +kernel
theorem dMo_init_79 : decode prog_10_method_12_code 79 = .ok (.bastore, 1) := by decide +kernel
theorem dMo_init_80 : decode prog_10_method_12_code 80 = .ok (.dup, 1) := by decide +kernel
theorem dMo_init_81 : decode prog_10_method_12_code 81 = .ok (.bipush 6, 2) := by decide +kernel
theorem dMo_init_83 : decode prog_10_method_12_code 83 = .ok (.bipush 32, 2) := by decide +kernel
theorem dMo_init_85 : decode prog_10_method_12_code 85 = .ok (.bastore, 1) := by decide +kernel
theorem dMo_init_86 : decode prog_10_method_12_code 86 = .ok (.dup, 1) := by decide +kernel
theorem dMo_init_87 : decode prog_10_method_12_code 87 = .ok (.bipush 7, 2) := by decide +kernel
theorem dMo_init_89 : decode prog_10_method_12_code 89 = .ok (.bipush 115, 2) := by decide +kernel
theorem dMo_init_91 : decode prog_10_method_12_code 91 = .ok (.bastore, 1) := by decide +kernel
theorem dMo_init_92 : decode prog_10_method_12_code 92 = .ok (.dup, 1) := by decide +kernel
theorem dMo_init_93 : decode prog_10_method_12_code 93 = .ok (.bipush 8, 2) := by decide +kernel
theorem dMo_init_95 : decode prog_10_method_12_code 95 = .ok (.bipush 104, 2) := by decide +kernel
theorem dMo_init_97 : decode prog_10_method_12_code 97 = .ok (.bastore, 1) := by decide +kernel
theorem dMo_init_98 : decode prog_10_method_12_code 98 = .ok (.dup, 1) := by decide +kernel
theorem dMo_init_99 : decode prog_10_method_12_code 99 = .ok (.bipush 9, 2) := by decide +kernel
theorem dMo_init_101 : decode prog_10_method_12_code 101 = .ok (.bipush 101, 2) := by decide +kernel
theorem dMo_init_103 : decode prog_10_method_12_code 103 = .ok (.bastore, 1) := by decide +kernel
theorem dMo_init_104 : decode prog_10_method_12_code 104 = .ok (.dup, 1) := by decide +kernel
theorem dMo_init_105 : decode prog_10_method_12_code 105 = .ok (.bipush 10, 2) := by decide +kernel
theorem dMo_init_107 : decode prog_10_method_12_code 107 = .ok (.bipush 100, 2) := by decide +kernel
theorem dMo_init_109 : decode prog_10_method_12_code 109 = .ok (.bastore, 1) := by decide +kernel
theorem dMo_init_110 : decode prog_10_method_12_code 110 = .ok (.dup, 1) := by decide +kernel
theorem dMo_init_111 : decode prog_10_method_12_code 111 = .ok (.bipush 11, 2) := by decide +kernel
theorem dMo_init_113 : decode prog_10_method_12_code 113 = .ok (.bipush 115, 2) := by decide +kernel
theorem dMo_init_115 : decode prog_10_method_12_code 115 = .ok (.bastore, 1) := by decide +kernel
theorem dMo_init_116 : decode prog_10_method_12_code 116 = .ok (.dup, 1) := by decide +kernel
theorem dMo_init_117 : decode prog_10_method_12_code 117 = .ok (.bipush 12, 2) := by decide +kernel
theorem dMo_init_119 : decode prog_10_method_12_code 119 = .ok (.bipush 32, 2) := by decide +kernel
theorem dMo_init_121 : decode prog_10_method_12_code 121 = .ok (.bastore, 1) := by decide +kernel
theorem dMo_init_122 : decode prog_10_method_12_code 122 = .ok (.dup, 1) := by decide +kernel
theorem dMo_init_123 : decode prog_10_method_12_code 123 = .ok (.bipush 13, 2) := by decide +kernel
theorem dMo_init_125 : decode prog_10_method_12_code 125 = .ok (.bipush 98, 2) := by decide +kernel
theorem dMo_init_127 : decode prog_10_method_12_code 127 = .ok (.bastore, 1) := by decide +kernel
theorem dMo_init_128 : decode prog_10_method_12_code 128 = .ok (.dup, 1) := by decide +kernel
theorem dMo_init_129 : decode prog_10_method_12_code 129 = .ok (.bipush 14, 2) := by decide +kernel
theorem dMo_init_131 : decode prog_10_method_12_code 131 = .ok (.bipush 97, 2) := by decide +kernel
theorem dMo_init_133 : decode prog_10_method_12_code 133 = .ok (.bastore, 1) := by decide +kernel
theorem dMo_init_134 : decode prog_10_method_12_code 134 = .ok (.dup, 1) := by decide +kernel
theorem dMo_init_135 : decode prog_10_method_12_code 135 = .ok (.bipush 15, 2) := by decide +kernel
theorem dMo_init_137 : decode prog_10_method_12_code 137 = .ok (.bipush 114, 2) := by decide +kernel
theorem dMo_init_139 : decode prog_10_method_12_code 139 = .ok (.bastore, 1) := by decide +kernel
theorem dMo_init_140 : decode prog_10_method_12_code 140 = .ok (.dup, 1) := by decide +kernel
theorem dMo_init_141 : decode prog_10_method_12_code 141 = .ok (.bipush 16, 2) := by decide +kernel
theorem dMo_init_143 : decode prog_10_method_12_code 143 = .ok (.bipush 115, 2) := by decide +kernel
theorem dMo_init_145 : decode prog_10_method_12_code 145 = .ok (.bastore, 1) := by decide +kernel
theorem dMo_init_146 : decode prog_10_method_12_code 146 = .ok (.dup, 1) := by decide +kernel
theorem dMo_init_147 : decode prog_10_method_12_code 147 = .ok (.bipush 17, 2) := by decide +kernel
theorem dMo_init_149 : decode prog_10_method_12_code 149 = .ok (.bipush 32, 2) := by decide +kernel
theorem dMo_init_151 : decode prog_10_method_12_code 151 = .ok (.bastore, 1) := by decide +kernel
theorem dMo_init_152 : decode prog_10_method_12_code 152 = .ok (.dup, 1) := by decide +kernel
theorem dMo_init_153 : decode prog_10_method_12_code 153 = .ok (.bipush 18, 2) := by decide +kernel
theorem dMo_init_155 : decode prog_10_method_12_code 155 = .ok (.bipush 105, 2) := by decide +kernel
theorem dMo_init_157 : decode prog_10_method_12_code 157 = .ok (.bastore, 1) := by decide +kernel
theorem dMo_init_158 : decode prog_10_method_12_code 158 = .ok (.dup, 1) := by decide +kernel
theorem dMo_init_159 : decode prog_10_method_12_code 159 = .ok (.bipush 19, 2) := by decide +kernel
theorem dMo_init_161 : decode prog_10_method_12_code 161 = .ok (.bipush 102, 2) := by decide +kernel
theorem dMo_init_163 : decode prog_10_method_12_code 163 = .ok (.bastore, 1) := by decide +kernel
theorem dMo_init_164 : decode prog_10_method_12_code 164 = .ok (.dup, 1) := by decide +kernel
theorem dMo_init_165 : decode prog_10_method_12_code 165 = .ok (.bipush 20, 2) := by decide +kernel
theorem dMo_init_167 : decode prog_10_method_12_code 167 = .ok (.bipush 32, 2) := by decide +kernel
theorem dMo_init_169 : decode prog_10_method_12_code 169 = .ok (.bastore, 1) := by decide +kernel
theorem dMo_init_170 : decode prog_10_method_12_code 170 = .ok (.dup, 1) := by decide +kernel
theorem dMo_init_171 : decode prog_10_method_12_code 171 = .ok (.bipush 21, 2) := by decide +kernel
theorem dMo_init_173 : decode prog_10_method_12_code 173 = .ok (.bipush 111, 2) := by decide +kernel
theorem dMo_init_175 : decode prog_10_method_12_code 175 = .ok (.bastore, 1) := by decide +kernel
theorem dMo_init_176 : decode prog_10_method_12_code 176 = .ok (.dup, 1) := by decide +kernel
theorem dMo_init_177 : decode prog_10_method_12_code 177 = .ok (.bipush 22, 2) := by decide +kernel
theorem dMo_init_179 : decode prog_10_method_12_code 179 = .ok (.bipush 114, 2) := by decide +kernel
theorem dMo_init_181 : decode prog_10_method_12_code 181 = .ok (.bastore, 1) := by decide +kernel
theorem dMo_init_182 : decode prog_10_method_12_code 182 = .ok (.dup, 1) := by decide +kernel
theorem dMo_init_183 : decode prog_10_method_12_code 183 = .ok (.bipush 23, 2) := by decide +kernel
theorem dMo_init_185 : decode prog_10_method_12_code 185 = .ok (.bipush 32, 2) := by decide +kernel
theorem dMo_init_187 : decode prog_10_method_12_code 187 = .ok (.bastore, 1) := by decide +kernel
theorem dMo_init_188 : decode prog_10_method_12_code 188 = .ok (.dup, 1) := by decide +kernel
theorem dMo_init_189 : decode prog_10_method_12_code 189 = .ok (.bipush 24, 2) := by decide +kernel
theorem dMo_init_191 : decode prog_10_method_12_code 191 = .ok (.bipush 97, 2) := by decide +kernel
theorem dMo_init_193 : decode prog_10_method_12_code 193 = .ok (.bastore, 1) := by decide +kernel
theorem dMo_init_194 : decode prog_10_method_12_code 194 = .ok (.dup, 1) := by decide +kernel
theorem dMo_init_195 : decode prog_10_method_12_code 195 = .ok (.bipush 25, 2) := by decide +kernel
theorem dMo_init_197 : decode prog_10_method_12_code 197 = .ok (.bipush 110, 2) := by decide +kernel
theorem dMo_init_199 : decode prog_10_method_12_code 199 = .ok (.bastore, 1) := by decide +kernel
theorem dMo_init_200 : decode prog_10_method_12_code 200 = .ok (.dup, 1) := by decide +kernel
theorem dMo_init_201 : decode prog_10_method_12_code 201 = .ok (.bipush 26, 2) := by decide +kernel
theorem dMo_init_203 : decode prog_10_method_12_code 203 = .ok (.bipush 100, 2) := by decide +kernel
theorem dMo_init_205 : decode prog_10_method_12_code 205 = .ok (.bastore, 1) := by decide +kernel
theorem dMo_init_206 : decode prog_10_method_12_code 206 = .ok (.dup, 1) := by decide +kernel
theorem dMo_init_207 : decode prog_10_method_12_code 207 = .ok (.bipush 27, 2) := by decide +kernel
theorem dMo_init_209 : decode prog_10_method_12_code 209 = .ok (.bipush 32, 2) := by decide +kernel
theorem dMo_init_211 : decode prog_10_method_12_code 211 = .ok (.bastore, 1) := by decide +kernel
theorem dMo_init_212 : decode prog_10_method_12_code 212 = .ok (.dup, 1) := by decide +kernel
theorem dMo_init_213 : decode prog_10_method_12_code 213 = .ok (.bipush 28, 2) := by decide +kernel
theorem dMo_init_215 : decode prog_10_method_12_code 215 = .ok (.bipush 110, 2) := by decide +kernel
theorem dMo_init_217 : decode prog_10_method_12_code 217 = .ok (.bastore, 1) := by decide +kernel
theorem dMo_init_218 : decode prog_10_method_12_code 218 = .ok (.dup, 1) := by decide +kernel
theorem dMo_init_219 : decode prog_10_method_12_code 219 = .ok (.bipush 29, 2) := by decide +kernel
theorem dMo_init_221 : decode prog_10_method_12_code 221 = .ok (.bipush 111, 2) := by decide +kernel
theorem dMo_init_223 : decode prog_10_method_12_code 223 = .ok (.bastore, 1) := by decide +kernel
theorem dMo_init_224 : decode prog_10_method_12_code 224 = .ok (.dup, 1) := by decide +kernel
theorem dMo_init_225 : decode prog_10_method_12_code 225 = .ok (.bipush 30, 2) := by decide +kernel
theorem dMo_init_227 : decode prog_10_method_12_code 227 = .ok (.bipush 116, 2) := by decide +kernel
theorem dMo_init_229 : decode prog_10_method_12_code 229 = .ok (.bastore, 1) := by decide +kernel
theorem dMo_init_230 : decode prog_10_method_12_code 230 = .ok (.dup, 1) := by decide +kernel
theorem dMo_init_231 : decode prog_10_method_12_code 231 = .ok (.bipush 31, 2) := by decide +kernel
theorem dMo_init_233 : decode prog_10_method_12_code 233 = .ok (.bipush 32, 2) := by decide +kernel
theorem dMo_init_235 : decode prog_10_method_12_code 235 = .ok (.bastore, 1) := by decide +kernel
theorem dMo_init_236 : decode prog_10_method_12_code 236 = .ok (.dup, 1) := by decide +kernel
theorem dMo_init_237 : decode prog_10_method_12_code 237 = .ok (.bipush 32, 2) := by decide +kernel
theorem dMo_init_239 : decode prog_10_method_12_code 239 = .ok (.bipush 99, 2) := by decide +kernel
theorem dMo_init_241 : decode prog_10_method_12_code 241 = .ok (.bastore, 1) := by decide +kernel
theorem dMo_init_242 : decode prog_10_method_12_code 242 = .ok (.dup, 1) := by decide +kernel
theorem dMo_init_243 : decode prog_10_method_12_code 243 = .ok (.bipush 33, 2) := by decide +kernel
theorem dMo_init_245 : decode prog_10_method_12_code 245 = .ok (.bipush 108, 2) := by decide +kernel
theorem dMo_init_247 : decode prog_10_method_12_code 247 = .ok (.bastore, 1) := by decide +kernel
theorem dMo_init_248 : decode prog_10_method_12_code 248 = .ok (.dup, 1) := by decide +kernel
theorem dMo_init_249 : decode prog_10_method_12_code 249 = .ok (.bipush 34, 2) := by decide +kernel
theorem dMo_init_251 : decode prog_10_method_12_code 251 = .ok (.bipush 97, 2) := by decide +kernel
theorem dMo_init_253 : decode prog_10_method_12_code 253 = .ok (.bastore, 1) := by decide +kernel
theorem dMo_init_254 : decode prog_10_method_12_code 254 = .ok (.dup, 1) := by decide +kernel
theorem dMo_init_255 : decode prog_10_method_12_code 255 = .ok (.bipush 35, 2) := by decide +kernel
theorem dMo_init_257 : decode prog_10_method_12_code 257 = .ok (.bipush 105, 2) := by decide +kernel
theorem dMo_init_259 : decode prog_10_method_12_code 259 = .ok (.bastore, 1) := by decide +kernel
theorem dMo_init_260 : decode prog_10_method_12_code 260 = .ok (.dup, 1) := by decide +kernel
theorem dMo_init_261 : decode prog_10_method_12_code 261 = .ok (.bipush 36, 2) := by decide +kernel
theorem dMo_init_263 : decode prog_10_method_12_code 263 = .ok (.bipush 109, 2) := by decide +kernel
theorem dMo_init_265 : decode prog_10_method_12_code 265 = .ok (.bastore, 1) := by decide +kernel
theorem dMo_init_266 : decode prog_10_method_12_code 266 = .ok (.dup, 1) := by decide +kernel
theorem dMo_init_267 : decode prog_10_method_12_code 267 = .ok (.bipush 37, 2) := by decide +kernel
theorem dMo_init_269 : decode prog_10_method_12_code 269 = .ok (.bipush 32, 2) := by decide +kernel
theorem dMo_init_271 : decode prog_10_method_12_code 271 = .ok (.bastore, 1) := by decide +kernel
theorem dMo_init_272 : decode prog_10_method_12_code 272 = .ok (.dup, 1) := by decide +kernel
theorem dMo_init_273 : decode prog_10_method_12_code 273 = .ok (.bipush 38, 2) := by decide +kernel
theorem dMo_init_275 : decode prog_10_method_12_code 275 = .ok (.bipush 107, 2) := by decide +kernel
theorem dMo_init_277 : decode prog_10_method_12_code 277 = .ok (.bastore, 1) := by decide +kernel
theorem dMo_init_278 : decode prog_10_method_12_code 278 = .ok (.dup, 1) := by decide +kernel
theorem dMo_init_279 : decode prog_10_method_12_code 279 = .ok (.bipush 39, 2) := by decide +kernel
theorem dMo_init_281 : decode prog_10_method_12_code 281 = .ok (.bipush 105, 2) := by decide +kernel
theorem dMo_init_283 : decode prog_10_method_12_code 283 = .ok (.bastore, 1) := by decide +kernel
theorem dMo_init_284 : decode prog_10_method_12_code 284 = .ok (.dup, 1) := by decide +kernel
theorem dMo_init_285 : decode prog_10_method_12_code 285 = .ok (.bipush 40, 2) := by decide +kernel
theorem dMo_init_287 : decode prog_10_method_12_code 287 = .ok (.bipush 110, 2) := by decide +kernel
theorem dMo_init_289 : decode prog_10_method_12_code 289 = .ok (.bastore, 1) := by decide +kernel
theorem dMo_init_290 : decode prog_10_method_12_code 290 = .ok (.dup, 1) := by decide +kernel
theorem dMo_init_291 : decode prog_10_method_12_code 291 = .ok (.bipush 41, 2) := by decide +kernel
theorem dMo_init_293 : decode prog_10_method_12_code 293 = .ok (.bipush 100, 2) := by decide +kernel
theorem dMo_init_295 : decode prog_10_method_12_code 295 = .ok (.bastore, 1) := by decide +kernel
theorem dMo_init_296 : decode prog_10_method_12_code 296 = .ok (.dup, 1) := by decide +kernel
theorem dMo_init_297 : decode prog_10_method_12_code 297 = .ok (.bipush 42, 2) := by decide +kernel
theorem dMo_init_299 : decode prog_10_method_12_code 299 = .ok (.bipush 32, 2) := by decide +kernel
theorem dMo_init_301 : decode prog_10_method_12_code 301 = .ok (.bastore, 1) := by decide +kernel
theorem dMo_init_302 : decode prog_10_method_12_code 302 = .ok (.dup, 1) := by decide +kernel
theorem dMo_init_303 : decode prog_10_method_12_code 303 = .ok (.bipush 43, 2) := by decide +kernel
theorem dMo_init_305 : decode prog_10_method_12_code 305 = .ok (.bipush 112, 2) := by decide +kernel
theorem dMo_init_307 : decode prog_10_method_12_code 307 = .ok (.bastore, 1) := by decide +kernel
theorem dMo_init_308 : decode prog_10_method_12_code 308 = .ok (.dup, 1) := by decide +kernel
theorem dMo_init_309 : decode prog_10_method_12_code 309 = .ok (.bipush 44, 2) := by decide +kernel
theorem dMo_init_311 : decode prog_10_method_12_code 311 = .ok (.bipush 108, 2) := by decide +kernel
theorem dMo_init_313 : decode prog_10_method_12_code 313 = .ok (.bastore, 1) := by decide +kernel
theorem dMo_init_314 : decode prog_10_method_12_code 314 = .ok (.dup, 1) := by decide +kernel
theorem dMo_init_315 : decode prog_10_method_12_code 315 = .ok (.bipush 45, 2) := by decide +kernel
theorem dMo_init_317 : decode prog_10_method_12_code 317 = .ok (.bipush 97, 2) := by decide +kernel
theorem dMo_init_319 : decode prog_10_method_12_code 319 = .ok (.bastore, 1) := by decide +kernel
theorem dMo_init_320 : decode prog_10_method_12_code 320 = .ok (.dup, 1) := by decide +kernel
theorem dMo_init_321 : decode prog_10_method_12_code 321 = .ok (.bipush 46, 2) := by decide +kernel
theorem dMo_init_323 : decode prog_10_method_12_code 323 = .ok (.bipush 99, 2) := by decide +kernel
theorem dMo_init_325 : decode prog_10_method_12_code 325 = .ok (.bastore, 1) := by decide +kernel
theorem dMo_init_326 : decode prog_10_method_12_code 326 = .ok (.dup, 1) := by decide +kernel
theorem dMo_init_327 : decode prog_10_method_12_code 327 = .ok (.bipush 47, 2) := by decide +kernel
theorem dMo_init_329 : decode prog_10_method_12_code 329 = .ok (.bipush 101, 2) := by decide +kernel
theorem dMo_init_331 : decode prog_10_method_12_code 331 = .ok (.bastore, 1) := by decide +kernel
theorem dMo_init_332 : decode prog_10_method_12_code 332 = .ok (.dup, 1) := by decide +kernel
theorem dMo_init_333 : decode prog_10_method_12_code 333 = .ok (.bipush 48, 2) := by decide +kernel
theorem dMo_init_335 : decode prog_10_method_12_code 335 = .ok (.bipush 32, 2) := by decide +kernel
theorem dMo_init_337 : decode prog_10_method_12_code 337 = .ok (.bastore, 1) := by decide +kernel
theorem dMo_init_338 : decode prog_10_method_12_code 338 = .ok (.dup, 1) := by decide +kernel
theorem dMo_init_339 : decode prog_10_method_12_code 339 = .ok (.bipush 49, 2) := by decide +kernel
theorem dMo_init_341 : decode prog_10_method_12_code 341 = .ok (.bipush 97, 2) := by decide +kernel
theorem dMo_init_343 : decode prog_10_method_12_code 343 = .ok (.bastore, 1) := by decide +kernel
theorem dMo_init_344 : decode prog_10_method_12_code 344 = .ok (.dup, 1) := by decide +kernel
theorem dMo_init_345 : decode prog_10_method_12_code 345 = .ok (.bipush 50, 2) := by decide +kernel
theorem dMo_init_347 : decode prog_10_method_12_code 347 = .ok (.bipush 114, 2) := by decide +kernel
theorem dMo_init_349 : decode prog_10_method_12_code 349 = .ok (.bastore, 1) := by decide +kernel
theorem dMo_init_350 : decode prog_10_method_12_code 350 = .ok (.dup, 1) := by decide +kernel
theorem dMo_init_351 : decode prog_10_method_12_code 351 = .ok (.bipush 51, 2) := by decide +kernel
theorem dMo_init_353 : decode prog_10_method_12_code 353 = .ok (.bipush 109, 2) := by decide +kernel
theorem dMo_init_355 : decode prog_10_method_12_code 355 = .ok (.bastore, 1) := by decide +kernel
theorem dMo_init_356 : decode prog_10_method_12_code 356 = .ok (.dup, 1) := by decide +kernel
theorem dMo_init_357 : decode prog_10_method_12_code 357 = .ok (.bipush 52, 2) := by decide +kernel
theorem dMo_init_359 : decode prog_10_method_12_code 359 = .ok (.bipush 32, 2) := by decide +kernel
theorem dMo_init_361 : decode prog_10_method_12_code 361 = .ok (.bastore, 1) := by decide +kernel
theorem dMo_init_362 : decode prog_10_method_12_code 362 = .ok (.dup, 1) := by decide +kernel
theorem dMo_init_363 : decode prog_10_method_12_code 363 = .ok (.bipush 53, 2) := by decide +kernel
theorem dMo_init_365 : decode prog_10_method_12_code 365 = .ok (.bipush 109, 2) := by decide +kernel
theorem dMo_init_367 : decode prog_10_method_12_code 367 = .ok (.bastore, 1) := by decide +kernel
theorem dMo_init_368 : decode prog_10_method_12_code 368 = .ok (.dup, 1) := by decide +kernel
theorem dMo_init_369 : decode prog_10_method_12_code 369 = .ok (.bipush 54, 2) := by decide +kernel
theorem dMo_init_371 : decode prog_10_method_12_code 371 = .ok (.bipush 111, 2) := by decide +kernel
theorem dMo_init_373 : decode prog_10_method_12_code 373 = .ok (.bastore, 1) := by decide +kernel
theorem dMo_init_374 : decode prog_10_method_12_code 374 = .ok (.dup, 1) := by decide +kernel
theorem dMo_init_375 : decode prog_10_method_12_code 375 = .ok (.bipush 55, 2) := by decide +kernel
theorem dMo_init_377 : decode prog_10_method_12_code 377 = .ok (.bipush 111, 2) := by decide +kernel
theorem dMo_init_379 : decode prog_10_method_12_code 379 = .ok (.bastore, 1) := by decide +kernel
theorem dMo_init_380 : decode prog_10_method_12_code 380 = .ok (.dup, 1) := by decide +kernel
theorem dMo_init_381 : decode prog_10_method_12_code 381 = .ok (.bipush 56, 2) := by decide +kernel
theorem dMo_init_383 : decode prog_10_method_12_code 383 = .ok (.bipush 100, 2) := by decide +kernel
theorem dMo_init_385 : decode prog_10_method_12_code 385 = .ok (.bastore, 1) := by decide +kernel
theorem dMo_init_386 : decode prog_10_method_12_code 386 = .ok (.dup, 1) := by decide +kernel
theorem dMo_init_387 : decode prog_10_method_12_code 387 = .ok (.bipush 57, 2) := by decide +kernel
theorem dMo_init_389 : decode prog_10_method_12_code 389 = .ok (.bipush 32, 2) := by decide +kernel
theorem dMo_init_391 : decode prog_10_method_12_code 391 = .ok (.bastore, 1) := by decide +kernel
theorem dMo_init_392 : decode prog_10_method_12_code 392 = .ok (.dup, 1) := by decide +kernel
theorem dMo_init_393 : decode prog_10_method_12_code 393 = .ok (.bipush 58, 2) := by decide +kernel
theorem dMo_init_395 : decode prog_10_method_12_code 395 = .ok (.bipush 115, 2) := by decide +kernel
theorem dMo_init_397 : decode prog_10_method_12_code 397 = .ok (.bastore, 1) := by decide +kernel
theorem dMo_init_398 : decode prog_10_method_12_code 398 = .ok (.dup, 1) := by decide +kernel
theorem dMo_init_399 : decode prog_10_method_12_code 399 = .ok (.bipush 59, 2) := by decide +kernel
theorem dMo_init_401 : decode prog_10_method_12_code 401 = .ok (.bipush 108, 2) := by decide +kernel
theorem dMo_init_403 : decode prog_10_method_12_code 403 = .ok (.bastore, 1) := by decide +kernel
theorem dMo_init_404 : decode prog_10_method_12_code 404 = .ok (.dup, 1) := by decide +kernel
theorem dMo_init_405 : decode prog_10_method_12_code 405 = .ok (.bipush 60, 2) := by decide +kernel
theorem dMo_init_407 : decode prog_10_method_12_code 407 = .ok (.bipush 97, 2) := by decide +kernel
theorem dMo_init_409 : decode prog_10_method_12_code 409 = .ok (.bastore, 1) := by decide +kernel
theorem dMo_init_410 : decode prog_10_method_12_code 410 = .ok (.dup, 1) := by decide +kernel
theorem dMo_init_411 : decode prog_10_method_12_code 411 = .ok (.bipush 61, 2) := by decide +kernel
theorem dMo_init_413 : decode prog_10_method_12_code 413 = .ok (.bipush 99, 2) := by decide +kernel
theorem dMo_init_415 : decode prog_10_method_12_code 415 = .ok (.bastore, 1) := by decide +kernel
theorem dMo_init_416 : decode prog_10_method_12_code 416 = .ok (.dup, 1) := by decide +kernel
theorem dMo_init_417 : decode prog_10_method_12_code 417 = .ok (.bipush 62, 2) := by decide +kernel
theorem dMo_init_419 : decode prog_10_method_12_code 419 = .ok (.bipush 107, 2) := by decide +kernel
theorem dMo_init_421 : decode prog_10_method_12_code 421 = .ok (.bastore, 1) := by decide +kernel
theorem dMo_init_422 : decode prog_10_method_12_code 422 = .ok (.dup, 1) := by decide +kernel
theorem dMo_init_423 : decode prog_10_method_12_code 423 = .ok (.bipush 63, 2) := by decide +kernel
theorem dMo_init_425 : decode prog_10_method_12_code 425 = .ok (.bipush 32, 2) := by decide +kernel
theorem dMo_init_427 : decode prog_10_method_12_code 427 = .ok (.bastore, 1) := by decide +kernel
theorem dMo_init_428 : decode prog_10_method_12_code 428 = .ok (.dup, 1) := by decide +kernel
theorem dMo_init_429 : decode prog_10_method_12_code 429 = .ok (.bipush 64, 2) := by decide +kernel
theorem dMo_init_431 : decode prog_10_method_12_code 431 = .ok (.bipush 104, 2) := by decide +kernel
theorem dMo_init_433 : decode prog_10_method_12_code 433 = .ok (.bastore, 1) := by decide +kernel
theorem dMo_init_434 : decode prog_10_method_12_code 434 = .ok (.dup, 1) := by decide +kernel
theorem dMo_init_435 : decode prog_10_method_12_code 435 = .ok (.bipush 65, 2) := by decide +kernel
theorem dMo_init_437 : decode prog_10_method_12_code 437 = .ok (.bipush 101, 2) := by decide +kernel
theorem dMo_init_439 : decode prog_10_method_12_code 439 = .ok (.bastore, 1) := by decide +kernel
theorem dMo_init_440 : decode prog_10_method_12_code 440 = .ok (.dup, 1) := by decide +kernel
theorem dMo_init_441 : decode prog_10_method_12_code 441 = .ok (.bipush 66, 2) := by decide +kernel
theorem dMo_init_443 : decode prog_10_method_12_code 443 = .ok (.bipush 97, 2) := by decide +kernel
theorem dMo_init_445 : decode prog_10_method_12_code 445 = .ok (.bastore, 1) := by decide +kernel
theorem dMo_init_446 : decode prog_10_method_12_code 446 = .ok (.dup, 1) := by decide +kernel
theorem dMo_init_447 : decode prog_10_method_12_code 447 = .ok (.bipush 67, 2) := by decide +kernel
theorem dMo_init_449 : decode prog_10_method_12_code 449 = .ok (.bipush 118, 2) := by decide +kernel
theorem dMo_init_451 : decode prog_10_method_12_code 451 = .ok (.bastore, 1) := by decide +kernel
theorem dMo_init_452 : decode prog_10_method_12_code 452 = .ok (.dup, 1) := by decide +kernel
theorem dMo_init_453 : decode prog_10_method_12_code 453 = .ok (.bipush 68, 2) := by decide +kernel
theorem dMo_init_455 : decode prog_10_method_12_code 455 = .ok (.bipush 121, 2) := by decide +kernel
theorem dMo_init_457 : decode prog_10_method_12_code 457 = .ok (.bastore, 1) := by decide +kernel
theorem dMo_init_458 : decode prog_10_method_12_code 458 = .ok (.dup, 1) := by decide +kernel
theorem dMo_init_459 : decode prog_10_method_12_code 459 = .ok (.bipush 69, 2) := by decide +kernel
theorem dMo_init_461 : decode prog_10_method_12_code 461 = .ok (.bipush 32, 2) := by decide +kernel
theorem dMo_init_463 : decode prog_10_method_12_code 463 = .ok (.bastore, 1) := by decide +kernel
theorem dMo_init_464 : decode prog_10_method_12_code 464 = .ok (.dup, 1) := by decide +kernel
theorem dMo_init_465 : decode prog_10_method_12_code 465 = .ok (.bipush 70, 2) := by decide +kernel
theorem dMo_init_467 : decode prog_10_method_12_code 467 = .ok (.bipush 100, 2) := by decide +kernel
theorem dMo_init_469 : decode prog_10_method_12_code 469 = .ok (.bastore, 1) := by decide +kernel
theorem dMo_init_470 : decode prog_10_method_12_code 470 = .ok (.dup, 1) := by decide +kernel
theorem dMo_init_471 : decode prog_10_method_12_code 471 = .ok (.bipush 71, 2) := by decide +kernel
theorem dMo_init_473 : decode prog_10_method_12_code 473 = .ok (.bipush 97, 2) := by decide +kernel
theorem dMo_init_475 : decode prog_10_method_12_code 475 = .ok (.bastore, 1) := by decide +kernel
theorem dMo_init_476 : decode prog_10_method_12_code 476 = .ok (.dup, 1) := by decide +kernel
theorem dMo_init_477 : decode prog_10_method_12_code 477 = .ok (.bipush 72, 2) := by decide +kernel
theorem dMo_init_479 : decode prog_10_method_12_code 479 = .ok (.bipush 121, 2) := by decide +kernel
theorem dMo_init_481 : decode prog_10_method_12_code 481 = .ok (.bastore, 1) := by decide +kernel
theorem dMo_init_482 : decode prog_10_method_12_code 482 = .ok (.dup, 1) := by decide +kernel
theorem dMo_init_483 : decode prog_10_method_12_code 483 = .ok (.bipush 73, 2) := by decide +kernel
theorem dMo_init_485 : decode prog_10_method_12_code 485 = .ok (.bipush 32, 2) := by decide +kernel
theorem dMo_init_487 : decode prog_10_method_12_code 487 = .ok (.bastore, 1) := by decide +kernel
theorem dMo_init_488 : decode prog_10_method_12_code 488 = .ok (.dup, 1) := by decide +kernel
theorem dMo_init_489 : decode prog_10_method_12_code 489 = .ok (.bipush 74, 2) := by decide +kernel
theorem dMo_init_491 : decode prog_10_method_12_code 491 = .ok (.bipush 100, 2) := by decide +kernel
theorem dMo_init_493 : decode prog_10_method_12_code 493 = .ok (.bastore, 1) := by decide +kernel
theorem dMo_init_494 : decode prog_10_method_12_code 494 = .ok (.dup, 1) := by decide +kernel
theorem dMo_init_495 : decode prog_10_method_12_code 495 = .ok (.bipush 75, 2) := by decide +kernel
theorem dMo_init_497 : decode prog_10_method_12_code 497 = .ok (.bipush 111, 2) := by decide +kernel
theorem dMo_init_499 : decode prog_10_method_12_code 499 = .ok (.bastore, 1) := by decide +kernel
theorem dMo_init_500 : decode prog_10_method_12_code 500 = .ok (.dup, 1) := by decide +kernel
theorem dMo_init_501 : decode prog_10_method_12_code 501 = .ok (.bipush 76, 2) := by decide +kernel
theorem dMo_init_503 : decode prog_10_method_12_code 503 = .ok (.bipush 110, 2) := by decide +kernel
theorem dMo_init_505 : decode prog_10_method_12_code 505 = .ok (.bastore, 1) := by decide +kernel
theorem dMo_init_506 : decode prog_10_method_12_code 506 = .ok (.dup, 1) := by decide +kernel
theorem dMo_init_507 : decode prog_10_method_12_code 507 = .ok (.bipush 77, 2) := by decide +kernel
theorem dMo_init_509 : decode prog_10_method_12_code 509 = .ok (.bipush 101, 2) := by decide +kernel
theorem dMo_init_511 : decode prog_10_method_12_code 511 = .ok (.bastore, 1) := by decide +kernel
theorem dMo_init_512 : decode prog_10_method_12_code 512 = .ok (.dup, 1) := by decide +kernel
theorem dMo_init_513 : decode prog_10_method_12_code 513 = .ok (.bipush 78, 2) := by decide +kernel
theorem dMo_init_515 : decode prog_10_method_12_code 515 = .ok (.bipush 32, 2) := by decide +kernel
theorem dMo_init_517 : decode prog_10_method_12_code 517 = .ok (.bastore, 1) := by decide +kernel
theorem dMo_init_518 : decode prog_10_method_12_code 518 = .ok (.dup, 1) := by decide +kernel
theorem dMo_init_519 : decode prog_10_method_12_code 519 = .ok (.bipush 79, 2) := by decide +kernel
theorem dMo_init_521 : decode prog_10_method_12_code 521 = .ok (.bipush 108, 2) := by decide +kernel
theorem dMo_init_523 : decode prog_10_method_12_code 523 = .ok (.bastore, 1) := by decide +kernel
theorem dMo_init_524 : decode prog_10_method_12_code 524 = .ok (.dup, 1) := by decide +kernel
theorem dMo_init_525 : decode prog_10_method_12_code 525 = .ok (.bipush 80, 2) := by decide +kernel
theorem dMo_init_527 : decode prog_10_method_12_code 527 = .ok (.bipush 97, 2) := by decide +kernel
theorem dMo_init_529 : decode prog_10_method_12_code 529 = .ok (.bastore, 1) := by decide +kernel
theorem dMo_init_530 : decode prog_10_method_12_code 530 = .ok (.dup, 1) := by decide +kernel
theorem dMo_init_531 : decode prog_10_method_12_code 531 = .ok (.bipush 81, 2) := by decide +kernel
theorem dMo_init_533 : decode prog_10_method_12_code 533 = .ok (.bipush 116, 2) := by decide +kernel
theorem dMo_init_535 : decode prog_10_method_12_code 535 = .ok (.bastore, 1) := by decide +kernel
theorem dMo_init_536 : decode prog_10_method_12_code 536 = .ok (.dup, 1) := by decide +kernel
theorem dMo_init_537 : decode prog_10_method_12_code 537 = .ok (.bipush 82, 2) := by decide +kernel
theorem dMo_init_539 : decode prog_10_method_12_code 539 = .ok (.bipush 101, 2) := by decide +kernel
theorem dMo_init_541 : decode prog_10_method_12_code 541 = .ok (.bastore, 1) := by decide +kernel
theorem dMo_init_542 : decode prog_10_method_12_code 542 = .ok (.dup, 1) := by decide +kernel
theorem dMo_init_543 : decode prog_10_method_12_code 543 = .ok (.bipush 83, 2) := by decide +kernel
theorem dMo_init_545 : decode prog_10_method_12_code 545 = .ok (.bipush 115, 2) := by decide +kernel
theorem dMo_init_547 : decode prog_10_method_12_code 547 = .ok (.bastore, 1) := by decide +kernel
theorem dMo_init_548 : decode prog_10_method_12_code 548 = .ok (.dup, 1) := by decide +kernel
theorem dMo_init_549 : decode prog_10_method_12_code 549 = .ok (.bipush 84, 2) := by decide +kernel
theorem dMo_init_551 : decode prog_10_method_12_code 551 = .ok (.bipush 116, 2) := by decide +kernel
theorem dMo_init_553 : decode prog_10_method_12_code 553 = .ok (.bastore, 1) := by decide +kernel
theorem dMo_init_554 : decode prog_10_method_12_code 554 = .ok (.dup, 1) := by decide +kernel
theorem dMo_init_555 : decode prog_10_method_12_code 555 = .ok (.bipush 85, 2) := by decide +kernel
theorem dMo_init_557 : decode prog_10_method_12_code 557 = .ok (.bipush 32, 2) := by decide +kernel
theorem dMo_init_559 : decode prog_10_method_12_code 559 = .ok (.bastore, 1) := by decide +kernel
theorem dMo_init_560 : decode prog_10_method_12_code 560 = .ok (.dup, 1) := by decide +kernel
theorem dMo_init_561 : decode prog_10_method_12_code 561 = .ok (.bipush 86, 2) := by decide +kernel
theorem dMo_init_563 : decode prog_10_method_12_code 563 = .ok (.bipush 116, 2) := by decide +kernel
theorem dMo_init_565 : decode prog_10_method_12_code 565 = .ok (.bastore, 1) := by decide +kernel
theorem dMo_init_566 : decode prog_10_method_12_code 566 = .ok (.dup, 1) := by decide +kernel
theorem dMo_init_567 : decode prog_10_method_12_code 567 = .ok (.bipush 87, 2) := by decide +kernel
theorem dMo_init_569 : decode prog_10_method_12_code 569 = .ok (.bipush 105, 2) := by decide +kernel
theorem dMo_init_571 : decode prog_10_method_12_code 571 = .ok (.bastore, 1) := by decide +kernel
theorem dMo_init_572 : decode prog_10_method_12_code 572 = .ok (.dup, 1) := by decide +kernel
theorem dMo_init_573 : decode prog_10_method_12_code 573 = .ok (.bipush 88, 2) := by decide +kernel
theorem dMo_init_575 : decode prog_10_method_12_code 575 = .ok (.bipush 108, 2) := by decide +kernel
theorem dMo_init_577 : decode prog_10_method_12_code 577 = .ok (.bastore, 1) := by decide +kernel
theorem dMo_init_578 : decode prog_10_method_12_code 578 = .ok (.dup, 1) := by decide +kernel
theorem dMo_init_579 : decode prog_10_method_12_code 579 = .ok (.bipush 89, 2) := by decide +kernel
theorem dMo_init_581 : decode prog_10_method_12_code 581 = .ok (.bipush 116, 2) := by decide +kernel
theorem dMo_init_583 : decode prog_10_method_12_code 583 = .ok (.bastore, 1) := by decide +kernel
theorem dMo_init_584 : decode prog_10_method_12_code 584 = .ok (.dup, 1) := by decide +kernel
theorem dMo_init_585 : decode prog_10_method_12_code 585 = .ok (.bipush 90, 2) := by decide +kernel
theorem dMo_init_587 : decode prog_10_method_12_code 587 = .ok (.bipush 32, 2) := by decide +kernel
theorem dMo_init_589 : decode prog_10_method_12_code 589 = .ok (.bastore, 1) := by decide +kernel
theorem dMo_init_590 : decode prog_10_method_12_code 590 = .ok (.dup, 1) := by decide +kernel
theorem dMo_init_591 : decode prog_10_method_12_code 591 = .ok (.bipush 91, 2) := by decide +kernel
theorem dMo_init_593 : decode prog_10_method_12_code 593 = .ok (.bipush 111, 2) := by decide +kernel
theorem dMo_init_595 : decode prog_10_method_12_code 595 = .ok (.bastore, 1) := by decide +kernel
theorem dMo_init_596 : decode prog_10_method_12_code 596 = .ok (.dup, 1) := by decide +kernel
theorem dMo_init_597 : decode prog_10_method_12_code 597 = .ok (.bipush 92, 2) := by decide +kernel
theorem dMo_init_599 : decode prog_10_method_12_code 599 = .ok (.bipush 110, 2) := by decide +kernel
theorem dMo_init_601 : decode prog_10_method_12_code 601 = .ok (.bastore, 1) := by decide +kernel
theorem dMo_init_602 : decode prog_10_method_12_code 602 = .ok (.dup, 1) := by decide +kernel
theorem dMo_init_603 : decode prog_10_method_12_code 603 = .ok (.bipush 93, 2) := by decide +kernel
theorem dMo_init_605 : decode prog_10_method_12_code 605 = .ok (.bipush 32, 2) := by decide +kernel
theorem dMo_init_607 : decode prog_10_method_12_code 607 = .ok (.bastore, 1) := by decide +kernel
theorem dMo_init_608 : decode prog_10_method_12_code 608 = .ok (.dup, 1) := by decide +kernel
theorem dMo_init_609 : decode prog_10_method_12_code 609 = .ok (.bipush 94, 2) := by decide +kernel
theorem dMo_init_611 : decode prog_10_method_12_code 611 = .ok (.bipush 97, 2) := by decide +kernel
theorem dMo_init_613 : decode prog_10_method_12_code 613 = .ok (.bastore, 1) := by decide +kernel
theorem dMo_init_614 : decode prog_10_method_12_code 614 = .ok (.dup, 1) := by decide +kernel
theorem dMo_init_615 : decode prog_10_method_12_code 615 = .ok (.bipush 95, 2) := by decide +kernel
theorem dMo_init_617 : decode prog_10_method_12_code 617 = .ok (.bipush 116, 2) := by decide +kernel
theorem dMo_init_619 : decode prog_10_method_12_code 619 = .ok (.bastore, 1) := by decide +kernel
theorem dMo_init_620 : decode prog_10_method_12_code 620 = .ok (.dup, 1) := by decide +kernel
theorem dMo_init_621 : decode prog_10_method_12_code 621 = .ok (.bipush 96, 2) := by decide +kernel
theorem dMo_init_623 : decode prog_10_method_12_code 623 = .ok (.bipush 32, 2) := by decide +kernel
theorem dMo_init_625 : decode prog_10_method_12_code 625 = .ok (.bastore, 1) := by decide +kernel
theorem dMo_init_626 : decode prog_10_method_12_code 626 = .ok (.dup, 1) := by decide +kernel
theorem dMo_init_627 : decode prog_10_method_12_code 627 = .ok (.bipush 97, 2) := by decide +kernel
theorem dMo_init_629 : decode prog_10_method_12_code 629 = .ok (.bipush 112, 2) := by decide +kernel
theorem dMo_init_631 : decode prog_10_method_12_code 631 = .ok (.bastore, 1) := by decide +kernel
theorem dMo_init_632 : decode prog_10_method_12_code 632 = .ok (.dup, 1) := by decide +kernel
theorem dMo_init_633 : decode prog_10_method_12_code 633 = .ok (.bipush 98, 2) := by decide +kernel
theorem dMo_init_635 : decode prog_10_method_12_code 635 = .ok (.bipush 117, 2) := by decide +kernel
theorem dMo_init_637 : decode prog_10_method_12_code 637 = .ok (.bastore, 1) := by decide +kernel
theorem dMo_init_638 : decode prog_10_method_12_code 638 = .ok (.dup, 1) := by decide +kernel
theorem dMo_init_639 : decode prog_10_method_12_code 639 = .ok (.bipush 99, 2) := by decide +kernel
theorem dMo_init_641 : decode prog_10_method_12_code 641 = .ok (.bipush 116, 2) := by decide +kernel
theorem dMo_init_643 : decode prog_10_method_12_code 643 = .ok (.bastore, 1) := by decide +kernel
theorem dMo_init_644 : decode prog_10_method_12_code 644 = .ok (.dup, 1) := by decide +kernel
theorem dMo_init_645 : decode prog_10_method_12_code 645 = .ok (.bipush 100, 2) := by decide +kernel
theorem dMo_init_647 : decode prog_10_method_12_code 647 = .ok (.bipush 32, 2) := by decide +kernel
theorem dMo_init_649 : decode prog_10_method_12_code 649 = .ok (.bastore, 1) := by decide +kernel
theorem dMo_init_650 : decode prog_10_method_12_code 650 = .ok (.dup, 1) := by decide +kernel
theorem dMo_init_651 : decode prog_10_method_12_code 651 = .ok (.bipush 101, 2) := by decide +kernel
theorem dMo_init_653 : decode prog_10_method_12_code 653 = .ok (.bipush 116, 2) := by decide +kernel
theorem dMo_init_655 : decode prog_10_method_12_code 655 = .ok (.bastore, 1) := by decide +kernel
theorem dMo_init_656 : decode prog_10_method_12_code 656 = .ok (.dup, 1) := by decide +kernel
theorem dMo_init_657 : decode prog_10_method_12_code 657 = .ok (.bipush 102, 2) := by decide +kernel
theorem dMo_init_659 : decode prog_10_method_12_code 659 = .ok (.bipush 97, 2) := by decide +kernel
theorem dMo_init_661 : decode prog_10_method_12_code 661 = .ok (.bastore, 1) := by decide +kernel
theorem dMo_init_662 : decode prog_10_method_12_code 662 = .ok (.dup, 1) := by decide +kernel
theorem dMo_init_663 : decode prog_10_method_12_code 663 = .ok (.bipush 103, 2) := by decide +kernel
theorem dMo_init_665 : decode prog_10_method_12_code 665 = .ok (.bipush 107, 2) := by decide +kernel
theorem dMo_init_667 : decode prog_10_method_12_code 667 = .ok (.bastore, 1) := by decide +kernel
theorem dMo_init_668 : decode prog_10_method_12_code 668 = .ok (.dup, 1) := by decide +kernel
theorem dMo_init_669 : decode prog_10_method_12_code 669 = .ok (.bipush 104, 2) := by decide +kernel
theorem dMo_init_671 : decode prog_10_method_12_code 671 = .ok (.bipush 101, 2) := by decide +kernel
theorem dMo_init_673 : decode prog_10_method_12_code 673 = .ok (.bastore, 1) := by decide +kernel
theorem dMo_init_674 : decode prog_10_method_12_code 674 = .ok (.dup, 1) := by decide +kernel
theorem dMo_init_675 : decode prog_10_method_12_code 675 = .ok (.bipush 105, 2) := by decide +kernel
theorem dMo_init_677 : decode prog_10_method_12_code 677 = .ok (.bipush 32, 2) := by decide +kernel
theorem dMo_init_679 : decode prog_10_method_12_code 679 = .ok (.bastore, 1) := by decide +kernel
theorem dMo_init_680 : decode prog_10_method_12_code 680 = .ok (.dup, 1) := by decide +kernel
theorem dMo_init_681 : decode prog_10_method_12_code 681 = .ok (.bipush 106, 2) := by decide +kernel
theorem dMo_init_683 : decode prog_10_method_12_code 683 = .ok (.bipush 112, 2) := by decide +kernel
theorem dMo_init_685 : decode prog_10_method_12_code 685 = .ok (.bastore, 1) := by decide +kernel
theorem dMo_init_686 : decode prog_10_method_12_code 686 = .ok (.dup, 1) := by decide +kernel
theorem dMo_init_687 : decode prog_10_method_12_code 687 = .ok (.bipush 107, 2) := by decide +kernel
theorem dMo_init_689 : decode prog_10_method_12_code 689 = .ok (.bipush 97, 2) := by decide +kernel
theorem dMo_init_691 : decode prog_10_method_12_code 691 = .ok (.bastore, 1) := by decide +kernel
theorem dMo_init_692 : decode prog_10_method_12_code 692 = .ok (.dup, 1) := by decide +kernel
theorem dMo_init_693 : decode prog_10_method_12_code 693 = .ok (.bipush 108, 2) := by decide +kernel
theorem dMo_init_695 : decode prog_10_method_12_code 695 = .ok (.bipush 100, 2) := by decide +kernel
theorem dMo_init_697 : decode prog_10_method_12_code 697 = .ok (.bastore, 1) := by decide +kernel
theorem dMo_init_698 : decode prog_10_method_12_code 698 = .ok (.dup, 1) := by decide +kernel
theorem dMo_init_699 : decode prog_10_method_12_code 699 = .ok (.bipush 109, 2) := by decide +kernel
theorem dMo_init_701 : decode prog_10_method_12_code 701 = .ok (.bipush 32, 2) := by decide +kernel
theorem dMo_init_703 : decode prog_10_method_12_code 703 = .ok (.bastore, 1) := by decide +kernel
theorem dMo_init_704 : decode prog_10_method_12_code 704 = .ok (.dup, 1) := by decide +kernel
theorem dMo_init_705 : decode prog_10_method_12_code 705 = .ok (.bipush 110, 2) := by decide +kernel
theorem dMo_init_707 : decode prog_10_method_12_code 707 = .ok (.bipush 116, 2) := by decide +kernel
theorem dMo_init_709 : decode prog_10_method_12_code 709 = .ok (.bastore, 1) := by decide +kernel
theorem dMo_init_710 : decode prog_10_method_12_code 710 = .ok (.dup, 1) := by decide +kernel
theorem dMo_init_711 : decode prog_10_method_12_code 711 = .ok (.bipush 111, 2) := by decide +kernel
theorem dMo_init_713 : decode prog_10_method_12_code 713 = .ok (.bipush 111, 2) := by decide +kernel
theorem dMo_init_715 : decode prog_10_method_12_code 715 = .ok (.bastore, 1) := by decide +kernel
theorem dMo_init_716 : decode prog_10_method_12_code 716 = .ok (.dup, 1) := by decide +kernel
theorem dMo_init_717 : decode prog_10_method_12_code 717 = .ok (.bipush 112, 2) := by decide +kernel
theorem dMo_init_719 : decode prog_10_method_12_code 719 = .ok (.bipush 32, 2) := by decide +kernel
theorem dMo_init_721 : decode prog_10_method_12_code 721 = .ok (.bastore, 1) := by decide +kernel
theorem dMo_init_722 : decode prog_10_method_12_code 722 = .ok (.dup, 1) := by decide +kernel
theorem dMo_init_723 : decode prog_10_method_12_code 723 = .ok (.bipush 113, 2) := by decide +kernel
theorem dMo_init_725 : decode prog_10_method_12_code 725 = .ok (.bipush 112, 2) := by decide +kernel
theorem dMo_init_727 : decode prog_10_method_12_code 727 = .ok (.bastore, 1) := by decide +kernel
theorem dMo_init_728 : decode prog_10_method_12_code 728 = .ok (.dup, 1) := by decide +kernel
theorem dMo_init_729 : decode prog_10_method_12_code 729 = .ok (.bipush 114, 2) := by decide +kernel
theorem dMo_init_731 : decode prog_10_method_12_code 731 = .ok (.bipush 97, 2) := by decide +kernel
theorem dMo_init_733 : decode prog_10_method_12_code 733 = .ok (.bastore, 1) := by decide +kernel
theorem dMo_init_734 : decode prog_10_method_12_code 734 = .ok (.dup, 1) := by decide +kernel
theorem dMo_init_735 : decode prog_10_method_12_code 735 = .ok (.bipush 115, 2) := by decide +kernel
theorem dMo_init_737 : decode prog_10_method_12_code 737 = .ok (.bipush 115, 2) := by decide +kernel
theorem dMo_init_739 : decode prog_10_method_12_code 739 = .ok (.bastore, 1) := by decide +kernel
theorem dMo_init_740 : decode prog_10_method_12_code 740 = .ok (.dup, 1) := by decide +kernel
theorem dMo_init_741 : decode prog_10_method_12_code 741 = .ok (.bipush 116, 2) := by decide +kernel
theorem dMo_init_743 : decode prog_10_method_12_code 743 = .ok (.bipush 115, 2) := by decide +kernel
theorem dMo_init_745 : decode prog_10_method_12_code 745 = .ok (.bastore, 1) := by decide +kernel
theorem dMo_init_746 : decode prog_10_method_12_code 746 = .ok (.dup, 1) := by decide +kernel
theorem dMo_init_747 : decode prog_10_method_12_code 747 = .ok (.bipush 117, 2) := by decide +kernel
theorem dMo_init_749 : decode prog_10_method_12_code 749 = .ok (.bipush 32, 2) := by decide +kernel
theorem dMo_init_751 : decode prog_10_method_12_code 751 = .ok (.bastore, 1) := by decide +kernel
theorem dMo_init_752 : decode prog_10_method_12_code 752 = .ok (.dup, 1) := by decide +kernel
theorem dMo_init_753 : decode prog_10_method_12_code 753 = .ok (.bipush 118, 2) := by decide +kernel
theorem dMo_init_755 : decode prog_10_method_12_code 755 = .ok (.bipush 116, 2) := by decide +kernel
theorem dMo_init_757 : decode prog_10_method_12_code 757 = .ok (.bastore, 1) := by decide +kernel
theorem dMo_init_758 : decode prog_10_method_12_code 758 = .ok (.dup, 1) := by decide +kernel
theorem dMo_init_759 : decode prog_10_method_12_code 759 = .ok (.bipush 119, 2) := by decide +kernel
theorem dMo_init_761 : decode prog_10_method_12_code 761 = .ok (.bipush 105, 2) := by decide +kernel
theorem dMo_init_763 : decode prog_10_method_12_code 763 = .ok (.bastore, 1) := by decide +kernel
theorem dMo_init_764 : decode prog_10_method_12_code 764 = .ok (.dup, 1) := by decide +kernel
theorem dMo_init_765 : decode prog_10_method_12_code 765 = .ok (.bipush 120, 2) := by decide +kernel
theorem dMo_init_767 : decode prog_10_method_12_code 767 = .ok (.bipush 109, 2) := by decide +kernel
theorem dMo_init_769 : decode prog_10_method_12_code 769 = .ok (.bastore, 1) := by decide +kernel
theorem dMo_init_770 : decode prog_10_method_12_code 770 = .ok (.dup, 1) := by decide +kernel
theorem dMo_init_771 : decode prog_10_method_12_code 771 = .ok (.bipush 121, 2) := by decide +kernel
theorem dMo_init_773 : decode prog_10_method_12_code 773 = .ok (.bipush 101, 2) := by decide +kernel
theorem dMo_init_775 : decode prog_10_method_12_code 775 = .ok (.bastore, 1) := by decide +kernel
theorem dMo_init_776 : decode prog_10_method_12_code 776 = .ok (.dup, 1) := by decide +kernel
theorem dMo_init_777 : decode prog_10_method_12_code 777 = .ok (.bipush 122, 2) := by decide +kernel
theorem dMo_init_779 : decode prog_10_method_12_code 779 = .ok (.bipush 115, 2) := by decide +kernel
theorem dMo_init_781 : decode prog_10_method_12_code 781 = .ok (.bastore, 1) := by decide +kernel
theorem dMo_init_782 : decode prog_10_method_12_code 782 = .ok (.dup, 1) := by decide +kernel
theorem dMo_init_783 : decode prog_10_method_12_code 783 = .ok (.bipush 123, 2) := by decide +kernel
theorem dMo_init_785 : decode prog_10_method_12_code 785 = .ok (.bipush 32, 2) := by decide +kernel
theorem dMo_init_787 : decode prog_10_method_12_code 787 = .ok (.bastore, 1) := by decide +kernel
theorem dMo_init_788 : decode prog_10_method_12_code 788 = .ok (.putfield 41, 3) := by decide +kernel
theorem dMo_init_791 : decode prog_10_method_12_code 791 = .ok (.aload_n 0, 1) := by decide +kernel
theorem dMo_init_792 : decode prog_10_method_12_code 792 = .ok (.sipush 400, 3) := by decide +kernel
theorem dMo_init_795 : decode prog_10_method_12_code 795 = .ok (.newarray .byte, 2) := by decide +kernel
theorem dMo_init_797 : decode prog_10_method_12_code 797 = .ok (.putfield 45, 3) := by decide +kernel
theorem dMo_init_800 : decode prog_10_method_12_code 800 = .ok (.aload_n 0, 1) := by decide +kernel
theorem dMo_init_801 : decode prog_10_method_12_code 801 = .ok (.iconst 5, 1) := by decide +kernel
theorem dMo_init_802 : decode prog_10_method_12_code 802 = .ok (.newarray .int, 2) := by decide +kernel
theorem dMo_init_804 : decode prog_10_method_12_code 804 = .ok (.putfield 48, 3) := by decide +kernel
theorem dMo_init_807 : decode prog_10_method_12_code 807 = .ok (.aload_n 0, 1) := by decide +kernel
theorem dMo_init_808 : decode prog_10_method_12_code 808 = .ok (.iconst (-1), 1) := by decide +kernel
theorem dMo_init_809 : decode prog_10_method_12_code 809 = .ok (.putfield 51, 3) := by decide +kernel
theorem dMo_init_812 : decode prog_10_method_12_code 812 = .ok (.aload_n 0, 1) := by decide +kernel
theorem dMo_init_813 : decode prog_10_method_12_code 813 = .ok (.sipush 401, 3) := by decide +kernel
theorem dMo_init_816 : decode prog_10_method_12_code 816 = .ok (.newarray .int, 2) := by decide +kernel
theorem dMo_init_818 : decode prog_10_method_12_code 818 = .ok (.putfield 54, 3) := by decide +kernel
theorem dMo_init_821 : decode prog_10_method_12_code 821 = .ok (.aload_n 0, 1) := by decide +kernel
theorem dMo_init_822 : decode prog_10_method_12_code 822 = .ok (.sipush 401, 3) := by decide +kernel
theorem dMo_init_825 : decode prog_10_method_12_code 825 = .ok (.newarray .int, 2) := by decide +kernel
theorem dMo_init_827 : decode prog_10_method_12_code 827 = .ok (.putfield 57, 3) := by decide +kernel
theorem dMo_init_830 : decode prog_10_method_12_code 830 = .ok (.aload_n 0, 1) := by decide +kernel
theorem dMo_init_831 : decode prog_10_method_12_code 831 = .ok (.sipush 401, 3) := by decide +kernel
theorem dMo_init_834 : decode prog_10_method_12_code 834 = .ok (.newarray .int, 2) := by decide +kernel
theorem dMo_init_836 : decode prog_10_method_12_code 836 = .ok (.putfield 60, 3) := by decide +kernel
theorem dMo_init_839 : decode prog_10_method_12_code 839 = .ok (.aload_n 0, 1) := by decide +kernel
theorem dMo_init_840 : decode prog_10_method_12_code 840 = .ok (.bipush 8, 2) := by decide +kernel
theorem dMo_init_842 : decode prog_10_method_12_code 842 = .ok (.newarray .int, 2) := by decide +kernel
theorem dMo_init_844 : decode prog_10_method_12_code 844 = .ok (.putfield 63, 3) := by decide +kernel
theorem dMo_init_847 : decode prog_10_method_12_code 847 = .ok (.aload_n 0, 1) := by decide +kernel
theorem dMo_init_848 : decode prog_10_method_12_code 848 = .ok (.bipush 7, 2) := by decide +kernel
theorem dMo_init_850 : decode prog_10_method_12_code 850 = .ok (.newarray .int, 2) := by decide +kernel
theorem dMo_init_852 : decode prog_10_method_12_code 852 = .ok (.putfield 66, 3) := by decide +kernel
theorem dMo_init_855 : decode prog_10_method_12_code 855 = .ok (.aload_n 0, 1) := by decide +kernel
theorem dMo_init_856 : decode prog_10_method_12_code 856 = .ok (.sipush 256, 3) := by decide +kernel
theorem dMo_init_859 : decode prog_10_method_12_code 859 = .ok (.newarray .int, 2) := by decide +kernel
theorem dMo_init_861 : decode prog_10_method_12_code 861 = .ok (.putfield 69, 3) := by decide +kernel
theorem dMo_init_864 : decode prog_10_method_12_code 864 = .ok (.aload_n 0, 1) := by decide +kernel
theorem dMo_init_865 : decode prog_10_method_12_code 865 = .ok (.sipush 256, 3) := by decide +kernel
theorem dMo_init_868 : decode prog_10_method_12_code 868 = .ok (.newarray .int, 2) := by decide +kernel
theorem dMo_init_870 : decode prog_10_method_12_code 870 = .ok (.putfield 72, 3) := by decide +kernel
theorem dMo_init_873 : decode prog_10_method_12_code 873 = .ok (.aload_n 0, 1) := by decide +kernel
theorem dMo_init_874 : decode prog_10_method_12_code 874 = .ok (.bipush 49, 2) := by decide +kernel
theorem dMo_init_876 : decode prog_10_method_12_code 876 = .ok (.newarray .int, 2) := by decide +kernel
theorem dMo_init_878 : decode prog_10_method_12_code 878 = .ok (.putfield 75, 3) := by decide +kernel
theorem dMo_init_881 : decode prog_10_method_12_code 881 = .ok (.aload_n 0, 1) := by decide +kernel
theorem dMo_init_882 : decode prog_10_method_12_code 882 = .ok (.bipush 49, 2) := by decide +kernel
theorem dMo_init_884 : decode prog_10_method_12_code 884 = .ok (.newarray .boolean, 2) := by decide +kernel
theorem dMo_init_886 : decode prog_10_method_12_code 886 = .ok (.putfield 78, 3) := by decide +kernel
theorem dMo_init_889 : decode prog_10_method_12_code 889 = .ok (.aload_n 0, 1) := by decide +kernel
theorem dMo_init_890 : decode prog_10_method_12_code 890 = .ok (.ldc 81, 2) := by decide +kernel
theorem dMo_init_892 : decode prog_10_method_12_code 892 = .ok (.newarray .int, 2) := by decide +kernel
theorem dMo_init_894 : decode prog_10_method_12_code 894 = .ok (.putfield 82, 3) := by decide +kernel
theorem dMo_init_897 : decode prog_10_method_12_code 897 = .ok (.aload_n 0, 1) := by decide +kernel
theorem dMo_init_898 : decode prog_10_method_12_code 898 = .ok (.sipush 128, 3) := by decide +kernel
theorem dMo_init_901 : decode prog_10_method_12_code 901 = .ok (.newarray .int, 2) := by decide +kernel
theorem dMo_init_903 : decode prog_10_method_12_code 903 = .ok (.putfield 85, 3) := by decide +kernel
theorem dMo_init_906 : decode prog_10_method_12_code 906 = .ok (.aload_n 0, 1) := by decide +kernel
theorem dMo_init_907 : decode prog_10_method_12_code 907 = .ok (.sipush 128, 3) := by decide +kernel
theorem dMo_init_910 : decode prog_10_method_12_code 910 = .ok (.newarray .int, 2) := by decide +kernel
theorem dMo_init_912 : decode prog_10_method_12_code 912 = .ok (.putfield 88, 3) := by decide +kernel
theorem dMo_init_915 : decode prog_10_method_12_code 915 = .ok (.aload_n 0, 1) := by decide +kernel
theorem dMo_init_916 : decode prog_10_method_12_code 916 = .ok (.sipush 128, 3) := by decide +kernel
theorem dMo_init_919 : decode prog_10_method_12_code 919 = .ok (.newarray .boolean, 2) := by decide +kernel
theorem dMo_init_921 : decode prog_10_method_12_code 921 = .ok (.putfield 91, 3) := by decide +kernel
theorem dMo_init_924 : decode prog_10_method_12_code 924 = .ok (.aload_n 0, 1) := by decide +kernel
theorem dMo_init_925 : decode prog_10_method_12_code 925 = .ok (.iconst 3, 1) := by decide +kernel
theorem dMo_init_926 : decode prog_10_method_12_code 926 = .ok (.newarray .int, 2) := by decide +kernel
theorem dMo_init_928 : decode prog_10_method_12_code 928 = .ok (.putfield 94, 3) := by decide +kernel
theorem dMo_init_931 : decode prog_10_method_12_code 931 = .ok (.aload_n 0, 1) := by decide +kernel
theorem dMo_init_932 : decode prog_10_method_12_code 932 = .ok (.bipush 21, 2) := by decide +kernel
theorem dMo_init_934 : decode prog_10_method_12_code 934 = .ok (.newarray .long, 2) := by decide +kernel
theorem dMo_init_936 : decode prog_10_method_12_code 936 = .ok (.putfield 97, 3) := by decide +kernel
theorem dMo_init_939 : decode prog_10_method_12_code 939 = .ok (.aload_n 0, 1) := by decide +kernel
theorem dMo_init_940 : decode prog_10_method_12_code 940 = .ok (.iconst (-1), 1) := by decide +kernel
theorem dMo_init_941 : decode prog_10_method_12_code 941 = .ok (.putfield 101, 3) := by decide +kernel
theorem dMo_init_944 : decode prog_10_method_12_code 944 = .ok (.aload_n 0, 1) := by decide +kernel
theorem dMo_init_945 : decode prog_10_method_12_code 945 = .ok (.iconst 2, 1) := by decide +kernel
theorem dMo_init_946 : decode prog_10_method_12_code 946 = .ok (.newarray .long, 2) := by decide +kernel
theorem dMo_init_948 : decode prog_10_method_12_code 948 = .ok (.putfield 104, 3) := by decide +kernel
theorem dMo_init_951 : decode prog_10_method_12_code 951 = .ok (.aload_n 0, 1) := by decide +kernel
theorem dMo_init_952 : decode prog_10_method_12_code 952 = .ok (.bipush 15, 2) := by decide +kernel
theorem dMo_init_954 : decode prog_10_method_12_code 954 = .ok (.newarray .int, 2) := by decide +kernel
theorem dMo_init_956 : decode prog_10_method_12_code 956 = .ok (.putfield 107, 3) := by decide +kernel
theorem dMo_init_959 : decode prog_10_method_12_code 959 = .ok (.aload_n 0, 1) := by decide +kernel
theorem dMo_init_960 : decode prog_10_method_12_code 960 = .ok (.iconst (-1), 1) := by decide +kernel
theorem dMo_init_961 : decode prog_10_method_12_code 961 = .ok (.putfield 110, 3) := by decide +kernel
theorem dMo_init_964 : decode prog_10_method_12_code 964 = .ok (.aload_n 0, 1) := by decide +kernel
theorem dMo_init_965 : decode prog_10_method_12_code 965 = .ok (.getfield 28, 3) := by decide +kernel
theorem dMo_init_968 : decode prog_10_method_12_code 968 = .ok (.bipush 40, 2) := by decide +kernel
theorem dMo_init_970 : decode prog_10_method_12_code 970 = .ok (.iconst 1, 1) := by decide +kernel
theorem dMo_init_971 : decode prog_10_method_12_code 971 = .ok (.iastore, 1) := by decide +kernel
theorem dMo_init_972 : decode prog_10_method_12_code 972 = .ok (.aload_n 0, 1) := by decide +kernel
theorem dMo_init_973 : decode prog_10_method_12_code 973 = .ok (.getfield 28, 3) := by decide +kernel
theorem dMo_init_976 : decode prog_10_method_12_code 976 = .ok (.bipush 46, 2) := by decide +kernel
theorem dMo_init_978 : decode prog_10_method_12_code 978 = .ok (.iconst (-1), 1) := by decide +kernel
theorem dMo_init_979 : decode prog_10_method_12_code 979 = .ok (.iastore, 1) := by decide +kernel
theorem dMo_init_980 : decode prog_10_method_12_code 980 = .ok (.return_, 1) := by decide +kernel
theorem wd_0 {i v : Int32} (hi : i.toNatClampNeg = 0) (hv : vp_nar .byte v = wdl.getD 0 0) : upd (fun _ => 0) i.toNatClampNeg (vp_nar .byte v) = wd 1 := by
  rw [hi, hv]
  funext j
  unfold upd wd
  by_cases h : j = 0
  · subst h; simp
  · rw [if_neg h, if_neg (by omega)]
def cf_Hi (Γ : sw_C) (h0 : Nat) (u : (Nat → Nat)) : va_W := [(h0, .inr (0, [.int 0, .int 0, .ref (u 1)])), ((u 1), .inl (Γ.2.1 0, 256, .inl (fun _ => 0)))]
set_option maxHeartbeats 4000000 in
set_option maxRecDepth 100000 in
theorem cHi_init (l : Launch) {Γ : sw_C} {A : Nat → Prop} {Θ : State → Prop} {ws : va_W} {h0 : Nat} (hΘ : sk_good Θ) : Met l yHi_init (Cond.code yHi_init prog_2_method_1_code 1 none :: sw_tb) { frames := 1, cells := 1, slots := 256, locals := 20 } (va_Pc [.ref h0] (sk_V Γ A Θ ws [(h0, .inr (0, [.int 0, .int 0, .null]))])) (va_Qv (fun (_ : (Nat → Nat)) => True) (fun u t => sk_W Γ A ws (cf_Hi Γ h0 u) t) A) 1 (256) A := by
  refine Met.ofW (cc := prog_2_method_1_code) (maxL := 1) (ret := none) (by decide) rfl ?_
  intro p e s m args below meth c s₁ B hml hv
  obtain ⟨rfl, hv⟩ := hv
  have S : CallFix p m c prog_2_method_1_code 1 s _ (Cond.code yHi_init prog_2_method_1_code 1 none :: sw_tb) R_Hi := ⟨B.exec, B.bytes, hml, findClass_of_methodNamed B.named, atoms_spec (ws := (Cond.code yHi_init prog_2_method_1_code 1 none :: sw_tb)) B.pre⟩
  have hr := B.returns
  have hlk := B.notSynchronized
  have hin : meth.name = "<init>" := (name_of_methodNamed B.named B.method).1
  have hw := sk_begin hv
  have hl := lv_entry [.ref h0] (n := 1) (Nat.le_of_ble_eq_true rfl)
  rw [lg_entry_eq]
  generalize (lg_sl [.ref h0] ++ List.replicate (1 - (lg_sl [.ref h0]).length) Slot.unset).toArray = ls at hl ⊢
  have hl : lv_has ls 1 [(0, .ref h0)] := hl
  refine lv_aload_n S.1 S.2.1 dHi_init_0 rfl (lv_at hl 0 rfl) ?_
  refine sk_obj (rest := []) S hl.1 zwo_Hi_5 (Nat.le_of_ble_eq_true rfl) (Nat.le_of_ble_eq_true rfl) dHi_init_1 ?_
  refine lv_aload_n S.1 S.2.1 dHi_init_4 rfl (lv_at hl 0 rfl) ?_
  refine lv_sipush (v := (256 : Int32)) S.1 S.2.1 dHi_init_5 (by decide) ?_
  refine sk_newi S hw zwa_0 (by decide) (by decide) (Nat.le_of_ble_eq_true rfl) (Nat.le_of_ble_eq_true rfl) (Nat.le_of_ble_eq_true rfl) dHi_init_8 (fun q1 H hw => ?_)
  have hw : sk_S Γ A Θ ws [(h0, .inr (0, [.int 0, .int 0, .null])), (q1, .inl (Γ.2.1 0, 256, .inl (fun _ => 0)))] s H _ := hw
  refine sk_putF (x' := [(h0, .inr (0, [.int 0, .int 0, .ref q1])), (q1, .inl (Γ.2.1 0, 256, .inl (fun _ => 0)))]) S hw i_Hi t_Hi t_Hi_ok n_Hi hin 0 rfl rfl 2 (by decide) zwf_Hi_11 rfl rfl rfl rfl rfl (by decide) rfl dHi_init_10 (fun H locs hw => ?_)
  exact sk_vret (u := (fun j => ([0, q1] : List Nat).getD j 0)) (cf := cf_Hi Γ h0) (pst := fun _ => True) S hr hlk hw trivial rfl dHi_init_13
def cf_Rk (Γ : sw_C) (h0 : Nat) (u : (Nat → Nat)) : va_W := [(h0, .inr (4, [.int 0, .ref (u 1)])), ((u 1), .inl (Γ.2.1 3, 40, .inr (.inl (fun _ => 0))))]
set_option maxHeartbeats 4000000 in
set_option maxRecDepth 100000 in
theorem cRk_init (l : Launch) {Γ : sw_C} {A : Nat → Prop} {Θ : State → Prop} {ws : va_W} {h0 : Nat} (hΘ : sk_good Θ) : Met l yRk_init (Cond.code yRk_init prog_6_method_1_code 1 none :: sw_tb) { frames := 1, cells := 1, slots := 40, locals := 20 } (va_Pc [.ref h0] (sk_V Γ A Θ ws [(h0, .inr (4, [.int 0, .null]))])) (va_Qv (fun (_ : (Nat → Nat)) => True) (fun u t => sk_W Γ A ws (cf_Rk Γ h0 u) t) A) 1 (40) A := by
  refine Met.ofW (cc := prog_6_method_1_code) (maxL := 1) (ret := none) (by decide) rfl ?_
  intro p e s m args below meth c s₁ B hml hv
  obtain ⟨rfl, hv⟩ := hv
  have S : CallFix p m c prog_6_method_1_code 1 s _ (Cond.code yRk_init prog_6_method_1_code 1 none :: sw_tb) R_Rk := ⟨B.exec, B.bytes, hml, findClass_of_methodNamed B.named, atoms_spec (ws := (Cond.code yRk_init prog_6_method_1_code 1 none :: sw_tb)) B.pre⟩
  have hr := B.returns
  have hlk := B.notSynchronized
  have hin : meth.name = "<init>" := (name_of_methodNamed B.named B.method).1
  have hw := sk_begin hv
  have hl := lv_entry [.ref h0] (n := 1) (Nat.le_of_ble_eq_true rfl)
  rw [lg_entry_eq]
  generalize (lg_sl [.ref h0] ++ List.replicate (1 - (lg_sl [.ref h0]).length) Slot.unset).toArray = ls at hl ⊢
  have hl : lv_has ls 1 [(0, .ref h0)] := hl
  refine lv_aload_n S.1 S.2.1 dRk_init_0 rfl (lv_at hl 0 rfl) ?_
  refine sk_obj (rest := []) S hl.1 zwo_Rk_3 (Nat.le_of_ble_eq_true rfl) (Nat.le_of_ble_eq_true rfl) dRk_init_1 ?_
  refine lv_aload_n S.1 S.2.1 dRk_init_4 rfl (lv_at hl 0 rfl) ?_
  refine lv_bipush (v := (40 : Int32)) S.1 S.2.1 dRk_init_5 (by decide) ?_
  refine sk_newl S hw zwa_3 (by decide) (by decide) (Nat.le_of_ble_eq_true rfl) (Nat.le_of_ble_eq_true rfl) (Nat.le_of_ble_eq_true rfl) dRk_init_7 (fun q1 H hw => ?_)
  have hw : sk_S Γ A Θ ws [(h0, .inr (4, [.int 0, .null])), (q1, .inl (Γ.2.1 3, 40, .inr (.inl (fun _ => 0))))] s H _ := hw
  refine sk_putF (x' := [(h0, .inr (4, [.int 0, .ref q1])), (q1, .inl (Γ.2.1 3, 40, .inr (.inl (fun _ => 0))))]) S hw i_Rk t_Rk t_Rk_ok n_Rk hin 0 rfl rfl 1 (by decide) zwf_Rk_9 rfl rfl rfl rfl rfl (by decide) rfl dRk_init_9 (fun H locs hw => ?_)
  exact sk_vret (u := (fun j => ([0, q1] : List Nat).getD j 0)) (cf := cf_Rk Γ h0) (pst := fun _ => True) S hr hlk hw trivial rfl dRk_init_12
def cf_Te (Γ : sw_C) (h0 : Nat) (u : (Nat → Nat)) (n : Nat) : va_W := [(h0, .inr (6, [.int 0, .ref (u 1), .ref (u 2), .ref (u 3), .ref (u 4), .ref (u 5), .int 0, .ref (u 6)])), ((u 1), .inl (Γ.2.1 0, 12, .inl (fun _ => 0))), ((u 2), .inl (Γ.2.1 0, 12, .inl (fun _ => 0))), ((u 3), .inl (Γ.2.1 0, 12, .inl (fun _ => 0))), ((u 4), .inl (Γ.2.1 0, 12, .inl (fun _ => 0))), ((u 5), .inl (Γ.2.1 0, 12, .inl (fun _ => 0))), ((u 6), .inl (Γ.2.1 0, n, .inl (fun _ => 0)))]
set_option maxHeartbeats 4000000 in
set_option maxRecDepth 100000 in
theorem cTe_init (l : Launch) {Γ : sw_C} {A : Nat → Prop} {Θ : State → Prop} {ws : va_W} {h0 : Nat} (hΘ : sk_good Θ) {a1 : Int32} {n : Nat} (hn0 : ¬ jmax (0 : Int32) a1 < 0) (hn1 : (jmax (0 : Int32) a1).toNatClampNeg = n) (hn2 : n ≤ 1000) : Met l yTe_init (Cond.code yTe_init prog_8_method_1_code 2 none :: sw_tb) { frames := 1, cells := 6, slots := 60 + n, locals := 20 } (va_Pc [.ref h0, .int a1] (sk_V Γ A Θ ws [(h0, .inr (6, [.int 0, .null, .null, .null, .null, .null, .int 0, .null]))])) (va_Qv (fun (_ : (Nat → Nat)) => True) (fun u t => sk_W Γ A ws (cf_Te Γ h0 u n) t) A) 6 (60 + n) A := by
  refine Met.ofW (cc := prog_8_method_1_code) (maxL := 2) (ret := none) (by decide) rfl ?_
  intro p e s m args below meth c s₁ B hml hv
  obtain ⟨rfl, hv⟩ := hv
  have S : CallFix p m c prog_8_method_1_code 2 s _ (Cond.code yTe_init prog_8_method_1_code 2 none :: sw_tb) R_Te := ⟨B.exec, B.bytes, hml, findClass_of_methodNamed B.named, atoms_spec (ws := (Cond.code yTe_init prog_8_method_1_code 2 none :: sw_tb)) B.pre⟩
  have hr := B.returns
  have hlk := B.notSynchronized
  have hin : meth.name = "<init>" := (name_of_methodNamed B.named B.method).1
  have hw := sk_begin hv
  have hl := lv_entry [.ref h0, .int a1] (n := 2) (Nat.le_of_ble_eq_true rfl)
  rw [lg_entry_eq]
  generalize (lg_sl [.ref h0, .int a1] ++ List.replicate (2 - (lg_sl [.ref h0, .int a1]).length) Slot.unset).toArray = ls at hl ⊢
  have hl : lv_has ls 2 [(0, .ref h0), (1, .int a1)] := hl
  refine lv_aload_n S.1 S.2.1 dTe_init_0 rfl (lv_at hl 0 rfl) ?_
  refine sk_obj (rest := []) S hl.1 zwo_Te_3 (Nat.le_of_ble_eq_true rfl) (Nat.le_of_ble_eq_true rfl) dTe_init_1 ?_
  refine lv_aload_n S.1 S.2.1 dTe_init_4 rfl (lv_at hl 0 rfl) ?_
  refine lv_bipush (v := (12 : Int32)) S.1 S.2.1 dTe_init_5 (by decide) ?_
  refine sk_newi S hw zwa_0 (by decide) (by decide) (Nat.le_of_ble_eq_true rfl) (Nat.le_of_ble_eq_true rfl) (Nat.le_of_ble_eq_true rfl) dTe_init_7 (fun q1 H hw => ?_)
  have hw : sk_S Γ A Θ ws [(h0, .inr (6, [.int 0, .null, .null, .null, .null, .null, .int 0, .null])), (q1, .inl (Γ.2.1 0, 12, .inl (fun _ => 0)))] s H _ := hw
  refine sk_putF (x' := [(h0, .inr (6, [.int 0, .ref q1, .null, .null, .null, .null, .int 0, .null])), (q1, .inl (Γ.2.1 0, 12, .inl (fun _ => 0)))]) S hw i_Te t_Te t_Te_ok n_Te hin 0 rfl rfl 1 (by decide) zwf_Te_9 rfl rfl rfl rfl rfl (by decide) rfl dTe_init_9 (fun H locs hw => ?_)
  refine lv_aload_n S.1 S.2.1 dTe_init_12 rfl (lv_at hl 0 rfl) ?_
  refine lv_bipush (v := (12 : Int32)) S.1 S.2.1 dTe_init_13 (by decide) ?_
  refine sk_newi S hw zwa_0 (by decide) (by decide) (Nat.le_of_ble_eq_true rfl) (Nat.le_of_ble_eq_true rfl) (Nat.le_of_ble_eq_true rfl) dTe_init_15 (fun q2 H hw => ?_)
  have hw : sk_S Γ A Θ ws [(h0, .inr (6, [.int 0, .ref q1, .null, .null, .null, .null, .int 0, .null])), (q1, .inl (Γ.2.1 0, 12, .inl (fun _ => 0))), (q2, .inl (Γ.2.1 0, 12, .inl (fun _ => 0)))] s H _ := hw
  refine sk_putF (x' := [(h0, .inr (6, [.int 0, .ref q1, .ref q2, .null, .null, .null, .int 0, .null])), (q1, .inl (Γ.2.1 0, 12, .inl (fun _ => 0))), (q2, .inl (Γ.2.1 0, 12, .inl (fun _ => 0)))]) S hw i_Te t_Te t_Te_ok n_Te hin 0 rfl rfl 2 (by decide) zwf_Te_15 rfl rfl rfl rfl rfl (by decide) rfl dTe_init_17 (fun H locs hw => ?_)
  refine lv_aload_n S.1 S.2.1 dTe_init_20 rfl (lv_at hl 0 rfl) ?_
  refine lv_bipush (v := (12 : Int32)) S.1 S.2.1 dTe_init_21 (by decide) ?_
  refine sk_newi S hw zwa_0 (by decide) (by decide) (Nat.le_of_ble_eq_true rfl) (Nat.le_of_ble_eq_true rfl) (Nat.le_of_ble_eq_true rfl) dTe_init_23 (fun q3 H hw => ?_)
  have hw : sk_S Γ A Θ ws [(h0, .inr (6, [.int 0, .ref q1, .ref q2, .null, .null, .null, .int 0, .null])), (q1, .inl (Γ.2.1 0, 12, .inl (fun _ => 0))), (q2, .inl (Γ.2.1 0, 12, .inl (fun _ => 0))), (q3, .inl (Γ.2.1 0, 12, .inl (fun _ => 0)))] s H _ := hw
  refine sk_putF (x' := [(h0, .inr (6, [.int 0, .ref q1, .ref q2, .ref q3, .null, .null, .int 0, .null])), (q1, .inl (Γ.2.1 0, 12, .inl (fun _ => 0))), (q2, .inl (Γ.2.1 0, 12, .inl (fun _ => 0))), (q3, .inl (Γ.2.1 0, 12, .inl (fun _ => 0)))]) S hw i_Te t_Te t_Te_ok n_Te hin 0 rfl rfl 3 (by decide) zwf_Te_18 rfl rfl rfl rfl rfl (by decide) rfl dTe_init_25 (fun H locs hw => ?_)
  refine lv_aload_n S.1 S.2.1 dTe_init_28 rfl (lv_at hl 0 rfl) ?_
  refine lv_bipush (v := (12 : Int32)) S.1 S.2.1 dTe_init_29 (by decide) ?_
  refine sk_newi S hw zwa_0 (by decide) (by decide) (Nat.le_of_ble_eq_true rfl) (Nat.le_of_ble_eq_true rfl) (Nat.le_of_ble_eq_true rfl) dTe_init_31 (fun q4 H hw => ?_)
  have hw : sk_S Γ A Θ ws [(h0, .inr (6, [.int 0, .ref q1, .ref q2, .ref q3, .null, .null, .int 0, .null])), (q1, .inl (Γ.2.1 0, 12, .inl (fun _ => 0))), (q2, .inl (Γ.2.1 0, 12, .inl (fun _ => 0))), (q3, .inl (Γ.2.1 0, 12, .inl (fun _ => 0))), (q4, .inl (Γ.2.1 0, 12, .inl (fun _ => 0)))] s H _ := hw
  refine sk_putF (x' := [(h0, .inr (6, [.int 0, .ref q1, .ref q2, .ref q3, .ref q4, .null, .int 0, .null])), (q1, .inl (Γ.2.1 0, 12, .inl (fun _ => 0))), (q2, .inl (Γ.2.1 0, 12, .inl (fun _ => 0))), (q3, .inl (Γ.2.1 0, 12, .inl (fun _ => 0))), (q4, .inl (Γ.2.1 0, 12, .inl (fun _ => 0)))]) S hw i_Te t_Te t_Te_ok n_Te hin 0 rfl rfl 4 (by decide) zwf_Te_21 rfl rfl rfl rfl rfl (by decide) rfl dTe_init_33 (fun H locs hw => ?_)
  refine lv_aload_n S.1 S.2.1 dTe_init_36 rfl (lv_at hl 0 rfl) ?_
  refine lv_bipush (v := (12 : Int32)) S.1 S.2.1 dTe_init_37 (by decide) ?_
  refine sk_newi S hw zwa_0 (by decide) (by decide) (Nat.le_of_ble_eq_true rfl) (Nat.le_of_ble_eq_true rfl) (Nat.le_of_ble_eq_true rfl) dTe_init_39 (fun q5 H hw => ?_)
  have hw : sk_S Γ A Θ ws [(h0, .inr (6, [.int 0, .ref q1, .ref q2, .ref q3, .ref q4, .null, .int 0, .null])), (q1, .inl (Γ.2.1 0, 12, .inl (fun _ => 0))), (q2, .inl (Γ.2.1 0, 12, .inl (fun _ => 0))), (q3, .inl (Γ.2.1 0, 12, .inl (fun _ => 0))), (q4, .inl (Γ.2.1 0, 12, .inl (fun _ => 0))), (q5, .inl (Γ.2.1 0, 12, .inl (fun _ => 0)))] s H _ := hw
  refine sk_putF (x' := [(h0, .inr (6, [.int 0, .ref q1, .ref q2, .ref q3, .ref q4, .ref q5, .int 0, .null])), (q1, .inl (Γ.2.1 0, 12, .inl (fun _ => 0))), (q2, .inl (Γ.2.1 0, 12, .inl (fun _ => 0))), (q3, .inl (Γ.2.1 0, 12, .inl (fun _ => 0))), (q4, .inl (Γ.2.1 0, 12, .inl (fun _ => 0))), (q5, .inl (Γ.2.1 0, 12, .inl (fun _ => 0)))]) S hw i_Te t_Te t_Te_ok n_Te hin 0 rfl rfl 5 (by decide) zwf_Te_24 rfl rfl rfl rfl rfl (by decide) rfl dTe_init_41 (fun H locs hw => ?_)
  refine lv_aload_n S.1 S.2.1 dTe_init_44 rfl (lv_at hl 0 rfl) ?_
  refine lv_iconst (v := (0 : Int32)) S.1 S.2.1 dTe_init_45 (by decide) ?_
  refine lv_iload_n S.1 S.2.1 dTe_init_46 rfl (lv_at hl 1 rfl) ?_
  refine sw_max (rest := [.ref h0]) S hl.1 zwm_Te_27 (Nat.le_of_ble_eq_true rfl) (Nat.le_of_ble_eq_true rfl) (Nat.le_of_ble_eq_true rfl) (by omega) dTe_init_47 ?_
  refine sk_newi S hw zwa_0 hn0 hn1 (by omega) (Nat.le_of_ble_eq_true rfl) (by show _ ≤ _ + n; omega) dTe_init_50 (fun q6 H hw => ?_)
  have hw : sk_S Γ A Θ ws [(h0, .inr (6, [.int 0, .ref q1, .ref q2, .ref q3, .ref q4, .ref q5, .int 0, .null])), (q1, .inl (Γ.2.1 0, 12, .inl (fun _ => 0))), (q2, .inl (Γ.2.1 0, 12, .inl (fun _ => 0))), (q3, .inl (Γ.2.1 0, 12, .inl (fun _ => 0))), (q4, .inl (Γ.2.1 0, 12, .inl (fun _ => 0))), (q5, .inl (Γ.2.1 0, 12, .inl (fun _ => 0))), (q6, .inl (Γ.2.1 0, n, .inl (fun _ => 0)))] s H _ := hw
  refine sk_putF (x' := [(h0, .inr (6, [.int 0, .ref q1, .ref q2, .ref q3, .ref q4, .ref q5, .int 0, .ref q6])), (q1, .inl (Γ.2.1 0, 12, .inl (fun _ => 0))), (q2, .inl (Γ.2.1 0, 12, .inl (fun _ => 0))), (q3, .inl (Γ.2.1 0, 12, .inl (fun _ => 0))), (q4, .inl (Γ.2.1 0, 12, .inl (fun _ => 0))), (q5, .inl (Γ.2.1 0, 12, .inl (fun _ => 0))), (q6, .inl (Γ.2.1 0, n, .inl (fun _ => 0)))]) S hw i_Te t_Te t_Te_ok n_Te hin 0 rfl rfl 7 (by decide) zwf_Te_33 rfl rfl rfl rfl rfl (by decide) rfl dTe_init_52 (fun H locs hw => ?_)
  exact sk_vret (u := (fun j => ([0, q1, q2, q3, q4, q5, q6] : List Nat).getD j 0)) (cf := fun u => cf_Te Γ h0 u n) (pst := fun _ => True) S hr hlk hw trivial rfl dTe_init_55
def cf_Pl (Γ : sw_C) (h0 : Nat) (u : (Nat → Nat)) : va_W := [(h0, .inr (2, [.int 0, .ref (u 1), .ref (u 2), .ref (u 3), .ref (u 4), .int 0, .ref (u 5), .ref (u 6), .ref (u 7), .int 0, .ref (u 8), .int (-1 : Int32)])), ((u 1), .inl (Γ.2.1 0, 7, .inl (fun _ => 0))), ((u 2), .inl (Γ.2.1 0, 7, .inl (fun _ => 0))), ((u 3), .inl (Γ.2.1 0, 7, .inl (fun _ => 0))), ((u 4), .inl (Γ.2.1 0, 4, .inl (upd (fun _ => 0) (1 : Int32).toNatClampNeg (1 : Int32)))), ((u 5), .inl (Γ.2.1 0, 6, .inl (fun _ => 0))), ((u 6), .inl (Γ.2.1 0, 6, .inl (fun _ => 0))), ((u 7), .inl (Γ.2.1 0, 6, .inl (fun _ => 0))), ((u 8), .inl (Γ.2.1 4, 6, .inr (.inr (.inr (.inr (fun _ => none))))))]
set_option maxHeartbeats 4000000 in
set_option maxRecDepth 100000 in
theorem cPl_init (l : Launch) {Γ : sw_C} {A : Nat → Prop} {Θ : State → Prop} {ws : va_W} {h0 : Nat} (hΘ : sk_good Θ) (hT : ∀ U, Θ U → va_AO R_Te U) : Met l yPl_init (Cond.code yPl_init prog_4_method_1_code 1 none :: sw_tb) { frames := 1, cells := 8, slots := 49, locals := 20 } (va_Pc [.ref h0] (sk_V Γ A Θ ws [(h0, .inr (2, [.int 0, .null, .null, .null, .null, .int 0, .null, .null, .null, .int 0, .null, .int 0]))])) (va_Qv (fun (_ : (Nat → Nat)) => True) (fun u t => sk_W Γ A ws (cf_Pl Γ h0 u) t) A) 8 (49) A := by
  refine Met.ofW (cc := prog_4_method_1_code) (maxL := 1) (ret := none) (by decide) rfl ?_
  intro p e s m args below meth c s₁ B hml hv
  obtain ⟨rfl, hv⟩ := hv
  have S : CallFix p m c prog_4_method_1_code 1 s _ (Cond.code yPl_init prog_4_method_1_code 1 none :: sw_tb) R_Pl := ⟨B.exec, B.bytes, hml, findClass_of_methodNamed B.named, atoms_spec (ws := (Cond.code yPl_init prog_4_method_1_code 1 none :: sw_tb)) B.pre⟩
  have hr := B.returns
  have hlk := B.notSynchronized
  have hin : meth.name = "<init>" := (name_of_methodNamed B.named B.method).1
  have hw := sk_begin hv
  have hl := lv_entry [.ref h0] (n := 1) (Nat.le_of_ble_eq_true rfl)
  rw [lg_entry_eq]
  generalize (lg_sl [.ref h0] ++ List.replicate (1 - (lg_sl [.ref h0]).length) Slot.unset).toArray = ls at hl ⊢
  have hl : lv_has ls 1 [(0, .ref h0)] := hl
  refine lv_aload_n S.1 S.2.1 dPl_init_0 rfl (lv_at hl 0 rfl) ?_
  refine sk_obj (rest := []) S hl.1 zwo_Pl_3 (Nat.le_of_ble_eq_true rfl) (Nat.le_of_ble_eq_true rfl) dPl_init_1 ?_
  refine lv_aload_n S.1 S.2.1 dPl_init_4 rfl (lv_at hl 0 rfl) ?_
  refine lv_bipush (v := (7 : Int32)) S.1 S.2.1 dPl_init_5 (by decide) ?_
  refine sk_newi S hw zwa_0 (by decide) (by decide) (Nat.le_of_ble_eq_true rfl) (Nat.le_of_ble_eq_true rfl) (Nat.le_of_ble_eq_true rfl) dPl_init_7 (fun q1 H hw => ?_)
  have hw : sk_S Γ A Θ ws [(h0, .inr (2, [.int 0, .null, .null, .null, .null, .int 0, .null, .null, .null, .int 0, .null, .int 0])), (q1, .inl (Γ.2.1 0, 7, .inl (fun _ => 0)))] s H _ := hw
  refine sk_putF (x' := [(h0, .inr (2, [.int 0, .ref q1, .null, .null, .null, .int 0, .null, .null, .null, .int 0, .null, .int 0])), (q1, .inl (Γ.2.1 0, 7, .inl (fun _ => 0)))]) S hw i_Pl t_Pl t_Pl_ok n_Pl hin 0 rfl rfl 1 (by decide) zwf_Pl_9 rfl rfl rfl rfl rfl (by decide) rfl dPl_init_9 (fun H locs hw => ?_)
  refine lv_aload_n S.1 S.2.1 dPl_init_12 rfl (lv_at hl 0 rfl) ?_
  refine lv_bipush (v := (7 : Int32)) S.1 S.2.1 dPl_init_13 (by decide) ?_
  refine sk_newi S hw zwa_0 (by decide) (by decide) (Nat.le_of_ble_eq_true rfl) (Nat.le_of_ble_eq_true rfl) (Nat.le_of_ble_eq_true rfl) dPl_init_15 (fun q2 H hw => ?_)
  have hw : sk_S Γ A Θ ws [(h0, .inr (2, [.int 0, .ref q1, .null, .null, .null, .int 0, .null, .null, .null, .int 0, .null, .int 0])), (q1, .inl (Γ.2.1 0, 7, .inl (fun _ => 0))), (q2, .inl (Γ.2.1 0, 7, .inl (fun _ => 0)))] s H _ := hw
  refine sk_putF (x' := [(h0, .inr (2, [.int 0, .ref q1, .ref q2, .null, .null, .int 0, .null, .null, .null, .int 0, .null, .int 0])), (q1, .inl (Γ.2.1 0, 7, .inl (fun _ => 0))), (q2, .inl (Γ.2.1 0, 7, .inl (fun _ => 0)))]) S hw i_Pl t_Pl t_Pl_ok n_Pl hin 0 rfl rfl 2 (by decide) zwf_Pl_15 rfl rfl rfl rfl rfl (by decide) rfl dPl_init_17 (fun H locs hw => ?_)
  refine lv_aload_n S.1 S.2.1 dPl_init_20 rfl (lv_at hl 0 rfl) ?_
  refine lv_bipush (v := (7 : Int32)) S.1 S.2.1 dPl_init_21 (by decide) ?_
  refine sk_newi S hw zwa_0 (by decide) (by decide) (Nat.le_of_ble_eq_true rfl) (Nat.le_of_ble_eq_true rfl) (Nat.le_of_ble_eq_true rfl) dPl_init_23 (fun q3 H hw => ?_)
  have hw : sk_S Γ A Θ ws [(h0, .inr (2, [.int 0, .ref q1, .ref q2, .null, .null, .int 0, .null, .null, .null, .int 0, .null, .int 0])), (q1, .inl (Γ.2.1 0, 7, .inl (fun _ => 0))), (q2, .inl (Γ.2.1 0, 7, .inl (fun _ => 0))), (q3, .inl (Γ.2.1 0, 7, .inl (fun _ => 0)))] s H _ := hw
  refine sk_putF (x' := [(h0, .inr (2, [.int 0, .ref q1, .ref q2, .ref q3, .null, .int 0, .null, .null, .null, .int 0, .null, .int 0])), (q1, .inl (Γ.2.1 0, 7, .inl (fun _ => 0))), (q2, .inl (Γ.2.1 0, 7, .inl (fun _ => 0))), (q3, .inl (Γ.2.1 0, 7, .inl (fun _ => 0)))]) S hw i_Pl t_Pl t_Pl_ok n_Pl hin 0 rfl rfl 3 (by decide) zwf_Pl_18 rfl rfl rfl rfl rfl (by decide) rfl dPl_init_25 (fun H locs hw => ?_)
  refine lv_aload_n S.1 S.2.1 dPl_init_28 rfl (lv_at hl 0 rfl) ?_
  refine lv_iconst (v := (4 : Int32)) S.1 S.2.1 dPl_init_29 (by decide) ?_
  refine sk_newi S hw zwa_0 (by decide) (by decide) (Nat.le_of_ble_eq_true rfl) (Nat.le_of_ble_eq_true rfl) (Nat.le_of_ble_eq_true rfl) dPl_init_30 (fun q4 H hw => ?_)
  have hw : sk_S Γ A Θ ws [(h0, .inr (2, [.int 0, .ref q1, .ref q2, .ref q3, .null, .int 0, .null, .null, .null, .int 0, .null, .int 0])), (q1, .inl (Γ.2.1 0, 7, .inl (fun _ => 0))), (q2, .inl (Γ.2.1 0, 7, .inl (fun _ => 0))), (q3, .inl (Γ.2.1 0, 7, .inl (fun _ => 0))), (q4, .inl (Γ.2.1 0, 4, .inl (fun _ => 0)))] s H _ := hw
  refine sk_putF (x' := [(h0, .inr (2, [.int 0, .ref q1, .ref q2, .ref q3, .ref q4, .int 0, .null, .null, .null, .int 0, .null, .int 0])), (q1, .inl (Γ.2.1 0, 7, .inl (fun _ => 0))), (q2, .inl (Γ.2.1 0, 7, .inl (fun _ => 0))), (q3, .inl (Γ.2.1 0, 7, .inl (fun _ => 0))), (q4, .inl (Γ.2.1 0, 4, .inl (fun _ => 0)))]) S hw i_Pl t_Pl t_Pl_ok n_Pl hin 0 rfl rfl 4 (by decide) zwf_Pl_21 rfl rfl rfl rfl rfl (by decide) rfl dPl_init_32 (fun H locs hw => ?_)
  refine lv_aload_n S.1 S.2.1 dPl_init_35 rfl (lv_at hl 0 rfl) ?_
  refine lv_bipush (v := (6 : Int32)) S.1 S.2.1 dPl_init_36 (by decide) ?_
  refine sk_newi S hw zwa_0 (by decide) (by decide) (Nat.le_of_ble_eq_true rfl) (Nat.le_of_ble_eq_true rfl) (Nat.le_of_ble_eq_true rfl) dPl_init_38 (fun q5 H hw => ?_)
  have hw : sk_S Γ A Θ ws [(h0, .inr (2, [.int 0, .ref q1, .ref q2, .ref q3, .ref q4, .int 0, .null, .null, .null, .int 0, .null, .int 0])), (q1, .inl (Γ.2.1 0, 7, .inl (fun _ => 0))), (q2, .inl (Γ.2.1 0, 7, .inl (fun _ => 0))), (q3, .inl (Γ.2.1 0, 7, .inl (fun _ => 0))), (q4, .inl (Γ.2.1 0, 4, .inl (fun _ => 0))), (q5, .inl (Γ.2.1 0, 6, .inl (fun _ => 0)))] s H _ := hw
  refine sk_putF (x' := [(h0, .inr (2, [.int 0, .ref q1, .ref q2, .ref q3, .ref q4, .int 0, .ref q5, .null, .null, .int 0, .null, .int 0])), (q1, .inl (Γ.2.1 0, 7, .inl (fun _ => 0))), (q2, .inl (Γ.2.1 0, 7, .inl (fun _ => 0))), (q3, .inl (Γ.2.1 0, 7, .inl (fun _ => 0))), (q4, .inl (Γ.2.1 0, 4, .inl (fun _ => 0))), (q5, .inl (Γ.2.1 0, 6, .inl (fun _ => 0)))]) S hw i_Pl t_Pl t_Pl_ok n_Pl hin 0 rfl rfl 6 (by decide) zwf_Pl_24 rfl rfl rfl rfl rfl (by decide) rfl dPl_init_40 (fun H locs hw => ?_)
  refine lv_aload_n S.1 S.2.1 dPl_init_43 rfl (lv_at hl 0 rfl) ?_
  refine lv_bipush (v := (6 : Int32)) S.1 S.2.1 dPl_init_44 (by decide) ?_
  refine sk_newi S hw zwa_0 (by decide) (by decide) (Nat.le_of_ble_eq_true rfl) (Nat.le_of_ble_eq_true rfl) (Nat.le_of_ble_eq_true rfl) dPl_init_46 (fun q6 H hw => ?_)
  have hw : sk_S Γ A Θ ws [(h0, .inr (2, [.int 0, .ref q1, .ref q2, .ref q3, .ref q4, .int 0, .ref q5, .null, .null, .int 0, .null, .int 0])), (q1, .inl (Γ.2.1 0, 7, .inl (fun _ => 0))), (q2, .inl (Γ.2.1 0, 7, .inl (fun _ => 0))), (q3, .inl (Γ.2.1 0, 7, .inl (fun _ => 0))), (q4, .inl (Γ.2.1 0, 4, .inl (fun _ => 0))), (q5, .inl (Γ.2.1 0, 6, .inl (fun _ => 0))), (q6, .inl (Γ.2.1 0, 6, .inl (fun _ => 0)))] s H _ := hw
  refine sk_putF (x' := [(h0, .inr (2, [.int 0, .ref q1, .ref q2, .ref q3, .ref q4, .int 0, .ref q5, .ref q6, .null, .int 0, .null, .int 0])), (q1, .inl (Γ.2.1 0, 7, .inl (fun _ => 0))), (q2, .inl (Γ.2.1 0, 7, .inl (fun _ => 0))), (q3, .inl (Γ.2.1 0, 7, .inl (fun _ => 0))), (q4, .inl (Γ.2.1 0, 4, .inl (fun _ => 0))), (q5, .inl (Γ.2.1 0, 6, .inl (fun _ => 0))), (q6, .inl (Γ.2.1 0, 6, .inl (fun _ => 0)))]) S hw i_Pl t_Pl t_Pl_ok n_Pl hin 0 rfl rfl 7 (by decide) zwf_Pl_27 rfl rfl rfl rfl rfl (by decide) rfl dPl_init_48 (fun H locs hw => ?_)
  refine lv_aload_n S.1 S.2.1 dPl_init_51 rfl (lv_at hl 0 rfl) ?_
  refine lv_bipush (v := (6 : Int32)) S.1 S.2.1 dPl_init_52 (by decide) ?_
  refine sk_newi S hw zwa_0 (by decide) (by decide) (Nat.le_of_ble_eq_true rfl) (Nat.le_of_ble_eq_true rfl) (Nat.le_of_ble_eq_true rfl) dPl_init_54 (fun q7 H hw => ?_)
  have hw : sk_S Γ A Θ ws [(h0, .inr (2, [.int 0, .ref q1, .ref q2, .ref q3, .ref q4, .int 0, .ref q5, .ref q6, .null, .int 0, .null, .int 0])), (q1, .inl (Γ.2.1 0, 7, .inl (fun _ => 0))), (q2, .inl (Γ.2.1 0, 7, .inl (fun _ => 0))), (q3, .inl (Γ.2.1 0, 7, .inl (fun _ => 0))), (q4, .inl (Γ.2.1 0, 4, .inl (fun _ => 0))), (q5, .inl (Γ.2.1 0, 6, .inl (fun _ => 0))), (q6, .inl (Γ.2.1 0, 6, .inl (fun _ => 0))), (q7, .inl (Γ.2.1 0, 6, .inl (fun _ => 0)))] s H _ := hw
  refine sk_putF (x' := [(h0, .inr (2, [.int 0, .ref q1, .ref q2, .ref q3, .ref q4, .int 0, .ref q5, .ref q6, .ref q7, .int 0, .null, .int 0])), (q1, .inl (Γ.2.1 0, 7, .inl (fun _ => 0))), (q2, .inl (Γ.2.1 0, 7, .inl (fun _ => 0))), (q3, .inl (Γ.2.1 0, 7, .inl (fun _ => 0))), (q4, .inl (Γ.2.1 0, 4, .inl (fun _ => 0))), (q5, .inl (Γ.2.1 0, 6, .inl (fun _ => 0))), (q6, .inl (Γ.2.1 0, 6, .inl (fun _ => 0))), (q7, .inl (Γ.2.1 0, 6, .inl (fun _ => 0)))]) S hw i_Pl t_Pl t_Pl_ok n_Pl hin 0 rfl rfl 8 (by decide) zwf_Pl_30 rfl rfl rfl rfl rfl (by decide) rfl dPl_init_56 (fun H locs hw => ?_)
  refine lv_aload_n S.1 S.2.1 dPl_init_59 rfl (lv_at hl 0 rfl) ?_
  refine lv_bipush (v := (6 : Int32)) S.1 S.2.1 dPl_init_60 (by decide) ?_
  refine sk_newq (t0 := 4) S hw zwl_Pl_33 (hT _ hw.2.2.2.2.2) rfl (by decide) (by decide) (Nat.le_of_ble_eq_true rfl) (Nat.le_of_ble_eq_true rfl) (Nat.le_of_ble_eq_true rfl) dPl_init_62 (fun q8 H hw => ?_)
  have hw : sk_S Γ A Θ ws [(h0, .inr (2, [.int 0, .ref q1, .ref q2, .ref q3, .ref q4, .int 0, .ref q5, .ref q6, .ref q7, .int 0, .null, .int 0])), (q1, .inl (Γ.2.1 0, 7, .inl (fun _ => 0))), (q2, .inl (Γ.2.1 0, 7, .inl (fun _ => 0))), (q3, .inl (Γ.2.1 0, 7, .inl (fun _ => 0))), (q4, .inl (Γ.2.1 0, 4, .inl (fun _ => 0))), (q5, .inl (Γ.2.1 0, 6, .inl (fun _ => 0))), (q6, .inl (Γ.2.1 0, 6, .inl (fun _ => 0))), (q7, .inl (Γ.2.1 0, 6, .inl (fun _ => 0))), (q8, .inl (Γ.2.1 4, 6, .inr (.inr (.inr (.inr (fun _ => none))))))] s H _ := hw
  refine sk_putF (x' := [(h0, .inr (2, [.int 0, .ref q1, .ref q2, .ref q3, .ref q4, .int 0, .ref q5, .ref q6, .ref q7, .int 0, .ref q8, .int 0])), (q1, .inl (Γ.2.1 0, 7, .inl (fun _ => 0))), (q2, .inl (Γ.2.1 0, 7, .inl (fun _ => 0))), (q3, .inl (Γ.2.1 0, 7, .inl (fun _ => 0))), (q4, .inl (Γ.2.1 0, 4, .inl (fun _ => 0))), (q5, .inl (Γ.2.1 0, 6, .inl (fun _ => 0))), (q6, .inl (Γ.2.1 0, 6, .inl (fun _ => 0))), (q7, .inl (Γ.2.1 0, 6, .inl (fun _ => 0))), (q8, .inl (Γ.2.1 4, 6, .inr (.inr (.inr (.inr (fun _ => none))))))]) S hw i_Pl t_Pl t_Pl_ok n_Pl hin 0 rfl rfl 10 (by decide) zwf_Pl_35 rfl rfl rfl rfl rfl (by decide) rfl dPl_init_65 (fun H locs hw => ?_)
  refine lv_aload_n S.1 S.2.1 dPl_init_68 rfl (lv_at hl 0 rfl) ?_
  refine sk_get S hw i_Pl 0 rfl rfl 4 (by decide) zwf_Pl_21 rfl rfl dPl_init_69 ?_
  refine lv_iconst (v := (1 : Int32)) S.1 S.2.1 dPl_init_72 (by decide) ?_
  refine lv_iconst (v := (1 : Int32)) S.1 S.2.1 dPl_init_73 (by decide) ?_
  refine sk_iast (x' := [(h0, .inr (2, [.int 0, .ref q1, .ref q2, .ref q3, .ref q4, .int 0, .ref q5, .ref q6, .ref q7, .int 0, .ref q8, .int 0])), (q1, .inl (Γ.2.1 0, 7, .inl (fun _ => 0))), (q2, .inl (Γ.2.1 0, 7, .inl (fun _ => 0))), (q3, .inl (Γ.2.1 0, 7, .inl (fun _ => 0))), (q4, .inl (Γ.2.1 0, 4, .inl (upd (fun _ => 0) (1 : Int32).toNatClampNeg (1 : Int32)))), (q5, .inl (Γ.2.1 0, 6, .inl (fun _ => 0))), (q6, .inl (Γ.2.1 0, 6, .inl (fun _ => 0))), (q7, .inl (Γ.2.1 0, 6, .inl (fun _ => 0))), (q8, .inl (Γ.2.1 4, 6, .inr (.inr (.inr (.inr (fun _ => none))))))]) S hw 4 rfl (by unfold vp_in; decide) rfl dPl_init_74 (fun H locs hw => ?_)
  refine lv_aload_n S.1 S.2.1 dPl_init_75 rfl (lv_at hl 0 rfl) ?_
  refine lv_iconst (v := (-1 : Int32)) S.1 S.2.1 dPl_init_76 (by decide) ?_
  refine sk_put (x' := [(h0, .inr (2, [.int 0, .ref q1, .ref q2, .ref q3, .ref q4, .int 0, .ref q5, .ref q6, .ref q7, .int 0, .ref q8, .int (-1 : Int32)])), (q1, .inl (Γ.2.1 0, 7, .inl (fun _ => 0))), (q2, .inl (Γ.2.1 0, 7, .inl (fun _ => 0))), (q3, .inl (Γ.2.1 0, 7, .inl (fun _ => 0))), (q4, .inl (Γ.2.1 0, 4, .inl (upd (fun _ => 0) (1 : Int32).toNatClampNeg (1 : Int32)))), (q5, .inl (Γ.2.1 0, 6, .inl (fun _ => 0))), (q6, .inl (Γ.2.1 0, 6, .inl (fun _ => 0))), (q7, .inl (Γ.2.1 0, 6, .inl (fun _ => 0))), (q8, .inl (Γ.2.1 4, 6, .inr (.inr (.inr (.inr (fun _ => none))))))]) S hw i_Pl t_Pl t_Pl_ok n_Pl 0 rfl rfl 11 (by decide) zwf_Pl_39 rfl rfl rfl rfl (by decide) rfl dPl_init_77 (fun H locs hw => ?_)
  exact sk_vret (u := (fun j => ([0, q1, q2, q3, q4, q5, q6, q7, q8] : List Nat).getD j 0)) (cf := cf_Pl Γ h0) (pst := fun _ => True) S hr hlk hw trivial rfl dPl_init_80
def cf_Ju (Γ : sw_C) (h0 : Nat) (u : ((Nat → Nat) × (Nat → Nat → Nat))) : va_W := ((h0, .inr (1, [.ref (u.1 1), .ref (u.1 2)])) :: (([] ++ cf_Rk Γ (u.1 1) (u.2 0)) ++ [((u.1 2), .inl (Γ.2.1 0, 8, .inl (fun _ => 0)))]))
set_option maxHeartbeats 4000000 in
set_option maxRecDepth 100000 in
theorem cJu_init (l : Launch) {Γ : sw_C} {A : Nat → Prop} {Θ : State → Prop} {ws : va_W} {h0 : Nat} (hΘ : sk_good Θ) (hT : ∀ U, Θ U → va_AO R_Te U) (hO : ∀ U, Θ U → sk_O U) : Met l yJu_init (Cond.code yJu_init prog_3_method_1_code 1 none :: sw_tb) { frames := 2, cells := 3, slots := 50, locals := 40 } (va_Pc [.ref h0] (sk_V Γ A Θ ws [(h0, .inr (1, [.null, .null]))])) (va_Qv (fun (_ : ((Nat → Nat) × (Nat → Nat → Nat))) => True) (fun u t => sk_W Γ A ws (cf_Ju Γ h0 u) t) A) 3 (50) A := by
  refine Met.ofW (cc := prog_3_method_1_code) (maxL := 1) (ret := none) (by decide) rfl ?_
  intro p e s m args below meth c s₁ B hml hv
  obtain ⟨rfl, hv⟩ := hv
  have S : CallFix p m c prog_3_method_1_code 1 s _ (Cond.code yJu_init prog_3_method_1_code 1 none :: sw_tb) R_Ju := ⟨B.exec, B.bytes, hml, findClass_of_methodNamed B.named, atoms_spec (ws := (Cond.code yJu_init prog_3_method_1_code 1 none :: sw_tb)) B.pre⟩
  have hr := B.returns
  have hlk := B.notSynchronized
  have hin : meth.name = "<init>" := (name_of_methodNamed B.named B.method).1
  have hw := sk_begin hv
  have hT : ∀ U, Θ U → va_AO R_Te U := fun U h => (hO U h).1
  have hTP : ∀ U, Θ U → va_AO R_Pl U := fun U h => (hO U h).2.1
  have hw : sk_S Γ A Θ ws ((h0, .inr (1, [.null, .null])) :: []) s s.heap [] := hw
  have hl := lv_entry [.ref h0] (n := 1) (Nat.le_of_ble_eq_true rfl)
  rw [lg_entry_eq]
  generalize (lg_sl [.ref h0] ++ List.replicate (1 - (lg_sl [.ref h0]).length) Slot.unset).toArray = ls at hl ⊢
  have hl : lv_has ls 1 [(0, .ref h0)] := hl
  refine lv_aload_n S.1 S.2.1 dJu_init_0 rfl (lv_at hl 0 rfl) ?_
  refine sk_obj (rest := []) S hl.1 zwo_Ju_3 (Nat.le_of_ble_eq_true rfl) (Nat.le_of_ble_eq_true rfl) dJu_init_1 ?_
  refine lv_aload_n S.1 S.2.1 dJu_init_4 rfl (lv_at hl 0 rfl) ?_
  refine sk_new (ci := 4) (fs := [.int 0, .null]) S hw i_Rk t_Rk t_Rk_ok zwl_Ju_9 zwn_Rk zwi_Rk rfl df_Rk (Nat.le_of_ble_eq_true rfl) (Nat.le_of_ble_eq_true rfl) dJu_init_5 (fun q1 H hw => ?_)
  refine lv_dup S.1 S.2.1 dJu_init_8 rfl ?_
  refine sk_ctorN (rest := [.ref q1, .ref h0]) S hΘ hw (cRk_init l hΘ) y_Rk (hO _ hw.2.2.2.2.2).2.2.2.2.1 zwv_Rk rfl rfl rfl hl.1 (Nat.le_of_ble_eq_true rfl) ⟨rfl, rfl, Nat.le_of_ble_eq_true rfl, Nat.le_of_ble_eq_true rfl⟩ ⟨Nat.le_of_ble_eq_true rfl, Nat.le_of_ble_eq_true rfl⟩ dJu_init_9 (fun u1 H locs _ hw => ?_)
  refine sk_putF (x' := ((h0, .inr (1, [.ref q1, .null])) :: ([] ++ cf_Rk Γ q1 u1))) S hw i_Ju t_Ju t_Ju_ok n_Ju hin 0 rfl rfl 0 (by decide) zwf_Ju_12 rfl rfl rfl rfl rfl (by decide) rfl dJu_init_12 (fun H locs hw => ?_)
  refine lv_aload_n S.1 S.2.1 dJu_init_15 rfl (lv_at hl 0 rfl) ?_
  refine lv_bipush (v := (8 : Int32)) S.1 S.2.1 dJu_init_16 (by decide) ?_
  refine sk_newi S hw zwa_0 (by decide) (by decide) (Nat.le_of_ble_eq_true rfl) (Nat.le_of_ble_eq_true rfl) (Nat.le_of_ble_eq_true rfl) dJu_init_18 (fun q3 H hw => ?_)
  refine sk_putF (x' := ((h0, .inr (1, [.ref q1, .ref q3])) :: (([] ++ cf_Rk Γ q1 u1) ++ [(q3, .inl (Γ.2.1 0, 8, .inl (fun _ => 0)))]))) S hw i_Ju t_Ju t_Ju_ok n_Ju hin 0 rfl rfl 1 (by decide) zwf_Ju_18 rfl rfl rfl rfl rfl (by decide) rfl dJu_init_20 (fun H locs hw => ?_)
  exact sk_vret (u := ((fun j => ([0, q1, q3] : List Nat).getD j 0), (fun j => ([u1] : List (Nat → Nat)).getD j (fun _ => 0)))) (cf := cf_Ju Γ h0) (pst := fun _ => True) S hr hlk hw trivial rfl dJu_init_23
def cf_Re (Γ : sw_C) (h0 : Nat) (u : ((Nat → Nat) × (Nat → Nat → Nat))) : va_W := ((h0, .inr (3, [.int 0, .ref (u.1 1), .int (-1 : Int32), .ref (u.1 2), .int 0, .int 0, .int 0, .int 0, .int 0])) :: (([] ++ [((u.1 1), .inl (Γ.2.1 0, 400, .inl (fun _ => 0)))]) ++ cf_Te Γ (u.1 2) (u.2 0) 512))
set_option maxHeartbeats 4000000 in
set_option maxRecDepth 100000 in
theorem cRe_init (l : Launch) {Γ : sw_C} {A : Nat → Prop} {Θ : State → Prop} {ws : va_W} {h0 : Nat} (hΘ : sk_good Θ) : Met l yRe_init (Cond.code yRe_init prog_5_method_1_code 1 none :: sw_tb) { frames := 2, cells := 8, slots := 980, locals := 41 } (va_Pc [.ref h0] (sk_V Γ A Θ ws [(h0, .inr (3, [.int 0, .null, .int 0, .null, .int 0, .int 0, .int 0, .int 0, .int 0]))])) (va_Qv (fun (_ : ((Nat → Nat) × (Nat → Nat → Nat))) => True) (fun u t => sk_W Γ A ws (cf_Re Γ h0 u) t) A) 8 (980) A := by
  refine Met.ofW (cc := prog_5_method_1_code) (maxL := 1) (ret := none) (by decide) rfl ?_
  intro p e s m args below meth c s₁ B hml hv
  obtain ⟨rfl, hv⟩ := hv
  have S : CallFix p m c prog_5_method_1_code 1 s _ (Cond.code yRe_init prog_5_method_1_code 1 none :: sw_tb) R_Re := ⟨B.exec, B.bytes, hml, findClass_of_methodNamed B.named, atoms_spec (ws := (Cond.code yRe_init prog_5_method_1_code 1 none :: sw_tb)) B.pre⟩
  have hr := B.returns
  have hlk := B.notSynchronized
  have hin : meth.name = "<init>" := (name_of_methodNamed B.named B.method).1
  have hw := sk_begin hv
  have hw : sk_S Γ A Θ ws ((h0, .inr (3, [.int 0, .null, .int 0, .null, .int 0, .int 0, .int 0, .int 0, .int 0])) :: []) s s.heap [] := hw
  have hl := lv_entry [.ref h0] (n := 1) (Nat.le_of_ble_eq_true rfl)
  rw [lg_entry_eq]
  generalize (lg_sl [.ref h0] ++ List.replicate (1 - (lg_sl [.ref h0]).length) Slot.unset).toArray = ls at hl ⊢
  have hl : lv_has ls 1 [(0, .ref h0)] := hl
  refine lv_aload_n S.1 S.2.1 dRe_init_0 rfl (lv_at hl 0 rfl) ?_
  refine sk_obj (rest := []) S hl.1 zwo_Re_3 (Nat.le_of_ble_eq_true rfl) (Nat.le_of_ble_eq_true rfl) dRe_init_1 ?_
  refine lv_aload_n S.1 S.2.1 dRe_init_4 rfl (lv_at hl 0 rfl) ?_
  refine lv_sipush (v := (400 : Int32)) S.1 S.2.1 dRe_init_5 (by decide) ?_
  refine sk_newi S hw zwa_0 (by decide) (by decide) (Nat.le_of_ble_eq_true rfl) (Nat.le_of_ble_eq_true rfl) (Nat.le_of_ble_eq_true rfl) dRe_init_8 (fun q1 H hw => ?_)
  refine sk_putF (x' := ((h0, .inr (3, [.int 0, .ref q1, .int 0, .null, .int 0, .int 0, .int 0, .int 0, .int 0])) :: ([] ++ [(q1, .inl (Γ.2.1 0, 400, .inl (fun _ => 0)))]))) S hw i_Re t_Re t_Re_ok n_Re hin 0 rfl rfl 1 (by decide) zwf_Re_9 rfl rfl rfl rfl rfl (by decide) rfl dRe_init_10 (fun H locs hw => ?_)
  refine lv_aload_n S.1 S.2.1 dRe_init_13 rfl (lv_at hl 0 rfl) ?_
  refine sk_new (ci := 6) (fs := [.int 0, .null, .null, .null, .null, .null, .int 0, .null]) S hw i_Te t_Te t_Te_ok zwl_Re_15 zwn_Te zwi_Te rfl df_Te (Nat.le_of_ble_eq_true rfl) (Nat.le_of_ble_eq_true rfl) dRe_init_14 (fun q2 H hw => ?_)
  refine lv_dup S.1 S.2.1 dRe_init_17 rfl ?_
  refine lv_sipush (v := (512 : Int32)) S.1 S.2.1 dRe_init_18 (by decide) ?_
  refine sk_ctor (rest := [.ref q2, .ref h0]) S hΘ hw (cTe_init l hΘ (a1 := (512 : Int32)) (n := 512) (by decide) (by decide) (by decide)) y_Te zwm_Re_17 zwv_Te rfl rfl rfl hl.1 (Nat.le_of_ble_eq_true rfl) ⟨rfl, rfl, Nat.le_of_ble_eq_true rfl, Nat.le_of_ble_eq_true rfl⟩ ⟨Nat.le_of_ble_eq_true rfl, Nat.le_of_ble_eq_true rfl⟩ dRe_init_21 (fun u2 H locs _ hw => ?_)
  refine sk_putF (x' := ((h0, .inr (3, [.int 0, .ref q1, .int 0, .ref q2, .int 0, .int 0, .int 0, .int 0, .int 0])) :: (([] ++ [(q1, .inl (Γ.2.1 0, 400, .inl (fun _ => 0)))]) ++ cf_Te Γ q2 u2 512))) S hw i_Re t_Re t_Re_ok n_Re hin 0 rfl rfl 3 (by decide) zwf_Re_20 rfl rfl rfl rfl rfl (by decide) rfl dRe_init_24 (fun H locs hw => ?_)
  refine lv_aload_n S.1 S.2.1 dRe_init_27 rfl (lv_at hl 0 rfl) ?_
  refine lv_iconst (v := (-1 : Int32)) S.1 S.2.1 dRe_init_28 (by decide) ?_
  refine sk_put (x' := ((h0, .inr (3, [.int 0, .ref q1, .int (-1 : Int32), .ref q2, .int 0, .int 0, .int 0, .int 0, .int 0])) :: (([] ++ [(q1, .inl (Γ.2.1 0, 400, .inl (fun _ => 0)))]) ++ cf_Te Γ q2 u2 512))) S hw i_Re t_Re t_Re_ok n_Re 0 rfl rfl 2 (by decide) zwf_Re_24 rfl rfl rfl rfl (by decide) rfl dRe_init_29 (fun H locs hw => ?_)
  exact sk_vret (u := ((fun j => ([0, q1, q2] : List Nat).getD j 0), (fun j => ([u2] : List (Nat → Nat)).getD j (fun _ => 0)))) (cf := cf_Re Γ h0) (pst := fun _ => True) S hr hlk hw trivial rfl dRe_init_32
def cf_Mo (Γ : sw_C) (h0 : Nat) (u : (Nat → Nat)) : va_W := [(h0, .inr (8, [.int 0, .ref (u 1), .ref (u 2), .ref (u 3), .ref (u 4), .ref (u 5), .int 0, .ref (u 6), .int 0, .int 0, .int 0, .ref (u 7), .ref (u 8), .int 0, .int (-1 : Int32), .ref (u 9), .ref (u 10), .ref (u 11), .int 0, .int 0, .int 0, .int 0, .int 0, .int 0, .int 0, .int 0, .ref (u 12), .int 0, .int 0, .int 0, .ref (u 13), .ref (u 14), .ref (u 15), .int 0, .ref (u 16), .ref (u 17), .ref (u 18), .int 0, .ref (u 19), .ref (u 20), .ref (u 21), .ref (u 22), .ref (u 23), .int (-1 : Int32), .int 0, .int 0, .int 0, .int 0, .int 0, .ref (u 24), .ref (u 25), .int (-1 : Int32), .int 0])), ((u 1), .inl (Γ.2.1 0, 7, .inl (fun _ => 0))), ((u 2), .inl (Γ.2.1 0, 5654, .inl (upd (upd (fun _ => 0) (40 : Int32).toNatClampNeg (1 : Int32)) (46 : Int32).toNatClampNeg (-1 : Int32)))), ((u 3), .inl (Γ.2.1 0, 11308, .inl (fun _ => 0))), ((u 4), .inl (Γ.2.1 2, 2, .inl (fun _ => 0))), ((u 5), .inl (Γ.2.1 0, 30, .inl (fun _ => 0))), ((u 6), .inl (Γ.2.1 1, 124, .inl (wd 124))), ((u 7), .inl (Γ.2.1 1, 400, .inl (fun _ => 0))), ((u 8), .inl (Γ.2.1 0, 5, .inl (fun _ => 0))), ((u 9), .inl (Γ.2.1 0, 401, .inl (fun _ => 0))), ((u 10), .inl (Γ.2.1 0, 401, .inl (fun _ => 0))), ((u 11), .inl (Γ.2.1 0, 401, .inl (fun _ => 0))), ((u 12), .inl (Γ.2.1 0, 8, .inl (fun _ => 0))), ((u 13), .inl (Γ.2.1 0, 7, .inl (fun _ => 0))), ((u 14), .inl (Γ.2.1 0, 256, .inl (fun _ => 0))), ((u 15), .inl (Γ.2.1 0, 256, .inl (fun _ => 0))), ((u 16), .inl (Γ.2.1 0, 49, .inl (fun _ => 0))), ((u 17), .inl (Γ.2.1 2, 49, .inl (fun _ => 0))), ((u 18), .inl (Γ.2.1 0, 33608, .inl (fun _ => 0))), ((u 19), .inl (Γ.2.1 0, 128, .inl (fun _ => 0))), ((u 20), .inl (Γ.2.1 0, 128, .inl (fun _ => 0))), ((u 21), .inl (Γ.2.1 2, 128, .inl (fun _ => 0))), ((u 22), .inl (Γ.2.1 0, 3, .inl (fun _ => 0))), ((u 23), .inl (Γ.2.1 3, 21, .inr (.inl (fun _ => 0)))), ((u 24), .inl (Γ.2.1 3, 2, .inr (.inl (fun _ => 0)))), ((u 25), .inl (Γ.2.1 0, 15, .inl (fun _ => 0)))]
set_option maxHeartbeats 4000000 in
set_option maxRecDepth 100000 in
theorem cMo_init (l : Launch) {Γ : sw_C} {A : Nat → Prop} {Θ : State → Prop} {ws : va_W} {h0 : Nat} (hΘ : sk_good Θ) : Met l yMo_init (Cond.code yMo_init prog_10_method_12_code 1 none :: sw_tb) { frames := 1, cells := 25, slots := 53391, locals := 20 } (va_Pc [.ref h0] (sk_V Γ A Θ ws [(h0, .inr (8, [.int 0, .null, .null, .null, .null, .null, .int 0, .null, .int 0, .int 0, .int 0, .null, .null, .int 0, .int 0, .null, .null, .null, .int 0, .int 0, .int 0, .int 0, .int 0, .int 0, .int 0, .int 0, .null, .int 0, .int 0, .int 0, .null, .null, .null, .int 0, .null, .null, .null, .int 0, .null, .null, .null, .null, .null, .int 0, .int 0, .int 0, .int 0, .int 0, .int 0, .null, .null, .int 0, .int 0]))])) (va_Qv (fun (_ : (Nat → Nat)) => True) (fun u t => sk_W Γ A ws (cf_Mo Γ h0 u) t) A) 25 (53391) A := by
  refine Met.ofW (cc := prog_10_method_12_code) (maxL := 1) (ret := none) (by decide) rfl ?_
  intro p e s m args below meth c s₁ B hml hv
  obtain ⟨rfl, hv⟩ := hv
  have S : CallFix p m c prog_10_method_12_code 1 s _ (Cond.code yMo_init prog_10_method_12_code 1 none :: sw_tb) R_Mo := ⟨B.exec, B.bytes, hml, findClass_of_methodNamed B.named, atoms_spec (ws := (Cond.code yMo_init prog_10_method_12_code 1 none :: sw_tb)) B.pre⟩
  have hr := B.returns
  have hlk := B.notSynchronized
  have hin : meth.name = "<init>" := (name_of_methodNamed B.named B.method).1
  have hw := sk_begin hv
  have hl := lv_entry [.ref h0] (n := 1) (Nat.le_of_ble_eq_true rfl)
  rw [lg_entry_eq]
  generalize (lg_sl [.ref h0] ++ List.replicate (1 - (lg_sl [.ref h0]).length) Slot.unset).toArray = ls at hl ⊢
  have hl : lv_has ls 1 [(0, .ref h0)] := hl
  refine lv_aload_n S.1 S.2.1 dMo_init_0 rfl (lv_at hl 0 rfl) ?_
  refine sk_obj (rest := []) S hl.1 zwo_Mo_22 (Nat.le_of_ble_eq_true rfl) (Nat.le_of_ble_eq_true rfl) dMo_init_1 ?_
  refine lv_aload_n S.1 S.2.1 dMo_init_4 rfl (lv_at hl 0 rfl) ?_
  refine lv_bipush (v := (7 : Int32)) S.1 S.2.1 dMo_init_5 (by decide) ?_
  refine sk_newi S hw zwa_0 (by decide) (by decide) (Nat.le_of_ble_eq_true rfl) (Nat.le_of_ble_eq_true rfl) (Nat.le_of_ble_eq_true rfl) dMo_init_7 (fun q1 H hw => ?_)
  have hw : sk_S Γ A Θ ws [(h0, .inr (8, [.int 0, .null, .null, .null, .null, .null, .int 0, .null, .int 0, .int 0, .int 0, .null, .null, .int 0, .int 0, .null, .null, .null, .int 0, .int 0, .int 0, .int 0, .int 0, .int 0, .int 0, .int 0, .null, .int 0, .int 0, .int 0, .null, .null, .null, .int 0, .null, .null, .null, .int 0, .null, .null, .null, .null, .null, .int 0, .int 0, .int 0, .int 0, .int 0, .int 0, .null, .null, .int 0, .int 0])), (q1, .inl (Γ.2.1 0, 7, .inl (fun _ => 0)))] s H _ := hw
  refine sk_putF (x' := [(h0, .inr (8, [.int 0, .ref q1, .null, .null, .null, .null, .int 0, .null, .int 0, .int 0, .int 0, .null, .null, .int 0, .int 0, .null, .null, .null, .int 0, .int 0, .int 0, .int 0, .int 0, .int 0, .int 0, .int 0, .null, .int 0, .int 0, .int 0, .null, .null, .null, .int 0, .null, .null, .null, .int 0, .null, .null, .null, .null, .null, .int 0, .int 0, .int 0, .int 0, .int 0, .int 0, .null, .null, .int 0, .int 0])), (q1, .inl (Γ.2.1 0, 7, .inl (fun _ => 0)))]) S hw i_Mo t_Mo t_Mo_ok n_Mo hin 0 rfl rfl 1 (by decide) zwf_Mo_7 rfl rfl rfl rfl rfl (by decide) rfl dMo_init_9 (fun H locs hw => ?_)
  refine lv_aload_n S.1 S.2.1 dMo_init_12 rfl (lv_at hl 0 rfl) ?_
  refine lv_sipush (v := (5654 : Int32)) S.1 S.2.1 dMo_init_13 (by decide) ?_
  refine sk_newi S hw zwa_0 (by decide) (by decide) (Nat.le_of_ble_eq_true rfl) (Nat.le_of_ble_eq_true rfl) (Nat.le_of_ble_eq_true rfl) dMo_init_16 (fun q2 H hw => ?_)
  have hw : sk_S Γ A Θ ws [(h0, .inr (8, [.int 0, .ref q1, .null, .null, .null, .null, .int 0, .null, .int 0, .int 0, .int 0, .null, .null, .int 0, .int 0, .null, .null, .null, .int 0, .int 0, .int 0, .int 0, .int 0, .int 0, .int 0, .int 0, .null, .int 0, .int 0, .int 0, .null, .null, .null, .int 0, .null, .null, .null, .int 0, .null, .null, .null, .null, .null, .int 0, .int 0, .int 0, .int 0, .int 0, .int 0, .null, .null, .int 0, .int 0])), (q1, .inl (Γ.2.1 0, 7, .inl (fun _ => 0))), (q2, .inl (Γ.2.1 0, 5654, .inl (fun _ => 0)))] s H _ := hw
  refine sk_putF (x' := [(h0, .inr (8, [.int 0, .ref q1, .ref q2, .null, .null, .null, .int 0, .null, .int 0, .int 0, .int 0, .null, .null, .int 0, .int 0, .null, .null, .null, .int 0, .int 0, .int 0, .int 0, .int 0, .int 0, .int 0, .int 0, .null, .int 0, .int 0, .int 0, .null, .null, .null, .int 0, .null, .null, .null, .int 0, .null, .null, .null, .null, .null, .int 0, .int 0, .int 0, .int 0, .int 0, .int 0, .null, .null, .int 0, .int 0])), (q1, .inl (Γ.2.1 0, 7, .inl (fun _ => 0))), (q2, .inl (Γ.2.1 0, 5654, .inl (fun _ => 0)))]) S hw i_Mo t_Mo t_Mo_ok n_Mo hin 0 rfl rfl 2 (by decide) zwf_Mo_28 rfl rfl rfl rfl rfl (by decide) rfl dMo_init_18 (fun H locs hw => ?_)
  refine lv_aload_n S.1 S.2.1 dMo_init_21 rfl (lv_at hl 0 rfl) ?_
  refine lv_sipush (v := (11308 : Int32)) S.1 S.2.1 dMo_init_22 (by decide) ?_
  refine sk_newi S hw zwa_0 (by decide) (by decide) (Nat.le_of_ble_eq_true rfl) (Nat.le_of_ble_eq_true rfl) (Nat.le_of_ble_eq_true rfl) dMo_init_25 (fun q3 H hw => ?_)
  have hw : sk_S Γ A Θ ws [(h0, .inr (8, [.int 0, .ref q1, .ref q2, .null, .null, .null, .int 0, .null, .int 0, .int 0, .int 0, .null, .null, .int 0, .int 0, .null, .null, .null, .int 0, .int 0, .int 0, .int 0, .int 0, .int 0, .int 0, .int 0, .null, .int 0, .int 0, .int 0, .null, .null, .null, .int 0, .null, .null, .null, .int 0, .null, .null, .null, .null, .null, .int 0, .int 0, .int 0, .int 0, .int 0, .int 0, .null, .null, .int 0, .int 0])), (q1, .inl (Γ.2.1 0, 7, .inl (fun _ => 0))), (q2, .inl (Γ.2.1 0, 5654, .inl (fun _ => 0))), (q3, .inl (Γ.2.1 0, 11308, .inl (fun _ => 0)))] s H _ := hw
  refine sk_putF (x' := [(h0, .inr (8, [.int 0, .ref q1, .ref q2, .ref q3, .null, .null, .int 0, .null, .int 0, .int 0, .int 0, .null, .null, .int 0, .int 0, .null, .null, .null, .int 0, .int 0, .int 0, .int 0, .int 0, .int 0, .int 0, .int 0, .null, .int 0, .int 0, .int 0, .null, .null, .null, .int 0, .null, .null, .null, .int 0, .null, .null, .null, .null, .null, .int 0, .int 0, .int 0, .int 0, .int 0, .int 0, .null, .null, .int 0, .int 0])), (q1, .inl (Γ.2.1 0, 7, .inl (fun _ => 0))), (q2, .inl (Γ.2.1 0, 5654, .inl (fun _ => 0))), (q3, .inl (Γ.2.1 0, 11308, .inl (fun _ => 0)))]) S hw i_Mo t_Mo t_Mo_ok n_Mo hin 0 rfl rfl 3 (by decide) zwf_Mo_31 rfl rfl rfl rfl rfl (by decide) rfl dMo_init_27 (fun H locs hw => ?_)
  refine lv_aload_n S.1 S.2.1 dMo_init_30 rfl (lv_at hl 0 rfl) ?_
  refine lv_iconst (v := (2 : Int32)) S.1 S.2.1 dMo_init_31 (by decide) ?_
  refine sk_newz S hw zwa_2 (by decide) (by decide) (Nat.le_of_ble_eq_true rfl) (Nat.le_of_ble_eq_true rfl) (Nat.le_of_ble_eq_true rfl) dMo_init_32 (fun q4 H hw => ?_)
  have hw : sk_S Γ A Θ ws [(h0, .inr (8, [.int 0, .ref q1, .ref q2, .ref q3, .null, .null, .int 0, .null, .int 0, .int 0, .int 0, .null, .null, .int 0, .int 0, .null, .null, .null, .int 0, .int 0, .int 0, .int 0, .int 0, .int 0, .int 0, .int 0, .null, .int 0, .int 0, .int 0, .null, .null, .null, .int 0, .null, .null, .null, .int 0, .null, .null, .null, .null, .null, .int 0, .int 0, .int 0, .int 0, .int 0, .int 0, .null, .null, .int 0, .int 0])), (q1, .inl (Γ.2.1 0, 7, .inl (fun _ => 0))), (q2, .inl (Γ.2.1 0, 5654, .inl (fun _ => 0))), (q3, .inl (Γ.2.1 0, 11308, .inl (fun _ => 0))), (q4, .inl (Γ.2.1 2, 2, .inl (fun _ => 0)))] s H _ := hw
  refine sk_putF (x' := [(h0, .inr (8, [.int 0, .ref q1, .ref q2, .ref q3, .ref q4, .null, .int 0, .null, .int 0, .int 0, .int 0, .null, .null, .int 0, .int 0, .null, .null, .null, .int 0, .int 0, .int 0, .int 0, .int 0, .int 0, .int 0, .int 0, .null, .int 0, .int 0, .int 0, .null, .null, .null, .int 0, .null, .null, .null, .int 0, .null, .null, .null, .null, .null, .int 0, .int 0, .int 0, .int 0, .int 0, .int 0, .null, .null, .int 0, .int 0])), (q1, .inl (Γ.2.1 0, 7, .inl (fun _ => 0))), (q2, .inl (Γ.2.1 0, 5654, .inl (fun _ => 0))), (q3, .inl (Γ.2.1 0, 11308, .inl (fun _ => 0))), (q4, .inl (Γ.2.1 2, 2, .inl (fun _ => 0)))]) S hw i_Mo t_Mo t_Mo_ok n_Mo hin 0 rfl rfl 4 (by decide) zwf_Mo_34 rfl rfl rfl rfl rfl (by decide) rfl dMo_init_34 (fun H locs hw => ?_)
  refine lv_aload_n S.1 S.2.1 dMo_init_37 rfl (lv_at hl 0 rfl) ?_
  refine lv_bipush (v := (30 : Int32)) S.1 S.2.1 dMo_init_38 (by decide) ?_
  refine sk_newi S hw zwa_0 (by decide) (by decide) (Nat.le_of_ble_eq_true rfl) (Nat.le_of_ble_eq_true rfl) (Nat.le_of_ble_eq_true rfl) dMo_init_40 (fun q5 H hw => ?_)
  have hw : sk_S Γ A Θ ws [(h0, .inr (8, [.int 0, .ref q1, .ref q2, .ref q3, .ref q4, .null, .int 0, .null, .int 0, .int 0, .int 0, .null, .null, .int 0, .int 0, .null, .null, .null, .int 0, .int 0, .int 0, .int 0, .int 0, .int 0, .int 0, .int 0, .null, .int 0, .int 0, .int 0, .null, .null, .null, .int 0, .null, .null, .null, .int 0, .null, .null, .null, .null, .null, .int 0, .int 0, .int 0, .int 0, .int 0, .int 0, .null, .null, .int 0, .int 0])), (q1, .inl (Γ.2.1 0, 7, .inl (fun _ => 0))), (q2, .inl (Γ.2.1 0, 5654, .inl (fun _ => 0))), (q3, .inl (Γ.2.1 0, 11308, .inl (fun _ => 0))), (q4, .inl (Γ.2.1 2, 2, .inl (fun _ => 0))), (q5, .inl (Γ.2.1 0, 30, .inl (fun _ => 0)))] s H _ := hw
  refine sk_putF (x' := [(h0, .inr (8, [.int 0, .ref q1, .ref q2, .ref q3, .ref q4, .ref q5, .int 0, .null, .int 0, .int 0, .int 0, .null, .null, .int 0, .int 0, .null, .null, .null, .int 0, .int 0, .int 0, .int 0, .int 0, .int 0, .int 0, .int 0, .null, .int 0, .int 0, .int 0, .null, .null, .null, .int 0, .null, .null, .null, .int 0, .null, .null, .null, .null, .null, .int 0, .int 0, .int 0, .int 0, .int 0, .int 0, .null, .null, .int 0, .int 0])), (q1, .inl (Γ.2.1 0, 7, .inl (fun _ => 0))), (q2, .inl (Γ.2.1 0, 5654, .inl (fun _ => 0))), (q3, .inl (Γ.2.1 0, 11308, .inl (fun _ => 0))), (q4, .inl (Γ.2.1 2, 2, .inl (fun _ => 0))), (q5, .inl (Γ.2.1 0, 30, .inl (fun _ => 0)))]) S hw i_Mo t_Mo t_Mo_ok n_Mo hin 0 rfl rfl 5 (by decide) zwf_Mo_38 rfl rfl rfl rfl rfl (by decide) rfl dMo_init_42 (fun H locs hw => ?_)
  refine lv_aload_n S.1 S.2.1 dMo_init_45 rfl (lv_at hl 0 rfl) ?_
  refine lv_bipush (v := (124 : Int32)) S.1 S.2.1 dMo_init_46 (by decide) ?_
  refine sk_newb S hw zwa_1 (by decide) (by decide) (Nat.le_of_ble_eq_true rfl) (Nat.le_of_ble_eq_true rfl) (Nat.le_of_ble_eq_true rfl) dMo_init_48 (fun q6 H hw => ?_)
  have hw : sk_S Γ A Θ ws [(h0, .inr (8, [.int 0, .ref q1, .ref q2, .ref q3, .ref q4, .ref q5, .int 0, .null, .int 0, .int 0, .int 0, .null, .null, .int 0, .int 0, .null, .null, .null, .int 0, .int 0, .int 0, .int 0, .int 0, .int 0, .int 0, .int 0, .null, .int 0, .int 0, .int 0, .null, .null, .null, .int 0, .null, .null, .null, .int 0, .null, .null, .null, .null, .null, .int 0, .int 0, .int 0, .int 0, .int 0, .int 0, .null, .null, .int 0, .int 0])), (q1, .inl (Γ.2.1 0, 7, .inl (fun _ => 0))), (q2, .inl (Γ.2.1 0, 5654, .inl (fun _ => 0))), (q3, .inl (Γ.2.1 0, 11308, .inl (fun _ => 0))), (q4, .inl (Γ.2.1 2, 2, .inl (fun _ => 0))), (q5, .inl (Γ.2.1 0, 30, .inl (fun _ => 0))), (q6, .inl (Γ.2.1 1, 124, .inl (fun _ => 0)))] s H _ := hw
  refine lv_dup S.1 S.2.1 dMo_init_50 rfl ?_
  refine lv_iconst (v := (0 : Int32)) S.1 S.2.1 dMo_init_51 (by decide) ?_
  refine lv_bipush (v := (99 : Int32)) S.1 S.2.1 dMo_init_52 (by decide) ?_
  refine sk_bast (x' := [(h0, .inr (8, [.int 0, .ref q1, .ref q2, .ref q3, .ref q4, .ref q5, .int 0, .null, .int 0, .int 0, .int 0, .null, .null, .int 0, .int 0, .null, .null, .null, .int 0, .int 0, .int 0, .int 0, .int 0, .int 0, .int 0, .int 0, .null, .int 0, .int 0, .int 0, .null, .null, .null, .int 0, .null, .null, .null, .int 0, .null, .null, .null, .null, .null, .int 0, .int 0, .int 0, .int 0, .int 0, .int 0, .null, .null, .int 0, .int 0])), (q1, .inl (Γ.2.1 0, 7, .inl (fun _ => 0))), (q2, .inl (Γ.2.1 0, 5654, .inl (fun _ => 0))), (q3, .inl (Γ.2.1 0, 11308, .inl (fun _ => 0))), (q4, .inl (Γ.2.1 2, 2, .inl (fun _ => 0))), (q5, .inl (Γ.2.1 0, 30, .inl (fun _ => 0))), (q6, .inl (Γ.2.1 1, 124, .inl (wd 1)))]) S hw 6 rfl (by unfold vp_in; decide) (wd_0 (by decide) (by decide +kernel)) rfl dMo_init_54 (fun H locs hw => ?_)
  refine lv_dup S.1 S.2.1 dMo_init_55 rfl ?_
  refine lv_iconst (v := (1 : Int32)) S.1 S.2.1 dMo_init_56 (by decide) ?_
  refine lv_bipush (v := (111 : Int32)) S.1 S.2.1 dMo_init_57 (by decide) ?_
  refine sk_bast (x' := [(h0, .inr (8, [.int 0, .ref q1, .ref q2, .ref q3, .ref q4, .ref q5, .int 0, .null, .int 0, .int 0, .int 0, .null, .null, .int 0, .int 0, .null, .null, .null, .int 0, .int 0, .int 0, .int 0, .int 0, .int 0, .int 0, .int 0, .null, .int 0, .int 0, .int 0, .null, .null, .null, .int 0, .null, .null, .null, .int 0, .null, .null, .null, .null, .null, .int 0, .int 0, .int 0, .int 0, .int 0, .int 0, .null, .null, .int 0, .int 0])), (q1, .inl (Γ.2.1 0, 7, .inl (fun _ => 0))), (q2, .inl (Γ.2.1 0, 5654, .inl (fun _ => 0))), (q3, .inl (Γ.2.1 0, 11308, .inl (fun _ => 0))), (q4, .inl (Γ.2.1 2, 2, .inl (fun _ => 0))), (q5, .inl (Γ.2.1 0, 30, .inl (fun _ => 0))), (q6, .inl (Γ.2.1 1, 124, .inl (wd 2)))]) S hw 6 rfl (by unfold vp_in; decide) (wd_u 1 (by decide) (by decide +kernel)) rfl dMo_init_59 (fun H locs hw => ?_)
  refine lv_dup S.1 S.2.1 dMo_init_60 rfl ?_
  refine lv_iconst (v := (2 : Int32)) S.1 S.2.1 dMo_init_61 (by decide) ?_
  refine lv_bipush (v := (117 : Int32)) S.1 S.2.1 dMo_init_62 (by decide) ?_
  refine sk_bast (x' := [(h0, .inr (8, [.int 0, .ref q1, .ref q2, .ref q3, .ref q4, .ref q5, .int 0, .null, .int 0, .int 0, .int 0, .null, .null, .int 0, .int 0, .null, .null, .null, .int 0, .int 0, .int 0, .int 0, .int 0, .int 0, .int 0, .int 0, .null, .int 0, .int 0, .int 0, .null, .null, .null, .int 0, .null, .null, .null, .int 0, .null, .null, .null, .null, .null, .int 0, .int 0, .int 0, .int 0, .int 0, .int 0, .null, .null, .int 0, .int 0])), (q1, .inl (Γ.2.1 0, 7, .inl (fun _ => 0))), (q2, .inl (Γ.2.1 0, 5654, .inl (fun _ => 0))), (q3, .inl (Γ.2.1 0, 11308, .inl (fun _ => 0))), (q4, .inl (Γ.2.1 2, 2, .inl (fun _ => 0))), (q5, .inl (Γ.2.1 0, 30, .inl (fun _ => 0))), (q6, .inl (Γ.2.1 1, 124, .inl (wd 3)))]) S hw 6 rfl (by unfold vp_in; decide) (wd_u 2 (by decide) (by decide +kernel)) rfl dMo_init_64 (fun H locs hw => ?_)
  refine lv_dup S.1 S.2.1 dMo_init_65 rfl ?_
  refine lv_iconst (v := (3 : Int32)) S.1 S.2.1 dMo_init_66 (by decide) ?_
  refine lv_bipush (v := (110 : Int32)) S.1 S.2.1 dMo_init_67 (by decide) ?_
  refine sk_bast (x' := [(h0, .inr (8, [.int 0, .ref q1, .ref q2, .ref q3, .ref q4, .ref q5, .int 0, .null, .int 0, .int 0, .int 0, .null, .null, .int 0, .int 0, .null, .null, .null, .int 0, .int 0, .int 0, .int 0, .int 0, .int 0, .int 0, .int 0, .null, .int 0, .int 0, .int 0, .null, .null, .null, .int 0, .null, .null, .null, .int 0, .null, .null, .null, .null, .null, .int 0, .int 0, .int 0, .int 0, .int 0, .int 0, .null, .null, .int 0, .int 0])), (q1, .inl (Γ.2.1 0, 7, .inl (fun _ => 0))), (q2, .inl (Γ.2.1 0, 5654, .inl (fun _ => 0))), (q3, .inl (Γ.2.1 0, 11308, .inl (fun _ => 0))), (q4, .inl (Γ.2.1 2, 2, .inl (fun _ => 0))), (q5, .inl (Γ.2.1 0, 30, .inl (fun _ => 0))), (q6, .inl (Γ.2.1 1, 124, .inl (wd 4)))]) S hw 6 rfl (by unfold vp_in; decide) (wd_u 3 (by decide) (by decide +kernel)) rfl dMo_init_69 (fun H locs hw => ?_)
  refine lv_dup S.1 S.2.1 dMo_init_70 rfl ?_
  refine lv_iconst (v := (4 : Int32)) S.1 S.2.1 dMo_init_71 (by decide) ?_
  refine lv_bipush (v := (116 : Int32)) S.1 S.2.1 dMo_init_72 (by decide) ?_
  refine sk_bast (x' := [(h0, .inr (8, [.int 0, .ref q1, .ref q2, .ref q3, .ref q4, .ref q5, .int 0, .null, .int 0, .int 0, .int 0, .null, .null, .int 0, .int 0, .null, .null, .null, .int 0, .int 0, .int 0, .int 0, .int 0, .int 0, .int 0, .int 0, .null, .int 0, .int 0, .int 0, .null, .null, .null, .int 0, .null, .null, .null, .int 0, .null, .null, .null, .null, .null, .int 0, .int 0, .int 0, .int 0, .int 0, .int 0, .null, .null, .int 0, .int 0])), (q1, .inl (Γ.2.1 0, 7, .inl (fun _ => 0))), (q2, .inl (Γ.2.1 0, 5654, .inl (fun _ => 0))), (q3, .inl (Γ.2.1 0, 11308, .inl (fun _ => 0))), (q4, .inl (Γ.2.1 2, 2, .inl (fun _ => 0))), (q5, .inl (Γ.2.1 0, 30, .inl (fun _ => 0))), (q6, .inl (Γ.2.1 1, 124, .inl (wd 5)))]) S hw 6 rfl (by unfold vp_in; decide) (wd_u 4 (by decide) (by decide +kernel)) rfl dMo_init_74 (fun H locs hw => ?_)
  refine lv_dup S.1 S.2.1 dMo_init_75 rfl ?_
  refine lv_iconst (v := (5 : Int32)) S.1 S.2.1 dMo_init_76 (by decide) ?_
  refine lv_bipush (v := (115 : Int32)) S.1 S.2.1 dMo_init_77 (by decide) ?_
  refine sk_bast (x' := [(h0, .inr (8, [.int 0, .ref q1, .ref q2, .ref q3, .ref q4, .ref q5, .int 0, .null, .int 0, .int 0, .int 0, .null, .null, .int 0, .int 0, .null, .null, .null, .int 0, .int 0, .int 0, .int 0, .int 0, .int 0, .int 0, .int 0, .null, .int 0, .int 0, .int 0, .null, .null, .null, .int 0, .null, .null, .null, .int 0, .null, .null, .null, .null, .null, .int 0, .int 0, .int 0, .int 0, .int 0, .int 0, .null, .null, .int 0, .int 0])), (q1, .inl (Γ.2.1 0, 7, .inl (fun _ => 0))), (q2, .inl (Γ.2.1 0, 5654, .inl (fun _ => 0))), (q3, .inl (Γ.2.1 0, 11308, .inl (fun _ => 0))), (q4, .inl (Γ.2.1 2, 2, .inl (fun _ => 0))), (q5, .inl (Γ.2.1 0, 30, .inl (fun _ => 0))), (q6, .inl (Γ.2.1 1, 124, .inl (wd 6)))]) S hw 6 rfl (by unfold vp_in; decide) (wd_u 5 (by decide) (by decide +kernel)) rfl dMo_init_79 (fun H locs hw => ?_)
  refine lv_dup S.1 S.2.1 dMo_init_80 rfl ?_
  refine lv_bipush (v := (6 : Int32)) S.1 S.2.1 dMo_init_81 (by decide) ?_
  refine lv_bipush (v := (32 : Int32)) S.1 S.2.1 dMo_init_83 (by decide) ?_
  refine sk_bast (x' := [(h0, .inr (8, [.int 0, .ref q1, .ref q2, .ref q3, .ref q4, .ref q5, .int 0, .null, .int 0, .int 0, .int 0, .null, .null, .int 0, .int 0, .null, .null, .null, .int 0, .int 0, .int 0, .int 0, .int 0, .int 0, .int 0, .int 0, .null, .int 0, .int 0, .int 0, .null, .null, .null, .int 0, .null, .null, .null, .int 0, .null, .null, .null, .null, .null, .int 0, .int 0, .int 0, .int 0, .int 0, .int 0, .null, .null, .int 0, .int 0])), (q1, .inl (Γ.2.1 0, 7, .inl (fun _ => 0))), (q2, .inl (Γ.2.1 0, 5654, .inl (fun _ => 0))), (q3, .inl (Γ.2.1 0, 11308, .inl (fun _ => 0))), (q4, .inl (Γ.2.1 2, 2, .inl (fun _ => 0))), (q5, .inl (Γ.2.1 0, 30, .inl (fun _ => 0))), (q6, .inl (Γ.2.1 1, 124, .inl (wd 7)))]) S hw 6 rfl (by unfold vp_in; decide) (wd_u 6 (by decide) (by decide +kernel)) rfl dMo_init_85 (fun H locs hw => ?_)
  refine lv_dup S.1 S.2.1 dMo_init_86 rfl ?_
  refine lv_bipush (v := (7 : Int32)) S.1 S.2.1 dMo_init_87 (by decide) ?_
  refine lv_bipush (v := (115 : Int32)) S.1 S.2.1 dMo_init_89 (by decide) ?_
  refine sk_bast (x' := [(h0, .inr (8, [.int 0, .ref q1, .ref q2, .ref q3, .ref q4, .ref q5, .int 0, .null, .int 0, .int 0, .int 0, .null, .null, .int 0, .int 0, .null, .null, .null, .int 0, .int 0, .int 0, .int 0, .int 0, .int 0, .int 0, .int 0, .null, .int 0, .int 0, .int 0, .null, .null, .null, .int 0, .null, .null, .null, .int 0, .null, .null, .null, .null, .null, .int 0, .int 0, .int 0, .int 0, .int 0, .int 0, .null, .null, .int 0, .int 0])), (q1, .inl (Γ.2.1 0, 7, .inl (fun _ => 0))), (q2, .inl (Γ.2.1 0, 5654, .inl (fun _ => 0))), (q3, .inl (Γ.2.1 0, 11308, .inl (fun _ => 0))), (q4, .inl (Γ.2.1 2, 2, .inl (fun _ => 0))), (q5, .inl (Γ.2.1 0, 30, .inl (fun _ => 0))), (q6, .inl (Γ.2.1 1, 124, .inl (wd 8)))]) S hw 6 rfl (by unfold vp_in; decide) (wd_u 7 (by decide) (by decide +kernel)) rfl dMo_init_91 (fun H locs hw => ?_)
  refine lv_dup S.1 S.2.1 dMo_init_92 rfl ?_
  refine lv_bipush (v := (8 : Int32)) S.1 S.2.1 dMo_init_93 (by decide) ?_
  refine lv_bipush (v := (104 : Int32)) S.1 S.2.1 dMo_init_95 (by decide) ?_
  refine sk_bast (x' := [(h0, .inr (8, [.int 0, .ref q1, .ref q2, .ref q3, .ref q4, .ref q5, .int 0, .null, .int 0, .int 0, .int 0, .null, .null, .int 0, .int 0, .null, .null, .null, .int 0, .int 0, .int 0, .int 0, .int 0, .int 0, .int 0, .int 0, .null, .int 0, .int 0, .int 0, .null, .null, .null, .int 0, .null, .null, .null, .int 0, .null, .null, .null, .null, .null, .int 0, .int 0, .int 0, .int 0, .int 0, .int 0, .null, .null, .int 0, .int 0])), (q1, .inl (Γ.2.1 0, 7, .inl (fun _ => 0))), (q2, .inl (Γ.2.1 0, 5654, .inl (fun _ => 0))), (q3, .inl (Γ.2.1 0, 11308, .inl (fun _ => 0))), (q4, .inl (Γ.2.1 2, 2, .inl (fun _ => 0))), (q5, .inl (Γ.2.1 0, 30, .inl (fun _ => 0))), (q6, .inl (Γ.2.1 1, 124, .inl (wd 9)))]) S hw 6 rfl (by unfold vp_in; decide) (wd_u 8 (by decide) (by decide +kernel)) rfl dMo_init_97 (fun H locs hw => ?_)
  refine lv_dup S.1 S.2.1 dMo_init_98 rfl ?_
  refine lv_bipush (v := (9 : Int32)) S.1 S.2.1 dMo_init_99 (by decide) ?_
  refine lv_bipush (v := (101 : Int32)) S.1 S.2.1 dMo_init_101 (by decide) ?_
  refine sk_bast (x' := [(h0, .inr (8, [.int 0, .ref q1, .ref q2, .ref q3, .ref q4, .ref q5, .int 0, .null, .int 0, .int 0, .int 0, .null, .null, .int 0, .int 0, .null, .null, .null, .int 0, .int 0, .int 0, .int 0, .int 0, .int 0, .int 0, .int 0, .null, .int 0, .int 0, .int 0, .null, .null, .null, .int 0, .null, .null, .null, .int 0, .null, .null, .null, .null, .null, .int 0, .int 0, .int 0, .int 0, .int 0, .int 0, .null, .null, .int 0, .int 0])), (q1, .inl (Γ.2.1 0, 7, .inl (fun _ => 0))), (q2, .inl (Γ.2.1 0, 5654, .inl (fun _ => 0))), (q3, .inl (Γ.2.1 0, 11308, .inl (fun _ => 0))), (q4, .inl (Γ.2.1 2, 2, .inl (fun _ => 0))), (q5, .inl (Γ.2.1 0, 30, .inl (fun _ => 0))), (q6, .inl (Γ.2.1 1, 124, .inl (wd 10)))]) S hw 6 rfl (by unfold vp_in; decide) (wd_u 9 (by decide) (by decide +kernel)) rfl dMo_init_103 (fun H locs hw => ?_)
  refine lv_dup S.1 S.2.1 dMo_init_104 rfl ?_
  refine lv_bipush (v := (10 : Int32)) S.1 S.2.1 dMo_init_105 (by decide) ?_
  refine lv_bipush (v := (100 : Int32)) S.1 S.2.1 dMo_init_107 (by decide) ?_
  refine sk_bast (x' := [(h0, .inr (8, [.int 0, .ref q1, .ref q2, .ref q3, .ref q4, .ref q5, .int 0, .null, .int 0, .int 0, .int 0, .null, .null, .int 0, .int 0, .null, .null, .null, .int 0, .int 0, .int 0, .int 0, .int 0, .int 0, .int 0, .int 0, .null, .int 0, .int 0, .int 0, .null, .null, .null, .int 0, .null, .null, .null, .int 0, .null, .null, .null, .null, .null, .int 0, .int 0, .int 0, .int 0, .int 0, .int 0, .null, .null, .int 0, .int 0])), (q1, .inl (Γ.2.1 0, 7, .inl (fun _ => 0))), (q2, .inl (Γ.2.1 0, 5654, .inl (fun _ => 0))), (q3, .inl (Γ.2.1 0, 11308, .inl (fun _ => 0))), (q4, .inl (Γ.2.1 2, 2, .inl (fun _ => 0))), (q5, .inl (Γ.2.1 0, 30, .inl (fun _ => 0))), (q6, .inl (Γ.2.1 1, 124, .inl (wd 11)))]) S hw 6 rfl (by unfold vp_in; decide) (wd_u 10 (by decide) (by decide +kernel)) rfl dMo_init_109 (fun H locs hw => ?_)
  refine lv_dup S.1 S.2.1 dMo_init_110 rfl ?_
  refine lv_bipush (v := (11 : Int32)) S.1 S.2.1 dMo_init_111 (by decide) ?_
  refine lv_bipush (v := (115 : Int32)) S.1 S.2.1 dMo_init_113 (by decide) ?_
  refine sk_bast (x' := [(h0, .inr (8, [.int 0, .ref q1, .ref q2, .ref q3, .ref q4, .ref q5, .int 0, .null, .int 0, .int 0, .int 0, .null, .null, .int 0, .int 0, .null, .null, .null, .int 0, .int 0, .int 0, .int 0, .int 0, .int 0, .int 0, .int 0, .null, .int 0, .int 0, .int 0, .null, .null, .null, .int 0, .null, .null, .null, .int 0, .null, .null, .null, .null, .null, .int 0, .int 0, .int 0, .int 0, .int 0, .int 0, .null, .null, .int 0, .int 0])), (q1, .inl (Γ.2.1 0, 7, .inl (fun _ => 0))), (q2, .inl (Γ.2.1 0, 5654, .inl (fun _ => 0))), (q3, .inl (Γ.2.1 0, 11308, .inl (fun _ => 0))), (q4, .inl (Γ.2.1 2, 2, .inl (fun _ => 0))), (q5, .inl (Γ.2.1 0, 30, .inl (fun _ => 0))), (q6, .inl (Γ.2.1 1, 124, .inl (wd 12)))]) S hw 6 rfl (by unfold vp_in; decide) (wd_u 11 (by decide) (by decide +kernel)) rfl dMo_init_115 (fun H locs hw => ?_)
  refine lv_dup S.1 S.2.1 dMo_init_116 rfl ?_
  refine lv_bipush (v := (12 : Int32)) S.1 S.2.1 dMo_init_117 (by decide) ?_
  refine lv_bipush (v := (32 : Int32)) S.1 S.2.1 dMo_init_119 (by decide) ?_
  refine sk_bast (x' := [(h0, .inr (8, [.int 0, .ref q1, .ref q2, .ref q3, .ref q4, .ref q5, .int 0, .null, .int 0, .int 0, .int 0, .null, .null, .int 0, .int 0, .null, .null, .null, .int 0, .int 0, .int 0, .int 0, .int 0, .int 0, .int 0, .int 0, .null, .int 0, .int 0, .int 0, .null, .null, .null, .int 0, .null, .null, .null, .int 0, .null, .null, .null, .null, .null, .int 0, .int 0, .int 0, .int 0, .int 0, .int 0, .null, .null, .int 0, .int 0])), (q1, .inl (Γ.2.1 0, 7, .inl (fun _ => 0))), (q2, .inl (Γ.2.1 0, 5654, .inl (fun _ => 0))), (q3, .inl (Γ.2.1 0, 11308, .inl (fun _ => 0))), (q4, .inl (Γ.2.1 2, 2, .inl (fun _ => 0))), (q5, .inl (Γ.2.1 0, 30, .inl (fun _ => 0))), (q6, .inl (Γ.2.1 1, 124, .inl (wd 13)))]) S hw 6 rfl (by unfold vp_in; decide) (wd_u 12 (by decide) (by decide +kernel)) rfl dMo_init_121 (fun H locs hw => ?_)
  refine lv_dup S.1 S.2.1 dMo_init_122 rfl ?_
  refine lv_bipush (v := (13 : Int32)) S.1 S.2.1 dMo_init_123 (by decide) ?_
  refine lv_bipush (v := (98 : Int32)) S.1 S.2.1 dMo_init_125 (by decide) ?_
  refine sk_bast (x' := [(h0, .inr (8, [.int 0, .ref q1, .ref q2, .ref q3, .ref q4, .ref q5, .int 0, .null, .int 0, .int 0, .int 0, .null, .null, .int 0, .int 0, .null, .null, .null, .int 0, .int 0, .int 0, .int 0, .int 0, .int 0, .int 0, .int 0, .null, .int 0, .int 0, .int 0, .null, .null, .null, .int 0, .null, .null, .null, .int 0, .null, .null, .null, .null, .null, .int 0, .int 0, .int 0, .int 0, .int 0, .int 0, .null, .null, .int 0, .int 0])), (q1, .inl (Γ.2.1 0, 7, .inl (fun _ => 0))), (q2, .inl (Γ.2.1 0, 5654, .inl (fun _ => 0))), (q3, .inl (Γ.2.1 0, 11308, .inl (fun _ => 0))), (q4, .inl (Γ.2.1 2, 2, .inl (fun _ => 0))), (q5, .inl (Γ.2.1 0, 30, .inl (fun _ => 0))), (q6, .inl (Γ.2.1 1, 124, .inl (wd 14)))]) S hw 6 rfl (by unfold vp_in; decide) (wd_u 13 (by decide) (by decide +kernel)) rfl dMo_init_127 (fun H locs hw => ?_)
  refine lv_dup S.1 S.2.1 dMo_init_128 rfl ?_
  refine lv_bipush (v := (14 : Int32)) S.1 S.2.1 dMo_init_129 (by decide) ?_
  refine lv_bipush (v := (97 : Int32)) S.1 S.2.1 dMo_init_131 (by decide) ?_
  refine sk_bast (x' := [(h0, .inr (8, [.int 0, .ref q1, .ref q2, .ref q3, .ref q4, .ref q5, .int 0, .null, .int 0, .int 0, .int 0, .null, .null, .int 0, .int 0, .null, .null, .null, .int 0, .int 0, .int 0, .int 0, .int 0, .int 0, .int 0, .int 0, .null, .int 0, .int 0, .int 0, .null, .null, .null, .int 0, .null, .null, .null, .int 0, .null, .null, .null, .null, .null, .int 0, .int 0, .int 0, .int 0, .int 0, .int 0, .null, .null, .int 0, .int 0])), (q1, .inl (Γ.2.1 0, 7, .inl (fun _ => 0))), (q2, .inl (Γ.2.1 0, 5654, .inl (fun _ => 0))), (q3, .inl (Γ.2.1 0, 11308, .inl (fun _ => 0))), (q4, .inl (Γ.2.1 2, 2, .inl (fun _ => 0))), (q5, .inl (Γ.2.1 0, 30, .inl (fun _ => 0))), (q6, .inl (Γ.2.1 1, 124, .inl (wd 15)))]) S hw 6 rfl (by unfold vp_in; decide) (wd_u 14 (by decide) (by decide +kernel)) rfl dMo_init_133 (fun H locs hw => ?_)
  refine lv_dup S.1 S.2.1 dMo_init_134 rfl ?_
  refine lv_bipush (v := (15 : Int32)) S.1 S.2.1 dMo_init_135 (by decide) ?_
  refine lv_bipush (v := (114 : Int32)) S.1 S.2.1 dMo_init_137 (by decide) ?_
  refine sk_bast (x' := [(h0, .inr (8, [.int 0, .ref q1, .ref q2, .ref q3, .ref q4, .ref q5, .int 0, .null, .int 0, .int 0, .int 0, .null, .null, .int 0, .int 0, .null, .null, .null, .int 0, .int 0, .int 0, .int 0, .int 0, .int 0, .int 0, .int 0, .null, .int 0, .int 0, .int 0, .null, .null, .null, .int 0, .null, .null, .null, .int 0, .null, .null, .null, .null, .null, .int 0, .int 0, .int 0, .int 0, .int 0, .int 0, .null, .null, .int 0, .int 0])), (q1, .inl (Γ.2.1 0, 7, .inl (fun _ => 0))), (q2, .inl (Γ.2.1 0, 5654, .inl (fun _ => 0))), (q3, .inl (Γ.2.1 0, 11308, .inl (fun _ => 0))), (q4, .inl (Γ.2.1 2, 2, .inl (fun _ => 0))), (q5, .inl (Γ.2.1 0, 30, .inl (fun _ => 0))), (q6, .inl (Γ.2.1 1, 124, .inl (wd 16)))]) S hw 6 rfl (by unfold vp_in; decide) (wd_u 15 (by decide) (by decide +kernel)) rfl dMo_init_139 (fun H locs hw => ?_)
  refine lv_dup S.1 S.2.1 dMo_init_140 rfl ?_
  refine lv_bipush (v := (16 : Int32)) S.1 S.2.1 dMo_init_141 (by decide) ?_
  refine lv_bipush (v := (115 : Int32)) S.1 S.2.1 dMo_init_143 (by decide) ?_
  refine sk_bast (x' := [(h0, .inr (8, [.int 0, .ref q1, .ref q2, .ref q3, .ref q4, .ref q5, .int 0, .null, .int 0, .int 0, .int 0, .null, .null, .int 0, .int 0, .null, .null, .null, .int 0, .int 0, .int 0, .int 0, .int 0, .int 0, .int 0, .int 0, .null, .int 0, .int 0, .int 0, .null, .null, .null, .int 0, .null, .null, .null, .int 0, .null, .null, .null, .null, .null, .int 0, .int 0, .int 0, .int 0, .int 0, .int 0, .null, .null, .int 0, .int 0])), (q1, .inl (Γ.2.1 0, 7, .inl (fun _ => 0))), (q2, .inl (Γ.2.1 0, 5654, .inl (fun _ => 0))), (q3, .inl (Γ.2.1 0, 11308, .inl (fun _ => 0))), (q4, .inl (Γ.2.1 2, 2, .inl (fun _ => 0))), (q5, .inl (Γ.2.1 0, 30, .inl (fun _ => 0))), (q6, .inl (Γ.2.1 1, 124, .inl (wd 17)))]) S hw 6 rfl (by unfold vp_in; decide) (wd_u 16 (by decide) (by decide +kernel)) rfl dMo_init_145 (fun H locs hw => ?_)
  refine lv_dup S.1 S.2.1 dMo_init_146 rfl ?_
  refine lv_bipush (v := (17 : Int32)) S.1 S.2.1 dMo_init_147 (by decide) ?_
  refine lv_bipush (v := (32 : Int32)) S.1 S.2.1 dMo_init_149 (by decide) ?_
  refine sk_bast (x' := [(h0, .inr (8, [.int 0, .ref q1, .ref q2, .ref q3, .ref q4, .ref q5, .int 0, .null, .int 0, .int 0, .int 0, .null, .null, .int 0, .int 0, .null, .null, .null, .int 0, .int 0, .int 0, .int 0, .int 0, .int 0, .int 0, .int 0, .null, .int 0, .int 0, .int 0, .null, .null, .null, .int 0, .null, .null, .null, .int 0, .null, .null, .null, .null, .null, .int 0, .int 0, .int 0, .int 0, .int 0, .int 0, .null, .null, .int 0, .int 0])), (q1, .inl (Γ.2.1 0, 7, .inl (fun _ => 0))), (q2, .inl (Γ.2.1 0, 5654, .inl (fun _ => 0))), (q3, .inl (Γ.2.1 0, 11308, .inl (fun _ => 0))), (q4, .inl (Γ.2.1 2, 2, .inl (fun _ => 0))), (q5, .inl (Γ.2.1 0, 30, .inl (fun _ => 0))), (q6, .inl (Γ.2.1 1, 124, .inl (wd 18)))]) S hw 6 rfl (by unfold vp_in; decide) (wd_u 17 (by decide) (by decide +kernel)) rfl dMo_init_151 (fun H locs hw => ?_)
  refine lv_dup S.1 S.2.1 dMo_init_152 rfl ?_
  refine lv_bipush (v := (18 : Int32)) S.1 S.2.1 dMo_init_153 (by decide) ?_
  refine lv_bipush (v := (105 : Int32)) S.1 S.2.1 dMo_init_155 (by decide) ?_
  refine sk_bast (x' := [(h0, .inr (8, [.int 0, .ref q1, .ref q2, .ref q3, .ref q4, .ref q5, .int 0, .null, .int 0, .int 0, .int 0, .null, .null, .int 0, .int 0, .null, .null, .null, .int 0, .int 0, .int 0, .int 0, .int 0, .int 0, .int 0, .int 0, .null, .int 0, .int 0, .int 0, .null, .null, .null, .int 0, .null, .null, .null, .int 0, .null, .null, .null, .null, .null, .int 0, .int 0, .int 0, .int 0, .int 0, .int 0, .null, .null, .int 0, .int 0])), (q1, .inl (Γ.2.1 0, 7, .inl (fun _ => 0))), (q2, .inl (Γ.2.1 0, 5654, .inl (fun _ => 0))), (q3, .inl (Γ.2.1 0, 11308, .inl (fun _ => 0))), (q4, .inl (Γ.2.1 2, 2, .inl (fun _ => 0))), (q5, .inl (Γ.2.1 0, 30, .inl (fun _ => 0))), (q6, .inl (Γ.2.1 1, 124, .inl (wd 19)))]) S hw 6 rfl (by unfold vp_in; decide) (wd_u 18 (by decide) (by decide +kernel)) rfl dMo_init_157 (fun H locs hw => ?_)
  refine lv_dup S.1 S.2.1 dMo_init_158 rfl ?_
  refine lv_bipush (v := (19 : Int32)) S.1 S.2.1 dMo_init_159 (by decide) ?_
  refine lv_bipush (v := (102 : Int32)) S.1 S.2.1 dMo_init_161 (by decide) ?_
  refine sk_bast (x' := [(h0, .inr (8, [.int 0, .ref q1, .ref q2, .ref q3, .ref q4, .ref q5, .int 0, .null, .int 0, .int 0, .int 0, .null, .null, .int 0, .int 0, .null, .null, .null, .int 0, .int 0, .int 0, .int 0, .int 0, .int 0, .int 0, .int 0, .null, .int 0, .int 0, .int 0, .null, .null, .null, .int 0, .null, .null, .null, .int 0, .null, .null, .null, .null, .null, .int 0, .int 0, .int 0, .int 0, .int 0, .int 0, .null, .null, .int 0, .int 0])), (q1, .inl (Γ.2.1 0, 7, .inl (fun _ => 0))), (q2, .inl (Γ.2.1 0, 5654, .inl (fun _ => 0))), (q3, .inl (Γ.2.1 0, 11308, .inl (fun _ => 0))), (q4, .inl (Γ.2.1 2, 2, .inl (fun _ => 0))), (q5, .inl (Γ.2.1 0, 30, .inl (fun _ => 0))), (q6, .inl (Γ.2.1 1, 124, .inl (wd 20)))]) S hw 6 rfl (by unfold vp_in; decide) (wd_u 19 (by decide) (by decide +kernel)) rfl dMo_init_163 (fun H locs hw => ?_)
  refine lv_dup S.1 S.2.1 dMo_init_164 rfl ?_
  refine lv_bipush (v := (20 : Int32)) S.1 S.2.1 dMo_init_165 (by decide) ?_
  refine lv_bipush (v := (32 : Int32)) S.1 S.2.1 dMo_init_167 (by decide) ?_
  refine sk_bast (x' := [(h0, .inr (8, [.int 0, .ref q1, .ref q2, .ref q3, .ref q4, .ref q5, .int 0, .null, .int 0, .int 0, .int 0, .null, .null, .int 0, .int 0, .null, .null, .null, .int 0, .int 0, .int 0, .int 0, .int 0, .int 0, .int 0, .int 0, .null, .int 0, .int 0, .int 0, .null, .null, .null, .int 0, .null, .null, .null, .int 0, .null, .null, .null, .null, .null, .int 0, .int 0, .int 0, .int 0, .int 0, .int 0, .null, .null, .int 0, .int 0])), (q1, .inl (Γ.2.1 0, 7, .inl (fun _ => 0))), (q2, .inl (Γ.2.1 0, 5654, .inl (fun _ => 0))), (q3, .inl (Γ.2.1 0, 11308, .inl (fun _ => 0))), (q4, .inl (Γ.2.1 2, 2, .inl (fun _ => 0))), (q5, .inl (Γ.2.1 0, 30, .inl (fun _ => 0))), (q6, .inl (Γ.2.1 1, 124, .inl (wd 21)))]) S hw 6 rfl (by unfold vp_in; decide) (wd_u 20 (by decide) (by decide +kernel)) rfl dMo_init_169 (fun H locs hw => ?_)
  refine lv_dup S.1 S.2.1 dMo_init_170 rfl ?_
  refine lv_bipush (v := (21 : Int32)) S.1 S.2.1 dMo_init_171 (by decide) ?_
  refine lv_bipush (v := (111 : Int32)) S.1 S.2.1 dMo_init_173 (by decide) ?_
  refine sk_bast (x' := [(h0, .inr (8, [.int 0, .ref q1, .ref q2, .ref q3, .ref q4, .ref q5, .int 0, .null, .int 0, .int 0, .int 0, .null, .null, .int 0, .int 0, .null, .null, .null, .int 0, .int 0, .int 0, .int 0, .int 0, .int 0, .int 0, .int 0, .null, .int 0, .int 0, .int 0, .null, .null, .null, .int 0, .null, .null, .null, .int 0, .null, .null, .null, .null, .null, .int 0, .int 0, .int 0, .int 0, .int 0, .int 0, .null, .null, .int 0, .int 0])), (q1, .inl (Γ.2.1 0, 7, .inl (fun _ => 0))), (q2, .inl (Γ.2.1 0, 5654, .inl (fun _ => 0))), (q3, .inl (Γ.2.1 0, 11308, .inl (fun _ => 0))), (q4, .inl (Γ.2.1 2, 2, .inl (fun _ => 0))), (q5, .inl (Γ.2.1 0, 30, .inl (fun _ => 0))), (q6, .inl (Γ.2.1 1, 124, .inl (wd 22)))]) S hw 6 rfl (by unfold vp_in; decide) (wd_u 21 (by decide) (by decide +kernel)) rfl dMo_init_175 (fun H locs hw => ?_)
  refine lv_dup S.1 S.2.1 dMo_init_176 rfl ?_
  refine lv_bipush (v := (22 : Int32)) S.1 S.2.1 dMo_init_177 (by decide) ?_
  refine lv_bipush (v := (114 : Int32)) S.1 S.2.1 dMo_init_179 (by decide) ?_
  refine sk_bast (x' := [(h0, .inr (8, [.int 0, .ref q1, .ref q2, .ref q3, .ref q4, .ref q5, .int 0, .null, .int 0, .int 0, .int 0, .null, .null, .int 0, .int 0, .null, .null, .null, .int 0, .int 0, .int 0, .int 0, .int 0, .int 0, .int 0, .int 0, .null, .int 0, .int 0, .int 0, .null, .null, .null, .int 0, .null, .null, .null, .int 0, .null, .null, .null, .null, .null, .int 0, .int 0, .int 0, .int 0, .int 0, .int 0, .null, .null, .int 0, .int 0])), (q1, .inl (Γ.2.1 0, 7, .inl (fun _ => 0))), (q2, .inl (Γ.2.1 0, 5654, .inl (fun _ => 0))), (q3, .inl (Γ.2.1 0, 11308, .inl (fun _ => 0))), (q4, .inl (Γ.2.1 2, 2, .inl (fun _ => 0))), (q5, .inl (Γ.2.1 0, 30, .inl (fun _ => 0))), (q6, .inl (Γ.2.1 1, 124, .inl (wd 23)))]) S hw 6 rfl (by unfold vp_in; decide) (wd_u 22 (by decide) (by decide +kernel)) rfl dMo_init_181 (fun H locs hw => ?_)
  refine lv_dup S.1 S.2.1 dMo_init_182 rfl ?_
  refine lv_bipush (v := (23 : Int32)) S.1 S.2.1 dMo_init_183 (by decide) ?_
  refine lv_bipush (v := (32 : Int32)) S.1 S.2.1 dMo_init_185 (by decide) ?_
  refine sk_bast (x' := [(h0, .inr (8, [.int 0, .ref q1, .ref q2, .ref q3, .ref q4, .ref q5, .int 0, .null, .int 0, .int 0, .int 0, .null, .null, .int 0, .int 0, .null, .null, .null, .int 0, .int 0, .int 0, .int 0, .int 0, .int 0, .int 0, .int 0, .null, .int 0, .int 0, .int 0, .null, .null, .null, .int 0, .null, .null, .null, .int 0, .null, .null, .null, .null, .null, .int 0, .int 0, .int 0, .int 0, .int 0, .int 0, .null, .null, .int 0, .int 0])), (q1, .inl (Γ.2.1 0, 7, .inl (fun _ => 0))), (q2, .inl (Γ.2.1 0, 5654, .inl (fun _ => 0))), (q3, .inl (Γ.2.1 0, 11308, .inl (fun _ => 0))), (q4, .inl (Γ.2.1 2, 2, .inl (fun _ => 0))), (q5, .inl (Γ.2.1 0, 30, .inl (fun _ => 0))), (q6, .inl (Γ.2.1 1, 124, .inl (wd 24)))]) S hw 6 rfl (by unfold vp_in; decide) (wd_u 23 (by decide) (by decide +kernel)) rfl dMo_init_187 (fun H locs hw => ?_)
  refine lv_dup S.1 S.2.1 dMo_init_188 rfl ?_
  refine lv_bipush (v := (24 : Int32)) S.1 S.2.1 dMo_init_189 (by decide) ?_
  refine lv_bipush (v := (97 : Int32)) S.1 S.2.1 dMo_init_191 (by decide) ?_
  refine sk_bast (x' := [(h0, .inr (8, [.int 0, .ref q1, .ref q2, .ref q3, .ref q4, .ref q5, .int 0, .null, .int 0, .int 0, .int 0, .null, .null, .int 0, .int 0, .null, .null, .null, .int 0, .int 0, .int 0, .int 0, .int 0, .int 0, .int 0, .int 0, .null, .int 0, .int 0, .int 0, .null, .null, .null, .int 0, .null, .null, .null, .int 0, .null, .null, .null, .null, .null, .int 0, .int 0, .int 0, .int 0, .int 0, .int 0, .null, .null, .int 0, .int 0])), (q1, .inl (Γ.2.1 0, 7, .inl (fun _ => 0))), (q2, .inl (Γ.2.1 0, 5654, .inl (fun _ => 0))), (q3, .inl (Γ.2.1 0, 11308, .inl (fun _ => 0))), (q4, .inl (Γ.2.1 2, 2, .inl (fun _ => 0))), (q5, .inl (Γ.2.1 0, 30, .inl (fun _ => 0))), (q6, .inl (Γ.2.1 1, 124, .inl (wd 25)))]) S hw 6 rfl (by unfold vp_in; decide) (wd_u 24 (by decide) (by decide +kernel)) rfl dMo_init_193 (fun H locs hw => ?_)
  refine lv_dup S.1 S.2.1 dMo_init_194 rfl ?_
  refine lv_bipush (v := (25 : Int32)) S.1 S.2.1 dMo_init_195 (by decide) ?_
  refine lv_bipush (v := (110 : Int32)) S.1 S.2.1 dMo_init_197 (by decide) ?_
  refine sk_bast (x' := [(h0, .inr (8, [.int 0, .ref q1, .ref q2, .ref q3, .ref q4, .ref q5, .int 0, .null, .int 0, .int 0, .int 0, .null, .null, .int 0, .int 0, .null, .null, .null, .int 0, .int 0, .int 0, .int 0, .int 0, .int 0, .int 0, .int 0, .null, .int 0, .int 0, .int 0, .null, .null, .null, .int 0, .null, .null, .null, .int 0, .null, .null, .null, .null, .null, .int 0, .int 0, .int 0, .int 0, .int 0, .int 0, .null, .null, .int 0, .int 0])), (q1, .inl (Γ.2.1 0, 7, .inl (fun _ => 0))), (q2, .inl (Γ.2.1 0, 5654, .inl (fun _ => 0))), (q3, .inl (Γ.2.1 0, 11308, .inl (fun _ => 0))), (q4, .inl (Γ.2.1 2, 2, .inl (fun _ => 0))), (q5, .inl (Γ.2.1 0, 30, .inl (fun _ => 0))), (q6, .inl (Γ.2.1 1, 124, .inl (wd 26)))]) S hw 6 rfl (by unfold vp_in; decide) (wd_u 25 (by decide) (by decide +kernel)) rfl dMo_init_199 (fun H locs hw => ?_)
  refine lv_dup S.1 S.2.1 dMo_init_200 rfl ?_
  refine lv_bipush (v := (26 : Int32)) S.1 S.2.1 dMo_init_201 (by decide) ?_
  refine lv_bipush (v := (100 : Int32)) S.1 S.2.1 dMo_init_203 (by decide) ?_
  refine sk_bast (x' := [(h0, .inr (8, [.int 0, .ref q1, .ref q2, .ref q3, .ref q4, .ref q5, .int 0, .null, .int 0, .int 0, .int 0, .null, .null, .int 0, .int 0, .null, .null, .null, .int 0, .int 0, .int 0, .int 0, .int 0, .int 0, .int 0, .int 0, .null, .int 0, .int 0, .int 0, .null, .null, .null, .int 0, .null, .null, .null, .int 0, .null, .null, .null, .null, .null, .int 0, .int 0, .int 0, .int 0, .int 0, .int 0, .null, .null, .int 0, .int 0])), (q1, .inl (Γ.2.1 0, 7, .inl (fun _ => 0))), (q2, .inl (Γ.2.1 0, 5654, .inl (fun _ => 0))), (q3, .inl (Γ.2.1 0, 11308, .inl (fun _ => 0))), (q4, .inl (Γ.2.1 2, 2, .inl (fun _ => 0))), (q5, .inl (Γ.2.1 0, 30, .inl (fun _ => 0))), (q6, .inl (Γ.2.1 1, 124, .inl (wd 27)))]) S hw 6 rfl (by unfold vp_in; decide) (wd_u 26 (by decide) (by decide +kernel)) rfl dMo_init_205 (fun H locs hw => ?_)
  refine lv_dup S.1 S.2.1 dMo_init_206 rfl ?_
  refine lv_bipush (v := (27 : Int32)) S.1 S.2.1 dMo_init_207 (by decide) ?_
  refine lv_bipush (v := (32 : Int32)) S.1 S.2.1 dMo_init_209 (by decide) ?_
  refine sk_bast (x' := [(h0, .inr (8, [.int 0, .ref q1, .ref q2, .ref q3, .ref q4, .ref q5, .int 0, .null, .int 0, .int 0, .int 0, .null, .null, .int 0, .int 0, .null, .null, .null, .int 0, .int 0, .int 0, .int 0, .int 0, .int 0, .int 0, .int 0, .null, .int 0, .int 0, .int 0, .null, .null, .null, .int 0, .null, .null, .null, .int 0, .null, .null, .null, .null, .null, .int 0, .int 0, .int 0, .int 0, .int 0, .int 0, .null, .null, .int 0, .int 0])), (q1, .inl (Γ.2.1 0, 7, .inl (fun _ => 0))), (q2, .inl (Γ.2.1 0, 5654, .inl (fun _ => 0))), (q3, .inl (Γ.2.1 0, 11308, .inl (fun _ => 0))), (q4, .inl (Γ.2.1 2, 2, .inl (fun _ => 0))), (q5, .inl (Γ.2.1 0, 30, .inl (fun _ => 0))), (q6, .inl (Γ.2.1 1, 124, .inl (wd 28)))]) S hw 6 rfl (by unfold vp_in; decide) (wd_u 27 (by decide) (by decide +kernel)) rfl dMo_init_211 (fun H locs hw => ?_)
  refine lv_dup S.1 S.2.1 dMo_init_212 rfl ?_
  refine lv_bipush (v := (28 : Int32)) S.1 S.2.1 dMo_init_213 (by decide) ?_
  refine lv_bipush (v := (110 : Int32)) S.1 S.2.1 dMo_init_215 (by decide) ?_
  refine sk_bast (x' := [(h0, .inr (8, [.int 0, .ref q1, .ref q2, .ref q3, .ref q4, .ref q5, .int 0, .null, .int 0, .int 0, .int 0, .null, .null, .int 0, .int 0, .null, .null, .null, .int 0, .int 0, .int 0, .int 0, .int 0, .int 0, .int 0, .int 0, .null, .int 0, .int 0, .int 0, .null, .null, .null, .int 0, .null, .null, .null, .int 0, .null, .null, .null, .null, .null, .int 0, .int 0, .int 0, .int 0, .int 0, .int 0, .null, .null, .int 0, .int 0])), (q1, .inl (Γ.2.1 0, 7, .inl (fun _ => 0))), (q2, .inl (Γ.2.1 0, 5654, .inl (fun _ => 0))), (q3, .inl (Γ.2.1 0, 11308, .inl (fun _ => 0))), (q4, .inl (Γ.2.1 2, 2, .inl (fun _ => 0))), (q5, .inl (Γ.2.1 0, 30, .inl (fun _ => 0))), (q6, .inl (Γ.2.1 1, 124, .inl (wd 29)))]) S hw 6 rfl (by unfold vp_in; decide) (wd_u 28 (by decide) (by decide +kernel)) rfl dMo_init_217 (fun H locs hw => ?_)
  refine lv_dup S.1 S.2.1 dMo_init_218 rfl ?_
  refine lv_bipush (v := (29 : Int32)) S.1 S.2.1 dMo_init_219 (by decide) ?_
  refine lv_bipush (v := (111 : Int32)) S.1 S.2.1 dMo_init_221 (by decide) ?_
  refine sk_bast (x' := [(h0, .inr (8, [.int 0, .ref q1, .ref q2, .ref q3, .ref q4, .ref q5, .int 0, .null, .int 0, .int 0, .int 0, .null, .null, .int 0, .int 0, .null, .null, .null, .int 0, .int 0, .int 0, .int 0, .int 0, .int 0, .int 0, .int 0, .null, .int 0, .int 0, .int 0, .null, .null, .null, .int 0, .null, .null, .null, .int 0, .null, .null, .null, .null, .null, .int 0, .int 0, .int 0, .int 0, .int 0, .int 0, .null, .null, .int 0, .int 0])), (q1, .inl (Γ.2.1 0, 7, .inl (fun _ => 0))), (q2, .inl (Γ.2.1 0, 5654, .inl (fun _ => 0))), (q3, .inl (Γ.2.1 0, 11308, .inl (fun _ => 0))), (q4, .inl (Γ.2.1 2, 2, .inl (fun _ => 0))), (q5, .inl (Γ.2.1 0, 30, .inl (fun _ => 0))), (q6, .inl (Γ.2.1 1, 124, .inl (wd 30)))]) S hw 6 rfl (by unfold vp_in; decide) (wd_u 29 (by decide) (by decide +kernel)) rfl dMo_init_223 (fun H locs hw => ?_)
  refine lv_dup S.1 S.2.1 dMo_init_224 rfl ?_
  refine lv_bipush (v := (30 : Int32)) S.1 S.2.1 dMo_init_225 (by decide) ?_
  refine lv_bipush (v := (116 : Int32)) S.1 S.2.1 dMo_init_227 (by decide) ?_
  refine sk_bast (x' := [(h0, .inr (8, [.int 0, .ref q1, .ref q2, .ref q3, .ref q4, .ref q5, .int 0, .null, .int 0, .int 0, .int 0, .null, .null, .int 0, .int 0, .null, .null, .null, .int 0, .int 0, .int 0, .int 0, .int 0, .int 0, .int 0, .int 0, .null, .int 0, .int 0, .int 0, .null, .null, .null, .int 0, .null, .null, .null, .int 0, .null, .null, .null, .null, .null, .int 0, .int 0, .int 0, .int 0, .int 0, .int 0, .null, .null, .int 0, .int 0])), (q1, .inl (Γ.2.1 0, 7, .inl (fun _ => 0))), (q2, .inl (Γ.2.1 0, 5654, .inl (fun _ => 0))), (q3, .inl (Γ.2.1 0, 11308, .inl (fun _ => 0))), (q4, .inl (Γ.2.1 2, 2, .inl (fun _ => 0))), (q5, .inl (Γ.2.1 0, 30, .inl (fun _ => 0))), (q6, .inl (Γ.2.1 1, 124, .inl (wd 31)))]) S hw 6 rfl (by unfold vp_in; decide) (wd_u 30 (by decide) (by decide +kernel)) rfl dMo_init_229 (fun H locs hw => ?_)
  refine lv_dup S.1 S.2.1 dMo_init_230 rfl ?_
  refine lv_bipush (v := (31 : Int32)) S.1 S.2.1 dMo_init_231 (by decide) ?_
  refine lv_bipush (v := (32 : Int32)) S.1 S.2.1 dMo_init_233 (by decide) ?_
  refine sk_bast (x' := [(h0, .inr (8, [.int 0, .ref q1, .ref q2, .ref q3, .ref q4, .ref q5, .int 0, .null, .int 0, .int 0, .int 0, .null, .null, .int 0, .int 0, .null, .null, .null, .int 0, .int 0, .int 0, .int 0, .int 0, .int 0, .int 0, .int 0, .null, .int 0, .int 0, .int 0, .null, .null, .null, .int 0, .null, .null, .null, .int 0, .null, .null, .null, .null, .null, .int 0, .int 0, .int 0, .int 0, .int 0, .int 0, .null, .null, .int 0, .int 0])), (q1, .inl (Γ.2.1 0, 7, .inl (fun _ => 0))), (q2, .inl (Γ.2.1 0, 5654, .inl (fun _ => 0))), (q3, .inl (Γ.2.1 0, 11308, .inl (fun _ => 0))), (q4, .inl (Γ.2.1 2, 2, .inl (fun _ => 0))), (q5, .inl (Γ.2.1 0, 30, .inl (fun _ => 0))), (q6, .inl (Γ.2.1 1, 124, .inl (wd 32)))]) S hw 6 rfl (by unfold vp_in; decide) (wd_u 31 (by decide) (by decide +kernel)) rfl dMo_init_235 (fun H locs hw => ?_)
  refine lv_dup S.1 S.2.1 dMo_init_236 rfl ?_
  refine lv_bipush (v := (32 : Int32)) S.1 S.2.1 dMo_init_237 (by decide) ?_
  refine lv_bipush (v := (99 : Int32)) S.1 S.2.1 dMo_init_239 (by decide) ?_
  refine sk_bast (x' := [(h0, .inr (8, [.int 0, .ref q1, .ref q2, .ref q3, .ref q4, .ref q5, .int 0, .null, .int 0, .int 0, .int 0, .null, .null, .int 0, .int 0, .null, .null, .null, .int 0, .int 0, .int 0, .int 0, .int 0, .int 0, .int 0, .int 0, .null, .int 0, .int 0, .int 0, .null, .null, .null, .int 0, .null, .null, .null, .int 0, .null, .null, .null, .null, .null, .int 0, .int 0, .int 0, .int 0, .int 0, .int 0, .null, .null, .int 0, .int 0])), (q1, .inl (Γ.2.1 0, 7, .inl (fun _ => 0))), (q2, .inl (Γ.2.1 0, 5654, .inl (fun _ => 0))), (q3, .inl (Γ.2.1 0, 11308, .inl (fun _ => 0))), (q4, .inl (Γ.2.1 2, 2, .inl (fun _ => 0))), (q5, .inl (Γ.2.1 0, 30, .inl (fun _ => 0))), (q6, .inl (Γ.2.1 1, 124, .inl (wd 33)))]) S hw 6 rfl (by unfold vp_in; decide) (wd_u 32 (by decide) (by decide +kernel)) rfl dMo_init_241 (fun H locs hw => ?_)
  refine lv_dup S.1 S.2.1 dMo_init_242 rfl ?_
  refine lv_bipush (v := (33 : Int32)) S.1 S.2.1 dMo_init_243 (by decide) ?_
  refine lv_bipush (v := (108 : Int32)) S.1 S.2.1 dMo_init_245 (by decide) ?_
  refine sk_bast (x' := [(h0, .inr (8, [.int 0, .ref q1, .ref q2, .ref q3, .ref q4, .ref q5, .int 0, .null, .int 0, .int 0, .int 0, .null, .null, .int 0, .int 0, .null, .null, .null, .int 0, .int 0, .int 0, .int 0, .int 0, .int 0, .int 0, .int 0, .null, .int 0, .int 0, .int 0, .null, .null, .null, .int 0, .null, .null, .null, .int 0, .null, .null, .null, .null, .null, .int 0, .int 0, .int 0, .int 0, .int 0, .int 0, .null, .null, .int 0, .int 0])), (q1, .inl (Γ.2.1 0, 7, .inl (fun _ => 0))), (q2, .inl (Γ.2.1 0, 5654, .inl (fun _ => 0))), (q3, .inl (Γ.2.1 0, 11308, .inl (fun _ => 0))), (q4, .inl (Γ.2.1 2, 2, .inl (fun _ => 0))), (q5, .inl (Γ.2.1 0, 30, .inl (fun _ => 0))), (q6, .inl (Γ.2.1 1, 124, .inl (wd 34)))]) S hw 6 rfl (by unfold vp_in; decide) (wd_u 33 (by decide) (by decide +kernel)) rfl dMo_init_247 (fun H locs hw => ?_)
  refine lv_dup S.1 S.2.1 dMo_init_248 rfl ?_
  refine lv_bipush (v := (34 : Int32)) S.1 S.2.1 dMo_init_249 (by decide) ?_
  refine lv_bipush (v := (97 : Int32)) S.1 S.2.1 dMo_init_251 (by decide) ?_
  refine sk_bast (x' := [(h0, .inr (8, [.int 0, .ref q1, .ref q2, .ref q3, .ref q4, .ref q5, .int 0, .null, .int 0, .int 0, .int 0, .null, .null, .int 0, .int 0, .null, .null, .null, .int 0, .int 0, .int 0, .int 0, .int 0, .int 0, .int 0, .int 0, .null, .int 0, .int 0, .int 0, .null, .null, .null, .int 0, .null, .null, .null, .int 0, .null, .null, .null, .null, .null, .int 0, .int 0, .int 0, .int 0, .int 0, .int 0, .null, .null, .int 0, .int 0])), (q1, .inl (Γ.2.1 0, 7, .inl (fun _ => 0))), (q2, .inl (Γ.2.1 0, 5654, .inl (fun _ => 0))), (q3, .inl (Γ.2.1 0, 11308, .inl (fun _ => 0))), (q4, .inl (Γ.2.1 2, 2, .inl (fun _ => 0))), (q5, .inl (Γ.2.1 0, 30, .inl (fun _ => 0))), (q6, .inl (Γ.2.1 1, 124, .inl (wd 35)))]) S hw 6 rfl (by unfold vp_in; decide) (wd_u 34 (by decide) (by decide +kernel)) rfl dMo_init_253 (fun H locs hw => ?_)
  refine lv_dup S.1 S.2.1 dMo_init_254 rfl ?_
  refine lv_bipush (v := (35 : Int32)) S.1 S.2.1 dMo_init_255 (by decide) ?_
  refine lv_bipush (v := (105 : Int32)) S.1 S.2.1 dMo_init_257 (by decide) ?_
  refine sk_bast (x' := [(h0, .inr (8, [.int 0, .ref q1, .ref q2, .ref q3, .ref q4, .ref q5, .int 0, .null, .int 0, .int 0, .int 0, .null, .null, .int 0, .int 0, .null, .null, .null, .int 0, .int 0, .int 0, .int 0, .int 0, .int 0, .int 0, .int 0, .null, .int 0, .int 0, .int 0, .null, .null, .null, .int 0, .null, .null, .null, .int 0, .null, .null, .null, .null, .null, .int 0, .int 0, .int 0, .int 0, .int 0, .int 0, .null, .null, .int 0, .int 0])), (q1, .inl (Γ.2.1 0, 7, .inl (fun _ => 0))), (q2, .inl (Γ.2.1 0, 5654, .inl (fun _ => 0))), (q3, .inl (Γ.2.1 0, 11308, .inl (fun _ => 0))), (q4, .inl (Γ.2.1 2, 2, .inl (fun _ => 0))), (q5, .inl (Γ.2.1 0, 30, .inl (fun _ => 0))), (q6, .inl (Γ.2.1 1, 124, .inl (wd 36)))]) S hw 6 rfl (by unfold vp_in; decide) (wd_u 35 (by decide) (by decide +kernel)) rfl dMo_init_259 (fun H locs hw => ?_)
  refine lv_dup S.1 S.2.1 dMo_init_260 rfl ?_
  refine lv_bipush (v := (36 : Int32)) S.1 S.2.1 dMo_init_261 (by decide) ?_
  refine lv_bipush (v := (109 : Int32)) S.1 S.2.1 dMo_init_263 (by decide) ?_
  refine sk_bast (x' := [(h0, .inr (8, [.int 0, .ref q1, .ref q2, .ref q3, .ref q4, .ref q5, .int 0, .null, .int 0, .int 0, .int 0, .null, .null, .int 0, .int 0, .null, .null, .null, .int 0, .int 0, .int 0, .int 0, .int 0, .int 0, .int 0, .int 0, .null, .int 0, .int 0, .int 0, .null, .null, .null, .int 0, .null, .null, .null, .int 0, .null, .null, .null, .null, .null, .int 0, .int 0, .int 0, .int 0, .int 0, .int 0, .null, .null, .int 0, .int 0])), (q1, .inl (Γ.2.1 0, 7, .inl (fun _ => 0))), (q2, .inl (Γ.2.1 0, 5654, .inl (fun _ => 0))), (q3, .inl (Γ.2.1 0, 11308, .inl (fun _ => 0))), (q4, .inl (Γ.2.1 2, 2, .inl (fun _ => 0))), (q5, .inl (Γ.2.1 0, 30, .inl (fun _ => 0))), (q6, .inl (Γ.2.1 1, 124, .inl (wd 37)))]) S hw 6 rfl (by unfold vp_in; decide) (wd_u 36 (by decide) (by decide +kernel)) rfl dMo_init_265 (fun H locs hw => ?_)
  refine lv_dup S.1 S.2.1 dMo_init_266 rfl ?_
  refine lv_bipush (v := (37 : Int32)) S.1 S.2.1 dMo_init_267 (by decide) ?_
  refine lv_bipush (v := (32 : Int32)) S.1 S.2.1 dMo_init_269 (by decide) ?_
  refine sk_bast (x' := [(h0, .inr (8, [.int 0, .ref q1, .ref q2, .ref q3, .ref q4, .ref q5, .int 0, .null, .int 0, .int 0, .int 0, .null, .null, .int 0, .int 0, .null, .null, .null, .int 0, .int 0, .int 0, .int 0, .int 0, .int 0, .int 0, .int 0, .null, .int 0, .int 0, .int 0, .null, .null, .null, .int 0, .null, .null, .null, .int 0, .null, .null, .null, .null, .null, .int 0, .int 0, .int 0, .int 0, .int 0, .int 0, .null, .null, .int 0, .int 0])), (q1, .inl (Γ.2.1 0, 7, .inl (fun _ => 0))), (q2, .inl (Γ.2.1 0, 5654, .inl (fun _ => 0))), (q3, .inl (Γ.2.1 0, 11308, .inl (fun _ => 0))), (q4, .inl (Γ.2.1 2, 2, .inl (fun _ => 0))), (q5, .inl (Γ.2.1 0, 30, .inl (fun _ => 0))), (q6, .inl (Γ.2.1 1, 124, .inl (wd 38)))]) S hw 6 rfl (by unfold vp_in; decide) (wd_u 37 (by decide) (by decide +kernel)) rfl dMo_init_271 (fun H locs hw => ?_)
  refine lv_dup S.1 S.2.1 dMo_init_272 rfl ?_
  refine lv_bipush (v := (38 : Int32)) S.1 S.2.1 dMo_init_273 (by decide) ?_
  refine lv_bipush (v := (107 : Int32)) S.1 S.2.1 dMo_init_275 (by decide) ?_
  refine sk_bast (x' := [(h0, .inr (8, [.int 0, .ref q1, .ref q2, .ref q3, .ref q4, .ref q5, .int 0, .null, .int 0, .int 0, .int 0, .null, .null, .int 0, .int 0, .null, .null, .null, .int 0, .int 0, .int 0, .int 0, .int 0, .int 0, .int 0, .int 0, .null, .int 0, .int 0, .int 0, .null, .null, .null, .int 0, .null, .null, .null, .int 0, .null, .null, .null, .null, .null, .int 0, .int 0, .int 0, .int 0, .int 0, .int 0, .null, .null, .int 0, .int 0])), (q1, .inl (Γ.2.1 0, 7, .inl (fun _ => 0))), (q2, .inl (Γ.2.1 0, 5654, .inl (fun _ => 0))), (q3, .inl (Γ.2.1 0, 11308, .inl (fun _ => 0))), (q4, .inl (Γ.2.1 2, 2, .inl (fun _ => 0))), (q5, .inl (Γ.2.1 0, 30, .inl (fun _ => 0))), (q6, .inl (Γ.2.1 1, 124, .inl (wd 39)))]) S hw 6 rfl (by unfold vp_in; decide) (wd_u 38 (by decide) (by decide +kernel)) rfl dMo_init_277 (fun H locs hw => ?_)
  refine lv_dup S.1 S.2.1 dMo_init_278 rfl ?_
  refine lv_bipush (v := (39 : Int32)) S.1 S.2.1 dMo_init_279 (by decide) ?_
  refine lv_bipush (v := (105 : Int32)) S.1 S.2.1 dMo_init_281 (by decide) ?_
  refine sk_bast (x' := [(h0, .inr (8, [.int 0, .ref q1, .ref q2, .ref q3, .ref q4, .ref q5, .int 0, .null, .int 0, .int 0, .int 0, .null, .null, .int 0, .int 0, .null, .null, .null, .int 0, .int 0, .int 0, .int 0, .int 0, .int 0, .int 0, .int 0, .null, .int 0, .int 0, .int 0, .null, .null, .null, .int 0, .null, .null, .null, .int 0, .null, .null, .null, .null, .null, .int 0, .int 0, .int 0, .int 0, .int 0, .int 0, .null, .null, .int 0, .int 0])), (q1, .inl (Γ.2.1 0, 7, .inl (fun _ => 0))), (q2, .inl (Γ.2.1 0, 5654, .inl (fun _ => 0))), (q3, .inl (Γ.2.1 0, 11308, .inl (fun _ => 0))), (q4, .inl (Γ.2.1 2, 2, .inl (fun _ => 0))), (q5, .inl (Γ.2.1 0, 30, .inl (fun _ => 0))), (q6, .inl (Γ.2.1 1, 124, .inl (wd 40)))]) S hw 6 rfl (by unfold vp_in; decide) (wd_u 39 (by decide) (by decide +kernel)) rfl dMo_init_283 (fun H locs hw => ?_)
  refine lv_dup S.1 S.2.1 dMo_init_284 rfl ?_
  refine lv_bipush (v := (40 : Int32)) S.1 S.2.1 dMo_init_285 (by decide) ?_
  refine lv_bipush (v := (110 : Int32)) S.1 S.2.1 dMo_init_287 (by decide) ?_
  refine sk_bast (x' := [(h0, .inr (8, [.int 0, .ref q1, .ref q2, .ref q3, .ref q4, .ref q5, .int 0, .null, .int 0, .int 0, .int 0, .null, .null, .int 0, .int 0, .null, .null, .null, .int 0, .int 0, .int 0, .int 0, .int 0, .int 0, .int 0, .int 0, .null, .int 0, .int 0, .int 0, .null, .null, .null, .int 0, .null, .null, .null, .int 0, .null, .null, .null, .null, .null, .int 0, .int 0, .int 0, .int 0, .int 0, .int 0, .null, .null, .int 0, .int 0])), (q1, .inl (Γ.2.1 0, 7, .inl (fun _ => 0))), (q2, .inl (Γ.2.1 0, 5654, .inl (fun _ => 0))), (q3, .inl (Γ.2.1 0, 11308, .inl (fun _ => 0))), (q4, .inl (Γ.2.1 2, 2, .inl (fun _ => 0))), (q5, .inl (Γ.2.1 0, 30, .inl (fun _ => 0))), (q6, .inl (Γ.2.1 1, 124, .inl (wd 41)))]) S hw 6 rfl (by unfold vp_in; decide) (wd_u 40 (by decide) (by decide +kernel)) rfl dMo_init_289 (fun H locs hw => ?_)
  refine lv_dup S.1 S.2.1 dMo_init_290 rfl ?_
  refine lv_bipush (v := (41 : Int32)) S.1 S.2.1 dMo_init_291 (by decide) ?_
  refine lv_bipush (v := (100 : Int32)) S.1 S.2.1 dMo_init_293 (by decide) ?_
  refine sk_bast (x' := [(h0, .inr (8, [.int 0, .ref q1, .ref q2, .ref q3, .ref q4, .ref q5, .int 0, .null, .int 0, .int 0, .int 0, .null, .null, .int 0, .int 0, .null, .null, .null, .int 0, .int 0, .int 0, .int 0, .int 0, .int 0, .int 0, .int 0, .null, .int 0, .int 0, .int 0, .null, .null, .null, .int 0, .null, .null, .null, .int 0, .null, .null, .null, .null, .null, .int 0, .int 0, .int 0, .int 0, .int 0, .int 0, .null, .null, .int 0, .int 0])), (q1, .inl (Γ.2.1 0, 7, .inl (fun _ => 0))), (q2, .inl (Γ.2.1 0, 5654, .inl (fun _ => 0))), (q3, .inl (Γ.2.1 0, 11308, .inl (fun _ => 0))), (q4, .inl (Γ.2.1 2, 2, .inl (fun _ => 0))), (q5, .inl (Γ.2.1 0, 30, .inl (fun _ => 0))), (q6, .inl (Γ.2.1 1, 124, .inl (wd 42)))]) S hw 6 rfl (by unfold vp_in; decide) (wd_u 41 (by decide) (by decide +kernel)) rfl dMo_init_295 (fun H locs hw => ?_)
  refine lv_dup S.1 S.2.1 dMo_init_296 rfl ?_
  refine lv_bipush (v := (42 : Int32)) S.1 S.2.1 dMo_init_297 (by decide) ?_
  refine lv_bipush (v := (32 : Int32)) S.1 S.2.1 dMo_init_299 (by decide) ?_
  refine sk_bast (x' := [(h0, .inr (8, [.int 0, .ref q1, .ref q2, .ref q3, .ref q4, .ref q5, .int 0, .null, .int 0, .int 0, .int 0, .null, .null, .int 0, .int 0, .null, .null, .null, .int 0, .int 0, .int 0, .int 0, .int 0, .int 0, .int 0, .int 0, .null, .int 0, .int 0, .int 0, .null, .null, .null, .int 0, .null, .null, .null, .int 0, .null, .null, .null, .null, .null, .int 0, .int 0, .int 0, .int 0, .int 0, .int 0, .null, .null, .int 0, .int 0])), (q1, .inl (Γ.2.1 0, 7, .inl (fun _ => 0))), (q2, .inl (Γ.2.1 0, 5654, .inl (fun _ => 0))), (q3, .inl (Γ.2.1 0, 11308, .inl (fun _ => 0))), (q4, .inl (Γ.2.1 2, 2, .inl (fun _ => 0))), (q5, .inl (Γ.2.1 0, 30, .inl (fun _ => 0))), (q6, .inl (Γ.2.1 1, 124, .inl (wd 43)))]) S hw 6 rfl (by unfold vp_in; decide) (wd_u 42 (by decide) (by decide +kernel)) rfl dMo_init_301 (fun H locs hw => ?_)
  refine lv_dup S.1 S.2.1 dMo_init_302 rfl ?_
  refine lv_bipush (v := (43 : Int32)) S.1 S.2.1 dMo_init_303 (by decide) ?_
  refine lv_bipush (v := (112 : Int32)) S.1 S.2.1 dMo_init_305 (by decide) ?_
  refine sk_bast (x' := [(h0, .inr (8, [.int 0, .ref q1, .ref q2, .ref q3, .ref q4, .ref q5, .int 0, .null, .int 0, .int 0, .int 0, .null, .null, .int 0, .int 0, .null, .null, .null, .int 0, .int 0, .int 0, .int 0, .int 0, .int 0, .int 0, .int 0, .null, .int 0, .int 0, .int 0, .null, .null, .null, .int 0, .null, .null, .null, .int 0, .null, .null, .null, .null, .null, .int 0, .int 0, .int 0, .int 0, .int 0, .int 0, .null, .null, .int 0, .int 0])), (q1, .inl (Γ.2.1 0, 7, .inl (fun _ => 0))), (q2, .inl (Γ.2.1 0, 5654, .inl (fun _ => 0))), (q3, .inl (Γ.2.1 0, 11308, .inl (fun _ => 0))), (q4, .inl (Γ.2.1 2, 2, .inl (fun _ => 0))), (q5, .inl (Γ.2.1 0, 30, .inl (fun _ => 0))), (q6, .inl (Γ.2.1 1, 124, .inl (wd 44)))]) S hw 6 rfl (by unfold vp_in; decide) (wd_u 43 (by decide) (by decide +kernel)) rfl dMo_init_307 (fun H locs hw => ?_)
  refine lv_dup S.1 S.2.1 dMo_init_308 rfl ?_
  refine lv_bipush (v := (44 : Int32)) S.1 S.2.1 dMo_init_309 (by decide) ?_
  refine lv_bipush (v := (108 : Int32)) S.1 S.2.1 dMo_init_311 (by decide) ?_
  refine sk_bast (x' := [(h0, .inr (8, [.int 0, .ref q1, .ref q2, .ref q3, .ref q4, .ref q5, .int 0, .null, .int 0, .int 0, .int 0, .null, .null, .int 0, .int 0, .null, .null, .null, .int 0, .int 0, .int 0, .int 0, .int 0, .int 0, .int 0, .int 0, .null, .int 0, .int 0, .int 0, .null, .null, .null, .int 0, .null, .null, .null, .int 0, .null, .null, .null, .null, .null, .int 0, .int 0, .int 0, .int 0, .int 0, .int 0, .null, .null, .int 0, .int 0])), (q1, .inl (Γ.2.1 0, 7, .inl (fun _ => 0))), (q2, .inl (Γ.2.1 0, 5654, .inl (fun _ => 0))), (q3, .inl (Γ.2.1 0, 11308, .inl (fun _ => 0))), (q4, .inl (Γ.2.1 2, 2, .inl (fun _ => 0))), (q5, .inl (Γ.2.1 0, 30, .inl (fun _ => 0))), (q6, .inl (Γ.2.1 1, 124, .inl (wd 45)))]) S hw 6 rfl (by unfold vp_in; decide) (wd_u 44 (by decide) (by decide +kernel)) rfl dMo_init_313 (fun H locs hw => ?_)
  refine lv_dup S.1 S.2.1 dMo_init_314 rfl ?_
  refine lv_bipush (v := (45 : Int32)) S.1 S.2.1 dMo_init_315 (by decide) ?_
  refine lv_bipush (v := (97 : Int32)) S.1 S.2.1 dMo_init_317 (by decide) ?_
  refine sk_bast (x' := [(h0, .inr (8, [.int 0, .ref q1, .ref q2, .ref q3, .ref q4, .ref q5, .int 0, .null, .int 0, .int 0, .int 0, .null, .null, .int 0, .int 0, .null, .null, .null, .int 0, .int 0, .int 0, .int 0, .int 0, .int 0, .int 0, .int 0, .null, .int 0, .int 0, .int 0, .null, .null, .null, .int 0, .null, .null, .null, .int 0, .null, .null, .null, .null, .null, .int 0, .int 0, .int 0, .int 0, .int 0, .int 0, .null, .null, .int 0, .int 0])), (q1, .inl (Γ.2.1 0, 7, .inl (fun _ => 0))), (q2, .inl (Γ.2.1 0, 5654, .inl (fun _ => 0))), (q3, .inl (Γ.2.1 0, 11308, .inl (fun _ => 0))), (q4, .inl (Γ.2.1 2, 2, .inl (fun _ => 0))), (q5, .inl (Γ.2.1 0, 30, .inl (fun _ => 0))), (q6, .inl (Γ.2.1 1, 124, .inl (wd 46)))]) S hw 6 rfl (by unfold vp_in; decide) (wd_u 45 (by decide) (by decide +kernel)) rfl dMo_init_319 (fun H locs hw => ?_)
  refine lv_dup S.1 S.2.1 dMo_init_320 rfl ?_
  refine lv_bipush (v := (46 : Int32)) S.1 S.2.1 dMo_init_321 (by decide) ?_
  refine lv_bipush (v := (99 : Int32)) S.1 S.2.1 dMo_init_323 (by decide) ?_
  refine sk_bast (x' := [(h0, .inr (8, [.int 0, .ref q1, .ref q2, .ref q3, .ref q4, .ref q5, .int 0, .null, .int 0, .int 0, .int 0, .null, .null, .int 0, .int 0, .null, .null, .null, .int 0, .int 0, .int 0, .int 0, .int 0, .int 0, .int 0, .int 0, .null, .int 0, .int 0, .int 0, .null, .null, .null, .int 0, .null, .null, .null, .int 0, .null, .null, .null, .null, .null, .int 0, .int 0, .int 0, .int 0, .int 0, .int 0, .null, .null, .int 0, .int 0])), (q1, .inl (Γ.2.1 0, 7, .inl (fun _ => 0))), (q2, .inl (Γ.2.1 0, 5654, .inl (fun _ => 0))), (q3, .inl (Γ.2.1 0, 11308, .inl (fun _ => 0))), (q4, .inl (Γ.2.1 2, 2, .inl (fun _ => 0))), (q5, .inl (Γ.2.1 0, 30, .inl (fun _ => 0))), (q6, .inl (Γ.2.1 1, 124, .inl (wd 47)))]) S hw 6 rfl (by unfold vp_in; decide) (wd_u 46 (by decide) (by decide +kernel)) rfl dMo_init_325 (fun H locs hw => ?_)
  refine lv_dup S.1 S.2.1 dMo_init_326 rfl ?_
  refine lv_bipush (v := (47 : Int32)) S.1 S.2.1 dMo_init_327 (by decide) ?_
  refine lv_bipush (v := (101 : Int32)) S.1 S.2.1 dMo_init_329 (by decide) ?_
  refine sk_bast (x' := [(h0, .inr (8, [.int 0, .ref q1, .ref q2, .ref q3, .ref q4, .ref q5, .int 0, .null, .int 0, .int 0, .int 0, .null, .null, .int 0, .int 0, .null, .null, .null, .int 0, .int 0, .int 0, .int 0, .int 0, .int 0, .int 0, .int 0, .null, .int 0, .int 0, .int 0, .null, .null, .null, .int 0, .null, .null, .null, .int 0, .null, .null, .null, .null, .null, .int 0, .int 0, .int 0, .int 0, .int 0, .int 0, .null, .null, .int 0, .int 0])), (q1, .inl (Γ.2.1 0, 7, .inl (fun _ => 0))), (q2, .inl (Γ.2.1 0, 5654, .inl (fun _ => 0))), (q3, .inl (Γ.2.1 0, 11308, .inl (fun _ => 0))), (q4, .inl (Γ.2.1 2, 2, .inl (fun _ => 0))), (q5, .inl (Γ.2.1 0, 30, .inl (fun _ => 0))), (q6, .inl (Γ.2.1 1, 124, .inl (wd 48)))]) S hw 6 rfl (by unfold vp_in; decide) (wd_u 47 (by decide) (by decide +kernel)) rfl dMo_init_331 (fun H locs hw => ?_)
  refine lv_dup S.1 S.2.1 dMo_init_332 rfl ?_
  refine lv_bipush (v := (48 : Int32)) S.1 S.2.1 dMo_init_333 (by decide) ?_
  refine lv_bipush (v := (32 : Int32)) S.1 S.2.1 dMo_init_335 (by decide) ?_
  refine sk_bast (x' := [(h0, .inr (8, [.int 0, .ref q1, .ref q2, .ref q3, .ref q4, .ref q5, .int 0, .null, .int 0, .int 0, .int 0, .null, .null, .int 0, .int 0, .null, .null, .null, .int 0, .int 0, .int 0, .int 0, .int 0, .int 0, .int 0, .int 0, .null, .int 0, .int 0, .int 0, .null, .null, .null, .int 0, .null, .null, .null, .int 0, .null, .null, .null, .null, .null, .int 0, .int 0, .int 0, .int 0, .int 0, .int 0, .null, .null, .int 0, .int 0])), (q1, .inl (Γ.2.1 0, 7, .inl (fun _ => 0))), (q2, .inl (Γ.2.1 0, 5654, .inl (fun _ => 0))), (q3, .inl (Γ.2.1 0, 11308, .inl (fun _ => 0))), (q4, .inl (Γ.2.1 2, 2, .inl (fun _ => 0))), (q5, .inl (Γ.2.1 0, 30, .inl (fun _ => 0))), (q6, .inl (Γ.2.1 1, 124, .inl (wd 49)))]) S hw 6 rfl (by unfold vp_in; decide) (wd_u 48 (by decide) (by decide +kernel)) rfl dMo_init_337 (fun H locs hw => ?_)
  refine lv_dup S.1 S.2.1 dMo_init_338 rfl ?_
  refine lv_bipush (v := (49 : Int32)) S.1 S.2.1 dMo_init_339 (by decide) ?_
  refine lv_bipush (v := (97 : Int32)) S.1 S.2.1 dMo_init_341 (by decide) ?_
  refine sk_bast (x' := [(h0, .inr (8, [.int 0, .ref q1, .ref q2, .ref q3, .ref q4, .ref q5, .int 0, .null, .int 0, .int 0, .int 0, .null, .null, .int 0, .int 0, .null, .null, .null, .int 0, .int 0, .int 0, .int 0, .int 0, .int 0, .int 0, .int 0, .null, .int 0, .int 0, .int 0, .null, .null, .null, .int 0, .null, .null, .null, .int 0, .null, .null, .null, .null, .null, .int 0, .int 0, .int 0, .int 0, .int 0, .int 0, .null, .null, .int 0, .int 0])), (q1, .inl (Γ.2.1 0, 7, .inl (fun _ => 0))), (q2, .inl (Γ.2.1 0, 5654, .inl (fun _ => 0))), (q3, .inl (Γ.2.1 0, 11308, .inl (fun _ => 0))), (q4, .inl (Γ.2.1 2, 2, .inl (fun _ => 0))), (q5, .inl (Γ.2.1 0, 30, .inl (fun _ => 0))), (q6, .inl (Γ.2.1 1, 124, .inl (wd 50)))]) S hw 6 rfl (by unfold vp_in; decide) (wd_u 49 (by decide) (by decide +kernel)) rfl dMo_init_343 (fun H locs hw => ?_)
  refine lv_dup S.1 S.2.1 dMo_init_344 rfl ?_
  refine lv_bipush (v := (50 : Int32)) S.1 S.2.1 dMo_init_345 (by decide) ?_
  refine lv_bipush (v := (114 : Int32)) S.1 S.2.1 dMo_init_347 (by decide) ?_
  refine sk_bast (x' := [(h0, .inr (8, [.int 0, .ref q1, .ref q2, .ref q3, .ref q4, .ref q5, .int 0, .null, .int 0, .int 0, .int 0, .null, .null, .int 0, .int 0, .null, .null, .null, .int 0, .int 0, .int 0, .int 0, .int 0, .int 0, .int 0, .int 0, .null, .int 0, .int 0, .int 0, .null, .null, .null, .int 0, .null, .null, .null, .int 0, .null, .null, .null, .null, .null, .int 0, .int 0, .int 0, .int 0, .int 0, .int 0, .null, .null, .int 0, .int 0])), (q1, .inl (Γ.2.1 0, 7, .inl (fun _ => 0))), (q2, .inl (Γ.2.1 0, 5654, .inl (fun _ => 0))), (q3, .inl (Γ.2.1 0, 11308, .inl (fun _ => 0))), (q4, .inl (Γ.2.1 2, 2, .inl (fun _ => 0))), (q5, .inl (Γ.2.1 0, 30, .inl (fun _ => 0))), (q6, .inl (Γ.2.1 1, 124, .inl (wd 51)))]) S hw 6 rfl (by unfold vp_in; decide) (wd_u 50 (by decide) (by decide +kernel)) rfl dMo_init_349 (fun H locs hw => ?_)
  refine lv_dup S.1 S.2.1 dMo_init_350 rfl ?_
  refine lv_bipush (v := (51 : Int32)) S.1 S.2.1 dMo_init_351 (by decide) ?_
  refine lv_bipush (v := (109 : Int32)) S.1 S.2.1 dMo_init_353 (by decide) ?_
  refine sk_bast (x' := [(h0, .inr (8, [.int 0, .ref q1, .ref q2, .ref q3, .ref q4, .ref q5, .int 0, .null, .int 0, .int 0, .int 0, .null, .null, .int 0, .int 0, .null, .null, .null, .int 0, .int 0, .int 0, .int 0, .int 0, .int 0, .int 0, .int 0, .null, .int 0, .int 0, .int 0, .null, .null, .null, .int 0, .null, .null, .null, .int 0, .null, .null, .null, .null, .null, .int 0, .int 0, .int 0, .int 0, .int 0, .int 0, .null, .null, .int 0, .int 0])), (q1, .inl (Γ.2.1 0, 7, .inl (fun _ => 0))), (q2, .inl (Γ.2.1 0, 5654, .inl (fun _ => 0))), (q3, .inl (Γ.2.1 0, 11308, .inl (fun _ => 0))), (q4, .inl (Γ.2.1 2, 2, .inl (fun _ => 0))), (q5, .inl (Γ.2.1 0, 30, .inl (fun _ => 0))), (q6, .inl (Γ.2.1 1, 124, .inl (wd 52)))]) S hw 6 rfl (by unfold vp_in; decide) (wd_u 51 (by decide) (by decide +kernel)) rfl dMo_init_355 (fun H locs hw => ?_)
  refine lv_dup S.1 S.2.1 dMo_init_356 rfl ?_
  refine lv_bipush (v := (52 : Int32)) S.1 S.2.1 dMo_init_357 (by decide) ?_
  refine lv_bipush (v := (32 : Int32)) S.1 S.2.1 dMo_init_359 (by decide) ?_
  refine sk_bast (x' := [(h0, .inr (8, [.int 0, .ref q1, .ref q2, .ref q3, .ref q4, .ref q5, .int 0, .null, .int 0, .int 0, .int 0, .null, .null, .int 0, .int 0, .null, .null, .null, .int 0, .int 0, .int 0, .int 0, .int 0, .int 0, .int 0, .int 0, .null, .int 0, .int 0, .int 0, .null, .null, .null, .int 0, .null, .null, .null, .int 0, .null, .null, .null, .null, .null, .int 0, .int 0, .int 0, .int 0, .int 0, .int 0, .null, .null, .int 0, .int 0])), (q1, .inl (Γ.2.1 0, 7, .inl (fun _ => 0))), (q2, .inl (Γ.2.1 0, 5654, .inl (fun _ => 0))), (q3, .inl (Γ.2.1 0, 11308, .inl (fun _ => 0))), (q4, .inl (Γ.2.1 2, 2, .inl (fun _ => 0))), (q5, .inl (Γ.2.1 0, 30, .inl (fun _ => 0))), (q6, .inl (Γ.2.1 1, 124, .inl (wd 53)))]) S hw 6 rfl (by unfold vp_in; decide) (wd_u 52 (by decide) (by decide +kernel)) rfl dMo_init_361 (fun H locs hw => ?_)
  refine lv_dup S.1 S.2.1 dMo_init_362 rfl ?_
  refine lv_bipush (v := (53 : Int32)) S.1 S.2.1 dMo_init_363 (by decide) ?_
  refine lv_bipush (v := (109 : Int32)) S.1 S.2.1 dMo_init_365 (by decide) ?_
  refine sk_bast (x' := [(h0, .inr (8, [.int 0, .ref q1, .ref q2, .ref q3, .ref q4, .ref q5, .int 0, .null, .int 0, .int 0, .int 0, .null, .null, .int 0, .int 0, .null, .null, .null, .int 0, .int 0, .int 0, .int 0, .int 0, .int 0, .int 0, .int 0, .null, .int 0, .int 0, .int 0, .null, .null, .null, .int 0, .null, .null, .null, .int 0, .null, .null, .null, .null, .null, .int 0, .int 0, .int 0, .int 0, .int 0, .int 0, .null, .null, .int 0, .int 0])), (q1, .inl (Γ.2.1 0, 7, .inl (fun _ => 0))), (q2, .inl (Γ.2.1 0, 5654, .inl (fun _ => 0))), (q3, .inl (Γ.2.1 0, 11308, .inl (fun _ => 0))), (q4, .inl (Γ.2.1 2, 2, .inl (fun _ => 0))), (q5, .inl (Γ.2.1 0, 30, .inl (fun _ => 0))), (q6, .inl (Γ.2.1 1, 124, .inl (wd 54)))]) S hw 6 rfl (by unfold vp_in; decide) (wd_u 53 (by decide) (by decide +kernel)) rfl dMo_init_367 (fun H locs hw => ?_)
  refine lv_dup S.1 S.2.1 dMo_init_368 rfl ?_
  refine lv_bipush (v := (54 : Int32)) S.1 S.2.1 dMo_init_369 (by decide) ?_
  refine lv_bipush (v := (111 : Int32)) S.1 S.2.1 dMo_init_371 (by decide) ?_
  refine sk_bast (x' := [(h0, .inr (8, [.int 0, .ref q1, .ref q2, .ref q3, .ref q4, .ref q5, .int 0, .null, .int 0, .int 0, .int 0, .null, .null, .int 0, .int 0, .null, .null, .null, .int 0, .int 0, .int 0, .int 0, .int 0, .int 0, .int 0, .int 0, .null, .int 0, .int 0, .int 0, .null, .null, .null, .int 0, .null, .null, .null, .int 0, .null, .null, .null, .null, .null, .int 0, .int 0, .int 0, .int 0, .int 0, .int 0, .null, .null, .int 0, .int 0])), (q1, .inl (Γ.2.1 0, 7, .inl (fun _ => 0))), (q2, .inl (Γ.2.1 0, 5654, .inl (fun _ => 0))), (q3, .inl (Γ.2.1 0, 11308, .inl (fun _ => 0))), (q4, .inl (Γ.2.1 2, 2, .inl (fun _ => 0))), (q5, .inl (Γ.2.1 0, 30, .inl (fun _ => 0))), (q6, .inl (Γ.2.1 1, 124, .inl (wd 55)))]) S hw 6 rfl (by unfold vp_in; decide) (wd_u 54 (by decide) (by decide +kernel)) rfl dMo_init_373 (fun H locs hw => ?_)
  refine lv_dup S.1 S.2.1 dMo_init_374 rfl ?_
  refine lv_bipush (v := (55 : Int32)) S.1 S.2.1 dMo_init_375 (by decide) ?_
  refine lv_bipush (v := (111 : Int32)) S.1 S.2.1 dMo_init_377 (by decide) ?_
  refine sk_bast (x' := [(h0, .inr (8, [.int 0, .ref q1, .ref q2, .ref q3, .ref q4, .ref q5, .int 0, .null, .int 0, .int 0, .int 0, .null, .null, .int 0, .int 0, .null, .null, .null, .int 0, .int 0, .int 0, .int 0, .int 0, .int 0, .int 0, .int 0, .null, .int 0, .int 0, .int 0, .null, .null, .null, .int 0, .null, .null, .null, .int 0, .null, .null, .null, .null, .null, .int 0, .int 0, .int 0, .int 0, .int 0, .int 0, .null, .null, .int 0, .int 0])), (q1, .inl (Γ.2.1 0, 7, .inl (fun _ => 0))), (q2, .inl (Γ.2.1 0, 5654, .inl (fun _ => 0))), (q3, .inl (Γ.2.1 0, 11308, .inl (fun _ => 0))), (q4, .inl (Γ.2.1 2, 2, .inl (fun _ => 0))), (q5, .inl (Γ.2.1 0, 30, .inl (fun _ => 0))), (q6, .inl (Γ.2.1 1, 124, .inl (wd 56)))]) S hw 6 rfl (by unfold vp_in; decide) (wd_u 55 (by decide) (by decide +kernel)) rfl dMo_init_379 (fun H locs hw => ?_)
  refine lv_dup S.1 S.2.1 dMo_init_380 rfl ?_
  refine lv_bipush (v := (56 : Int32)) S.1 S.2.1 dMo_init_381 (by decide) ?_
  refine lv_bipush (v := (100 : Int32)) S.1 S.2.1 dMo_init_383 (by decide) ?_
  refine sk_bast (x' := [(h0, .inr (8, [.int 0, .ref q1, .ref q2, .ref q3, .ref q4, .ref q5, .int 0, .null, .int 0, .int 0, .int 0, .null, .null, .int 0, .int 0, .null, .null, .null, .int 0, .int 0, .int 0, .int 0, .int 0, .int 0, .int 0, .int 0, .null, .int 0, .int 0, .int 0, .null, .null, .null, .int 0, .null, .null, .null, .int 0, .null, .null, .null, .null, .null, .int 0, .int 0, .int 0, .int 0, .int 0, .int 0, .null, .null, .int 0, .int 0])), (q1, .inl (Γ.2.1 0, 7, .inl (fun _ => 0))), (q2, .inl (Γ.2.1 0, 5654, .inl (fun _ => 0))), (q3, .inl (Γ.2.1 0, 11308, .inl (fun _ => 0))), (q4, .inl (Γ.2.1 2, 2, .inl (fun _ => 0))), (q5, .inl (Γ.2.1 0, 30, .inl (fun _ => 0))), (q6, .inl (Γ.2.1 1, 124, .inl (wd 57)))]) S hw 6 rfl (by unfold vp_in; decide) (wd_u 56 (by decide) (by decide +kernel)) rfl dMo_init_385 (fun H locs hw => ?_)
  refine lv_dup S.1 S.2.1 dMo_init_386 rfl ?_
  refine lv_bipush (v := (57 : Int32)) S.1 S.2.1 dMo_init_387 (by decide) ?_
  refine lv_bipush (v := (32 : Int32)) S.1 S.2.1 dMo_init_389 (by decide) ?_
  refine sk_bast (x' := [(h0, .inr (8, [.int 0, .ref q1, .ref q2, .ref q3, .ref q4, .ref q5, .int 0, .null, .int 0, .int 0, .int 0, .null, .null, .int 0, .int 0, .null, .null, .null, .int 0, .int 0, .int 0, .int 0, .int 0, .int 0, .int 0, .int 0, .null, .int 0, .int 0, .int 0, .null, .null, .null, .int 0, .null, .null, .null, .int 0, .null, .null, .null, .null, .null, .int 0, .int 0, .int 0, .int 0, .int 0, .int 0, .null, .null, .int 0, .int 0])), (q1, .inl (Γ.2.1 0, 7, .inl (fun _ => 0))), (q2, .inl (Γ.2.1 0, 5654, .inl (fun _ => 0))), (q3, .inl (Γ.2.1 0, 11308, .inl (fun _ => 0))), (q4, .inl (Γ.2.1 2, 2, .inl (fun _ => 0))), (q5, .inl (Γ.2.1 0, 30, .inl (fun _ => 0))), (q6, .inl (Γ.2.1 1, 124, .inl (wd 58)))]) S hw 6 rfl (by unfold vp_in; decide) (wd_u 57 (by decide) (by decide +kernel)) rfl dMo_init_391 (fun H locs hw => ?_)
  refine lv_dup S.1 S.2.1 dMo_init_392 rfl ?_
  refine lv_bipush (v := (58 : Int32)) S.1 S.2.1 dMo_init_393 (by decide) ?_
  refine lv_bipush (v := (115 : Int32)) S.1 S.2.1 dMo_init_395 (by decide) ?_
  refine sk_bast (x' := [(h0, .inr (8, [.int 0, .ref q1, .ref q2, .ref q3, .ref q4, .ref q5, .int 0, .null, .int 0, .int 0, .int 0, .null, .null, .int 0, .int 0, .null, .null, .null, .int 0, .int 0, .int 0, .int 0, .int 0, .int 0, .int 0, .int 0, .null, .int 0, .int 0, .int 0, .null, .null, .null, .int 0, .null, .null, .null, .int 0, .null, .null, .null, .null, .null, .int 0, .int 0, .int 0, .int 0, .int 0, .int 0, .null, .null, .int 0, .int 0])), (q1, .inl (Γ.2.1 0, 7, .inl (fun _ => 0))), (q2, .inl (Γ.2.1 0, 5654, .inl (fun _ => 0))), (q3, .inl (Γ.2.1 0, 11308, .inl (fun _ => 0))), (q4, .inl (Γ.2.1 2, 2, .inl (fun _ => 0))), (q5, .inl (Γ.2.1 0, 30, .inl (fun _ => 0))), (q6, .inl (Γ.2.1 1, 124, .inl (wd 59)))]) S hw 6 rfl (by unfold vp_in; decide) (wd_u 58 (by decide) (by decide +kernel)) rfl dMo_init_397 (fun H locs hw => ?_)
  refine lv_dup S.1 S.2.1 dMo_init_398 rfl ?_
  refine lv_bipush (v := (59 : Int32)) S.1 S.2.1 dMo_init_399 (by decide) ?_
  refine lv_bipush (v := (108 : Int32)) S.1 S.2.1 dMo_init_401 (by decide) ?_
  refine sk_bast (x' := [(h0, .inr (8, [.int 0, .ref q1, .ref q2, .ref q3, .ref q4, .ref q5, .int 0, .null, .int 0, .int 0, .int 0, .null, .null, .int 0, .int 0, .null, .null, .null, .int 0, .int 0, .int 0, .int 0, .int 0, .int 0, .int 0, .int 0, .null, .int 0, .int 0, .int 0, .null, .null, .null, .int 0, .null, .null, .null, .int 0, .null, .null, .null, .null, .null, .int 0, .int 0, .int 0, .int 0, .int 0, .int 0, .null, .null, .int 0, .int 0])), (q1, .inl (Γ.2.1 0, 7, .inl (fun _ => 0))), (q2, .inl (Γ.2.1 0, 5654, .inl (fun _ => 0))), (q3, .inl (Γ.2.1 0, 11308, .inl (fun _ => 0))), (q4, .inl (Γ.2.1 2, 2, .inl (fun _ => 0))), (q5, .inl (Γ.2.1 0, 30, .inl (fun _ => 0))), (q6, .inl (Γ.2.1 1, 124, .inl (wd 60)))]) S hw 6 rfl (by unfold vp_in; decide) (wd_u 59 (by decide) (by decide +kernel)) rfl dMo_init_403 (fun H locs hw => ?_)
  refine lv_dup S.1 S.2.1 dMo_init_404 rfl ?_
  refine lv_bipush (v := (60 : Int32)) S.1 S.2.1 dMo_init_405 (by decide) ?_
  refine lv_bipush (v := (97 : Int32)) S.1 S.2.1 dMo_init_407 (by decide) ?_
  refine sk_bast (x' := [(h0, .inr (8, [.int 0, .ref q1, .ref q2, .ref q3, .ref q4, .ref q5, .int 0, .null, .int 0, .int 0, .int 0, .null, .null, .int 0, .int 0, .null, .null, .null, .int 0, .int 0, .int 0, .int 0, .int 0, .int 0, .int 0, .int 0, .null, .int 0, .int 0, .int 0, .null, .null, .null, .int 0, .null, .null, .null, .int 0, .null, .null, .null, .null, .null, .int 0, .int 0, .int 0, .int 0, .int 0, .int 0, .null, .null, .int 0, .int 0])), (q1, .inl (Γ.2.1 0, 7, .inl (fun _ => 0))), (q2, .inl (Γ.2.1 0, 5654, .inl (fun _ => 0))), (q3, .inl (Γ.2.1 0, 11308, .inl (fun _ => 0))), (q4, .inl (Γ.2.1 2, 2, .inl (fun _ => 0))), (q5, .inl (Γ.2.1 0, 30, .inl (fun _ => 0))), (q6, .inl (Γ.2.1 1, 124, .inl (wd 61)))]) S hw 6 rfl (by unfold vp_in; decide) (wd_u 60 (by decide) (by decide +kernel)) rfl dMo_init_409 (fun H locs hw => ?_)
  refine lv_dup S.1 S.2.1 dMo_init_410 rfl ?_
  refine lv_bipush (v := (61 : Int32)) S.1 S.2.1 dMo_init_411 (by decide) ?_
  refine lv_bipush (v := (99 : Int32)) S.1 S.2.1 dMo_init_413 (by decide) ?_
  refine sk_bast (x' := [(h0, .inr (8, [.int 0, .ref q1, .ref q2, .ref q3, .ref q4, .ref q5, .int 0, .null, .int 0, .int 0, .int 0, .null, .null, .int 0, .int 0, .null, .null, .null, .int 0, .int 0, .int 0, .int 0, .int 0, .int 0, .int 0, .int 0, .null, .int 0, .int 0, .int 0, .null, .null, .null, .int 0, .null, .null, .null, .int 0, .null, .null, .null, .null, .null, .int 0, .int 0, .int 0, .int 0, .int 0, .int 0, .null, .null, .int 0, .int 0])), (q1, .inl (Γ.2.1 0, 7, .inl (fun _ => 0))), (q2, .inl (Γ.2.1 0, 5654, .inl (fun _ => 0))), (q3, .inl (Γ.2.1 0, 11308, .inl (fun _ => 0))), (q4, .inl (Γ.2.1 2, 2, .inl (fun _ => 0))), (q5, .inl (Γ.2.1 0, 30, .inl (fun _ => 0))), (q6, .inl (Γ.2.1 1, 124, .inl (wd 62)))]) S hw 6 rfl (by unfold vp_in; decide) (wd_u 61 (by decide) (by decide +kernel)) rfl dMo_init_415 (fun H locs hw => ?_)
  refine lv_dup S.1 S.2.1 dMo_init_416 rfl ?_
  refine lv_bipush (v := (62 : Int32)) S.1 S.2.1 dMo_init_417 (by decide) ?_
  refine lv_bipush (v := (107 : Int32)) S.1 S.2.1 dMo_init_419 (by decide) ?_
  refine sk_bast (x' := [(h0, .inr (8, [.int 0, .ref q1, .ref q2, .ref q3, .ref q4, .ref q5, .int 0, .null, .int 0, .int 0, .int 0, .null, .null, .int 0, .int 0, .null, .null, .null, .int 0, .int 0, .int 0, .int 0, .int 0, .int 0, .int 0, .int 0, .null, .int 0, .int 0, .int 0, .null, .null, .null, .int 0, .null, .null, .null, .int 0, .null, .null, .null, .null, .null, .int 0, .int 0, .int 0, .int 0, .int 0, .int 0, .null, .null, .int 0, .int 0])), (q1, .inl (Γ.2.1 0, 7, .inl (fun _ => 0))), (q2, .inl (Γ.2.1 0, 5654, .inl (fun _ => 0))), (q3, .inl (Γ.2.1 0, 11308, .inl (fun _ => 0))), (q4, .inl (Γ.2.1 2, 2, .inl (fun _ => 0))), (q5, .inl (Γ.2.1 0, 30, .inl (fun _ => 0))), (q6, .inl (Γ.2.1 1, 124, .inl (wd 63)))]) S hw 6 rfl (by unfold vp_in; decide) (wd_u 62 (by decide) (by decide +kernel)) rfl dMo_init_421 (fun H locs hw => ?_)
  refine lv_dup S.1 S.2.1 dMo_init_422 rfl ?_
  refine lv_bipush (v := (63 : Int32)) S.1 S.2.1 dMo_init_423 (by decide) ?_
  refine lv_bipush (v := (32 : Int32)) S.1 S.2.1 dMo_init_425 (by decide) ?_
  refine sk_bast (x' := [(h0, .inr (8, [.int 0, .ref q1, .ref q2, .ref q3, .ref q4, .ref q5, .int 0, .null, .int 0, .int 0, .int 0, .null, .null, .int 0, .int 0, .null, .null, .null, .int 0, .int 0, .int 0, .int 0, .int 0, .int 0, .int 0, .int 0, .null, .int 0, .int 0, .int 0, .null, .null, .null, .int 0, .null, .null, .null, .int 0, .null, .null, .null, .null, .null, .int 0, .int 0, .int 0, .int 0, .int 0, .int 0, .null, .null, .int 0, .int 0])), (q1, .inl (Γ.2.1 0, 7, .inl (fun _ => 0))), (q2, .inl (Γ.2.1 0, 5654, .inl (fun _ => 0))), (q3, .inl (Γ.2.1 0, 11308, .inl (fun _ => 0))), (q4, .inl (Γ.2.1 2, 2, .inl (fun _ => 0))), (q5, .inl (Γ.2.1 0, 30, .inl (fun _ => 0))), (q6, .inl (Γ.2.1 1, 124, .inl (wd 64)))]) S hw 6 rfl (by unfold vp_in; decide) (wd_u 63 (by decide) (by decide +kernel)) rfl dMo_init_427 (fun H locs hw => ?_)
  refine lv_dup S.1 S.2.1 dMo_init_428 rfl ?_
  refine lv_bipush (v := (64 : Int32)) S.1 S.2.1 dMo_init_429 (by decide) ?_
  refine lv_bipush (v := (104 : Int32)) S.1 S.2.1 dMo_init_431 (by decide) ?_
  refine sk_bast (x' := [(h0, .inr (8, [.int 0, .ref q1, .ref q2, .ref q3, .ref q4, .ref q5, .int 0, .null, .int 0, .int 0, .int 0, .null, .null, .int 0, .int 0, .null, .null, .null, .int 0, .int 0, .int 0, .int 0, .int 0, .int 0, .int 0, .int 0, .null, .int 0, .int 0, .int 0, .null, .null, .null, .int 0, .null, .null, .null, .int 0, .null, .null, .null, .null, .null, .int 0, .int 0, .int 0, .int 0, .int 0, .int 0, .null, .null, .int 0, .int 0])), (q1, .inl (Γ.2.1 0, 7, .inl (fun _ => 0))), (q2, .inl (Γ.2.1 0, 5654, .inl (fun _ => 0))), (q3, .inl (Γ.2.1 0, 11308, .inl (fun _ => 0))), (q4, .inl (Γ.2.1 2, 2, .inl (fun _ => 0))), (q5, .inl (Γ.2.1 0, 30, .inl (fun _ => 0))), (q6, .inl (Γ.2.1 1, 124, .inl (wd 65)))]) S hw 6 rfl (by unfold vp_in; decide) (wd_u 64 (by decide) (by decide +kernel)) rfl dMo_init_433 (fun H locs hw => ?_)
  refine lv_dup S.1 S.2.1 dMo_init_434 rfl ?_
  refine lv_bipush (v := (65 : Int32)) S.1 S.2.1 dMo_init_435 (by decide) ?_
  refine lv_bipush (v := (101 : Int32)) S.1 S.2.1 dMo_init_437 (by decide) ?_
  refine sk_bast (x' := [(h0, .inr (8, [.int 0, .ref q1, .ref q2, .ref q3, .ref q4, .ref q5, .int 0, .null, .int 0, .int 0, .int 0, .null, .null, .int 0, .int 0, .null, .null, .null, .int 0, .int 0, .int 0, .int 0, .int 0, .int 0, .int 0, .int 0, .null, .int 0, .int 0, .int 0, .null, .null, .null, .int 0, .null, .null, .null, .int 0, .null, .null, .null, .null, .null, .int 0, .int 0, .int 0, .int 0, .int 0, .int 0, .null, .null, .int 0, .int 0])), (q1, .inl (Γ.2.1 0, 7, .inl (fun _ => 0))), (q2, .inl (Γ.2.1 0, 5654, .inl (fun _ => 0))), (q3, .inl (Γ.2.1 0, 11308, .inl (fun _ => 0))), (q4, .inl (Γ.2.1 2, 2, .inl (fun _ => 0))), (q5, .inl (Γ.2.1 0, 30, .inl (fun _ => 0))), (q6, .inl (Γ.2.1 1, 124, .inl (wd 66)))]) S hw 6 rfl (by unfold vp_in; decide) (wd_u 65 (by decide) (by decide +kernel)) rfl dMo_init_439 (fun H locs hw => ?_)
  refine lv_dup S.1 S.2.1 dMo_init_440 rfl ?_
  refine lv_bipush (v := (66 : Int32)) S.1 S.2.1 dMo_init_441 (by decide) ?_
  refine lv_bipush (v := (97 : Int32)) S.1 S.2.1 dMo_init_443 (by decide) ?_
  refine sk_bast (x' := [(h0, .inr (8, [.int 0, .ref q1, .ref q2, .ref q3, .ref q4, .ref q5, .int 0, .null, .int 0, .int 0, .int 0, .null, .null, .int 0, .int 0, .null, .null, .null, .int 0, .int 0, .int 0, .int 0, .int 0, .int 0, .int 0, .int 0, .null, .int 0, .int 0, .int 0, .null, .null, .null, .int 0, .null, .null, .null, .int 0, .null, .null, .null, .null, .null, .int 0, .int 0, .int 0, .int 0, .int 0, .int 0, .null, .null, .int 0, .int 0])), (q1, .inl (Γ.2.1 0, 7, .inl (fun _ => 0))), (q2, .inl (Γ.2.1 0, 5654, .inl (fun _ => 0))), (q3, .inl (Γ.2.1 0, 11308, .inl (fun _ => 0))), (q4, .inl (Γ.2.1 2, 2, .inl (fun _ => 0))), (q5, .inl (Γ.2.1 0, 30, .inl (fun _ => 0))), (q6, .inl (Γ.2.1 1, 124, .inl (wd 67)))]) S hw 6 rfl (by unfold vp_in; decide) (wd_u 66 (by decide) (by decide +kernel)) rfl dMo_init_445 (fun H locs hw => ?_)
  refine lv_dup S.1 S.2.1 dMo_init_446 rfl ?_
  refine lv_bipush (v := (67 : Int32)) S.1 S.2.1 dMo_init_447 (by decide) ?_
  refine lv_bipush (v := (118 : Int32)) S.1 S.2.1 dMo_init_449 (by decide) ?_
  refine sk_bast (x' := [(h0, .inr (8, [.int 0, .ref q1, .ref q2, .ref q3, .ref q4, .ref q5, .int 0, .null, .int 0, .int 0, .int 0, .null, .null, .int 0, .int 0, .null, .null, .null, .int 0, .int 0, .int 0, .int 0, .int 0, .int 0, .int 0, .int 0, .null, .int 0, .int 0, .int 0, .null, .null, .null, .int 0, .null, .null, .null, .int 0, .null, .null, .null, .null, .null, .int 0, .int 0, .int 0, .int 0, .int 0, .int 0, .null, .null, .int 0, .int 0])), (q1, .inl (Γ.2.1 0, 7, .inl (fun _ => 0))), (q2, .inl (Γ.2.1 0, 5654, .inl (fun _ => 0))), (q3, .inl (Γ.2.1 0, 11308, .inl (fun _ => 0))), (q4, .inl (Γ.2.1 2, 2, .inl (fun _ => 0))), (q5, .inl (Γ.2.1 0, 30, .inl (fun _ => 0))), (q6, .inl (Γ.2.1 1, 124, .inl (wd 68)))]) S hw 6 rfl (by unfold vp_in; decide) (wd_u 67 (by decide) (by decide +kernel)) rfl dMo_init_451 (fun H locs hw => ?_)
  refine lv_dup S.1 S.2.1 dMo_init_452 rfl ?_
  refine lv_bipush (v := (68 : Int32)) S.1 S.2.1 dMo_init_453 (by decide) ?_
  refine lv_bipush (v := (121 : Int32)) S.1 S.2.1 dMo_init_455 (by decide) ?_
  refine sk_bast (x' := [(h0, .inr (8, [.int 0, .ref q1, .ref q2, .ref q3, .ref q4, .ref q5, .int 0, .null, .int 0, .int 0, .int 0, .null, .null, .int 0, .int 0, .null, .null, .null, .int 0, .int 0, .int 0, .int 0, .int 0, .int 0, .int 0, .int 0, .null, .int 0, .int 0, .int 0, .null, .null, .null, .int 0, .null, .null, .null, .int 0, .null, .null, .null, .null, .null, .int 0, .int 0, .int 0, .int 0, .int 0, .int 0, .null, .null, .int 0, .int 0])), (q1, .inl (Γ.2.1 0, 7, .inl (fun _ => 0))), (q2, .inl (Γ.2.1 0, 5654, .inl (fun _ => 0))), (q3, .inl (Γ.2.1 0, 11308, .inl (fun _ => 0))), (q4, .inl (Γ.2.1 2, 2, .inl (fun _ => 0))), (q5, .inl (Γ.2.1 0, 30, .inl (fun _ => 0))), (q6, .inl (Γ.2.1 1, 124, .inl (wd 69)))]) S hw 6 rfl (by unfold vp_in; decide) (wd_u 68 (by decide) (by decide +kernel)) rfl dMo_init_457 (fun H locs hw => ?_)
  refine lv_dup S.1 S.2.1 dMo_init_458 rfl ?_
  refine lv_bipush (v := (69 : Int32)) S.1 S.2.1 dMo_init_459 (by decide) ?_
  refine lv_bipush (v := (32 : Int32)) S.1 S.2.1 dMo_init_461 (by decide) ?_
  refine sk_bast (x' := [(h0, .inr (8, [.int 0, .ref q1, .ref q2, .ref q3, .ref q4, .ref q5, .int 0, .null, .int 0, .int 0, .int 0, .null, .null, .int 0, .int 0, .null, .null, .null, .int 0, .int 0, .int 0, .int 0, .int 0, .int 0, .int 0, .int 0, .null, .int 0, .int 0, .int 0, .null, .null, .null, .int 0, .null, .null, .null, .int 0, .null, .null, .null, .null, .null, .int 0, .int 0, .int 0, .int 0, .int 0, .int 0, .null, .null, .int 0, .int 0])), (q1, .inl (Γ.2.1 0, 7, .inl (fun _ => 0))), (q2, .inl (Γ.2.1 0, 5654, .inl (fun _ => 0))), (q3, .inl (Γ.2.1 0, 11308, .inl (fun _ => 0))), (q4, .inl (Γ.2.1 2, 2, .inl (fun _ => 0))), (q5, .inl (Γ.2.1 0, 30, .inl (fun _ => 0))), (q6, .inl (Γ.2.1 1, 124, .inl (wd 70)))]) S hw 6 rfl (by unfold vp_in; decide) (wd_u 69 (by decide) (by decide +kernel)) rfl dMo_init_463 (fun H locs hw => ?_)
  refine lv_dup S.1 S.2.1 dMo_init_464 rfl ?_
  refine lv_bipush (v := (70 : Int32)) S.1 S.2.1 dMo_init_465 (by decide) ?_
  refine lv_bipush (v := (100 : Int32)) S.1 S.2.1 dMo_init_467 (by decide) ?_
  refine sk_bast (x' := [(h0, .inr (8, [.int 0, .ref q1, .ref q2, .ref q3, .ref q4, .ref q5, .int 0, .null, .int 0, .int 0, .int 0, .null, .null, .int 0, .int 0, .null, .null, .null, .int 0, .int 0, .int 0, .int 0, .int 0, .int 0, .int 0, .int 0, .null, .int 0, .int 0, .int 0, .null, .null, .null, .int 0, .null, .null, .null, .int 0, .null, .null, .null, .null, .null, .int 0, .int 0, .int 0, .int 0, .int 0, .int 0, .null, .null, .int 0, .int 0])), (q1, .inl (Γ.2.1 0, 7, .inl (fun _ => 0))), (q2, .inl (Γ.2.1 0, 5654, .inl (fun _ => 0))), (q3, .inl (Γ.2.1 0, 11308, .inl (fun _ => 0))), (q4, .inl (Γ.2.1 2, 2, .inl (fun _ => 0))), (q5, .inl (Γ.2.1 0, 30, .inl (fun _ => 0))), (q6, .inl (Γ.2.1 1, 124, .inl (wd 71)))]) S hw 6 rfl (by unfold vp_in; decide) (wd_u 70 (by decide) (by decide +kernel)) rfl dMo_init_469 (fun H locs hw => ?_)
  refine lv_dup S.1 S.2.1 dMo_init_470 rfl ?_
  refine lv_bipush (v := (71 : Int32)) S.1 S.2.1 dMo_init_471 (by decide) ?_
  refine lv_bipush (v := (97 : Int32)) S.1 S.2.1 dMo_init_473 (by decide) ?_
  refine sk_bast (x' := [(h0, .inr (8, [.int 0, .ref q1, .ref q2, .ref q3, .ref q4, .ref q5, .int 0, .null, .int 0, .int 0, .int 0, .null, .null, .int 0, .int 0, .null, .null, .null, .int 0, .int 0, .int 0, .int 0, .int 0, .int 0, .int 0, .int 0, .null, .int 0, .int 0, .int 0, .null, .null, .null, .int 0, .null, .null, .null, .int 0, .null, .null, .null, .null, .null, .int 0, .int 0, .int 0, .int 0, .int 0, .int 0, .null, .null, .int 0, .int 0])), (q1, .inl (Γ.2.1 0, 7, .inl (fun _ => 0))), (q2, .inl (Γ.2.1 0, 5654, .inl (fun _ => 0))), (q3, .inl (Γ.2.1 0, 11308, .inl (fun _ => 0))), (q4, .inl (Γ.2.1 2, 2, .inl (fun _ => 0))), (q5, .inl (Γ.2.1 0, 30, .inl (fun _ => 0))), (q6, .inl (Γ.2.1 1, 124, .inl (wd 72)))]) S hw 6 rfl (by unfold vp_in; decide) (wd_u 71 (by decide) (by decide +kernel)) rfl dMo_init_475 (fun H locs hw => ?_)
  refine lv_dup S.1 S.2.1 dMo_init_476 rfl ?_
  refine lv_bipush (v := (72 : Int32)) S.1 S.2.1 dMo_init_477 (by decide) ?_
  refine lv_bipush (v := (121 : Int32)) S.1 S.2.1 dMo_init_479 (by decide) ?_
  refine sk_bast (x' := [(h0, .inr (8, [.int 0, .ref q1, .ref q2, .ref q3, .ref q4, .ref q5, .int 0, .null, .int 0, .int 0, .int 0, .null, .null, .int 0, .int 0, .null, .null, .null, .int 0, .int 0, .int 0, .int 0, .int 0, .int 0, .int 0, .int 0, .null, .int 0, .int 0, .int 0, .null, .null, .null, .int 0, .null, .null, .null, .int 0, .null, .null, .null, .null, .null, .int 0, .int 0, .int 0, .int 0, .int 0, .int 0, .null, .null, .int 0, .int 0])), (q1, .inl (Γ.2.1 0, 7, .inl (fun _ => 0))), (q2, .inl (Γ.2.1 0, 5654, .inl (fun _ => 0))), (q3, .inl (Γ.2.1 0, 11308, .inl (fun _ => 0))), (q4, .inl (Γ.2.1 2, 2, .inl (fun _ => 0))), (q5, .inl (Γ.2.1 0, 30, .inl (fun _ => 0))), (q6, .inl (Γ.2.1 1, 124, .inl (wd 73)))]) S hw 6 rfl (by unfold vp_in; decide) (wd_u 72 (by decide) (by decide +kernel)) rfl dMo_init_481 (fun H locs hw => ?_)
  refine lv_dup S.1 S.2.1 dMo_init_482 rfl ?_
  refine lv_bipush (v := (73 : Int32)) S.1 S.2.1 dMo_init_483 (by decide) ?_
  refine lv_bipush (v := (32 : Int32)) S.1 S.2.1 dMo_init_485 (by decide) ?_
  refine sk_bast (x' := [(h0, .inr (8, [.int 0, .ref q1, .ref q2, .ref q3, .ref q4, .ref q5, .int 0, .null, .int 0, .int 0, .int 0, .null, .null, .int 0, .int 0, .null, .null, .null, .int 0, .int 0, .int 0, .int 0, .int 0, .int 0, .int 0, .int 0, .null, .int 0, .int 0, .int 0, .null, .null, .null, .int 0, .null, .null, .null, .int 0, .null, .null, .null, .null, .null, .int 0, .int 0, .int 0, .int 0, .int 0, .int 0, .null, .null, .int 0, .int 0])), (q1, .inl (Γ.2.1 0, 7, .inl (fun _ => 0))), (q2, .inl (Γ.2.1 0, 5654, .inl (fun _ => 0))), (q3, .inl (Γ.2.1 0, 11308, .inl (fun _ => 0))), (q4, .inl (Γ.2.1 2, 2, .inl (fun _ => 0))), (q5, .inl (Γ.2.1 0, 30, .inl (fun _ => 0))), (q6, .inl (Γ.2.1 1, 124, .inl (wd 74)))]) S hw 6 rfl (by unfold vp_in; decide) (wd_u 73 (by decide) (by decide +kernel)) rfl dMo_init_487 (fun H locs hw => ?_)
  refine lv_dup S.1 S.2.1 dMo_init_488 rfl ?_
  refine lv_bipush (v := (74 : Int32)) S.1 S.2.1 dMo_init_489 (by decide) ?_
  refine lv_bipush (v := (100 : Int32)) S.1 S.2.1 dMo_init_491 (by decide) ?_
  refine sk_bast (x' := [(h0, .inr (8, [.int 0, .ref q1, .ref q2, .ref q3, .ref q4, .ref q5, .int 0, .null, .int 0, .int 0, .int 0, .null, .null, .int 0, .int 0, .null, .null, .null, .int 0, .int 0, .int 0, .int 0, .int 0, .int 0, .int 0, .int 0, .null, .int 0, .int 0, .int 0, .null, .null, .null, .int 0, .null, .null, .null, .int 0, .null, .null, .null, .null, .null, .int 0, .int 0, .int 0, .int 0, .int 0, .int 0, .null, .null, .int 0, .int 0])), (q1, .inl (Γ.2.1 0, 7, .inl (fun _ => 0))), (q2, .inl (Γ.2.1 0, 5654, .inl (fun _ => 0))), (q3, .inl (Γ.2.1 0, 11308, .inl (fun _ => 0))), (q4, .inl (Γ.2.1 2, 2, .inl (fun _ => 0))), (q5, .inl (Γ.2.1 0, 30, .inl (fun _ => 0))), (q6, .inl (Γ.2.1 1, 124, .inl (wd 75)))]) S hw 6 rfl (by unfold vp_in; decide) (wd_u 74 (by decide) (by decide +kernel)) rfl dMo_init_493 (fun H locs hw => ?_)
  refine lv_dup S.1 S.2.1 dMo_init_494 rfl ?_
  refine lv_bipush (v := (75 : Int32)) S.1 S.2.1 dMo_init_495 (by decide) ?_
  refine lv_bipush (v := (111 : Int32)) S.1 S.2.1 dMo_init_497 (by decide) ?_
  refine sk_bast (x' := [(h0, .inr (8, [.int 0, .ref q1, .ref q2, .ref q3, .ref q4, .ref q5, .int 0, .null, .int 0, .int 0, .int 0, .null, .null, .int 0, .int 0, .null, .null, .null, .int 0, .int 0, .int 0, .int 0, .int 0, .int 0, .int 0, .int 0, .null, .int 0, .int 0, .int 0, .null, .null, .null, .int 0, .null, .null, .null, .int 0, .null, .null, .null, .null, .null, .int 0, .int 0, .int 0, .int 0, .int 0, .int 0, .null, .null, .int 0, .int 0])), (q1, .inl (Γ.2.1 0, 7, .inl (fun _ => 0))), (q2, .inl (Γ.2.1 0, 5654, .inl (fun _ => 0))), (q3, .inl (Γ.2.1 0, 11308, .inl (fun _ => 0))), (q4, .inl (Γ.2.1 2, 2, .inl (fun _ => 0))), (q5, .inl (Γ.2.1 0, 30, .inl (fun _ => 0))), (q6, .inl (Γ.2.1 1, 124, .inl (wd 76)))]) S hw 6 rfl (by unfold vp_in; decide) (wd_u 75 (by decide) (by decide +kernel)) rfl dMo_init_499 (fun H locs hw => ?_)
  refine lv_dup S.1 S.2.1 dMo_init_500 rfl ?_
  refine lv_bipush (v := (76 : Int32)) S.1 S.2.1 dMo_init_501 (by decide) ?_
  refine lv_bipush (v := (110 : Int32)) S.1 S.2.1 dMo_init_503 (by decide) ?_
  refine sk_bast (x' := [(h0, .inr (8, [.int 0, .ref q1, .ref q2, .ref q3, .ref q4, .ref q5, .int 0, .null, .int 0, .int 0, .int 0, .null, .null, .int 0, .int 0, .null, .null, .null, .int 0, .int 0, .int 0, .int 0, .int 0, .int 0, .int 0, .int 0, .null, .int 0, .int 0, .int 0, .null, .null, .null, .int 0, .null, .null, .null, .int 0, .null, .null, .null, .null, .null, .int 0, .int 0, .int 0, .int 0, .int 0, .int 0, .null, .null, .int 0, .int 0])), (q1, .inl (Γ.2.1 0, 7, .inl (fun _ => 0))), (q2, .inl (Γ.2.1 0, 5654, .inl (fun _ => 0))), (q3, .inl (Γ.2.1 0, 11308, .inl (fun _ => 0))), (q4, .inl (Γ.2.1 2, 2, .inl (fun _ => 0))), (q5, .inl (Γ.2.1 0, 30, .inl (fun _ => 0))), (q6, .inl (Γ.2.1 1, 124, .inl (wd 77)))]) S hw 6 rfl (by unfold vp_in; decide) (wd_u 76 (by decide) (by decide +kernel)) rfl dMo_init_505 (fun H locs hw => ?_)
  refine lv_dup S.1 S.2.1 dMo_init_506 rfl ?_
  refine lv_bipush (v := (77 : Int32)) S.1 S.2.1 dMo_init_507 (by decide) ?_
  refine lv_bipush (v := (101 : Int32)) S.1 S.2.1 dMo_init_509 (by decide) ?_
  refine sk_bast (x' := [(h0, .inr (8, [.int 0, .ref q1, .ref q2, .ref q3, .ref q4, .ref q5, .int 0, .null, .int 0, .int 0, .int 0, .null, .null, .int 0, .int 0, .null, .null, .null, .int 0, .int 0, .int 0, .int 0, .int 0, .int 0, .int 0, .int 0, .null, .int 0, .int 0, .int 0, .null, .null, .null, .int 0, .null, .null, .null, .int 0, .null, .null, .null, .null, .null, .int 0, .int 0, .int 0, .int 0, .int 0, .int 0, .null, .null, .int 0, .int 0])), (q1, .inl (Γ.2.1 0, 7, .inl (fun _ => 0))), (q2, .inl (Γ.2.1 0, 5654, .inl (fun _ => 0))), (q3, .inl (Γ.2.1 0, 11308, .inl (fun _ => 0))), (q4, .inl (Γ.2.1 2, 2, .inl (fun _ => 0))), (q5, .inl (Γ.2.1 0, 30, .inl (fun _ => 0))), (q6, .inl (Γ.2.1 1, 124, .inl (wd 78)))]) S hw 6 rfl (by unfold vp_in; decide) (wd_u 77 (by decide) (by decide +kernel)) rfl dMo_init_511 (fun H locs hw => ?_)
  refine lv_dup S.1 S.2.1 dMo_init_512 rfl ?_
  refine lv_bipush (v := (78 : Int32)) S.1 S.2.1 dMo_init_513 (by decide) ?_
  refine lv_bipush (v := (32 : Int32)) S.1 S.2.1 dMo_init_515 (by decide) ?_
  refine sk_bast (x' := [(h0, .inr (8, [.int 0, .ref q1, .ref q2, .ref q3, .ref q4, .ref q5, .int 0, .null, .int 0, .int 0, .int 0, .null, .null, .int 0, .int 0, .null, .null, .null, .int 0, .int 0, .int 0, .int 0, .int 0, .int 0, .int 0, .int 0, .null, .int 0, .int 0, .int 0, .null, .null, .null, .int 0, .null, .null, .null, .int 0, .null, .null, .null, .null, .null, .int 0, .int 0, .int 0, .int 0, .int 0, .int 0, .null, .null, .int 0, .int 0])), (q1, .inl (Γ.2.1 0, 7, .inl (fun _ => 0))), (q2, .inl (Γ.2.1 0, 5654, .inl (fun _ => 0))), (q3, .inl (Γ.2.1 0, 11308, .inl (fun _ => 0))), (q4, .inl (Γ.2.1 2, 2, .inl (fun _ => 0))), (q5, .inl (Γ.2.1 0, 30, .inl (fun _ => 0))), (q6, .inl (Γ.2.1 1, 124, .inl (wd 79)))]) S hw 6 rfl (by unfold vp_in; decide) (wd_u 78 (by decide) (by decide +kernel)) rfl dMo_init_517 (fun H locs hw => ?_)
  refine lv_dup S.1 S.2.1 dMo_init_518 rfl ?_
  refine lv_bipush (v := (79 : Int32)) S.1 S.2.1 dMo_init_519 (by decide) ?_
  refine lv_bipush (v := (108 : Int32)) S.1 S.2.1 dMo_init_521 (by decide) ?_
  refine sk_bast (x' := [(h0, .inr (8, [.int 0, .ref q1, .ref q2, .ref q3, .ref q4, .ref q5, .int 0, .null, .int 0, .int 0, .int 0, .null, .null, .int 0, .int 0, .null, .null, .null, .int 0, .int 0, .int 0, .int 0, .int 0, .int 0, .int 0, .int 0, .null, .int 0, .int 0, .int 0, .null, .null, .null, .int 0, .null, .null, .null, .int 0, .null, .null, .null, .null, .null, .int 0, .int 0, .int 0, .int 0, .int 0, .int 0, .null, .null, .int 0, .int 0])), (q1, .inl (Γ.2.1 0, 7, .inl (fun _ => 0))), (q2, .inl (Γ.2.1 0, 5654, .inl (fun _ => 0))), (q3, .inl (Γ.2.1 0, 11308, .inl (fun _ => 0))), (q4, .inl (Γ.2.1 2, 2, .inl (fun _ => 0))), (q5, .inl (Γ.2.1 0, 30, .inl (fun _ => 0))), (q6, .inl (Γ.2.1 1, 124, .inl (wd 80)))]) S hw 6 rfl (by unfold vp_in; decide) (wd_u 79 (by decide) (by decide +kernel)) rfl dMo_init_523 (fun H locs hw => ?_)
  refine lv_dup S.1 S.2.1 dMo_init_524 rfl ?_
  refine lv_bipush (v := (80 : Int32)) S.1 S.2.1 dMo_init_525 (by decide) ?_
  refine lv_bipush (v := (97 : Int32)) S.1 S.2.1 dMo_init_527 (by decide) ?_
  refine sk_bast (x' := [(h0, .inr (8, [.int 0, .ref q1, .ref q2, .ref q3, .ref q4, .ref q5, .int 0, .null, .int 0, .int 0, .int 0, .null, .null, .int 0, .int 0, .null, .null, .null, .int 0, .int 0, .int 0, .int 0, .int 0, .int 0, .int 0, .int 0, .null, .int 0, .int 0, .int 0, .null, .null, .null, .int 0, .null, .null, .null, .int 0, .null, .null, .null, .null, .null, .int 0, .int 0, .int 0, .int 0, .int 0, .int 0, .null, .null, .int 0, .int 0])), (q1, .inl (Γ.2.1 0, 7, .inl (fun _ => 0))), (q2, .inl (Γ.2.1 0, 5654, .inl (fun _ => 0))), (q3, .inl (Γ.2.1 0, 11308, .inl (fun _ => 0))), (q4, .inl (Γ.2.1 2, 2, .inl (fun _ => 0))), (q5, .inl (Γ.2.1 0, 30, .inl (fun _ => 0))), (q6, .inl (Γ.2.1 1, 124, .inl (wd 81)))]) S hw 6 rfl (by unfold vp_in; decide) (wd_u 80 (by decide) (by decide +kernel)) rfl dMo_init_529 (fun H locs hw => ?_)
  refine lv_dup S.1 S.2.1 dMo_init_530 rfl ?_
  refine lv_bipush (v := (81 : Int32)) S.1 S.2.1 dMo_init_531 (by decide) ?_
  refine lv_bipush (v := (116 : Int32)) S.1 S.2.1 dMo_init_533 (by decide) ?_
  refine sk_bast (x' := [(h0, .inr (8, [.int 0, .ref q1, .ref q2, .ref q3, .ref q4, .ref q5, .int 0, .null, .int 0, .int 0, .int 0, .null, .null, .int 0, .int 0, .null, .null, .null, .int 0, .int 0, .int 0, .int 0, .int 0, .int 0, .int 0, .int 0, .null, .int 0, .int 0, .int 0, .null, .null, .null, .int 0, .null, .null, .null, .int 0, .null, .null, .null, .null, .null, .int 0, .int 0, .int 0, .int 0, .int 0, .int 0, .null, .null, .int 0, .int 0])), (q1, .inl (Γ.2.1 0, 7, .inl (fun _ => 0))), (q2, .inl (Γ.2.1 0, 5654, .inl (fun _ => 0))), (q3, .inl (Γ.2.1 0, 11308, .inl (fun _ => 0))), (q4, .inl (Γ.2.1 2, 2, .inl (fun _ => 0))), (q5, .inl (Γ.2.1 0, 30, .inl (fun _ => 0))), (q6, .inl (Γ.2.1 1, 124, .inl (wd 82)))]) S hw 6 rfl (by unfold vp_in; decide) (wd_u 81 (by decide) (by decide +kernel)) rfl dMo_init_535 (fun H locs hw => ?_)
  refine lv_dup S.1 S.2.1 dMo_init_536 rfl ?_
  refine lv_bipush (v := (82 : Int32)) S.1 S.2.1 dMo_init_537 (by decide) ?_
  refine lv_bipush (v := (101 : Int32)) S.1 S.2.1 dMo_init_539 (by decide) ?_
  refine sk_bast (x' := [(h0, .inr (8, [.int 0, .ref q1, .ref q2, .ref q3, .ref q4, .ref q5, .int 0, .null, .int 0, .int 0, .int 0, .null, .null, .int 0, .int 0, .null, .null, .null, .int 0, .int 0, .int 0, .int 0, .int 0, .int 0, .int 0, .int 0, .null, .int 0, .int 0, .int 0, .null, .null, .null, .int 0, .null, .null, .null, .int 0, .null, .null, .null, .null, .null, .int 0, .int 0, .int 0, .int 0, .int 0, .int 0, .null, .null, .int 0, .int 0])), (q1, .inl (Γ.2.1 0, 7, .inl (fun _ => 0))), (q2, .inl (Γ.2.1 0, 5654, .inl (fun _ => 0))), (q3, .inl (Γ.2.1 0, 11308, .inl (fun _ => 0))), (q4, .inl (Γ.2.1 2, 2, .inl (fun _ => 0))), (q5, .inl (Γ.2.1 0, 30, .inl (fun _ => 0))), (q6, .inl (Γ.2.1 1, 124, .inl (wd 83)))]) S hw 6 rfl (by unfold vp_in; decide) (wd_u 82 (by decide) (by decide +kernel)) rfl dMo_init_541 (fun H locs hw => ?_)
  refine lv_dup S.1 S.2.1 dMo_init_542 rfl ?_
  refine lv_bipush (v := (83 : Int32)) S.1 S.2.1 dMo_init_543 (by decide) ?_
  refine lv_bipush (v := (115 : Int32)) S.1 S.2.1 dMo_init_545 (by decide) ?_
  refine sk_bast (x' := [(h0, .inr (8, [.int 0, .ref q1, .ref q2, .ref q3, .ref q4, .ref q5, .int 0, .null, .int 0, .int 0, .int 0, .null, .null, .int 0, .int 0, .null, .null, .null, .int 0, .int 0, .int 0, .int 0, .int 0, .int 0, .int 0, .int 0, .null, .int 0, .int 0, .int 0, .null, .null, .null, .int 0, .null, .null, .null, .int 0, .null, .null, .null, .null, .null, .int 0, .int 0, .int 0, .int 0, .int 0, .int 0, .null, .null, .int 0, .int 0])), (q1, .inl (Γ.2.1 0, 7, .inl (fun _ => 0))), (q2, .inl (Γ.2.1 0, 5654, .inl (fun _ => 0))), (q3, .inl (Γ.2.1 0, 11308, .inl (fun _ => 0))), (q4, .inl (Γ.2.1 2, 2, .inl (fun _ => 0))), (q5, .inl (Γ.2.1 0, 30, .inl (fun _ => 0))), (q6, .inl (Γ.2.1 1, 124, .inl (wd 84)))]) S hw 6 rfl (by unfold vp_in; decide) (wd_u 83 (by decide) (by decide +kernel)) rfl dMo_init_547 (fun H locs hw => ?_)
  refine lv_dup S.1 S.2.1 dMo_init_548 rfl ?_
  refine lv_bipush (v := (84 : Int32)) S.1 S.2.1 dMo_init_549 (by decide) ?_
  refine lv_bipush (v := (116 : Int32)) S.1 S.2.1 dMo_init_551 (by decide) ?_
  refine sk_bast (x' := [(h0, .inr (8, [.int 0, .ref q1, .ref q2, .ref q3, .ref q4, .ref q5, .int 0, .null, .int 0, .int 0, .int 0, .null, .null, .int 0, .int 0, .null, .null, .null, .int 0, .int 0, .int 0, .int 0, .int 0, .int 0, .int 0, .int 0, .null, .int 0, .int 0, .int 0, .null, .null, .null, .int 0, .null, .null, .null, .int 0, .null, .null, .null, .null, .null, .int 0, .int 0, .int 0, .int 0, .int 0, .int 0, .null, .null, .int 0, .int 0])), (q1, .inl (Γ.2.1 0, 7, .inl (fun _ => 0))), (q2, .inl (Γ.2.1 0, 5654, .inl (fun _ => 0))), (q3, .inl (Γ.2.1 0, 11308, .inl (fun _ => 0))), (q4, .inl (Γ.2.1 2, 2, .inl (fun _ => 0))), (q5, .inl (Γ.2.1 0, 30, .inl (fun _ => 0))), (q6, .inl (Γ.2.1 1, 124, .inl (wd 85)))]) S hw 6 rfl (by unfold vp_in; decide) (wd_u 84 (by decide) (by decide +kernel)) rfl dMo_init_553 (fun H locs hw => ?_)
  refine lv_dup S.1 S.2.1 dMo_init_554 rfl ?_
  refine lv_bipush (v := (85 : Int32)) S.1 S.2.1 dMo_init_555 (by decide) ?_
  refine lv_bipush (v := (32 : Int32)) S.1 S.2.1 dMo_init_557 (by decide) ?_
  refine sk_bast (x' := [(h0, .inr (8, [.int 0, .ref q1, .ref q2, .ref q3, .ref q4, .ref q5, .int 0, .null, .int 0, .int 0, .int 0, .null, .null, .int 0, .int 0, .null, .null, .null, .int 0, .int 0, .int 0, .int 0, .int 0, .int 0, .int 0, .int 0, .null, .int 0, .int 0, .int 0, .null, .null, .null, .int 0, .null, .null, .null, .int 0, .null, .null, .null, .null, .null, .int 0, .int 0, .int 0, .int 0, .int 0, .int 0, .null, .null, .int 0, .int 0])), (q1, .inl (Γ.2.1 0, 7, .inl (fun _ => 0))), (q2, .inl (Γ.2.1 0, 5654, .inl (fun _ => 0))), (q3, .inl (Γ.2.1 0, 11308, .inl (fun _ => 0))), (q4, .inl (Γ.2.1 2, 2, .inl (fun _ => 0))), (q5, .inl (Γ.2.1 0, 30, .inl (fun _ => 0))), (q6, .inl (Γ.2.1 1, 124, .inl (wd 86)))]) S hw 6 rfl (by unfold vp_in; decide) (wd_u 85 (by decide) (by decide +kernel)) rfl dMo_init_559 (fun H locs hw => ?_)
  refine lv_dup S.1 S.2.1 dMo_init_560 rfl ?_
  refine lv_bipush (v := (86 : Int32)) S.1 S.2.1 dMo_init_561 (by decide) ?_
  refine lv_bipush (v := (116 : Int32)) S.1 S.2.1 dMo_init_563 (by decide) ?_
  refine sk_bast (x' := [(h0, .inr (8, [.int 0, .ref q1, .ref q2, .ref q3, .ref q4, .ref q5, .int 0, .null, .int 0, .int 0, .int 0, .null, .null, .int 0, .int 0, .null, .null, .null, .int 0, .int 0, .int 0, .int 0, .int 0, .int 0, .int 0, .int 0, .null, .int 0, .int 0, .int 0, .null, .null, .null, .int 0, .null, .null, .null, .int 0, .null, .null, .null, .null, .null, .int 0, .int 0, .int 0, .int 0, .int 0, .int 0, .null, .null, .int 0, .int 0])), (q1, .inl (Γ.2.1 0, 7, .inl (fun _ => 0))), (q2, .inl (Γ.2.1 0, 5654, .inl (fun _ => 0))), (q3, .inl (Γ.2.1 0, 11308, .inl (fun _ => 0))), (q4, .inl (Γ.2.1 2, 2, .inl (fun _ => 0))), (q5, .inl (Γ.2.1 0, 30, .inl (fun _ => 0))), (q6, .inl (Γ.2.1 1, 124, .inl (wd 87)))]) S hw 6 rfl (by unfold vp_in; decide) (wd_u 86 (by decide) (by decide +kernel)) rfl dMo_init_565 (fun H locs hw => ?_)
  refine lv_dup S.1 S.2.1 dMo_init_566 rfl ?_
  refine lv_bipush (v := (87 : Int32)) S.1 S.2.1 dMo_init_567 (by decide) ?_
  refine lv_bipush (v := (105 : Int32)) S.1 S.2.1 dMo_init_569 (by decide) ?_
  refine sk_bast (x' := [(h0, .inr (8, [.int 0, .ref q1, .ref q2, .ref q3, .ref q4, .ref q5, .int 0, .null, .int 0, .int 0, .int 0, .null, .null, .int 0, .int 0, .null, .null, .null, .int 0, .int 0, .int 0, .int 0, .int 0, .int 0, .int 0, .int 0, .null, .int 0, .int 0, .int 0, .null, .null, .null, .int 0, .null, .null, .null, .int 0, .null, .null, .null, .null, .null, .int 0, .int 0, .int 0, .int 0, .int 0, .int 0, .null, .null, .int 0, .int 0])), (q1, .inl (Γ.2.1 0, 7, .inl (fun _ => 0))), (q2, .inl (Γ.2.1 0, 5654, .inl (fun _ => 0))), (q3, .inl (Γ.2.1 0, 11308, .inl (fun _ => 0))), (q4, .inl (Γ.2.1 2, 2, .inl (fun _ => 0))), (q5, .inl (Γ.2.1 0, 30, .inl (fun _ => 0))), (q6, .inl (Γ.2.1 1, 124, .inl (wd 88)))]) S hw 6 rfl (by unfold vp_in; decide) (wd_u 87 (by decide) (by decide +kernel)) rfl dMo_init_571 (fun H locs hw => ?_)
  refine lv_dup S.1 S.2.1 dMo_init_572 rfl ?_
  refine lv_bipush (v := (88 : Int32)) S.1 S.2.1 dMo_init_573 (by decide) ?_
  refine lv_bipush (v := (108 : Int32)) S.1 S.2.1 dMo_init_575 (by decide) ?_
  refine sk_bast (x' := [(h0, .inr (8, [.int 0, .ref q1, .ref q2, .ref q3, .ref q4, .ref q5, .int 0, .null, .int 0, .int 0, .int 0, .null, .null, .int 0, .int 0, .null, .null, .null, .int 0, .int 0, .int 0, .int 0, .int 0, .int 0, .int 0, .int 0, .null, .int 0, .int 0, .int 0, .null, .null, .null, .int 0, .null, .null, .null, .int 0, .null, .null, .null, .null, .null, .int 0, .int 0, .int 0, .int 0, .int 0, .int 0, .null, .null, .int 0, .int 0])), (q1, .inl (Γ.2.1 0, 7, .inl (fun _ => 0))), (q2, .inl (Γ.2.1 0, 5654, .inl (fun _ => 0))), (q3, .inl (Γ.2.1 0, 11308, .inl (fun _ => 0))), (q4, .inl (Γ.2.1 2, 2, .inl (fun _ => 0))), (q5, .inl (Γ.2.1 0, 30, .inl (fun _ => 0))), (q6, .inl (Γ.2.1 1, 124, .inl (wd 89)))]) S hw 6 rfl (by unfold vp_in; decide) (wd_u 88 (by decide) (by decide +kernel)) rfl dMo_init_577 (fun H locs hw => ?_)
  refine lv_dup S.1 S.2.1 dMo_init_578 rfl ?_
  refine lv_bipush (v := (89 : Int32)) S.1 S.2.1 dMo_init_579 (by decide) ?_
  refine lv_bipush (v := (116 : Int32)) S.1 S.2.1 dMo_init_581 (by decide) ?_
  refine sk_bast (x' := [(h0, .inr (8, [.int 0, .ref q1, .ref q2, .ref q3, .ref q4, .ref q5, .int 0, .null, .int 0, .int 0, .int 0, .null, .null, .int 0, .int 0, .null, .null, .null, .int 0, .int 0, .int 0, .int 0, .int 0, .int 0, .int 0, .int 0, .null, .int 0, .int 0, .int 0, .null, .null, .null, .int 0, .null, .null, .null, .int 0, .null, .null, .null, .null, .null, .int 0, .int 0, .int 0, .int 0, .int 0, .int 0, .null, .null, .int 0, .int 0])), (q1, .inl (Γ.2.1 0, 7, .inl (fun _ => 0))), (q2, .inl (Γ.2.1 0, 5654, .inl (fun _ => 0))), (q3, .inl (Γ.2.1 0, 11308, .inl (fun _ => 0))), (q4, .inl (Γ.2.1 2, 2, .inl (fun _ => 0))), (q5, .inl (Γ.2.1 0, 30, .inl (fun _ => 0))), (q6, .inl (Γ.2.1 1, 124, .inl (wd 90)))]) S hw 6 rfl (by unfold vp_in; decide) (wd_u 89 (by decide) (by decide +kernel)) rfl dMo_init_583 (fun H locs hw => ?_)
  refine lv_dup S.1 S.2.1 dMo_init_584 rfl ?_
  refine lv_bipush (v := (90 : Int32)) S.1 S.2.1 dMo_init_585 (by decide) ?_
  refine lv_bipush (v := (32 : Int32)) S.1 S.2.1 dMo_init_587 (by decide) ?_
  refine sk_bast (x' := [(h0, .inr (8, [.int 0, .ref q1, .ref q2, .ref q3, .ref q4, .ref q5, .int 0, .null, .int 0, .int 0, .int 0, .null, .null, .int 0, .int 0, .null, .null, .null, .int 0, .int 0, .int 0, .int 0, .int 0, .int 0, .int 0, .int 0, .null, .int 0, .int 0, .int 0, .null, .null, .null, .int 0, .null, .null, .null, .int 0, .null, .null, .null, .null, .null, .int 0, .int 0, .int 0, .int 0, .int 0, .int 0, .null, .null, .int 0, .int 0])), (q1, .inl (Γ.2.1 0, 7, .inl (fun _ => 0))), (q2, .inl (Γ.2.1 0, 5654, .inl (fun _ => 0))), (q3, .inl (Γ.2.1 0, 11308, .inl (fun _ => 0))), (q4, .inl (Γ.2.1 2, 2, .inl (fun _ => 0))), (q5, .inl (Γ.2.1 0, 30, .inl (fun _ => 0))), (q6, .inl (Γ.2.1 1, 124, .inl (wd 91)))]) S hw 6 rfl (by unfold vp_in; decide) (wd_u 90 (by decide) (by decide +kernel)) rfl dMo_init_589 (fun H locs hw => ?_)
  refine lv_dup S.1 S.2.1 dMo_init_590 rfl ?_
  refine lv_bipush (v := (91 : Int32)) S.1 S.2.1 dMo_init_591 (by decide) ?_
  refine lv_bipush (v := (111 : Int32)) S.1 S.2.1 dMo_init_593 (by decide) ?_
  refine sk_bast (x' := [(h0, .inr (8, [.int 0, .ref q1, .ref q2, .ref q3, .ref q4, .ref q5, .int 0, .null, .int 0, .int 0, .int 0, .null, .null, .int 0, .int 0, .null, .null, .null, .int 0, .int 0, .int 0, .int 0, .int 0, .int 0, .int 0, .int 0, .null, .int 0, .int 0, .int 0, .null, .null, .null, .int 0, .null, .null, .null, .int 0, .null, .null, .null, .null, .null, .int 0, .int 0, .int 0, .int 0, .int 0, .int 0, .null, .null, .int 0, .int 0])), (q1, .inl (Γ.2.1 0, 7, .inl (fun _ => 0))), (q2, .inl (Γ.2.1 0, 5654, .inl (fun _ => 0))), (q3, .inl (Γ.2.1 0, 11308, .inl (fun _ => 0))), (q4, .inl (Γ.2.1 2, 2, .inl (fun _ => 0))), (q5, .inl (Γ.2.1 0, 30, .inl (fun _ => 0))), (q6, .inl (Γ.2.1 1, 124, .inl (wd 92)))]) S hw 6 rfl (by unfold vp_in; decide) (wd_u 91 (by decide) (by decide +kernel)) rfl dMo_init_595 (fun H locs hw => ?_)
  refine lv_dup S.1 S.2.1 dMo_init_596 rfl ?_
  refine lv_bipush (v := (92 : Int32)) S.1 S.2.1 dMo_init_597 (by decide) ?_
  refine lv_bipush (v := (110 : Int32)) S.1 S.2.1 dMo_init_599 (by decide) ?_
  refine sk_bast (x' := [(h0, .inr (8, [.int 0, .ref q1, .ref q2, .ref q3, .ref q4, .ref q5, .int 0, .null, .int 0, .int 0, .int 0, .null, .null, .int 0, .int 0, .null, .null, .null, .int 0, .int 0, .int 0, .int 0, .int 0, .int 0, .int 0, .int 0, .null, .int 0, .int 0, .int 0, .null, .null, .null, .int 0, .null, .null, .null, .int 0, .null, .null, .null, .null, .null, .int 0, .int 0, .int 0, .int 0, .int 0, .int 0, .null, .null, .int 0, .int 0])), (q1, .inl (Γ.2.1 0, 7, .inl (fun _ => 0))), (q2, .inl (Γ.2.1 0, 5654, .inl (fun _ => 0))), (q3, .inl (Γ.2.1 0, 11308, .inl (fun _ => 0))), (q4, .inl (Γ.2.1 2, 2, .inl (fun _ => 0))), (q5, .inl (Γ.2.1 0, 30, .inl (fun _ => 0))), (q6, .inl (Γ.2.1 1, 124, .inl (wd 93)))]) S hw 6 rfl (by unfold vp_in; decide) (wd_u 92 (by decide) (by decide +kernel)) rfl dMo_init_601 (fun H locs hw => ?_)
  refine lv_dup S.1 S.2.1 dMo_init_602 rfl ?_
  refine lv_bipush (v := (93 : Int32)) S.1 S.2.1 dMo_init_603 (by decide) ?_
  refine lv_bipush (v := (32 : Int32)) S.1 S.2.1 dMo_init_605 (by decide) ?_
  refine sk_bast (x' := [(h0, .inr (8, [.int 0, .ref q1, .ref q2, .ref q3, .ref q4, .ref q5, .int 0, .null, .int 0, .int 0, .int 0, .null, .null, .int 0, .int 0, .null, .null, .null, .int 0, .int 0, .int 0, .int 0, .int 0, .int 0, .int 0, .int 0, .null, .int 0, .int 0, .int 0, .null, .null, .null, .int 0, .null, .null, .null, .int 0, .null, .null, .null, .null, .null, .int 0, .int 0, .int 0, .int 0, .int 0, .int 0, .null, .null, .int 0, .int 0])), (q1, .inl (Γ.2.1 0, 7, .inl (fun _ => 0))), (q2, .inl (Γ.2.1 0, 5654, .inl (fun _ => 0))), (q3, .inl (Γ.2.1 0, 11308, .inl (fun _ => 0))), (q4, .inl (Γ.2.1 2, 2, .inl (fun _ => 0))), (q5, .inl (Γ.2.1 0, 30, .inl (fun _ => 0))), (q6, .inl (Γ.2.1 1, 124, .inl (wd 94)))]) S hw 6 rfl (by unfold vp_in; decide) (wd_u 93 (by decide) (by decide +kernel)) rfl dMo_init_607 (fun H locs hw => ?_)
  refine lv_dup S.1 S.2.1 dMo_init_608 rfl ?_
  refine lv_bipush (v := (94 : Int32)) S.1 S.2.1 dMo_init_609 (by decide) ?_
  refine lv_bipush (v := (97 : Int32)) S.1 S.2.1 dMo_init_611 (by decide) ?_
  refine sk_bast (x' := [(h0, .inr (8, [.int 0, .ref q1, .ref q2, .ref q3, .ref q4, .ref q5, .int 0, .null, .int 0, .int 0, .int 0, .null, .null, .int 0, .int 0, .null, .null, .null, .int 0, .int 0, .int 0, .int 0, .int 0, .int 0, .int 0, .int 0, .null, .int 0, .int 0, .int 0, .null, .null, .null, .int 0, .null, .null, .null, .int 0, .null, .null, .null, .null, .null, .int 0, .int 0, .int 0, .int 0, .int 0, .int 0, .null, .null, .int 0, .int 0])), (q1, .inl (Γ.2.1 0, 7, .inl (fun _ => 0))), (q2, .inl (Γ.2.1 0, 5654, .inl (fun _ => 0))), (q3, .inl (Γ.2.1 0, 11308, .inl (fun _ => 0))), (q4, .inl (Γ.2.1 2, 2, .inl (fun _ => 0))), (q5, .inl (Γ.2.1 0, 30, .inl (fun _ => 0))), (q6, .inl (Γ.2.1 1, 124, .inl (wd 95)))]) S hw 6 rfl (by unfold vp_in; decide) (wd_u 94 (by decide) (by decide +kernel)) rfl dMo_init_613 (fun H locs hw => ?_)
  refine lv_dup S.1 S.2.1 dMo_init_614 rfl ?_
  refine lv_bipush (v := (95 : Int32)) S.1 S.2.1 dMo_init_615 (by decide) ?_
  refine lv_bipush (v := (116 : Int32)) S.1 S.2.1 dMo_init_617 (by decide) ?_
  refine sk_bast (x' := [(h0, .inr (8, [.int 0, .ref q1, .ref q2, .ref q3, .ref q4, .ref q5, .int 0, .null, .int 0, .int 0, .int 0, .null, .null, .int 0, .int 0, .null, .null, .null, .int 0, .int 0, .int 0, .int 0, .int 0, .int 0, .int 0, .int 0, .null, .int 0, .int 0, .int 0, .null, .null, .null, .int 0, .null, .null, .null, .int 0, .null, .null, .null, .null, .null, .int 0, .int 0, .int 0, .int 0, .int 0, .int 0, .null, .null, .int 0, .int 0])), (q1, .inl (Γ.2.1 0, 7, .inl (fun _ => 0))), (q2, .inl (Γ.2.1 0, 5654, .inl (fun _ => 0))), (q3, .inl (Γ.2.1 0, 11308, .inl (fun _ => 0))), (q4, .inl (Γ.2.1 2, 2, .inl (fun _ => 0))), (q5, .inl (Γ.2.1 0, 30, .inl (fun _ => 0))), (q6, .inl (Γ.2.1 1, 124, .inl (wd 96)))]) S hw 6 rfl (by unfold vp_in; decide) (wd_u 95 (by decide) (by decide +kernel)) rfl dMo_init_619 (fun H locs hw => ?_)
  refine lv_dup S.1 S.2.1 dMo_init_620 rfl ?_
  refine lv_bipush (v := (96 : Int32)) S.1 S.2.1 dMo_init_621 (by decide) ?_
  refine lv_bipush (v := (32 : Int32)) S.1 S.2.1 dMo_init_623 (by decide) ?_
  refine sk_bast (x' := [(h0, .inr (8, [.int 0, .ref q1, .ref q2, .ref q3, .ref q4, .ref q5, .int 0, .null, .int 0, .int 0, .int 0, .null, .null, .int 0, .int 0, .null, .null, .null, .int 0, .int 0, .int 0, .int 0, .int 0, .int 0, .int 0, .int 0, .null, .int 0, .int 0, .int 0, .null, .null, .null, .int 0, .null, .null, .null, .int 0, .null, .null, .null, .null, .null, .int 0, .int 0, .int 0, .int 0, .int 0, .int 0, .null, .null, .int 0, .int 0])), (q1, .inl (Γ.2.1 0, 7, .inl (fun _ => 0))), (q2, .inl (Γ.2.1 0, 5654, .inl (fun _ => 0))), (q3, .inl (Γ.2.1 0, 11308, .inl (fun _ => 0))), (q4, .inl (Γ.2.1 2, 2, .inl (fun _ => 0))), (q5, .inl (Γ.2.1 0, 30, .inl (fun _ => 0))), (q6, .inl (Γ.2.1 1, 124, .inl (wd 97)))]) S hw 6 rfl (by unfold vp_in; decide) (wd_u 96 (by decide) (by decide +kernel)) rfl dMo_init_625 (fun H locs hw => ?_)
  refine lv_dup S.1 S.2.1 dMo_init_626 rfl ?_
  refine lv_bipush (v := (97 : Int32)) S.1 S.2.1 dMo_init_627 (by decide) ?_
  refine lv_bipush (v := (112 : Int32)) S.1 S.2.1 dMo_init_629 (by decide) ?_
  refine sk_bast (x' := [(h0, .inr (8, [.int 0, .ref q1, .ref q2, .ref q3, .ref q4, .ref q5, .int 0, .null, .int 0, .int 0, .int 0, .null, .null, .int 0, .int 0, .null, .null, .null, .int 0, .int 0, .int 0, .int 0, .int 0, .int 0, .int 0, .int 0, .null, .int 0, .int 0, .int 0, .null, .null, .null, .int 0, .null, .null, .null, .int 0, .null, .null, .null, .null, .null, .int 0, .int 0, .int 0, .int 0, .int 0, .int 0, .null, .null, .int 0, .int 0])), (q1, .inl (Γ.2.1 0, 7, .inl (fun _ => 0))), (q2, .inl (Γ.2.1 0, 5654, .inl (fun _ => 0))), (q3, .inl (Γ.2.1 0, 11308, .inl (fun _ => 0))), (q4, .inl (Γ.2.1 2, 2, .inl (fun _ => 0))), (q5, .inl (Γ.2.1 0, 30, .inl (fun _ => 0))), (q6, .inl (Γ.2.1 1, 124, .inl (wd 98)))]) S hw 6 rfl (by unfold vp_in; decide) (wd_u 97 (by decide) (by decide +kernel)) rfl dMo_init_631 (fun H locs hw => ?_)
  refine lv_dup S.1 S.2.1 dMo_init_632 rfl ?_
  refine lv_bipush (v := (98 : Int32)) S.1 S.2.1 dMo_init_633 (by decide) ?_
  refine lv_bipush (v := (117 : Int32)) S.1 S.2.1 dMo_init_635 (by decide) ?_
  refine sk_bast (x' := [(h0, .inr (8, [.int 0, .ref q1, .ref q2, .ref q3, .ref q4, .ref q5, .int 0, .null, .int 0, .int 0, .int 0, .null, .null, .int 0, .int 0, .null, .null, .null, .int 0, .int 0, .int 0, .int 0, .int 0, .int 0, .int 0, .int 0, .null, .int 0, .int 0, .int 0, .null, .null, .null, .int 0, .null, .null, .null, .int 0, .null, .null, .null, .null, .null, .int 0, .int 0, .int 0, .int 0, .int 0, .int 0, .null, .null, .int 0, .int 0])), (q1, .inl (Γ.2.1 0, 7, .inl (fun _ => 0))), (q2, .inl (Γ.2.1 0, 5654, .inl (fun _ => 0))), (q3, .inl (Γ.2.1 0, 11308, .inl (fun _ => 0))), (q4, .inl (Γ.2.1 2, 2, .inl (fun _ => 0))), (q5, .inl (Γ.2.1 0, 30, .inl (fun _ => 0))), (q6, .inl (Γ.2.1 1, 124, .inl (wd 99)))]) S hw 6 rfl (by unfold vp_in; decide) (wd_u 98 (by decide) (by decide +kernel)) rfl dMo_init_637 (fun H locs hw => ?_)
  refine lv_dup S.1 S.2.1 dMo_init_638 rfl ?_
  refine lv_bipush (v := (99 : Int32)) S.1 S.2.1 dMo_init_639 (by decide) ?_
  refine lv_bipush (v := (116 : Int32)) S.1 S.2.1 dMo_init_641 (by decide) ?_
  refine sk_bast (x' := [(h0, .inr (8, [.int 0, .ref q1, .ref q2, .ref q3, .ref q4, .ref q5, .int 0, .null, .int 0, .int 0, .int 0, .null, .null, .int 0, .int 0, .null, .null, .null, .int 0, .int 0, .int 0, .int 0, .int 0, .int 0, .int 0, .int 0, .null, .int 0, .int 0, .int 0, .null, .null, .null, .int 0, .null, .null, .null, .int 0, .null, .null, .null, .null, .null, .int 0, .int 0, .int 0, .int 0, .int 0, .int 0, .null, .null, .int 0, .int 0])), (q1, .inl (Γ.2.1 0, 7, .inl (fun _ => 0))), (q2, .inl (Γ.2.1 0, 5654, .inl (fun _ => 0))), (q3, .inl (Γ.2.1 0, 11308, .inl (fun _ => 0))), (q4, .inl (Γ.2.1 2, 2, .inl (fun _ => 0))), (q5, .inl (Γ.2.1 0, 30, .inl (fun _ => 0))), (q6, .inl (Γ.2.1 1, 124, .inl (wd 100)))]) S hw 6 rfl (by unfold vp_in; decide) (wd_u 99 (by decide) (by decide +kernel)) rfl dMo_init_643 (fun H locs hw => ?_)
  refine lv_dup S.1 S.2.1 dMo_init_644 rfl ?_
  refine lv_bipush (v := (100 : Int32)) S.1 S.2.1 dMo_init_645 (by decide) ?_
  refine lv_bipush (v := (32 : Int32)) S.1 S.2.1 dMo_init_647 (by decide) ?_
  refine sk_bast (x' := [(h0, .inr (8, [.int 0, .ref q1, .ref q2, .ref q3, .ref q4, .ref q5, .int 0, .null, .int 0, .int 0, .int 0, .null, .null, .int 0, .int 0, .null, .null, .null, .int 0, .int 0, .int 0, .int 0, .int 0, .int 0, .int 0, .int 0, .null, .int 0, .int 0, .int 0, .null, .null, .null, .int 0, .null, .null, .null, .int 0, .null, .null, .null, .null, .null, .int 0, .int 0, .int 0, .int 0, .int 0, .int 0, .null, .null, .int 0, .int 0])), (q1, .inl (Γ.2.1 0, 7, .inl (fun _ => 0))), (q2, .inl (Γ.2.1 0, 5654, .inl (fun _ => 0))), (q3, .inl (Γ.2.1 0, 11308, .inl (fun _ => 0))), (q4, .inl (Γ.2.1 2, 2, .inl (fun _ => 0))), (q5, .inl (Γ.2.1 0, 30, .inl (fun _ => 0))), (q6, .inl (Γ.2.1 1, 124, .inl (wd 101)))]) S hw 6 rfl (by unfold vp_in; decide) (wd_u 100 (by decide) (by decide +kernel)) rfl dMo_init_649 (fun H locs hw => ?_)
  refine lv_dup S.1 S.2.1 dMo_init_650 rfl ?_
  refine lv_bipush (v := (101 : Int32)) S.1 S.2.1 dMo_init_651 (by decide) ?_
  refine lv_bipush (v := (116 : Int32)) S.1 S.2.1 dMo_init_653 (by decide) ?_
  refine sk_bast (x' := [(h0, .inr (8, [.int 0, .ref q1, .ref q2, .ref q3, .ref q4, .ref q5, .int 0, .null, .int 0, .int 0, .int 0, .null, .null, .int 0, .int 0, .null, .null, .null, .int 0, .int 0, .int 0, .int 0, .int 0, .int 0, .int 0, .int 0, .null, .int 0, .int 0, .int 0, .null, .null, .null, .int 0, .null, .null, .null, .int 0, .null, .null, .null, .null, .null, .int 0, .int 0, .int 0, .int 0, .int 0, .int 0, .null, .null, .int 0, .int 0])), (q1, .inl (Γ.2.1 0, 7, .inl (fun _ => 0))), (q2, .inl (Γ.2.1 0, 5654, .inl (fun _ => 0))), (q3, .inl (Γ.2.1 0, 11308, .inl (fun _ => 0))), (q4, .inl (Γ.2.1 2, 2, .inl (fun _ => 0))), (q5, .inl (Γ.2.1 0, 30, .inl (fun _ => 0))), (q6, .inl (Γ.2.1 1, 124, .inl (wd 102)))]) S hw 6 rfl (by unfold vp_in; decide) (wd_u 101 (by decide) (by decide +kernel)) rfl dMo_init_655 (fun H locs hw => ?_)
  refine lv_dup S.1 S.2.1 dMo_init_656 rfl ?_
  refine lv_bipush (v := (102 : Int32)) S.1 S.2.1 dMo_init_657 (by decide) ?_
  refine lv_bipush (v := (97 : Int32)) S.1 S.2.1 dMo_init_659 (by decide) ?_
  refine sk_bast (x' := [(h0, .inr (8, [.int 0, .ref q1, .ref q2, .ref q3, .ref q4, .ref q5, .int 0, .null, .int 0, .int 0, .int 0, .null, .null, .int 0, .int 0, .null, .null, .null, .int 0, .int 0, .int 0, .int 0, .int 0, .int 0, .int 0, .int 0, .null, .int 0, .int 0, .int 0, .null, .null, .null, .int 0, .null, .null, .null, .int 0, .null, .null, .null, .null, .null, .int 0, .int 0, .int 0, .int 0, .int 0, .int 0, .null, .null, .int 0, .int 0])), (q1, .inl (Γ.2.1 0, 7, .inl (fun _ => 0))), (q2, .inl (Γ.2.1 0, 5654, .inl (fun _ => 0))), (q3, .inl (Γ.2.1 0, 11308, .inl (fun _ => 0))), (q4, .inl (Γ.2.1 2, 2, .inl (fun _ => 0))), (q5, .inl (Γ.2.1 0, 30, .inl (fun _ => 0))), (q6, .inl (Γ.2.1 1, 124, .inl (wd 103)))]) S hw 6 rfl (by unfold vp_in; decide) (wd_u 102 (by decide) (by decide +kernel)) rfl dMo_init_661 (fun H locs hw => ?_)
  refine lv_dup S.1 S.2.1 dMo_init_662 rfl ?_
  refine lv_bipush (v := (103 : Int32)) S.1 S.2.1 dMo_init_663 (by decide) ?_
  refine lv_bipush (v := (107 : Int32)) S.1 S.2.1 dMo_init_665 (by decide) ?_
  refine sk_bast (x' := [(h0, .inr (8, [.int 0, .ref q1, .ref q2, .ref q3, .ref q4, .ref q5, .int 0, .null, .int 0, .int 0, .int 0, .null, .null, .int 0, .int 0, .null, .null, .null, .int 0, .int 0, .int 0, .int 0, .int 0, .int 0, .int 0, .int 0, .null, .int 0, .int 0, .int 0, .null, .null, .null, .int 0, .null, .null, .null, .int 0, .null, .null, .null, .null, .null, .int 0, .int 0, .int 0, .int 0, .int 0, .int 0, .null, .null, .int 0, .int 0])), (q1, .inl (Γ.2.1 0, 7, .inl (fun _ => 0))), (q2, .inl (Γ.2.1 0, 5654, .inl (fun _ => 0))), (q3, .inl (Γ.2.1 0, 11308, .inl (fun _ => 0))), (q4, .inl (Γ.2.1 2, 2, .inl (fun _ => 0))), (q5, .inl (Γ.2.1 0, 30, .inl (fun _ => 0))), (q6, .inl (Γ.2.1 1, 124, .inl (wd 104)))]) S hw 6 rfl (by unfold vp_in; decide) (wd_u 103 (by decide) (by decide +kernel)) rfl dMo_init_667 (fun H locs hw => ?_)
  refine lv_dup S.1 S.2.1 dMo_init_668 rfl ?_
  refine lv_bipush (v := (104 : Int32)) S.1 S.2.1 dMo_init_669 (by decide) ?_
  refine lv_bipush (v := (101 : Int32)) S.1 S.2.1 dMo_init_671 (by decide) ?_
  refine sk_bast (x' := [(h0, .inr (8, [.int 0, .ref q1, .ref q2, .ref q3, .ref q4, .ref q5, .int 0, .null, .int 0, .int 0, .int 0, .null, .null, .int 0, .int 0, .null, .null, .null, .int 0, .int 0, .int 0, .int 0, .int 0, .int 0, .int 0, .int 0, .null, .int 0, .int 0, .int 0, .null, .null, .null, .int 0, .null, .null, .null, .int 0, .null, .null, .null, .null, .null, .int 0, .int 0, .int 0, .int 0, .int 0, .int 0, .null, .null, .int 0, .int 0])), (q1, .inl (Γ.2.1 0, 7, .inl (fun _ => 0))), (q2, .inl (Γ.2.1 0, 5654, .inl (fun _ => 0))), (q3, .inl (Γ.2.1 0, 11308, .inl (fun _ => 0))), (q4, .inl (Γ.2.1 2, 2, .inl (fun _ => 0))), (q5, .inl (Γ.2.1 0, 30, .inl (fun _ => 0))), (q6, .inl (Γ.2.1 1, 124, .inl (wd 105)))]) S hw 6 rfl (by unfold vp_in; decide) (wd_u 104 (by decide) (by decide +kernel)) rfl dMo_init_673 (fun H locs hw => ?_)
  refine lv_dup S.1 S.2.1 dMo_init_674 rfl ?_
  refine lv_bipush (v := (105 : Int32)) S.1 S.2.1 dMo_init_675 (by decide) ?_
  refine lv_bipush (v := (32 : Int32)) S.1 S.2.1 dMo_init_677 (by decide) ?_
  refine sk_bast (x' := [(h0, .inr (8, [.int 0, .ref q1, .ref q2, .ref q3, .ref q4, .ref q5, .int 0, .null, .int 0, .int 0, .int 0, .null, .null, .int 0, .int 0, .null, .null, .null, .int 0, .int 0, .int 0, .int 0, .int 0, .int 0, .int 0, .int 0, .null, .int 0, .int 0, .int 0, .null, .null, .null, .int 0, .null, .null, .null, .int 0, .null, .null, .null, .null, .null, .int 0, .int 0, .int 0, .int 0, .int 0, .int 0, .null, .null, .int 0, .int 0])), (q1, .inl (Γ.2.1 0, 7, .inl (fun _ => 0))), (q2, .inl (Γ.2.1 0, 5654, .inl (fun _ => 0))), (q3, .inl (Γ.2.1 0, 11308, .inl (fun _ => 0))), (q4, .inl (Γ.2.1 2, 2, .inl (fun _ => 0))), (q5, .inl (Γ.2.1 0, 30, .inl (fun _ => 0))), (q6, .inl (Γ.2.1 1, 124, .inl (wd 106)))]) S hw 6 rfl (by unfold vp_in; decide) (wd_u 105 (by decide) (by decide +kernel)) rfl dMo_init_679 (fun H locs hw => ?_)
  refine lv_dup S.1 S.2.1 dMo_init_680 rfl ?_
  refine lv_bipush (v := (106 : Int32)) S.1 S.2.1 dMo_init_681 (by decide) ?_
  refine lv_bipush (v := (112 : Int32)) S.1 S.2.1 dMo_init_683 (by decide) ?_
  refine sk_bast (x' := [(h0, .inr (8, [.int 0, .ref q1, .ref q2, .ref q3, .ref q4, .ref q5, .int 0, .null, .int 0, .int 0, .int 0, .null, .null, .int 0, .int 0, .null, .null, .null, .int 0, .int 0, .int 0, .int 0, .int 0, .int 0, .int 0, .int 0, .null, .int 0, .int 0, .int 0, .null, .null, .null, .int 0, .null, .null, .null, .int 0, .null, .null, .null, .null, .null, .int 0, .int 0, .int 0, .int 0, .int 0, .int 0, .null, .null, .int 0, .int 0])), (q1, .inl (Γ.2.1 0, 7, .inl (fun _ => 0))), (q2, .inl (Γ.2.1 0, 5654, .inl (fun _ => 0))), (q3, .inl (Γ.2.1 0, 11308, .inl (fun _ => 0))), (q4, .inl (Γ.2.1 2, 2, .inl (fun _ => 0))), (q5, .inl (Γ.2.1 0, 30, .inl (fun _ => 0))), (q6, .inl (Γ.2.1 1, 124, .inl (wd 107)))]) S hw 6 rfl (by unfold vp_in; decide) (wd_u 106 (by decide) (by decide +kernel)) rfl dMo_init_685 (fun H locs hw => ?_)
  refine lv_dup S.1 S.2.1 dMo_init_686 rfl ?_
  refine lv_bipush (v := (107 : Int32)) S.1 S.2.1 dMo_init_687 (by decide) ?_
  refine lv_bipush (v := (97 : Int32)) S.1 S.2.1 dMo_init_689 (by decide) ?_
  refine sk_bast (x' := [(h0, .inr (8, [.int 0, .ref q1, .ref q2, .ref q3, .ref q4, .ref q5, .int 0, .null, .int 0, .int 0, .int 0, .null, .null, .int 0, .int 0, .null, .null, .null, .int 0, .int 0, .int 0, .int 0, .int 0, .int 0, .int 0, .int 0, .null, .int 0, .int 0, .int 0, .null, .null, .null, .int 0, .null, .null, .null, .int 0, .null, .null, .null, .null, .null, .int 0, .int 0, .int 0, .int 0, .int 0, .int 0, .null, .null, .int 0, .int 0])), (q1, .inl (Γ.2.1 0, 7, .inl (fun _ => 0))), (q2, .inl (Γ.2.1 0, 5654, .inl (fun _ => 0))), (q3, .inl (Γ.2.1 0, 11308, .inl (fun _ => 0))), (q4, .inl (Γ.2.1 2, 2, .inl (fun _ => 0))), (q5, .inl (Γ.2.1 0, 30, .inl (fun _ => 0))), (q6, .inl (Γ.2.1 1, 124, .inl (wd 108)))]) S hw 6 rfl (by unfold vp_in; decide) (wd_u 107 (by decide) (by decide +kernel)) rfl dMo_init_691 (fun H locs hw => ?_)
  refine lv_dup S.1 S.2.1 dMo_init_692 rfl ?_
  refine lv_bipush (v := (108 : Int32)) S.1 S.2.1 dMo_init_693 (by decide) ?_
  refine lv_bipush (v := (100 : Int32)) S.1 S.2.1 dMo_init_695 (by decide) ?_
  refine sk_bast (x' := [(h0, .inr (8, [.int 0, .ref q1, .ref q2, .ref q3, .ref q4, .ref q5, .int 0, .null, .int 0, .int 0, .int 0, .null, .null, .int 0, .int 0, .null, .null, .null, .int 0, .int 0, .int 0, .int 0, .int 0, .int 0, .int 0, .int 0, .null, .int 0, .int 0, .int 0, .null, .null, .null, .int 0, .null, .null, .null, .int 0, .null, .null, .null, .null, .null, .int 0, .int 0, .int 0, .int 0, .int 0, .int 0, .null, .null, .int 0, .int 0])), (q1, .inl (Γ.2.1 0, 7, .inl (fun _ => 0))), (q2, .inl (Γ.2.1 0, 5654, .inl (fun _ => 0))), (q3, .inl (Γ.2.1 0, 11308, .inl (fun _ => 0))), (q4, .inl (Γ.2.1 2, 2, .inl (fun _ => 0))), (q5, .inl (Γ.2.1 0, 30, .inl (fun _ => 0))), (q6, .inl (Γ.2.1 1, 124, .inl (wd 109)))]) S hw 6 rfl (by unfold vp_in; decide) (wd_u 108 (by decide) (by decide +kernel)) rfl dMo_init_697 (fun H locs hw => ?_)
  refine lv_dup S.1 S.2.1 dMo_init_698 rfl ?_
  refine lv_bipush (v := (109 : Int32)) S.1 S.2.1 dMo_init_699 (by decide) ?_
  refine lv_bipush (v := (32 : Int32)) S.1 S.2.1 dMo_init_701 (by decide) ?_
  refine sk_bast (x' := [(h0, .inr (8, [.int 0, .ref q1, .ref q2, .ref q3, .ref q4, .ref q5, .int 0, .null, .int 0, .int 0, .int 0, .null, .null, .int 0, .int 0, .null, .null, .null, .int 0, .int 0, .int 0, .int 0, .int 0, .int 0, .int 0, .int 0, .null, .int 0, .int 0, .int 0, .null, .null, .null, .int 0, .null, .null, .null, .int 0, .null, .null, .null, .null, .null, .int 0, .int 0, .int 0, .int 0, .int 0, .int 0, .null, .null, .int 0, .int 0])), (q1, .inl (Γ.2.1 0, 7, .inl (fun _ => 0))), (q2, .inl (Γ.2.1 0, 5654, .inl (fun _ => 0))), (q3, .inl (Γ.2.1 0, 11308, .inl (fun _ => 0))), (q4, .inl (Γ.2.1 2, 2, .inl (fun _ => 0))), (q5, .inl (Γ.2.1 0, 30, .inl (fun _ => 0))), (q6, .inl (Γ.2.1 1, 124, .inl (wd 110)))]) S hw 6 rfl (by unfold vp_in; decide) (wd_u 109 (by decide) (by decide +kernel)) rfl dMo_init_703 (fun H locs hw => ?_)
  refine lv_dup S.1 S.2.1 dMo_init_704 rfl ?_
  refine lv_bipush (v := (110 : Int32)) S.1 S.2.1 dMo_init_705 (by decide) ?_
  refine lv_bipush (v := (116 : Int32)) S.1 S.2.1 dMo_init_707 (by decide) ?_
  refine sk_bast (x' := [(h0, .inr (8, [.int 0, .ref q1, .ref q2, .ref q3, .ref q4, .ref q5, .int 0, .null, .int 0, .int 0, .int 0, .null, .null, .int 0, .int 0, .null, .null, .null, .int 0, .int 0, .int 0, .int 0, .int 0, .int 0, .int 0, .int 0, .null, .int 0, .int 0, .int 0, .null, .null, .null, .int 0, .null, .null, .null, .int 0, .null, .null, .null, .null, .null, .int 0, .int 0, .int 0, .int 0, .int 0, .int 0, .null, .null, .int 0, .int 0])), (q1, .inl (Γ.2.1 0, 7, .inl (fun _ => 0))), (q2, .inl (Γ.2.1 0, 5654, .inl (fun _ => 0))), (q3, .inl (Γ.2.1 0, 11308, .inl (fun _ => 0))), (q4, .inl (Γ.2.1 2, 2, .inl (fun _ => 0))), (q5, .inl (Γ.2.1 0, 30, .inl (fun _ => 0))), (q6, .inl (Γ.2.1 1, 124, .inl (wd 111)))]) S hw 6 rfl (by unfold vp_in; decide) (wd_u 110 (by decide) (by decide +kernel)) rfl dMo_init_709 (fun H locs hw => ?_)
  refine lv_dup S.1 S.2.1 dMo_init_710 rfl ?_
  refine lv_bipush (v := (111 : Int32)) S.1 S.2.1 dMo_init_711 (by decide) ?_
  refine lv_bipush (v := (111 : Int32)) S.1 S.2.1 dMo_init_713 (by decide) ?_
  refine sk_bast (x' := [(h0, .inr (8, [.int 0, .ref q1, .ref q2, .ref q3, .ref q4, .ref q5, .int 0, .null, .int 0, .int 0, .int 0, .null, .null, .int 0, .int 0, .null, .null, .null, .int 0, .int 0, .int 0, .int 0, .int 0, .int 0, .int 0, .int 0, .null, .int 0, .int 0, .int 0, .null, .null, .null, .int 0, .null, .null, .null, .int 0, .null, .null, .null, .null, .null, .int 0, .int 0, .int 0, .int 0, .int 0, .int 0, .null, .null, .int 0, .int 0])), (q1, .inl (Γ.2.1 0, 7, .inl (fun _ => 0))), (q2, .inl (Γ.2.1 0, 5654, .inl (fun _ => 0))), (q3, .inl (Γ.2.1 0, 11308, .inl (fun _ => 0))), (q4, .inl (Γ.2.1 2, 2, .inl (fun _ => 0))), (q5, .inl (Γ.2.1 0, 30, .inl (fun _ => 0))), (q6, .inl (Γ.2.1 1, 124, .inl (wd 112)))]) S hw 6 rfl (by unfold vp_in; decide) (wd_u 111 (by decide) (by decide +kernel)) rfl dMo_init_715 (fun H locs hw => ?_)
  refine lv_dup S.1 S.2.1 dMo_init_716 rfl ?_
  refine lv_bipush (v := (112 : Int32)) S.1 S.2.1 dMo_init_717 (by decide) ?_
  refine lv_bipush (v := (32 : Int32)) S.1 S.2.1 dMo_init_719 (by decide) ?_
  refine sk_bast (x' := [(h0, .inr (8, [.int 0, .ref q1, .ref q2, .ref q3, .ref q4, .ref q5, .int 0, .null, .int 0, .int 0, .int 0, .null, .null, .int 0, .int 0, .null, .null, .null, .int 0, .int 0, .int 0, .int 0, .int 0, .int 0, .int 0, .int 0, .null, .int 0, .int 0, .int 0, .null, .null, .null, .int 0, .null, .null, .null, .int 0, .null, .null, .null, .null, .null, .int 0, .int 0, .int 0, .int 0, .int 0, .int 0, .null, .null, .int 0, .int 0])), (q1, .inl (Γ.2.1 0, 7, .inl (fun _ => 0))), (q2, .inl (Γ.2.1 0, 5654, .inl (fun _ => 0))), (q3, .inl (Γ.2.1 0, 11308, .inl (fun _ => 0))), (q4, .inl (Γ.2.1 2, 2, .inl (fun _ => 0))), (q5, .inl (Γ.2.1 0, 30, .inl (fun _ => 0))), (q6, .inl (Γ.2.1 1, 124, .inl (wd 113)))]) S hw 6 rfl (by unfold vp_in; decide) (wd_u 112 (by decide) (by decide +kernel)) rfl dMo_init_721 (fun H locs hw => ?_)
  refine lv_dup S.1 S.2.1 dMo_init_722 rfl ?_
  refine lv_bipush (v := (113 : Int32)) S.1 S.2.1 dMo_init_723 (by decide) ?_
  refine lv_bipush (v := (112 : Int32)) S.1 S.2.1 dMo_init_725 (by decide) ?_
  refine sk_bast (x' := [(h0, .inr (8, [.int 0, .ref q1, .ref q2, .ref q3, .ref q4, .ref q5, .int 0, .null, .int 0, .int 0, .int 0, .null, .null, .int 0, .int 0, .null, .null, .null, .int 0, .int 0, .int 0, .int 0, .int 0, .int 0, .int 0, .int 0, .null, .int 0, .int 0, .int 0, .null, .null, .null, .int 0, .null, .null, .null, .int 0, .null, .null, .null, .null, .null, .int 0, .int 0, .int 0, .int 0, .int 0, .int 0, .null, .null, .int 0, .int 0])), (q1, .inl (Γ.2.1 0, 7, .inl (fun _ => 0))), (q2, .inl (Γ.2.1 0, 5654, .inl (fun _ => 0))), (q3, .inl (Γ.2.1 0, 11308, .inl (fun _ => 0))), (q4, .inl (Γ.2.1 2, 2, .inl (fun _ => 0))), (q5, .inl (Γ.2.1 0, 30, .inl (fun _ => 0))), (q6, .inl (Γ.2.1 1, 124, .inl (wd 114)))]) S hw 6 rfl (by unfold vp_in; decide) (wd_u 113 (by decide) (by decide +kernel)) rfl dMo_init_727 (fun H locs hw => ?_)
  refine lv_dup S.1 S.2.1 dMo_init_728 rfl ?_
  refine lv_bipush (v := (114 : Int32)) S.1 S.2.1 dMo_init_729 (by decide) ?_
  refine lv_bipush (v := (97 : Int32)) S.1 S.2.1 dMo_init_731 (by decide) ?_
  refine sk_bast (x' := [(h0, .inr (8, [.int 0, .ref q1, .ref q2, .ref q3, .ref q4, .ref q5, .int 0, .null, .int 0, .int 0, .int 0, .null, .null, .int 0, .int 0, .null, .null, .null, .int 0, .int 0, .int 0, .int 0, .int 0, .int 0, .int 0, .int 0, .null, .int 0, .int 0, .int 0, .null, .null, .null, .int 0, .null, .null, .null, .int 0, .null, .null, .null, .null, .null, .int 0, .int 0, .int 0, .int 0, .int 0, .int 0, .null, .null, .int 0, .int 0])), (q1, .inl (Γ.2.1 0, 7, .inl (fun _ => 0))), (q2, .inl (Γ.2.1 0, 5654, .inl (fun _ => 0))), (q3, .inl (Γ.2.1 0, 11308, .inl (fun _ => 0))), (q4, .inl (Γ.2.1 2, 2, .inl (fun _ => 0))), (q5, .inl (Γ.2.1 0, 30, .inl (fun _ => 0))), (q6, .inl (Γ.2.1 1, 124, .inl (wd 115)))]) S hw 6 rfl (by unfold vp_in; decide) (wd_u 114 (by decide) (by decide +kernel)) rfl dMo_init_733 (fun H locs hw => ?_)
  refine lv_dup S.1 S.2.1 dMo_init_734 rfl ?_
  refine lv_bipush (v := (115 : Int32)) S.1 S.2.1 dMo_init_735 (by decide) ?_
  refine lv_bipush (v := (115 : Int32)) S.1 S.2.1 dMo_init_737 (by decide) ?_
  refine sk_bast (x' := [(h0, .inr (8, [.int 0, .ref q1, .ref q2, .ref q3, .ref q4, .ref q5, .int 0, .null, .int 0, .int 0, .int 0, .null, .null, .int 0, .int 0, .null, .null, .null, .int 0, .int 0, .int 0, .int 0, .int 0, .int 0, .int 0, .int 0, .null, .int 0, .int 0, .int 0, .null, .null, .null, .int 0, .null, .null, .null, .int 0, .null, .null, .null, .null, .null, .int 0, .int 0, .int 0, .int 0, .int 0, .int 0, .null, .null, .int 0, .int 0])), (q1, .inl (Γ.2.1 0, 7, .inl (fun _ => 0))), (q2, .inl (Γ.2.1 0, 5654, .inl (fun _ => 0))), (q3, .inl (Γ.2.1 0, 11308, .inl (fun _ => 0))), (q4, .inl (Γ.2.1 2, 2, .inl (fun _ => 0))), (q5, .inl (Γ.2.1 0, 30, .inl (fun _ => 0))), (q6, .inl (Γ.2.1 1, 124, .inl (wd 116)))]) S hw 6 rfl (by unfold vp_in; decide) (wd_u 115 (by decide) (by decide +kernel)) rfl dMo_init_739 (fun H locs hw => ?_)
  refine lv_dup S.1 S.2.1 dMo_init_740 rfl ?_
  refine lv_bipush (v := (116 : Int32)) S.1 S.2.1 dMo_init_741 (by decide) ?_
  refine lv_bipush (v := (115 : Int32)) S.1 S.2.1 dMo_init_743 (by decide) ?_
  refine sk_bast (x' := [(h0, .inr (8, [.int 0, .ref q1, .ref q2, .ref q3, .ref q4, .ref q5, .int 0, .null, .int 0, .int 0, .int 0, .null, .null, .int 0, .int 0, .null, .null, .null, .int 0, .int 0, .int 0, .int 0, .int 0, .int 0, .int 0, .int 0, .null, .int 0, .int 0, .int 0, .null, .null, .null, .int 0, .null, .null, .null, .int 0, .null, .null, .null, .null, .null, .int 0, .int 0, .int 0, .int 0, .int 0, .int 0, .null, .null, .int 0, .int 0])), (q1, .inl (Γ.2.1 0, 7, .inl (fun _ => 0))), (q2, .inl (Γ.2.1 0, 5654, .inl (fun _ => 0))), (q3, .inl (Γ.2.1 0, 11308, .inl (fun _ => 0))), (q4, .inl (Γ.2.1 2, 2, .inl (fun _ => 0))), (q5, .inl (Γ.2.1 0, 30, .inl (fun _ => 0))), (q6, .inl (Γ.2.1 1, 124, .inl (wd 117)))]) S hw 6 rfl (by unfold vp_in; decide) (wd_u 116 (by decide) (by decide +kernel)) rfl dMo_init_745 (fun H locs hw => ?_)
  refine lv_dup S.1 S.2.1 dMo_init_746 rfl ?_
  refine lv_bipush (v := (117 : Int32)) S.1 S.2.1 dMo_init_747 (by decide) ?_
  refine lv_bipush (v := (32 : Int32)) S.1 S.2.1 dMo_init_749 (by decide) ?_
  refine sk_bast (x' := [(h0, .inr (8, [.int 0, .ref q1, .ref q2, .ref q3, .ref q4, .ref q5, .int 0, .null, .int 0, .int 0, .int 0, .null, .null, .int 0, .int 0, .null, .null, .null, .int 0, .int 0, .int 0, .int 0, .int 0, .int 0, .int 0, .int 0, .null, .int 0, .int 0, .int 0, .null, .null, .null, .int 0, .null, .null, .null, .int 0, .null, .null, .null, .null, .null, .int 0, .int 0, .int 0, .int 0, .int 0, .int 0, .null, .null, .int 0, .int 0])), (q1, .inl (Γ.2.1 0, 7, .inl (fun _ => 0))), (q2, .inl (Γ.2.1 0, 5654, .inl (fun _ => 0))), (q3, .inl (Γ.2.1 0, 11308, .inl (fun _ => 0))), (q4, .inl (Γ.2.1 2, 2, .inl (fun _ => 0))), (q5, .inl (Γ.2.1 0, 30, .inl (fun _ => 0))), (q6, .inl (Γ.2.1 1, 124, .inl (wd 118)))]) S hw 6 rfl (by unfold vp_in; decide) (wd_u 117 (by decide) (by decide +kernel)) rfl dMo_init_751 (fun H locs hw => ?_)
  refine lv_dup S.1 S.2.1 dMo_init_752 rfl ?_
  refine lv_bipush (v := (118 : Int32)) S.1 S.2.1 dMo_init_753 (by decide) ?_
  refine lv_bipush (v := (116 : Int32)) S.1 S.2.1 dMo_init_755 (by decide) ?_
  refine sk_bast (x' := [(h0, .inr (8, [.int 0, .ref q1, .ref q2, .ref q3, .ref q4, .ref q5, .int 0, .null, .int 0, .int 0, .int 0, .null, .null, .int 0, .int 0, .null, .null, .null, .int 0, .int 0, .int 0, .int 0, .int 0, .int 0, .int 0, .int 0, .null, .int 0, .int 0, .int 0, .null, .null, .null, .int 0, .null, .null, .null, .int 0, .null, .null, .null, .null, .null, .int 0, .int 0, .int 0, .int 0, .int 0, .int 0, .null, .null, .int 0, .int 0])), (q1, .inl (Γ.2.1 0, 7, .inl (fun _ => 0))), (q2, .inl (Γ.2.1 0, 5654, .inl (fun _ => 0))), (q3, .inl (Γ.2.1 0, 11308, .inl (fun _ => 0))), (q4, .inl (Γ.2.1 2, 2, .inl (fun _ => 0))), (q5, .inl (Γ.2.1 0, 30, .inl (fun _ => 0))), (q6, .inl (Γ.2.1 1, 124, .inl (wd 119)))]) S hw 6 rfl (by unfold vp_in; decide) (wd_u 118 (by decide) (by decide +kernel)) rfl dMo_init_757 (fun H locs hw => ?_)
  refine lv_dup S.1 S.2.1 dMo_init_758 rfl ?_
  refine lv_bipush (v := (119 : Int32)) S.1 S.2.1 dMo_init_759 (by decide) ?_
  refine lv_bipush (v := (105 : Int32)) S.1 S.2.1 dMo_init_761 (by decide) ?_
  refine sk_bast (x' := [(h0, .inr (8, [.int 0, .ref q1, .ref q2, .ref q3, .ref q4, .ref q5, .int 0, .null, .int 0, .int 0, .int 0, .null, .null, .int 0, .int 0, .null, .null, .null, .int 0, .int 0, .int 0, .int 0, .int 0, .int 0, .int 0, .int 0, .null, .int 0, .int 0, .int 0, .null, .null, .null, .int 0, .null, .null, .null, .int 0, .null, .null, .null, .null, .null, .int 0, .int 0, .int 0, .int 0, .int 0, .int 0, .null, .null, .int 0, .int 0])), (q1, .inl (Γ.2.1 0, 7, .inl (fun _ => 0))), (q2, .inl (Γ.2.1 0, 5654, .inl (fun _ => 0))), (q3, .inl (Γ.2.1 0, 11308, .inl (fun _ => 0))), (q4, .inl (Γ.2.1 2, 2, .inl (fun _ => 0))), (q5, .inl (Γ.2.1 0, 30, .inl (fun _ => 0))), (q6, .inl (Γ.2.1 1, 124, .inl (wd 120)))]) S hw 6 rfl (by unfold vp_in; decide) (wd_u 119 (by decide) (by decide +kernel)) rfl dMo_init_763 (fun H locs hw => ?_)
  refine lv_dup S.1 S.2.1 dMo_init_764 rfl ?_
  refine lv_bipush (v := (120 : Int32)) S.1 S.2.1 dMo_init_765 (by decide) ?_
  refine lv_bipush (v := (109 : Int32)) S.1 S.2.1 dMo_init_767 (by decide) ?_
  refine sk_bast (x' := [(h0, .inr (8, [.int 0, .ref q1, .ref q2, .ref q3, .ref q4, .ref q5, .int 0, .null, .int 0, .int 0, .int 0, .null, .null, .int 0, .int 0, .null, .null, .null, .int 0, .int 0, .int 0, .int 0, .int 0, .int 0, .int 0, .int 0, .null, .int 0, .int 0, .int 0, .null, .null, .null, .int 0, .null, .null, .null, .int 0, .null, .null, .null, .null, .null, .int 0, .int 0, .int 0, .int 0, .int 0, .int 0, .null, .null, .int 0, .int 0])), (q1, .inl (Γ.2.1 0, 7, .inl (fun _ => 0))), (q2, .inl (Γ.2.1 0, 5654, .inl (fun _ => 0))), (q3, .inl (Γ.2.1 0, 11308, .inl (fun _ => 0))), (q4, .inl (Γ.2.1 2, 2, .inl (fun _ => 0))), (q5, .inl (Γ.2.1 0, 30, .inl (fun _ => 0))), (q6, .inl (Γ.2.1 1, 124, .inl (wd 121)))]) S hw 6 rfl (by unfold vp_in; decide) (wd_u 120 (by decide) (by decide +kernel)) rfl dMo_init_769 (fun H locs hw => ?_)
  refine lv_dup S.1 S.2.1 dMo_init_770 rfl ?_
  refine lv_bipush (v := (121 : Int32)) S.1 S.2.1 dMo_init_771 (by decide) ?_
  refine lv_bipush (v := (101 : Int32)) S.1 S.2.1 dMo_init_773 (by decide) ?_
  refine sk_bast (x' := [(h0, .inr (8, [.int 0, .ref q1, .ref q2, .ref q3, .ref q4, .ref q5, .int 0, .null, .int 0, .int 0, .int 0, .null, .null, .int 0, .int 0, .null, .null, .null, .int 0, .int 0, .int 0, .int 0, .int 0, .int 0, .int 0, .int 0, .null, .int 0, .int 0, .int 0, .null, .null, .null, .int 0, .null, .null, .null, .int 0, .null, .null, .null, .null, .null, .int 0, .int 0, .int 0, .int 0, .int 0, .int 0, .null, .null, .int 0, .int 0])), (q1, .inl (Γ.2.1 0, 7, .inl (fun _ => 0))), (q2, .inl (Γ.2.1 0, 5654, .inl (fun _ => 0))), (q3, .inl (Γ.2.1 0, 11308, .inl (fun _ => 0))), (q4, .inl (Γ.2.1 2, 2, .inl (fun _ => 0))), (q5, .inl (Γ.2.1 0, 30, .inl (fun _ => 0))), (q6, .inl (Γ.2.1 1, 124, .inl (wd 122)))]) S hw 6 rfl (by unfold vp_in; decide) (wd_u 121 (by decide) (by decide +kernel)) rfl dMo_init_775 (fun H locs hw => ?_)
  refine lv_dup S.1 S.2.1 dMo_init_776 rfl ?_
  refine lv_bipush (v := (122 : Int32)) S.1 S.2.1 dMo_init_777 (by decide) ?_
  refine lv_bipush (v := (115 : Int32)) S.1 S.2.1 dMo_init_779 (by decide) ?_
  refine sk_bast (x' := [(h0, .inr (8, [.int 0, .ref q1, .ref q2, .ref q3, .ref q4, .ref q5, .int 0, .null, .int 0, .int 0, .int 0, .null, .null, .int 0, .int 0, .null, .null, .null, .int 0, .int 0, .int 0, .int 0, .int 0, .int 0, .int 0, .int 0, .null, .int 0, .int 0, .int 0, .null, .null, .null, .int 0, .null, .null, .null, .int 0, .null, .null, .null, .null, .null, .int 0, .int 0, .int 0, .int 0, .int 0, .int 0, .null, .null, .int 0, .int 0])), (q1, .inl (Γ.2.1 0, 7, .inl (fun _ => 0))), (q2, .inl (Γ.2.1 0, 5654, .inl (fun _ => 0))), (q3, .inl (Γ.2.1 0, 11308, .inl (fun _ => 0))), (q4, .inl (Γ.2.1 2, 2, .inl (fun _ => 0))), (q5, .inl (Γ.2.1 0, 30, .inl (fun _ => 0))), (q6, .inl (Γ.2.1 1, 124, .inl (wd 123)))]) S hw 6 rfl (by unfold vp_in; decide) (wd_u 122 (by decide) (by decide +kernel)) rfl dMo_init_781 (fun H locs hw => ?_)
  refine lv_dup S.1 S.2.1 dMo_init_782 rfl ?_
  refine lv_bipush (v := (123 : Int32)) S.1 S.2.1 dMo_init_783 (by decide) ?_
  refine lv_bipush (v := (32 : Int32)) S.1 S.2.1 dMo_init_785 (by decide) ?_
  refine sk_bast (x' := [(h0, .inr (8, [.int 0, .ref q1, .ref q2, .ref q3, .ref q4, .ref q5, .int 0, .null, .int 0, .int 0, .int 0, .null, .null, .int 0, .int 0, .null, .null, .null, .int 0, .int 0, .int 0, .int 0, .int 0, .int 0, .int 0, .int 0, .null, .int 0, .int 0, .int 0, .null, .null, .null, .int 0, .null, .null, .null, .int 0, .null, .null, .null, .null, .null, .int 0, .int 0, .int 0, .int 0, .int 0, .int 0, .null, .null, .int 0, .int 0])), (q1, .inl (Γ.2.1 0, 7, .inl (fun _ => 0))), (q2, .inl (Γ.2.1 0, 5654, .inl (fun _ => 0))), (q3, .inl (Γ.2.1 0, 11308, .inl (fun _ => 0))), (q4, .inl (Γ.2.1 2, 2, .inl (fun _ => 0))), (q5, .inl (Γ.2.1 0, 30, .inl (fun _ => 0))), (q6, .inl (Γ.2.1 1, 124, .inl (wd 124)))]) S hw 6 rfl (by unfold vp_in; decide) (wd_u 123 (by decide) (by decide +kernel)) rfl dMo_init_787 (fun H locs hw => ?_)
  refine sk_putF (x' := [(h0, .inr (8, [.int 0, .ref q1, .ref q2, .ref q3, .ref q4, .ref q5, .int 0, .ref q6, .int 0, .int 0, .int 0, .null, .null, .int 0, .int 0, .null, .null, .null, .int 0, .int 0, .int 0, .int 0, .int 0, .int 0, .int 0, .int 0, .null, .int 0, .int 0, .int 0, .null, .null, .null, .int 0, .null, .null, .null, .int 0, .null, .null, .null, .null, .null, .int 0, .int 0, .int 0, .int 0, .int 0, .int 0, .null, .null, .int 0, .int 0])), (q1, .inl (Γ.2.1 0, 7, .inl (fun _ => 0))), (q2, .inl (Γ.2.1 0, 5654, .inl (fun _ => 0))), (q3, .inl (Γ.2.1 0, 11308, .inl (fun _ => 0))), (q4, .inl (Γ.2.1 2, 2, .inl (fun _ => 0))), (q5, .inl (Γ.2.1 0, 30, .inl (fun _ => 0))), (q6, .inl (Γ.2.1 1, 124, .inl (wd 124)))]) S hw i_Mo t_Mo t_Mo_ok n_Mo hin 0 rfl rfl 7 (by decide) zwf_Mo_41 rfl rfl rfl rfl rfl (by decide) rfl dMo_init_788 (fun H locs hw => ?_)
  refine lv_aload_n S.1 S.2.1 dMo_init_791 rfl (lv_at hl 0 rfl) ?_
  refine lv_sipush (v := (400 : Int32)) S.1 S.2.1 dMo_init_792 (by decide) ?_
  refine sk_newb S hw zwa_1 (by decide) (by decide) (Nat.le_of_ble_eq_true rfl) (Nat.le_of_ble_eq_true rfl) (Nat.le_of_ble_eq_true rfl) dMo_init_795 (fun q7 H hw => ?_)
  have hw : sk_S Γ A Θ ws [(h0, .inr (8, [.int 0, .ref q1, .ref q2, .ref q3, .ref q4, .ref q5, .int 0, .ref q6, .int 0, .int 0, .int 0, .null, .null, .int 0, .int 0, .null, .null, .null, .int 0, .int 0, .int 0, .int 0, .int 0, .int 0, .int 0, .int 0, .null, .int 0, .int 0, .int 0, .null, .null, .null, .int 0, .null, .null, .null, .int 0, .null, .null, .null, .null, .null, .int 0, .int 0, .int 0, .int 0, .int 0, .int 0, .null, .null, .int 0, .int 0])), (q1, .inl (Γ.2.1 0, 7, .inl (fun _ => 0))), (q2, .inl (Γ.2.1 0, 5654, .inl (fun _ => 0))), (q3, .inl (Γ.2.1 0, 11308, .inl (fun _ => 0))), (q4, .inl (Γ.2.1 2, 2, .inl (fun _ => 0))), (q5, .inl (Γ.2.1 0, 30, .inl (fun _ => 0))), (q6, .inl (Γ.2.1 1, 124, .inl (wd 124))), (q7, .inl (Γ.2.1 1, 400, .inl (fun _ => 0)))] s H _ := hw
  refine sk_putF (x' := [(h0, .inr (8, [.int 0, .ref q1, .ref q2, .ref q3, .ref q4, .ref q5, .int 0, .ref q6, .int 0, .int 0, .int 0, .ref q7, .null, .int 0, .int 0, .null, .null, .null, .int 0, .int 0, .int 0, .int 0, .int 0, .int 0, .int 0, .int 0, .null, .int 0, .int 0, .int 0, .null, .null, .null, .int 0, .null, .null, .null, .int 0, .null, .null, .null, .null, .null, .int 0, .int 0, .int 0, .int 0, .int 0, .int 0, .null, .null, .int 0, .int 0])), (q1, .inl (Γ.2.1 0, 7, .inl (fun _ => 0))), (q2, .inl (Γ.2.1 0, 5654, .inl (fun _ => 0))), (q3, .inl (Γ.2.1 0, 11308, .inl (fun _ => 0))), (q4, .inl (Γ.2.1 2, 2, .inl (fun _ => 0))), (q5, .inl (Γ.2.1 0, 30, .inl (fun _ => 0))), (q6, .inl (Γ.2.1 1, 124, .inl (wd 124))), (q7, .inl (Γ.2.1 1, 400, .inl (fun _ => 0)))]) S hw i_Mo t_Mo t_Mo_ok n_Mo hin 0 rfl rfl 11 (by decide) zwf_Mo_45 rfl rfl rfl rfl rfl (by decide) rfl dMo_init_797 (fun H locs hw => ?_)
  refine lv_aload_n S.1 S.2.1 dMo_init_800 rfl (lv_at hl 0 rfl) ?_
  refine lv_iconst (v := (5 : Int32)) S.1 S.2.1 dMo_init_801 (by decide) ?_
  refine sk_newi S hw zwa_0 (by decide) (by decide) (Nat.le_of_ble_eq_true rfl) (Nat.le_of_ble_eq_true rfl) (Nat.le_of_ble_eq_true rfl) dMo_init_802 (fun q8 H hw => ?_)
  have hw : sk_S Γ A Θ ws [(h0, .inr (8, [.int 0, .ref q1, .ref q2, .ref q3, .ref q4, .ref q5, .int 0, .ref q6, .int 0, .int 0, .int 0, .ref q7, .null, .int 0, .int 0, .null, .null, .null, .int 0, .int 0, .int 0, .int 0, .int 0, .int 0, .int 0, .int 0, .null, .int 0, .int 0, .int 0, .null, .null, .null, .int 0, .null, .null, .null, .int 0, .null, .null, .null, .null, .null, .int 0, .int 0, .int 0, .int 0, .int 0, .int 0, .null, .null, .int 0, .int 0])), (q1, .inl (Γ.2.1 0, 7, .inl (fun _ => 0))), (q2, .inl (Γ.2.1 0, 5654, .inl (fun _ => 0))), (q3, .inl (Γ.2.1 0, 11308, .inl (fun _ => 0))), (q4, .inl (Γ.2.1 2, 2, .inl (fun _ => 0))), (q5, .inl (Γ.2.1 0, 30, .inl (fun _ => 0))), (q6, .inl (Γ.2.1 1, 124, .inl (wd 124))), (q7, .inl (Γ.2.1 1, 400, .inl (fun _ => 0))), (q8, .inl (Γ.2.1 0, 5, .inl (fun _ => 0)))] s H _ := hw
  refine sk_putF (x' := [(h0, .inr (8, [.int 0, .ref q1, .ref q2, .ref q3, .ref q4, .ref q5, .int 0, .ref q6, .int 0, .int 0, .int 0, .ref q7, .ref q8, .int 0, .int 0, .null, .null, .null, .int 0, .int 0, .int 0, .int 0, .int 0, .int 0, .int 0, .int 0, .null, .int 0, .int 0, .int 0, .null, .null, .null, .int 0, .null, .null, .null, .int 0, .null, .null, .null, .null, .null, .int 0, .int 0, .int 0, .int 0, .int 0, .int 0, .null, .null, .int 0, .int 0])), (q1, .inl (Γ.2.1 0, 7, .inl (fun _ => 0))), (q2, .inl (Γ.2.1 0, 5654, .inl (fun _ => 0))), (q3, .inl (Γ.2.1 0, 11308, .inl (fun _ => 0))), (q4, .inl (Γ.2.1 2, 2, .inl (fun _ => 0))), (q5, .inl (Γ.2.1 0, 30, .inl (fun _ => 0))), (q6, .inl (Γ.2.1 1, 124, .inl (wd 124))), (q7, .inl (Γ.2.1 1, 400, .inl (fun _ => 0))), (q8, .inl (Γ.2.1 0, 5, .inl (fun _ => 0)))]) S hw i_Mo t_Mo t_Mo_ok n_Mo hin 0 rfl rfl 12 (by decide) zwf_Mo_48 rfl rfl rfl rfl rfl (by decide) rfl dMo_init_804 (fun H locs hw => ?_)
  refine lv_aload_n S.1 S.2.1 dMo_init_807 rfl (lv_at hl 0 rfl) ?_
  refine lv_iconst (v := (-1 : Int32)) S.1 S.2.1 dMo_init_808 (by decide) ?_
  refine sk_put (x' := [(h0, .inr (8, [.int 0, .ref q1, .ref q2, .ref q3, .ref q4, .ref q5, .int 0, .ref q6, .int 0, .int 0, .int 0, .ref q7, .ref q8, .int 0, .int (-1 : Int32), .null, .null, .null, .int 0, .int 0, .int 0, .int 0, .int 0, .int 0, .int 0, .int 0, .null, .int 0, .int 0, .int 0, .null, .null, .null, .int 0, .null, .null, .null, .int 0, .null, .null, .null, .null, .null, .int 0, .int 0, .int 0, .int 0, .int 0, .int 0, .null, .null, .int 0, .int 0])), (q1, .inl (Γ.2.1 0, 7, .inl (fun _ => 0))), (q2, .inl (Γ.2.1 0, 5654, .inl (fun _ => 0))), (q3, .inl (Γ.2.1 0, 11308, .inl (fun _ => 0))), (q4, .inl (Γ.2.1 2, 2, .inl (fun _ => 0))), (q5, .inl (Γ.2.1 0, 30, .inl (fun _ => 0))), (q6, .inl (Γ.2.1 1, 124, .inl (wd 124))), (q7, .inl (Γ.2.1 1, 400, .inl (fun _ => 0))), (q8, .inl (Γ.2.1 0, 5, .inl (fun _ => 0)))]) S hw i_Mo t_Mo t_Mo_ok n_Mo 0 rfl rfl 14 (by decide) zwf_Mo_51 rfl rfl rfl rfl (by decide) rfl dMo_init_809 (fun H locs hw => ?_)
  refine lv_aload_n S.1 S.2.1 dMo_init_812 rfl (lv_at hl 0 rfl) ?_
  refine lv_sipush (v := (401 : Int32)) S.1 S.2.1 dMo_init_813 (by decide) ?_
  refine sk_newi S hw zwa_0 (by decide) (by decide) (Nat.le_of_ble_eq_true rfl) (Nat.le_of_ble_eq_true rfl) (Nat.le_of_ble_eq_true rfl) dMo_init_816 (fun q9 H hw => ?_)
  have hw : sk_S Γ A Θ ws [(h0, .inr (8, [.int 0, .ref q1, .ref q2, .ref q3, .ref q4, .ref q5, .int 0, .ref q6, .int 0, .int 0, .int 0, .ref q7, .ref q8, .int 0, .int (-1 : Int32), .null, .null, .null, .int 0, .int 0, .int 0, .int 0, .int 0, .int 0, .int 0, .int 0, .null, .int 0, .int 0, .int 0, .null, .null, .null, .int 0, .null, .null, .null, .int 0, .null, .null, .null, .null, .null, .int 0, .int 0, .int 0, .int 0, .int 0, .int 0, .null, .null, .int 0, .int 0])), (q1, .inl (Γ.2.1 0, 7, .inl (fun _ => 0))), (q2, .inl (Γ.2.1 0, 5654, .inl (fun _ => 0))), (q3, .inl (Γ.2.1 0, 11308, .inl (fun _ => 0))), (q4, .inl (Γ.2.1 2, 2, .inl (fun _ => 0))), (q5, .inl (Γ.2.1 0, 30, .inl (fun _ => 0))), (q6, .inl (Γ.2.1 1, 124, .inl (wd 124))), (q7, .inl (Γ.2.1 1, 400, .inl (fun _ => 0))), (q8, .inl (Γ.2.1 0, 5, .inl (fun _ => 0))), (q9, .inl (Γ.2.1 0, 401, .inl (fun _ => 0)))] s H _ := hw
  refine sk_putF (x' := [(h0, .inr (8, [.int 0, .ref q1, .ref q2, .ref q3, .ref q4, .ref q5, .int 0, .ref q6, .int 0, .int 0, .int 0, .ref q7, .ref q8, .int 0, .int (-1 : Int32), .ref q9, .null, .null, .int 0, .int 0, .int 0, .int 0, .int 0, .int 0, .int 0, .int 0, .null, .int 0, .int 0, .int 0, .null, .null, .null, .int 0, .null, .null, .null, .int 0, .null, .null, .null, .null, .null, .int 0, .int 0, .int 0, .int 0, .int 0, .int 0, .null, .null, .int 0, .int 0])), (q1, .inl (Γ.2.1 0, 7, .inl (fun _ => 0))), (q2, .inl (Γ.2.1 0, 5654, .inl (fun _ => 0))), (q3, .inl (Γ.2.1 0, 11308, .inl (fun _ => 0))), (q4, .inl (Γ.2.1 2, 2, .inl (fun _ => 0))), (q5, .inl (Γ.2.1 0, 30, .inl (fun _ => 0))), (q6, .inl (Γ.2.1 1, 124, .inl (wd 124))), (q7, .inl (Γ.2.1 1, 400, .inl (fun _ => 0))), (q8, .inl (Γ.2.1 0, 5, .inl (fun _ => 0))), (q9, .inl (Γ.2.1 0, 401, .inl (fun _ => 0)))]) S hw i_Mo t_Mo t_Mo_ok n_Mo hin 0 rfl rfl 15 (by decide) zwf_Mo_54 rfl rfl rfl rfl rfl (by decide) rfl dMo_init_818 (fun H locs hw => ?_)
  refine lv_aload_n S.1 S.2.1 dMo_init_821 rfl (lv_at hl 0 rfl) ?_
  refine lv_sipush (v := (401 : Int32)) S.1 S.2.1 dMo_init_822 (by decide) ?_
  refine sk_newi S hw zwa_0 (by decide) (by decide) (Nat.le_of_ble_eq_true rfl) (Nat.le_of_ble_eq_true rfl) (Nat.le_of_ble_eq_true rfl) dMo_init_825 (fun q10 H hw => ?_)
  have hw : sk_S Γ A Θ ws [(h0, .inr (8, [.int 0, .ref q1, .ref q2, .ref q3, .ref q4, .ref q5, .int 0, .ref q6, .int 0, .int 0, .int 0, .ref q7, .ref q8, .int 0, .int (-1 : Int32), .ref q9, .null, .null, .int 0, .int 0, .int 0, .int 0, .int 0, .int 0, .int 0, .int 0, .null, .int 0, .int 0, .int 0, .null, .null, .null, .int 0, .null, .null, .null, .int 0, .null, .null, .null, .null, .null, .int 0, .int 0, .int 0, .int 0, .int 0, .int 0, .null, .null, .int 0, .int 0])), (q1, .inl (Γ.2.1 0, 7, .inl (fun _ => 0))), (q2, .inl (Γ.2.1 0, 5654, .inl (fun _ => 0))), (q3, .inl (Γ.2.1 0, 11308, .inl (fun _ => 0))), (q4, .inl (Γ.2.1 2, 2, .inl (fun _ => 0))), (q5, .inl (Γ.2.1 0, 30, .inl (fun _ => 0))), (q6, .inl (Γ.2.1 1, 124, .inl (wd 124))), (q7, .inl (Γ.2.1 1, 400, .inl (fun _ => 0))), (q8, .inl (Γ.2.1 0, 5, .inl (fun _ => 0))), (q9, .inl (Γ.2.1 0, 401, .inl (fun _ => 0))), (q10, .inl (Γ.2.1 0, 401, .inl (fun _ => 0)))] s H _ := hw
  refine sk_putF (x' := [(h0, .inr (8, [.int 0, .ref q1, .ref q2, .ref q3, .ref q4, .ref q5, .int 0, .ref q6, .int 0, .int 0, .int 0, .ref q7, .ref q8, .int 0, .int (-1 : Int32), .ref q9, .ref q10, .null, .int 0, .int 0, .int 0, .int 0, .int 0, .int 0, .int 0, .int 0, .null, .int 0, .int 0, .int 0, .null, .null, .null, .int 0, .null, .null, .null, .int 0, .null, .null, .null, .null, .null, .int 0, .int 0, .int 0, .int 0, .int 0, .int 0, .null, .null, .int 0, .int 0])), (q1, .inl (Γ.2.1 0, 7, .inl (fun _ => 0))), (q2, .inl (Γ.2.1 0, 5654, .inl (fun _ => 0))), (q3, .inl (Γ.2.1 0, 11308, .inl (fun _ => 0))), (q4, .inl (Γ.2.1 2, 2, .inl (fun _ => 0))), (q5, .inl (Γ.2.1 0, 30, .inl (fun _ => 0))), (q6, .inl (Γ.2.1 1, 124, .inl (wd 124))), (q7, .inl (Γ.2.1 1, 400, .inl (fun _ => 0))), (q8, .inl (Γ.2.1 0, 5, .inl (fun _ => 0))), (q9, .inl (Γ.2.1 0, 401, .inl (fun _ => 0))), (q10, .inl (Γ.2.1 0, 401, .inl (fun _ => 0)))]) S hw i_Mo t_Mo t_Mo_ok n_Mo hin 0 rfl rfl 16 (by decide) zwf_Mo_57 rfl rfl rfl rfl rfl (by decide) rfl dMo_init_827 (fun H locs hw => ?_)
  refine lv_aload_n S.1 S.2.1 dMo_init_830 rfl (lv_at hl 0 rfl) ?_
  refine lv_sipush (v := (401 : Int32)) S.1 S.2.1 dMo_init_831 (by decide) ?_
  refine sk_newi S hw zwa_0 (by decide) (by decide) (Nat.le_of_ble_eq_true rfl) (Nat.le_of_ble_eq_true rfl) (Nat.le_of_ble_eq_true rfl) dMo_init_834 (fun q11 H hw => ?_)
  have hw : sk_S Γ A Θ ws [(h0, .inr (8, [.int 0, .ref q1, .ref q2, .ref q3, .ref q4, .ref q5, .int 0, .ref q6, .int 0, .int 0, .int 0, .ref q7, .ref q8, .int 0, .int (-1 : Int32), .ref q9, .ref q10, .null, .int 0, .int 0, .int 0, .int 0, .int 0, .int 0, .int 0, .int 0, .null, .int 0, .int 0, .int 0, .null, .null, .null, .int 0, .null, .null, .null, .int 0, .null, .null, .null, .null, .null, .int 0, .int 0, .int 0, .int 0, .int 0, .int 0, .null, .null, .int 0, .int 0])), (q1, .inl (Γ.2.1 0, 7, .inl (fun _ => 0))), (q2, .inl (Γ.2.1 0, 5654, .inl (fun _ => 0))), (q3, .inl (Γ.2.1 0, 11308, .inl (fun _ => 0))), (q4, .inl (Γ.2.1 2, 2, .inl (fun _ => 0))), (q5, .inl (Γ.2.1 0, 30, .inl (fun _ => 0))), (q6, .inl (Γ.2.1 1, 124, .inl (wd 124))), (q7, .inl (Γ.2.1 1, 400, .inl (fun _ => 0))), (q8, .inl (Γ.2.1 0, 5, .inl (fun _ => 0))), (q9, .inl (Γ.2.1 0, 401, .inl (fun _ => 0))), (q10, .inl (Γ.2.1 0, 401, .inl (fun _ => 0))), (q11, .inl (Γ.2.1 0, 401, .inl (fun _ => 0)))] s H _ := hw
  refine sk_putF (x' := [(h0, .inr (8, [.int 0, .ref q1, .ref q2, .ref q3, .ref q4, .ref q5, .int 0, .ref q6, .int 0, .int 0, .int 0, .ref q7, .ref q8, .int 0, .int (-1 : Int32), .ref q9, .ref q10, .ref q11, .int 0, .int 0, .int 0, .int 0, .int 0, .int 0, .int 0, .int 0, .null, .int 0, .int 0, .int 0, .null, .null, .null, .int 0, .null, .null, .null, .int 0, .null, .null, .null, .null, .null, .int 0, .int 0, .int 0, .int 0, .int 0, .int 0, .null, .null, .int 0, .int 0])), (q1, .inl (Γ.2.1 0, 7, .inl (fun _ => 0))), (q2, .inl (Γ.2.1 0, 5654, .inl (fun _ => 0))), (q3, .inl (Γ.2.1 0, 11308, .inl (fun _ => 0))), (q4, .inl (Γ.2.1 2, 2, .inl (fun _ => 0))), (q5, .inl (Γ.2.1 0, 30, .inl (fun _ => 0))), (q6, .inl (Γ.2.1 1, 124, .inl (wd 124))), (q7, .inl (Γ.2.1 1, 400, .inl (fun _ => 0))), (q8, .inl (Γ.2.1 0, 5, .inl (fun _ => 0))), (q9, .inl (Γ.2.1 0, 401, .inl (fun _ => 0))), (q10, .inl (Γ.2.1 0, 401, .inl (fun _ => 0))), (q11, .inl (Γ.2.1 0, 401, .inl (fun _ => 0)))]) S hw i_Mo t_Mo t_Mo_ok n_Mo hin 0 rfl rfl 17 (by decide) zwf_Mo_60 rfl rfl rfl rfl rfl (by decide) rfl dMo_init_836 (fun H locs hw => ?_)
  refine lv_aload_n S.1 S.2.1 dMo_init_839 rfl (lv_at hl 0 rfl) ?_
  refine lv_bipush (v := (8 : Int32)) S.1 S.2.1 dMo_init_840 (by decide) ?_
  refine sk_newi S hw zwa_0 (by decide) (by decide) (Nat.le_of_ble_eq_true rfl) (Nat.le_of_ble_eq_true rfl) (Nat.le_of_ble_eq_true rfl) dMo_init_842 (fun q12 H hw => ?_)
  have hw : sk_S Γ A Θ ws [(h0, .inr (8, [.int 0, .ref q1, .ref q2, .ref q3, .ref q4, .ref q5, .int 0, .ref q6, .int 0, .int 0, .int 0, .ref q7, .ref q8, .int 0, .int (-1 : Int32), .ref q9, .ref q10, .ref q11, .int 0, .int 0, .int 0, .int 0, .int 0, .int 0, .int 0, .int 0, .null, .int 0, .int 0, .int 0, .null, .null, .null, .int 0, .null, .null, .null, .int 0, .null, .null, .null, .null, .null, .int 0, .int 0, .int 0, .int 0, .int 0, .int 0, .null, .null, .int 0, .int 0])), (q1, .inl (Γ.2.1 0, 7, .inl (fun _ => 0))), (q2, .inl (Γ.2.1 0, 5654, .inl (fun _ => 0))), (q3, .inl (Γ.2.1 0, 11308, .inl (fun _ => 0))), (q4, .inl (Γ.2.1 2, 2, .inl (fun _ => 0))), (q5, .inl (Γ.2.1 0, 30, .inl (fun _ => 0))), (q6, .inl (Γ.2.1 1, 124, .inl (wd 124))), (q7, .inl (Γ.2.1 1, 400, .inl (fun _ => 0))), (q8, .inl (Γ.2.1 0, 5, .inl (fun _ => 0))), (q9, .inl (Γ.2.1 0, 401, .inl (fun _ => 0))), (q10, .inl (Γ.2.1 0, 401, .inl (fun _ => 0))), (q11, .inl (Γ.2.1 0, 401, .inl (fun _ => 0))), (q12, .inl (Γ.2.1 0, 8, .inl (fun _ => 0)))] s H _ := hw
  refine sk_putF (x' := [(h0, .inr (8, [.int 0, .ref q1, .ref q2, .ref q3, .ref q4, .ref q5, .int 0, .ref q6, .int 0, .int 0, .int 0, .ref q7, .ref q8, .int 0, .int (-1 : Int32), .ref q9, .ref q10, .ref q11, .int 0, .int 0, .int 0, .int 0, .int 0, .int 0, .int 0, .int 0, .ref q12, .int 0, .int 0, .int 0, .null, .null, .null, .int 0, .null, .null, .null, .int 0, .null, .null, .null, .null, .null, .int 0, .int 0, .int 0, .int 0, .int 0, .int 0, .null, .null, .int 0, .int 0])), (q1, .inl (Γ.2.1 0, 7, .inl (fun _ => 0))), (q2, .inl (Γ.2.1 0, 5654, .inl (fun _ => 0))), (q3, .inl (Γ.2.1 0, 11308, .inl (fun _ => 0))), (q4, .inl (Γ.2.1 2, 2, .inl (fun _ => 0))), (q5, .inl (Γ.2.1 0, 30, .inl (fun _ => 0))), (q6, .inl (Γ.2.1 1, 124, .inl (wd 124))), (q7, .inl (Γ.2.1 1, 400, .inl (fun _ => 0))), (q8, .inl (Γ.2.1 0, 5, .inl (fun _ => 0))), (q9, .inl (Γ.2.1 0, 401, .inl (fun _ => 0))), (q10, .inl (Γ.2.1 0, 401, .inl (fun _ => 0))), (q11, .inl (Γ.2.1 0, 401, .inl (fun _ => 0))), (q12, .inl (Γ.2.1 0, 8, .inl (fun _ => 0)))]) S hw i_Mo t_Mo t_Mo_ok n_Mo hin 0 rfl rfl 26 (by decide) zwf_Mo_63 rfl rfl rfl rfl rfl (by decide) rfl dMo_init_844 (fun H locs hw => ?_)
  refine lv_aload_n S.1 S.2.1 dMo_init_847 rfl (lv_at hl 0 rfl) ?_
  refine lv_bipush (v := (7 : Int32)) S.1 S.2.1 dMo_init_848 (by decide) ?_
  refine sk_newi S hw zwa_0 (by decide) (by decide) (Nat.le_of_ble_eq_true rfl) (Nat.le_of_ble_eq_true rfl) (Nat.le_of_ble_eq_true rfl) dMo_init_850 (fun q13 H hw => ?_)
  have hw : sk_S Γ A Θ ws [(h0, .inr (8, [.int 0, .ref q1, .ref q2, .ref q3, .ref q4, .ref q5, .int 0, .ref q6, .int 0, .int 0, .int 0, .ref q7, .ref q8, .int 0, .int (-1 : Int32), .ref q9, .ref q10, .ref q11, .int 0, .int 0, .int 0, .int 0, .int 0, .int 0, .int 0, .int 0, .ref q12, .int 0, .int 0, .int 0, .null, .null, .null, .int 0, .null, .null, .null, .int 0, .null, .null, .null, .null, .null, .int 0, .int 0, .int 0, .int 0, .int 0, .int 0, .null, .null, .int 0, .int 0])), (q1, .inl (Γ.2.1 0, 7, .inl (fun _ => 0))), (q2, .inl (Γ.2.1 0, 5654, .inl (fun _ => 0))), (q3, .inl (Γ.2.1 0, 11308, .inl (fun _ => 0))), (q4, .inl (Γ.2.1 2, 2, .inl (fun _ => 0))), (q5, .inl (Γ.2.1 0, 30, .inl (fun _ => 0))), (q6, .inl (Γ.2.1 1, 124, .inl (wd 124))), (q7, .inl (Γ.2.1 1, 400, .inl (fun _ => 0))), (q8, .inl (Γ.2.1 0, 5, .inl (fun _ => 0))), (q9, .inl (Γ.2.1 0, 401, .inl (fun _ => 0))), (q10, .inl (Γ.2.1 0, 401, .inl (fun _ => 0))), (q11, .inl (Γ.2.1 0, 401, .inl (fun _ => 0))), (q12, .inl (Γ.2.1 0, 8, .inl (fun _ => 0))), (q13, .inl (Γ.2.1 0, 7, .inl (fun _ => 0)))] s H _ := hw
  refine sk_putF (x' := [(h0, .inr (8, [.int 0, .ref q1, .ref q2, .ref q3, .ref q4, .ref q5, .int 0, .ref q6, .int 0, .int 0, .int 0, .ref q7, .ref q8, .int 0, .int (-1 : Int32), .ref q9, .ref q10, .ref q11, .int 0, .int 0, .int 0, .int 0, .int 0, .int 0, .int 0, .int 0, .ref q12, .int 0, .int 0, .int 0, .ref q13, .null, .null, .int 0, .null, .null, .null, .int 0, .null, .null, .null, .null, .null, .int 0, .int 0, .int 0, .int 0, .int 0, .int 0, .null, .null, .int 0, .int 0])), (q1, .inl (Γ.2.1 0, 7, .inl (fun _ => 0))), (q2, .inl (Γ.2.1 0, 5654, .inl (fun _ => 0))), (q3, .inl (Γ.2.1 0, 11308, .inl (fun _ => 0))), (q4, .inl (Γ.2.1 2, 2, .inl (fun _ => 0))), (q5, .inl (Γ.2.1 0, 30, .inl (fun _ => 0))), (q6, .inl (Γ.2.1 1, 124, .inl (wd 124))), (q7, .inl (Γ.2.1 1, 400, .inl (fun _ => 0))), (q8, .inl (Γ.2.1 0, 5, .inl (fun _ => 0))), (q9, .inl (Γ.2.1 0, 401, .inl (fun _ => 0))), (q10, .inl (Γ.2.1 0, 401, .inl (fun _ => 0))), (q11, .inl (Γ.2.1 0, 401, .inl (fun _ => 0))), (q12, .inl (Γ.2.1 0, 8, .inl (fun _ => 0))), (q13, .inl (Γ.2.1 0, 7, .inl (fun _ => 0)))]) S hw i_Mo t_Mo t_Mo_ok n_Mo hin 0 rfl rfl 30 (by decide) zwf_Mo_66 rfl rfl rfl rfl rfl (by decide) rfl dMo_init_852 (fun H locs hw => ?_)
  refine lv_aload_n S.1 S.2.1 dMo_init_855 rfl (lv_at hl 0 rfl) ?_
  refine lv_sipush (v := (256 : Int32)) S.1 S.2.1 dMo_init_856 (by decide) ?_
  refine sk_newi S hw zwa_0 (by decide) (by decide) (Nat.le_of_ble_eq_true rfl) (Nat.le_of_ble_eq_true rfl) (Nat.le_of_ble_eq_true rfl) dMo_init_859 (fun q14 H hw => ?_)
  have hw : sk_S Γ A Θ ws [(h0, .inr (8, [.int 0, .ref q1, .ref q2, .ref q3, .ref q4, .ref q5, .int 0, .ref q6, .int 0, .int 0, .int 0, .ref q7, .ref q8, .int 0, .int (-1 : Int32), .ref q9, .ref q10, .ref q11, .int 0, .int 0, .int 0, .int 0, .int 0, .int 0, .int 0, .int 0, .ref q12, .int 0, .int 0, .int 0, .ref q13, .null, .null, .int 0, .null, .null, .null, .int 0, .null, .null, .null, .null, .null, .int 0, .int 0, .int 0, .int 0, .int 0, .int 0, .null, .null, .int 0, .int 0])), (q1, .inl (Γ.2.1 0, 7, .inl (fun _ => 0))), (q2, .inl (Γ.2.1 0, 5654, .inl (fun _ => 0))), (q3, .inl (Γ.2.1 0, 11308, .inl (fun _ => 0))), (q4, .inl (Γ.2.1 2, 2, .inl (fun _ => 0))), (q5, .inl (Γ.2.1 0, 30, .inl (fun _ => 0))), (q6, .inl (Γ.2.1 1, 124, .inl (wd 124))), (q7, .inl (Γ.2.1 1, 400, .inl (fun _ => 0))), (q8, .inl (Γ.2.1 0, 5, .inl (fun _ => 0))), (q9, .inl (Γ.2.1 0, 401, .inl (fun _ => 0))), (q10, .inl (Γ.2.1 0, 401, .inl (fun _ => 0))), (q11, .inl (Γ.2.1 0, 401, .inl (fun _ => 0))), (q12, .inl (Γ.2.1 0, 8, .inl (fun _ => 0))), (q13, .inl (Γ.2.1 0, 7, .inl (fun _ => 0))), (q14, .inl (Γ.2.1 0, 256, .inl (fun _ => 0)))] s H _ := hw
  refine sk_putF (x' := [(h0, .inr (8, [.int 0, .ref q1, .ref q2, .ref q3, .ref q4, .ref q5, .int 0, .ref q6, .int 0, .int 0, .int 0, .ref q7, .ref q8, .int 0, .int (-1 : Int32), .ref q9, .ref q10, .ref q11, .int 0, .int 0, .int 0, .int 0, .int 0, .int 0, .int 0, .int 0, .ref q12, .int 0, .int 0, .int 0, .ref q13, .ref q14, .null, .int 0, .null, .null, .null, .int 0, .null, .null, .null, .null, .null, .int 0, .int 0, .int 0, .int 0, .int 0, .int 0, .null, .null, .int 0, .int 0])), (q1, .inl (Γ.2.1 0, 7, .inl (fun _ => 0))), (q2, .inl (Γ.2.1 0, 5654, .inl (fun _ => 0))), (q3, .inl (Γ.2.1 0, 11308, .inl (fun _ => 0))), (q4, .inl (Γ.2.1 2, 2, .inl (fun _ => 0))), (q5, .inl (Γ.2.1 0, 30, .inl (fun _ => 0))), (q6, .inl (Γ.2.1 1, 124, .inl (wd 124))), (q7, .inl (Γ.2.1 1, 400, .inl (fun _ => 0))), (q8, .inl (Γ.2.1 0, 5, .inl (fun _ => 0))), (q9, .inl (Γ.2.1 0, 401, .inl (fun _ => 0))), (q10, .inl (Γ.2.1 0, 401, .inl (fun _ => 0))), (q11, .inl (Γ.2.1 0, 401, .inl (fun _ => 0))), (q12, .inl (Γ.2.1 0, 8, .inl (fun _ => 0))), (q13, .inl (Γ.2.1 0, 7, .inl (fun _ => 0))), (q14, .inl (Γ.2.1 0, 256, .inl (fun _ => 0)))]) S hw i_Mo t_Mo t_Mo_ok n_Mo hin 0 rfl rfl 31 (by decide) zwf_Mo_69 rfl rfl rfl rfl rfl (by decide) rfl dMo_init_861 (fun H locs hw => ?_)
  refine lv_aload_n S.1 S.2.1 dMo_init_864 rfl (lv_at hl 0 rfl) ?_
  refine lv_sipush (v := (256 : Int32)) S.1 S.2.1 dMo_init_865 (by decide) ?_
  refine sk_newi S hw zwa_0 (by decide) (by decide) (Nat.le_of_ble_eq_true rfl) (Nat.le_of_ble_eq_true rfl) (Nat.le_of_ble_eq_true rfl) dMo_init_868 (fun q15 H hw => ?_)
  have hw : sk_S Γ A Θ ws [(h0, .inr (8, [.int 0, .ref q1, .ref q2, .ref q3, .ref q4, .ref q5, .int 0, .ref q6, .int 0, .int 0, .int 0, .ref q7, .ref q8, .int 0, .int (-1 : Int32), .ref q9, .ref q10, .ref q11, .int 0, .int 0, .int 0, .int 0, .int 0, .int 0, .int 0, .int 0, .ref q12, .int 0, .int 0, .int 0, .ref q13, .ref q14, .null, .int 0, .null, .null, .null, .int 0, .null, .null, .null, .null, .null, .int 0, .int 0, .int 0, .int 0, .int 0, .int 0, .null, .null, .int 0, .int 0])), (q1, .inl (Γ.2.1 0, 7, .inl (fun _ => 0))), (q2, .inl (Γ.2.1 0, 5654, .inl (fun _ => 0))), (q3, .inl (Γ.2.1 0, 11308, .inl (fun _ => 0))), (q4, .inl (Γ.2.1 2, 2, .inl (fun _ => 0))), (q5, .inl (Γ.2.1 0, 30, .inl (fun _ => 0))), (q6, .inl (Γ.2.1 1, 124, .inl (wd 124))), (q7, .inl (Γ.2.1 1, 400, .inl (fun _ => 0))), (q8, .inl (Γ.2.1 0, 5, .inl (fun _ => 0))), (q9, .inl (Γ.2.1 0, 401, .inl (fun _ => 0))), (q10, .inl (Γ.2.1 0, 401, .inl (fun _ => 0))), (q11, .inl (Γ.2.1 0, 401, .inl (fun _ => 0))), (q12, .inl (Γ.2.1 0, 8, .inl (fun _ => 0))), (q13, .inl (Γ.2.1 0, 7, .inl (fun _ => 0))), (q14, .inl (Γ.2.1 0, 256, .inl (fun _ => 0))), (q15, .inl (Γ.2.1 0, 256, .inl (fun _ => 0)))] s H _ := hw
  refine sk_putF (x' := [(h0, .inr (8, [.int 0, .ref q1, .ref q2, .ref q3, .ref q4, .ref q5, .int 0, .ref q6, .int 0, .int 0, .int 0, .ref q7, .ref q8, .int 0, .int (-1 : Int32), .ref q9, .ref q10, .ref q11, .int 0, .int 0, .int 0, .int 0, .int 0, .int 0, .int 0, .int 0, .ref q12, .int 0, .int 0, .int 0, .ref q13, .ref q14, .ref q15, .int 0, .null, .null, .null, .int 0, .null, .null, .null, .null, .null, .int 0, .int 0, .int 0, .int 0, .int 0, .int 0, .null, .null, .int 0, .int 0])), (q1, .inl (Γ.2.1 0, 7, .inl (fun _ => 0))), (q2, .inl (Γ.2.1 0, 5654, .inl (fun _ => 0))), (q3, .inl (Γ.2.1 0, 11308, .inl (fun _ => 0))), (q4, .inl (Γ.2.1 2, 2, .inl (fun _ => 0))), (q5, .inl (Γ.2.1 0, 30, .inl (fun _ => 0))), (q6, .inl (Γ.2.1 1, 124, .inl (wd 124))), (q7, .inl (Γ.2.1 1, 400, .inl (fun _ => 0))), (q8, .inl (Γ.2.1 0, 5, .inl (fun _ => 0))), (q9, .inl (Γ.2.1 0, 401, .inl (fun _ => 0))), (q10, .inl (Γ.2.1 0, 401, .inl (fun _ => 0))), (q11, .inl (Γ.2.1 0, 401, .inl (fun _ => 0))), (q12, .inl (Γ.2.1 0, 8, .inl (fun _ => 0))), (q13, .inl (Γ.2.1 0, 7, .inl (fun _ => 0))), (q14, .inl (Γ.2.1 0, 256, .inl (fun _ => 0))), (q15, .inl (Γ.2.1 0, 256, .inl (fun _ => 0)))]) S hw i_Mo t_Mo t_Mo_ok n_Mo hin 0 rfl rfl 32 (by decide) zwf_Mo_72 rfl rfl rfl rfl rfl (by decide) rfl dMo_init_870 (fun H locs hw => ?_)
  refine lv_aload_n S.1 S.2.1 dMo_init_873 rfl (lv_at hl 0 rfl) ?_
  refine lv_bipush (v := (49 : Int32)) S.1 S.2.1 dMo_init_874 (by decide) ?_
  refine sk_newi S hw zwa_0 (by decide) (by decide) (Nat.le_of_ble_eq_true rfl) (Nat.le_of_ble_eq_true rfl) (Nat.le_of_ble_eq_true rfl) dMo_init_876 (fun q16 H hw => ?_)
  have hw : sk_S Γ A Θ ws [(h0, .inr (8, [.int 0, .ref q1, .ref q2, .ref q3, .ref q4, .ref q5, .int 0, .ref q6, .int 0, .int 0, .int 0, .ref q7, .ref q8, .int 0, .int (-1 : Int32), .ref q9, .ref q10, .ref q11, .int 0, .int 0, .int 0, .int 0, .int 0, .int 0, .int 0, .int 0, .ref q12, .int 0, .int 0, .int 0, .ref q13, .ref q14, .ref q15, .int 0, .null, .null, .null, .int 0, .null, .null, .null, .null, .null, .int 0, .int 0, .int 0, .int 0, .int 0, .int 0, .null, .null, .int 0, .int 0])), (q1, .inl (Γ.2.1 0, 7, .inl (fun _ => 0))), (q2, .inl (Γ.2.1 0, 5654, .inl (fun _ => 0))), (q3, .inl (Γ.2.1 0, 11308, .inl (fun _ => 0))), (q4, .inl (Γ.2.1 2, 2, .inl (fun _ => 0))), (q5, .inl (Γ.2.1 0, 30, .inl (fun _ => 0))), (q6, .inl (Γ.2.1 1, 124, .inl (wd 124))), (q7, .inl (Γ.2.1 1, 400, .inl (fun _ => 0))), (q8, .inl (Γ.2.1 0, 5, .inl (fun _ => 0))), (q9, .inl (Γ.2.1 0, 401, .inl (fun _ => 0))), (q10, .inl (Γ.2.1 0, 401, .inl (fun _ => 0))), (q11, .inl (Γ.2.1 0, 401, .inl (fun _ => 0))), (q12, .inl (Γ.2.1 0, 8, .inl (fun _ => 0))), (q13, .inl (Γ.2.1 0, 7, .inl (fun _ => 0))), (q14, .inl (Γ.2.1 0, 256, .inl (fun _ => 0))), (q15, .inl (Γ.2.1 0, 256, .inl (fun _ => 0))), (q16, .inl (Γ.2.1 0, 49, .inl (fun _ => 0)))] s H _ := hw
  refine sk_putF (x' := [(h0, .inr (8, [.int 0, .ref q1, .ref q2, .ref q3, .ref q4, .ref q5, .int 0, .ref q6, .int 0, .int 0, .int 0, .ref q7, .ref q8, .int 0, .int (-1 : Int32), .ref q9, .ref q10, .ref q11, .int 0, .int 0, .int 0, .int 0, .int 0, .int 0, .int 0, .int 0, .ref q12, .int 0, .int 0, .int 0, .ref q13, .ref q14, .ref q15, .int 0, .ref q16, .null, .null, .int 0, .null, .null, .null, .null, .null, .int 0, .int 0, .int 0, .int 0, .int 0, .int 0, .null, .null, .int 0, .int 0])), (q1, .inl (Γ.2.1 0, 7, .inl (fun _ => 0))), (q2, .inl (Γ.2.1 0, 5654, .inl (fun _ => 0))), (q3, .inl (Γ.2.1 0, 11308, .inl (fun _ => 0))), (q4, .inl (Γ.2.1 2, 2, .inl (fun _ => 0))), (q5, .inl (Γ.2.1 0, 30, .inl (fun _ => 0))), (q6, .inl (Γ.2.1 1, 124, .inl (wd 124))), (q7, .inl (Γ.2.1 1, 400, .inl (fun _ => 0))), (q8, .inl (Γ.2.1 0, 5, .inl (fun _ => 0))), (q9, .inl (Γ.2.1 0, 401, .inl (fun _ => 0))), (q10, .inl (Γ.2.1 0, 401, .inl (fun _ => 0))), (q11, .inl (Γ.2.1 0, 401, .inl (fun _ => 0))), (q12, .inl (Γ.2.1 0, 8, .inl (fun _ => 0))), (q13, .inl (Γ.2.1 0, 7, .inl (fun _ => 0))), (q14, .inl (Γ.2.1 0, 256, .inl (fun _ => 0))), (q15, .inl (Γ.2.1 0, 256, .inl (fun _ => 0))), (q16, .inl (Γ.2.1 0, 49, .inl (fun _ => 0)))]) S hw i_Mo t_Mo t_Mo_ok n_Mo hin 0 rfl rfl 34 (by decide) zwf_Mo_75 rfl rfl rfl rfl rfl (by decide) rfl dMo_init_878 (fun H locs hw => ?_)
  refine lv_aload_n S.1 S.2.1 dMo_init_881 rfl (lv_at hl 0 rfl) ?_
  refine lv_bipush (v := (49 : Int32)) S.1 S.2.1 dMo_init_882 (by decide) ?_
  refine sk_newz S hw zwa_2 (by decide) (by decide) (Nat.le_of_ble_eq_true rfl) (Nat.le_of_ble_eq_true rfl) (Nat.le_of_ble_eq_true rfl) dMo_init_884 (fun q17 H hw => ?_)
  have hw : sk_S Γ A Θ ws [(h0, .inr (8, [.int 0, .ref q1, .ref q2, .ref q3, .ref q4, .ref q5, .int 0, .ref q6, .int 0, .int 0, .int 0, .ref q7, .ref q8, .int 0, .int (-1 : Int32), .ref q9, .ref q10, .ref q11, .int 0, .int 0, .int 0, .int 0, .int 0, .int 0, .int 0, .int 0, .ref q12, .int 0, .int 0, .int 0, .ref q13, .ref q14, .ref q15, .int 0, .ref q16, .null, .null, .int 0, .null, .null, .null, .null, .null, .int 0, .int 0, .int 0, .int 0, .int 0, .int 0, .null, .null, .int 0, .int 0])), (q1, .inl (Γ.2.1 0, 7, .inl (fun _ => 0))), (q2, .inl (Γ.2.1 0, 5654, .inl (fun _ => 0))), (q3, .inl (Γ.2.1 0, 11308, .inl (fun _ => 0))), (q4, .inl (Γ.2.1 2, 2, .inl (fun _ => 0))), (q5, .inl (Γ.2.1 0, 30, .inl (fun _ => 0))), (q6, .inl (Γ.2.1 1, 124, .inl (wd 124))), (q7, .inl (Γ.2.1 1, 400, .inl (fun _ => 0))), (q8, .inl (Γ.2.1 0, 5, .inl (fun _ => 0))), (q9, .inl (Γ.2.1 0, 401, .inl (fun _ => 0))), (q10, .inl (Γ.2.1 0, 401, .inl (fun _ => 0))), (q11, .inl (Γ.2.1 0, 401, .inl (fun _ => 0))), (q12, .inl (Γ.2.1 0, 8, .inl (fun _ => 0))), (q13, .inl (Γ.2.1 0, 7, .inl (fun _ => 0))), (q14, .inl (Γ.2.1 0, 256, .inl (fun _ => 0))), (q15, .inl (Γ.2.1 0, 256, .inl (fun _ => 0))), (q16, .inl (Γ.2.1 0, 49, .inl (fun _ => 0))), (q17, .inl (Γ.2.1 2, 49, .inl (fun _ => 0)))] s H _ := hw
  refine sk_putF (x' := [(h0, .inr (8, [.int 0, .ref q1, .ref q2, .ref q3, .ref q4, .ref q5, .int 0, .ref q6, .int 0, .int 0, .int 0, .ref q7, .ref q8, .int 0, .int (-1 : Int32), .ref q9, .ref q10, .ref q11, .int 0, .int 0, .int 0, .int 0, .int 0, .int 0, .int 0, .int 0, .ref q12, .int 0, .int 0, .int 0, .ref q13, .ref q14, .ref q15, .int 0, .ref q16, .ref q17, .null, .int 0, .null, .null, .null, .null, .null, .int 0, .int 0, .int 0, .int 0, .int 0, .int 0, .null, .null, .int 0, .int 0])), (q1, .inl (Γ.2.1 0, 7, .inl (fun _ => 0))), (q2, .inl (Γ.2.1 0, 5654, .inl (fun _ => 0))), (q3, .inl (Γ.2.1 0, 11308, .inl (fun _ => 0))), (q4, .inl (Γ.2.1 2, 2, .inl (fun _ => 0))), (q5, .inl (Γ.2.1 0, 30, .inl (fun _ => 0))), (q6, .inl (Γ.2.1 1, 124, .inl (wd 124))), (q7, .inl (Γ.2.1 1, 400, .inl (fun _ => 0))), (q8, .inl (Γ.2.1 0, 5, .inl (fun _ => 0))), (q9, .inl (Γ.2.1 0, 401, .inl (fun _ => 0))), (q10, .inl (Γ.2.1 0, 401, .inl (fun _ => 0))), (q11, .inl (Γ.2.1 0, 401, .inl (fun _ => 0))), (q12, .inl (Γ.2.1 0, 8, .inl (fun _ => 0))), (q13, .inl (Γ.2.1 0, 7, .inl (fun _ => 0))), (q14, .inl (Γ.2.1 0, 256, .inl (fun _ => 0))), (q15, .inl (Γ.2.1 0, 256, .inl (fun _ => 0))), (q16, .inl (Γ.2.1 0, 49, .inl (fun _ => 0))), (q17, .inl (Γ.2.1 2, 49, .inl (fun _ => 0)))]) S hw i_Mo t_Mo t_Mo_ok n_Mo hin 0 rfl rfl 35 (by decide) zwf_Mo_78 rfl rfl rfl rfl rfl (by decide) rfl dMo_init_886 (fun H locs hw => ?_)
  refine lv_aload_n S.1 S.2.1 dMo_init_889 rfl (lv_at hl 0 rfl) ?_
  refine lv_ldc S.1 S.2.1 S.2.2.2.1 (sw_word S zwc_Mo_81c) dMo_init_890 ?_
  refine sk_newi S hw zwa_0 (by decide) (by decide) (Nat.le_of_ble_eq_true rfl) (Nat.le_of_ble_eq_true rfl) (Nat.le_of_ble_eq_true rfl) dMo_init_892 (fun q18 H hw => ?_)
  have hw : sk_S Γ A Θ ws [(h0, .inr (8, [.int 0, .ref q1, .ref q2, .ref q3, .ref q4, .ref q5, .int 0, .ref q6, .int 0, .int 0, .int 0, .ref q7, .ref q8, .int 0, .int (-1 : Int32), .ref q9, .ref q10, .ref q11, .int 0, .int 0, .int 0, .int 0, .int 0, .int 0, .int 0, .int 0, .ref q12, .int 0, .int 0, .int 0, .ref q13, .ref q14, .ref q15, .int 0, .ref q16, .ref q17, .null, .int 0, .null, .null, .null, .null, .null, .int 0, .int 0, .int 0, .int 0, .int 0, .int 0, .null, .null, .int 0, .int 0])), (q1, .inl (Γ.2.1 0, 7, .inl (fun _ => 0))), (q2, .inl (Γ.2.1 0, 5654, .inl (fun _ => 0))), (q3, .inl (Γ.2.1 0, 11308, .inl (fun _ => 0))), (q4, .inl (Γ.2.1 2, 2, .inl (fun _ => 0))), (q5, .inl (Γ.2.1 0, 30, .inl (fun _ => 0))), (q6, .inl (Γ.2.1 1, 124, .inl (wd 124))), (q7, .inl (Γ.2.1 1, 400, .inl (fun _ => 0))), (q8, .inl (Γ.2.1 0, 5, .inl (fun _ => 0))), (q9, .inl (Γ.2.1 0, 401, .inl (fun _ => 0))), (q10, .inl (Γ.2.1 0, 401, .inl (fun _ => 0))), (q11, .inl (Γ.2.1 0, 401, .inl (fun _ => 0))), (q12, .inl (Γ.2.1 0, 8, .inl (fun _ => 0))), (q13, .inl (Γ.2.1 0, 7, .inl (fun _ => 0))), (q14, .inl (Γ.2.1 0, 256, .inl (fun _ => 0))), (q15, .inl (Γ.2.1 0, 256, .inl (fun _ => 0))), (q16, .inl (Γ.2.1 0, 49, .inl (fun _ => 0))), (q17, .inl (Γ.2.1 2, 49, .inl (fun _ => 0))), (q18, .inl (Γ.2.1 0, 33608, .inl (fun _ => 0)))] s H _ := hw
  refine sk_putF (x' := [(h0, .inr (8, [.int 0, .ref q1, .ref q2, .ref q3, .ref q4, .ref q5, .int 0, .ref q6, .int 0, .int 0, .int 0, .ref q7, .ref q8, .int 0, .int (-1 : Int32), .ref q9, .ref q10, .ref q11, .int 0, .int 0, .int 0, .int 0, .int 0, .int 0, .int 0, .int 0, .ref q12, .int 0, .int 0, .int 0, .ref q13, .ref q14, .ref q15, .int 0, .ref q16, .ref q17, .ref q18, .int 0, .null, .null, .null, .null, .null, .int 0, .int 0, .int 0, .int 0, .int 0, .int 0, .null, .null, .int 0, .int 0])), (q1, .inl (Γ.2.1 0, 7, .inl (fun _ => 0))), (q2, .inl (Γ.2.1 0, 5654, .inl (fun _ => 0))), (q3, .inl (Γ.2.1 0, 11308, .inl (fun _ => 0))), (q4, .inl (Γ.2.1 2, 2, .inl (fun _ => 0))), (q5, .inl (Γ.2.1 0, 30, .inl (fun _ => 0))), (q6, .inl (Γ.2.1 1, 124, .inl (wd 124))), (q7, .inl (Γ.2.1 1, 400, .inl (fun _ => 0))), (q8, .inl (Γ.2.1 0, 5, .inl (fun _ => 0))), (q9, .inl (Γ.2.1 0, 401, .inl (fun _ => 0))), (q10, .inl (Γ.2.1 0, 401, .inl (fun _ => 0))), (q11, .inl (Γ.2.1 0, 401, .inl (fun _ => 0))), (q12, .inl (Γ.2.1 0, 8, .inl (fun _ => 0))), (q13, .inl (Γ.2.1 0, 7, .inl (fun _ => 0))), (q14, .inl (Γ.2.1 0, 256, .inl (fun _ => 0))), (q15, .inl (Γ.2.1 0, 256, .inl (fun _ => 0))), (q16, .inl (Γ.2.1 0, 49, .inl (fun _ => 0))), (q17, .inl (Γ.2.1 2, 49, .inl (fun _ => 0))), (q18, .inl (Γ.2.1 0, 33608, .inl (fun _ => 0)))]) S hw i_Mo t_Mo t_Mo_ok n_Mo hin 0 rfl rfl 36 (by decide) zwf_Mo_82 rfl rfl rfl rfl rfl (by decide) rfl dMo_init_894 (fun H locs hw => ?_)
  refine lv_aload_n S.1 S.2.1 dMo_init_897 rfl (lv_at hl 0 rfl) ?_
  refine lv_sipush (v := (128 : Int32)) S.1 S.2.1 dMo_init_898 (by decide) ?_
  refine sk_newi S hw zwa_0 (by decide) (by decide) (Nat.le_of_ble_eq_true rfl) (Nat.le_of_ble_eq_true rfl) (Nat.le_of_ble_eq_true rfl) dMo_init_901 (fun q19 H hw => ?_)
  have hw : sk_S Γ A Θ ws [(h0, .inr (8, [.int 0, .ref q1, .ref q2, .ref q3, .ref q4, .ref q5, .int 0, .ref q6, .int 0, .int 0, .int 0, .ref q7, .ref q8, .int 0, .int (-1 : Int32), .ref q9, .ref q10, .ref q11, .int 0, .int 0, .int 0, .int 0, .int 0, .int 0, .int 0, .int 0, .ref q12, .int 0, .int 0, .int 0, .ref q13, .ref q14, .ref q15, .int 0, .ref q16, .ref q17, .ref q18, .int 0, .null, .null, .null, .null, .null, .int 0, .int 0, .int 0, .int 0, .int 0, .int 0, .null, .null, .int 0, .int 0])), (q1, .inl (Γ.2.1 0, 7, .inl (fun _ => 0))), (q2, .inl (Γ.2.1 0, 5654, .inl (fun _ => 0))), (q3, .inl (Γ.2.1 0, 11308, .inl (fun _ => 0))), (q4, .inl (Γ.2.1 2, 2, .inl (fun _ => 0))), (q5, .inl (Γ.2.1 0, 30, .inl (fun _ => 0))), (q6, .inl (Γ.2.1 1, 124, .inl (wd 124))), (q7, .inl (Γ.2.1 1, 400, .inl (fun _ => 0))), (q8, .inl (Γ.2.1 0, 5, .inl (fun _ => 0))), (q9, .inl (Γ.2.1 0, 401, .inl (fun _ => 0))), (q10, .inl (Γ.2.1 0, 401, .inl (fun _ => 0))), (q11, .inl (Γ.2.1 0, 401, .inl (fun _ => 0))), (q12, .inl (Γ.2.1 0, 8, .inl (fun _ => 0))), (q13, .inl (Γ.2.1 0, 7, .inl (fun _ => 0))), (q14, .inl (Γ.2.1 0, 256, .inl (fun _ => 0))), (q15, .inl (Γ.2.1 0, 256, .inl (fun _ => 0))), (q16, .inl (Γ.2.1 0, 49, .inl (fun _ => 0))), (q17, .inl (Γ.2.1 2, 49, .inl (fun _ => 0))), (q18, .inl (Γ.2.1 0, 33608, .inl (fun _ => 0))), (q19, .inl (Γ.2.1 0, 128, .inl (fun _ => 0)))] s H _ := hw
  refine sk_putF (x' := [(h0, .inr (8, [.int 0, .ref q1, .ref q2, .ref q3, .ref q4, .ref q5, .int 0, .ref q6, .int 0, .int 0, .int 0, .ref q7, .ref q8, .int 0, .int (-1 : Int32), .ref q9, .ref q10, .ref q11, .int 0, .int 0, .int 0, .int 0, .int 0, .int 0, .int 0, .int 0, .ref q12, .int 0, .int 0, .int 0, .ref q13, .ref q14, .ref q15, .int 0, .ref q16, .ref q17, .ref q18, .int 0, .ref q19, .null, .null, .null, .null, .int 0, .int 0, .int 0, .int 0, .int 0, .int 0, .null, .null, .int 0, .int 0])), (q1, .inl (Γ.2.1 0, 7, .inl (fun _ => 0))), (q2, .inl (Γ.2.1 0, 5654, .inl (fun _ => 0))), (q3, .inl (Γ.2.1 0, 11308, .inl (fun _ => 0))), (q4, .inl (Γ.2.1 2, 2, .inl (fun _ => 0))), (q5, .inl (Γ.2.1 0, 30, .inl (fun _ => 0))), (q6, .inl (Γ.2.1 1, 124, .inl (wd 124))), (q7, .inl (Γ.2.1 1, 400, .inl (fun _ => 0))), (q8, .inl (Γ.2.1 0, 5, .inl (fun _ => 0))), (q9, .inl (Γ.2.1 0, 401, .inl (fun _ => 0))), (q10, .inl (Γ.2.1 0, 401, .inl (fun _ => 0))), (q11, .inl (Γ.2.1 0, 401, .inl (fun _ => 0))), (q12, .inl (Γ.2.1 0, 8, .inl (fun _ => 0))), (q13, .inl (Γ.2.1 0, 7, .inl (fun _ => 0))), (q14, .inl (Γ.2.1 0, 256, .inl (fun _ => 0))), (q15, .inl (Γ.2.1 0, 256, .inl (fun _ => 0))), (q16, .inl (Γ.2.1 0, 49, .inl (fun _ => 0))), (q17, .inl (Γ.2.1 2, 49, .inl (fun _ => 0))), (q18, .inl (Γ.2.1 0, 33608, .inl (fun _ => 0))), (q19, .inl (Γ.2.1 0, 128, .inl (fun _ => 0)))]) S hw i_Mo t_Mo t_Mo_ok n_Mo hin 0 rfl rfl 38 (by decide) zwf_Mo_85 rfl rfl rfl rfl rfl (by decide) rfl dMo_init_903 (fun H locs hw => ?_)
  refine lv_aload_n S.1 S.2.1 dMo_init_906 rfl (lv_at hl 0 rfl) ?_
  refine lv_sipush (v := (128 : Int32)) S.1 S.2.1 dMo_init_907 (by decide) ?_
  refine sk_newi S hw zwa_0 (by decide) (by decide) (Nat.le_of_ble_eq_true rfl) (Nat.le_of_ble_eq_true rfl) (Nat.le_of_ble_eq_true rfl) dMo_init_910 (fun q20 H hw => ?_)
  have hw : sk_S Γ A Θ ws [(h0, .inr (8, [.int 0, .ref q1, .ref q2, .ref q3, .ref q4, .ref q5, .int 0, .ref q6, .int 0, .int 0, .int 0, .ref q7, .ref q8, .int 0, .int (-1 : Int32), .ref q9, .ref q10, .ref q11, .int 0, .int 0, .int 0, .int 0, .int 0, .int 0, .int 0, .int 0, .ref q12, .int 0, .int 0, .int 0, .ref q13, .ref q14, .ref q15, .int 0, .ref q16, .ref q17, .ref q18, .int 0, .ref q19, .null, .null, .null, .null, .int 0, .int 0, .int 0, .int 0, .int 0, .int 0, .null, .null, .int 0, .int 0])), (q1, .inl (Γ.2.1 0, 7, .inl (fun _ => 0))), (q2, .inl (Γ.2.1 0, 5654, .inl (fun _ => 0))), (q3, .inl (Γ.2.1 0, 11308, .inl (fun _ => 0))), (q4, .inl (Γ.2.1 2, 2, .inl (fun _ => 0))), (q5, .inl (Γ.2.1 0, 30, .inl (fun _ => 0))), (q6, .inl (Γ.2.1 1, 124, .inl (wd 124))), (q7, .inl (Γ.2.1 1, 400, .inl (fun _ => 0))), (q8, .inl (Γ.2.1 0, 5, .inl (fun _ => 0))), (q9, .inl (Γ.2.1 0, 401, .inl (fun _ => 0))), (q10, .inl (Γ.2.1 0, 401, .inl (fun _ => 0))), (q11, .inl (Γ.2.1 0, 401, .inl (fun _ => 0))), (q12, .inl (Γ.2.1 0, 8, .inl (fun _ => 0))), (q13, .inl (Γ.2.1 0, 7, .inl (fun _ => 0))), (q14, .inl (Γ.2.1 0, 256, .inl (fun _ => 0))), (q15, .inl (Γ.2.1 0, 256, .inl (fun _ => 0))), (q16, .inl (Γ.2.1 0, 49, .inl (fun _ => 0))), (q17, .inl (Γ.2.1 2, 49, .inl (fun _ => 0))), (q18, .inl (Γ.2.1 0, 33608, .inl (fun _ => 0))), (q19, .inl (Γ.2.1 0, 128, .inl (fun _ => 0))), (q20, .inl (Γ.2.1 0, 128, .inl (fun _ => 0)))] s H _ := hw
  refine sk_putF (x' := [(h0, .inr (8, [.int 0, .ref q1, .ref q2, .ref q3, .ref q4, .ref q5, .int 0, .ref q6, .int 0, .int 0, .int 0, .ref q7, .ref q8, .int 0, .int (-1 : Int32), .ref q9, .ref q10, .ref q11, .int 0, .int 0, .int 0, .int 0, .int 0, .int 0, .int 0, .int 0, .ref q12, .int 0, .int 0, .int 0, .ref q13, .ref q14, .ref q15, .int 0, .ref q16, .ref q17, .ref q18, .int 0, .ref q19, .ref q20, .null, .null, .null, .int 0, .int 0, .int 0, .int 0, .int 0, .int 0, .null, .null, .int 0, .int 0])), (q1, .inl (Γ.2.1 0, 7, .inl (fun _ => 0))), (q2, .inl (Γ.2.1 0, 5654, .inl (fun _ => 0))), (q3, .inl (Γ.2.1 0, 11308, .inl (fun _ => 0))), (q4, .inl (Γ.2.1 2, 2, .inl (fun _ => 0))), (q5, .inl (Γ.2.1 0, 30, .inl (fun _ => 0))), (q6, .inl (Γ.2.1 1, 124, .inl (wd 124))), (q7, .inl (Γ.2.1 1, 400, .inl (fun _ => 0))), (q8, .inl (Γ.2.1 0, 5, .inl (fun _ => 0))), (q9, .inl (Γ.2.1 0, 401, .inl (fun _ => 0))), (q10, .inl (Γ.2.1 0, 401, .inl (fun _ => 0))), (q11, .inl (Γ.2.1 0, 401, .inl (fun _ => 0))), (q12, .inl (Γ.2.1 0, 8, .inl (fun _ => 0))), (q13, .inl (Γ.2.1 0, 7, .inl (fun _ => 0))), (q14, .inl (Γ.2.1 0, 256, .inl (fun _ => 0))), (q15, .inl (Γ.2.1 0, 256, .inl (fun _ => 0))), (q16, .inl (Γ.2.1 0, 49, .inl (fun _ => 0))), (q17, .inl (Γ.2.1 2, 49, .inl (fun _ => 0))), (q18, .inl (Γ.2.1 0, 33608, .inl (fun _ => 0))), (q19, .inl (Γ.2.1 0, 128, .inl (fun _ => 0))), (q20, .inl (Γ.2.1 0, 128, .inl (fun _ => 0)))]) S hw i_Mo t_Mo t_Mo_ok n_Mo hin 0 rfl rfl 39 (by decide) zwf_Mo_88 rfl rfl rfl rfl rfl (by decide) rfl dMo_init_912 (fun H locs hw => ?_)
  refine lv_aload_n S.1 S.2.1 dMo_init_915 rfl (lv_at hl 0 rfl) ?_
  refine lv_sipush (v := (128 : Int32)) S.1 S.2.1 dMo_init_916 (by decide) ?_
  refine sk_newz S hw zwa_2 (by decide) (by decide) (Nat.le_of_ble_eq_true rfl) (Nat.le_of_ble_eq_true rfl) (Nat.le_of_ble_eq_true rfl) dMo_init_919 (fun q21 H hw => ?_)
  have hw : sk_S Γ A Θ ws [(h0, .inr (8, [.int 0, .ref q1, .ref q2, .ref q3, .ref q4, .ref q5, .int 0, .ref q6, .int 0, .int 0, .int 0, .ref q7, .ref q8, .int 0, .int (-1 : Int32), .ref q9, .ref q10, .ref q11, .int 0, .int 0, .int 0, .int 0, .int 0, .int 0, .int 0, .int 0, .ref q12, .int 0, .int 0, .int 0, .ref q13, .ref q14, .ref q15, .int 0, .ref q16, .ref q17, .ref q18, .int 0, .ref q19, .ref q20, .null, .null, .null, .int 0, .int 0, .int 0, .int 0, .int 0, .int 0, .null, .null, .int 0, .int 0])), (q1, .inl (Γ.2.1 0, 7, .inl (fun _ => 0))), (q2, .inl (Γ.2.1 0, 5654, .inl (fun _ => 0))), (q3, .inl (Γ.2.1 0, 11308, .inl (fun _ => 0))), (q4, .inl (Γ.2.1 2, 2, .inl (fun _ => 0))), (q5, .inl (Γ.2.1 0, 30, .inl (fun _ => 0))), (q6, .inl (Γ.2.1 1, 124, .inl (wd 124))), (q7, .inl (Γ.2.1 1, 400, .inl (fun _ => 0))), (q8, .inl (Γ.2.1 0, 5, .inl (fun _ => 0))), (q9, .inl (Γ.2.1 0, 401, .inl (fun _ => 0))), (q10, .inl (Γ.2.1 0, 401, .inl (fun _ => 0))), (q11, .inl (Γ.2.1 0, 401, .inl (fun _ => 0))), (q12, .inl (Γ.2.1 0, 8, .inl (fun _ => 0))), (q13, .inl (Γ.2.1 0, 7, .inl (fun _ => 0))), (q14, .inl (Γ.2.1 0, 256, .inl (fun _ => 0))), (q15, .inl (Γ.2.1 0, 256, .inl (fun _ => 0))), (q16, .inl (Γ.2.1 0, 49, .inl (fun _ => 0))), (q17, .inl (Γ.2.1 2, 49, .inl (fun _ => 0))), (q18, .inl (Γ.2.1 0, 33608, .inl (fun _ => 0))), (q19, .inl (Γ.2.1 0, 128, .inl (fun _ => 0))), (q20, .inl (Γ.2.1 0, 128, .inl (fun _ => 0))), (q21, .inl (Γ.2.1 2, 128, .inl (fun _ => 0)))] s H _ := hw
  refine sk_putF (x' := [(h0, .inr (8, [.int 0, .ref q1, .ref q2, .ref q3, .ref q4, .ref q5, .int 0, .ref q6, .int 0, .int 0, .int 0, .ref q7, .ref q8, .int 0, .int (-1 : Int32), .ref q9, .ref q10, .ref q11, .int 0, .int 0, .int 0, .int 0, .int 0, .int 0, .int 0, .int 0, .ref q12, .int 0, .int 0, .int 0, .ref q13, .ref q14, .ref q15, .int 0, .ref q16, .ref q17, .ref q18, .int 0, .ref q19, .ref q20, .ref q21, .null, .null, .int 0, .int 0, .int 0, .int 0, .int 0, .int 0, .null, .null, .int 0, .int 0])), (q1, .inl (Γ.2.1 0, 7, .inl (fun _ => 0))), (q2, .inl (Γ.2.1 0, 5654, .inl (fun _ => 0))), (q3, .inl (Γ.2.1 0, 11308, .inl (fun _ => 0))), (q4, .inl (Γ.2.1 2, 2, .inl (fun _ => 0))), (q5, .inl (Γ.2.1 0, 30, .inl (fun _ => 0))), (q6, .inl (Γ.2.1 1, 124, .inl (wd 124))), (q7, .inl (Γ.2.1 1, 400, .inl (fun _ => 0))), (q8, .inl (Γ.2.1 0, 5, .inl (fun _ => 0))), (q9, .inl (Γ.2.1 0, 401, .inl (fun _ => 0))), (q10, .inl (Γ.2.1 0, 401, .inl (fun _ => 0))), (q11, .inl (Γ.2.1 0, 401, .inl (fun _ => 0))), (q12, .inl (Γ.2.1 0, 8, .inl (fun _ => 0))), (q13, .inl (Γ.2.1 0, 7, .inl (fun _ => 0))), (q14, .inl (Γ.2.1 0, 256, .inl (fun _ => 0))), (q15, .inl (Γ.2.1 0, 256, .inl (fun _ => 0))), (q16, .inl (Γ.2.1 0, 49, .inl (fun _ => 0))), (q17, .inl (Γ.2.1 2, 49, .inl (fun _ => 0))), (q18, .inl (Γ.2.1 0, 33608, .inl (fun _ => 0))), (q19, .inl (Γ.2.1 0, 128, .inl (fun _ => 0))), (q20, .inl (Γ.2.1 0, 128, .inl (fun _ => 0))), (q21, .inl (Γ.2.1 2, 128, .inl (fun _ => 0)))]) S hw i_Mo t_Mo t_Mo_ok n_Mo hin 0 rfl rfl 40 (by decide) zwf_Mo_91 rfl rfl rfl rfl rfl (by decide) rfl dMo_init_921 (fun H locs hw => ?_)
  refine lv_aload_n S.1 S.2.1 dMo_init_924 rfl (lv_at hl 0 rfl) ?_
  refine lv_iconst (v := (3 : Int32)) S.1 S.2.1 dMo_init_925 (by decide) ?_
  refine sk_newi S hw zwa_0 (by decide) (by decide) (Nat.le_of_ble_eq_true rfl) (Nat.le_of_ble_eq_true rfl) (Nat.le_of_ble_eq_true rfl) dMo_init_926 (fun q22 H hw => ?_)
  have hw : sk_S Γ A Θ ws [(h0, .inr (8, [.int 0, .ref q1, .ref q2, .ref q3, .ref q4, .ref q5, .int 0, .ref q6, .int 0, .int 0, .int 0, .ref q7, .ref q8, .int 0, .int (-1 : Int32), .ref q9, .ref q10, .ref q11, .int 0, .int 0, .int 0, .int 0, .int 0, .int 0, .int 0, .int 0, .ref q12, .int 0, .int 0, .int 0, .ref q13, .ref q14, .ref q15, .int 0, .ref q16, .ref q17, .ref q18, .int 0, .ref q19, .ref q20, .ref q21, .null, .null, .int 0, .int 0, .int 0, .int 0, .int 0, .int 0, .null, .null, .int 0, .int 0])), (q1, .inl (Γ.2.1 0, 7, .inl (fun _ => 0))), (q2, .inl (Γ.2.1 0, 5654, .inl (fun _ => 0))), (q3, .inl (Γ.2.1 0, 11308, .inl (fun _ => 0))), (q4, .inl (Γ.2.1 2, 2, .inl (fun _ => 0))), (q5, .inl (Γ.2.1 0, 30, .inl (fun _ => 0))), (q6, .inl (Γ.2.1 1, 124, .inl (wd 124))), (q7, .inl (Γ.2.1 1, 400, .inl (fun _ => 0))), (q8, .inl (Γ.2.1 0, 5, .inl (fun _ => 0))), (q9, .inl (Γ.2.1 0, 401, .inl (fun _ => 0))), (q10, .inl (Γ.2.1 0, 401, .inl (fun _ => 0))), (q11, .inl (Γ.2.1 0, 401, .inl (fun _ => 0))), (q12, .inl (Γ.2.1 0, 8, .inl (fun _ => 0))), (q13, .inl (Γ.2.1 0, 7, .inl (fun _ => 0))), (q14, .inl (Γ.2.1 0, 256, .inl (fun _ => 0))), (q15, .inl (Γ.2.1 0, 256, .inl (fun _ => 0))), (q16, .inl (Γ.2.1 0, 49, .inl (fun _ => 0))), (q17, .inl (Γ.2.1 2, 49, .inl (fun _ => 0))), (q18, .inl (Γ.2.1 0, 33608, .inl (fun _ => 0))), (q19, .inl (Γ.2.1 0, 128, .inl (fun _ => 0))), (q20, .inl (Γ.2.1 0, 128, .inl (fun _ => 0))), (q21, .inl (Γ.2.1 2, 128, .inl (fun _ => 0))), (q22, .inl (Γ.2.1 0, 3, .inl (fun _ => 0)))] s H _ := hw
  refine sk_putF (x' := [(h0, .inr (8, [.int 0, .ref q1, .ref q2, .ref q3, .ref q4, .ref q5, .int 0, .ref q6, .int 0, .int 0, .int 0, .ref q7, .ref q8, .int 0, .int (-1 : Int32), .ref q9, .ref q10, .ref q11, .int 0, .int 0, .int 0, .int 0, .int 0, .int 0, .int 0, .int 0, .ref q12, .int 0, .int 0, .int 0, .ref q13, .ref q14, .ref q15, .int 0, .ref q16, .ref q17, .ref q18, .int 0, .ref q19, .ref q20, .ref q21, .ref q22, .null, .int 0, .int 0, .int 0, .int 0, .int 0, .int 0, .null, .null, .int 0, .int 0])), (q1, .inl (Γ.2.1 0, 7, .inl (fun _ => 0))), (q2, .inl (Γ.2.1 0, 5654, .inl (fun _ => 0))), (q3, .inl (Γ.2.1 0, 11308, .inl (fun _ => 0))), (q4, .inl (Γ.2.1 2, 2, .inl (fun _ => 0))), (q5, .inl (Γ.2.1 0, 30, .inl (fun _ => 0))), (q6, .inl (Γ.2.1 1, 124, .inl (wd 124))), (q7, .inl (Γ.2.1 1, 400, .inl (fun _ => 0))), (q8, .inl (Γ.2.1 0, 5, .inl (fun _ => 0))), (q9, .inl (Γ.2.1 0, 401, .inl (fun _ => 0))), (q10, .inl (Γ.2.1 0, 401, .inl (fun _ => 0))), (q11, .inl (Γ.2.1 0, 401, .inl (fun _ => 0))), (q12, .inl (Γ.2.1 0, 8, .inl (fun _ => 0))), (q13, .inl (Γ.2.1 0, 7, .inl (fun _ => 0))), (q14, .inl (Γ.2.1 0, 256, .inl (fun _ => 0))), (q15, .inl (Γ.2.1 0, 256, .inl (fun _ => 0))), (q16, .inl (Γ.2.1 0, 49, .inl (fun _ => 0))), (q17, .inl (Γ.2.1 2, 49, .inl (fun _ => 0))), (q18, .inl (Γ.2.1 0, 33608, .inl (fun _ => 0))), (q19, .inl (Γ.2.1 0, 128, .inl (fun _ => 0))), (q20, .inl (Γ.2.1 0, 128, .inl (fun _ => 0))), (q21, .inl (Γ.2.1 2, 128, .inl (fun _ => 0))), (q22, .inl (Γ.2.1 0, 3, .inl (fun _ => 0)))]) S hw i_Mo t_Mo t_Mo_ok n_Mo hin 0 rfl rfl 41 (by decide) zwf_Mo_94 rfl rfl rfl rfl rfl (by decide) rfl dMo_init_928 (fun H locs hw => ?_)
  refine lv_aload_n S.1 S.2.1 dMo_init_931 rfl (lv_at hl 0 rfl) ?_
  refine lv_bipush (v := (21 : Int32)) S.1 S.2.1 dMo_init_932 (by decide) ?_
  refine sk_newl S hw zwa_3 (by decide) (by decide) (Nat.le_of_ble_eq_true rfl) (Nat.le_of_ble_eq_true rfl) (Nat.le_of_ble_eq_true rfl) dMo_init_934 (fun q23 H hw => ?_)
  have hw : sk_S Γ A Θ ws [(h0, .inr (8, [.int 0, .ref q1, .ref q2, .ref q3, .ref q4, .ref q5, .int 0, .ref q6, .int 0, .int 0, .int 0, .ref q7, .ref q8, .int 0, .int (-1 : Int32), .ref q9, .ref q10, .ref q11, .int 0, .int 0, .int 0, .int 0, .int 0, .int 0, .int 0, .int 0, .ref q12, .int 0, .int 0, .int 0, .ref q13, .ref q14, .ref q15, .int 0, .ref q16, .ref q17, .ref q18, .int 0, .ref q19, .ref q20, .ref q21, .ref q22, .null, .int 0, .int 0, .int 0, .int 0, .int 0, .int 0, .null, .null, .int 0, .int 0])), (q1, .inl (Γ.2.1 0, 7, .inl (fun _ => 0))), (q2, .inl (Γ.2.1 0, 5654, .inl (fun _ => 0))), (q3, .inl (Γ.2.1 0, 11308, .inl (fun _ => 0))), (q4, .inl (Γ.2.1 2, 2, .inl (fun _ => 0))), (q5, .inl (Γ.2.1 0, 30, .inl (fun _ => 0))), (q6, .inl (Γ.2.1 1, 124, .inl (wd 124))), (q7, .inl (Γ.2.1 1, 400, .inl (fun _ => 0))), (q8, .inl (Γ.2.1 0, 5, .inl (fun _ => 0))), (q9, .inl (Γ.2.1 0, 401, .inl (fun _ => 0))), (q10, .inl (Γ.2.1 0, 401, .inl (fun _ => 0))), (q11, .inl (Γ.2.1 0, 401, .inl (fun _ => 0))), (q12, .inl (Γ.2.1 0, 8, .inl (fun _ => 0))), (q13, .inl (Γ.2.1 0, 7, .inl (fun _ => 0))), (q14, .inl (Γ.2.1 0, 256, .inl (fun _ => 0))), (q15, .inl (Γ.2.1 0, 256, .inl (fun _ => 0))), (q16, .inl (Γ.2.1 0, 49, .inl (fun _ => 0))), (q17, .inl (Γ.2.1 2, 49, .inl (fun _ => 0))), (q18, .inl (Γ.2.1 0, 33608, .inl (fun _ => 0))), (q19, .inl (Γ.2.1 0, 128, .inl (fun _ => 0))), (q20, .inl (Γ.2.1 0, 128, .inl (fun _ => 0))), (q21, .inl (Γ.2.1 2, 128, .inl (fun _ => 0))), (q22, .inl (Γ.2.1 0, 3, .inl (fun _ => 0))), (q23, .inl (Γ.2.1 3, 21, .inr (.inl (fun _ => 0))))] s H _ := hw
  refine sk_putF (x' := [(h0, .inr (8, [.int 0, .ref q1, .ref q2, .ref q3, .ref q4, .ref q5, .int 0, .ref q6, .int 0, .int 0, .int 0, .ref q7, .ref q8, .int 0, .int (-1 : Int32), .ref q9, .ref q10, .ref q11, .int 0, .int 0, .int 0, .int 0, .int 0, .int 0, .int 0, .int 0, .ref q12, .int 0, .int 0, .int 0, .ref q13, .ref q14, .ref q15, .int 0, .ref q16, .ref q17, .ref q18, .int 0, .ref q19, .ref q20, .ref q21, .ref q22, .ref q23, .int 0, .int 0, .int 0, .int 0, .int 0, .int 0, .null, .null, .int 0, .int 0])), (q1, .inl (Γ.2.1 0, 7, .inl (fun _ => 0))), (q2, .inl (Γ.2.1 0, 5654, .inl (fun _ => 0))), (q3, .inl (Γ.2.1 0, 11308, .inl (fun _ => 0))), (q4, .inl (Γ.2.1 2, 2, .inl (fun _ => 0))), (q5, .inl (Γ.2.1 0, 30, .inl (fun _ => 0))), (q6, .inl (Γ.2.1 1, 124, .inl (wd 124))), (q7, .inl (Γ.2.1 1, 400, .inl (fun _ => 0))), (q8, .inl (Γ.2.1 0, 5, .inl (fun _ => 0))), (q9, .inl (Γ.2.1 0, 401, .inl (fun _ => 0))), (q10, .inl (Γ.2.1 0, 401, .inl (fun _ => 0))), (q11, .inl (Γ.2.1 0, 401, .inl (fun _ => 0))), (q12, .inl (Γ.2.1 0, 8, .inl (fun _ => 0))), (q13, .inl (Γ.2.1 0, 7, .inl (fun _ => 0))), (q14, .inl (Γ.2.1 0, 256, .inl (fun _ => 0))), (q15, .inl (Γ.2.1 0, 256, .inl (fun _ => 0))), (q16, .inl (Γ.2.1 0, 49, .inl (fun _ => 0))), (q17, .inl (Γ.2.1 2, 49, .inl (fun _ => 0))), (q18, .inl (Γ.2.1 0, 33608, .inl (fun _ => 0))), (q19, .inl (Γ.2.1 0, 128, .inl (fun _ => 0))), (q20, .inl (Γ.2.1 0, 128, .inl (fun _ => 0))), (q21, .inl (Γ.2.1 2, 128, .inl (fun _ => 0))), (q22, .inl (Γ.2.1 0, 3, .inl (fun _ => 0))), (q23, .inl (Γ.2.1 3, 21, .inr (.inl (fun _ => 0))))]) S hw i_Mo t_Mo t_Mo_ok n_Mo hin 0 rfl rfl 42 (by decide) zwf_Mo_97 rfl rfl rfl rfl rfl (by decide) rfl dMo_init_936 (fun H locs hw => ?_)
  refine lv_aload_n S.1 S.2.1 dMo_init_939 rfl (lv_at hl 0 rfl) ?_
  refine lv_iconst (v := (-1 : Int32)) S.1 S.2.1 dMo_init_940 (by decide) ?_
  refine sk_put (x' := [(h0, .inr (8, [.int 0, .ref q1, .ref q2, .ref q3, .ref q4, .ref q5, .int 0, .ref q6, .int 0, .int 0, .int 0, .ref q7, .ref q8, .int 0, .int (-1 : Int32), .ref q9, .ref q10, .ref q11, .int 0, .int 0, .int 0, .int 0, .int 0, .int 0, .int 0, .int 0, .ref q12, .int 0, .int 0, .int 0, .ref q13, .ref q14, .ref q15, .int 0, .ref q16, .ref q17, .ref q18, .int 0, .ref q19, .ref q20, .ref q21, .ref q22, .ref q23, .int (-1 : Int32), .int 0, .int 0, .int 0, .int 0, .int 0, .null, .null, .int 0, .int 0])), (q1, .inl (Γ.2.1 0, 7, .inl (fun _ => 0))), (q2, .inl (Γ.2.1 0, 5654, .inl (fun _ => 0))), (q3, .inl (Γ.2.1 0, 11308, .inl (fun _ => 0))), (q4, .inl (Γ.2.1 2, 2, .inl (fun _ => 0))), (q5, .inl (Γ.2.1 0, 30, .inl (fun _ => 0))), (q6, .inl (Γ.2.1 1, 124, .inl (wd 124))), (q7, .inl (Γ.2.1 1, 400, .inl (fun _ => 0))), (q8, .inl (Γ.2.1 0, 5, .inl (fun _ => 0))), (q9, .inl (Γ.2.1 0, 401, .inl (fun _ => 0))), (q10, .inl (Γ.2.1 0, 401, .inl (fun _ => 0))), (q11, .inl (Γ.2.1 0, 401, .inl (fun _ => 0))), (q12, .inl (Γ.2.1 0, 8, .inl (fun _ => 0))), (q13, .inl (Γ.2.1 0, 7, .inl (fun _ => 0))), (q14, .inl (Γ.2.1 0, 256, .inl (fun _ => 0))), (q15, .inl (Γ.2.1 0, 256, .inl (fun _ => 0))), (q16, .inl (Γ.2.1 0, 49, .inl (fun _ => 0))), (q17, .inl (Γ.2.1 2, 49, .inl (fun _ => 0))), (q18, .inl (Γ.2.1 0, 33608, .inl (fun _ => 0))), (q19, .inl (Γ.2.1 0, 128, .inl (fun _ => 0))), (q20, .inl (Γ.2.1 0, 128, .inl (fun _ => 0))), (q21, .inl (Γ.2.1 2, 128, .inl (fun _ => 0))), (q22, .inl (Γ.2.1 0, 3, .inl (fun _ => 0))), (q23, .inl (Γ.2.1 3, 21, .inr (.inl (fun _ => 0))))]) S hw i_Mo t_Mo t_Mo_ok n_Mo 0 rfl rfl 43 (by decide) zwf_Mo_101 rfl rfl rfl rfl (by decide) rfl dMo_init_941 (fun H locs hw => ?_)
  refine lv_aload_n S.1 S.2.1 dMo_init_944 rfl (lv_at hl 0 rfl) ?_
  refine lv_iconst (v := (2 : Int32)) S.1 S.2.1 dMo_init_945 (by decide) ?_
  refine sk_newl S hw zwa_3 (by decide) (by decide) (Nat.le_of_ble_eq_true rfl) (Nat.le_of_ble_eq_true rfl) (Nat.le_of_ble_eq_true rfl) dMo_init_946 (fun q24 H hw => ?_)
  have hw : sk_S Γ A Θ ws [(h0, .inr (8, [.int 0, .ref q1, .ref q2, .ref q3, .ref q4, .ref q5, .int 0, .ref q6, .int 0, .int 0, .int 0, .ref q7, .ref q8, .int 0, .int (-1 : Int32), .ref q9, .ref q10, .ref q11, .int 0, .int 0, .int 0, .int 0, .int 0, .int 0, .int 0, .int 0, .ref q12, .int 0, .int 0, .int 0, .ref q13, .ref q14, .ref q15, .int 0, .ref q16, .ref q17, .ref q18, .int 0, .ref q19, .ref q20, .ref q21, .ref q22, .ref q23, .int (-1 : Int32), .int 0, .int 0, .int 0, .int 0, .int 0, .null, .null, .int 0, .int 0])), (q1, .inl (Γ.2.1 0, 7, .inl (fun _ => 0))), (q2, .inl (Γ.2.1 0, 5654, .inl (fun _ => 0))), (q3, .inl (Γ.2.1 0, 11308, .inl (fun _ => 0))), (q4, .inl (Γ.2.1 2, 2, .inl (fun _ => 0))), (q5, .inl (Γ.2.1 0, 30, .inl (fun _ => 0))), (q6, .inl (Γ.2.1 1, 124, .inl (wd 124))), (q7, .inl (Γ.2.1 1, 400, .inl (fun _ => 0))), (q8, .inl (Γ.2.1 0, 5, .inl (fun _ => 0))), (q9, .inl (Γ.2.1 0, 401, .inl (fun _ => 0))), (q10, .inl (Γ.2.1 0, 401, .inl (fun _ => 0))), (q11, .inl (Γ.2.1 0, 401, .inl (fun _ => 0))), (q12, .inl (Γ.2.1 0, 8, .inl (fun _ => 0))), (q13, .inl (Γ.2.1 0, 7, .inl (fun _ => 0))), (q14, .inl (Γ.2.1 0, 256, .inl (fun _ => 0))), (q15, .inl (Γ.2.1 0, 256, .inl (fun _ => 0))), (q16, .inl (Γ.2.1 0, 49, .inl (fun _ => 0))), (q17, .inl (Γ.2.1 2, 49, .inl (fun _ => 0))), (q18, .inl (Γ.2.1 0, 33608, .inl (fun _ => 0))), (q19, .inl (Γ.2.1 0, 128, .inl (fun _ => 0))), (q20, .inl (Γ.2.1 0, 128, .inl (fun _ => 0))), (q21, .inl (Γ.2.1 2, 128, .inl (fun _ => 0))), (q22, .inl (Γ.2.1 0, 3, .inl (fun _ => 0))), (q23, .inl (Γ.2.1 3, 21, .inr (.inl (fun _ => 0)))), (q24, .inl (Γ.2.1 3, 2, .inr (.inl (fun _ => 0))))] s H _ := hw
  refine sk_putF (x' := [(h0, .inr (8, [.int 0, .ref q1, .ref q2, .ref q3, .ref q4, .ref q5, .int 0, .ref q6, .int 0, .int 0, .int 0, .ref q7, .ref q8, .int 0, .int (-1 : Int32), .ref q9, .ref q10, .ref q11, .int 0, .int 0, .int 0, .int 0, .int 0, .int 0, .int 0, .int 0, .ref q12, .int 0, .int 0, .int 0, .ref q13, .ref q14, .ref q15, .int 0, .ref q16, .ref q17, .ref q18, .int 0, .ref q19, .ref q20, .ref q21, .ref q22, .ref q23, .int (-1 : Int32), .int 0, .int 0, .int 0, .int 0, .int 0, .ref q24, .null, .int 0, .int 0])), (q1, .inl (Γ.2.1 0, 7, .inl (fun _ => 0))), (q2, .inl (Γ.2.1 0, 5654, .inl (fun _ => 0))), (q3, .inl (Γ.2.1 0, 11308, .inl (fun _ => 0))), (q4, .inl (Γ.2.1 2, 2, .inl (fun _ => 0))), (q5, .inl (Γ.2.1 0, 30, .inl (fun _ => 0))), (q6, .inl (Γ.2.1 1, 124, .inl (wd 124))), (q7, .inl (Γ.2.1 1, 400, .inl (fun _ => 0))), (q8, .inl (Γ.2.1 0, 5, .inl (fun _ => 0))), (q9, .inl (Γ.2.1 0, 401, .inl (fun _ => 0))), (q10, .inl (Γ.2.1 0, 401, .inl (fun _ => 0))), (q11, .inl (Γ.2.1 0, 401, .inl (fun _ => 0))), (q12, .inl (Γ.2.1 0, 8, .inl (fun _ => 0))), (q13, .inl (Γ.2.1 0, 7, .inl (fun _ => 0))), (q14, .inl (Γ.2.1 0, 256, .inl (fun _ => 0))), (q15, .inl (Γ.2.1 0, 256, .inl (fun _ => 0))), (q16, .inl (Γ.2.1 0, 49, .inl (fun _ => 0))), (q17, .inl (Γ.2.1 2, 49, .inl (fun _ => 0))), (q18, .inl (Γ.2.1 0, 33608, .inl (fun _ => 0))), (q19, .inl (Γ.2.1 0, 128, .inl (fun _ => 0))), (q20, .inl (Γ.2.1 0, 128, .inl (fun _ => 0))), (q21, .inl (Γ.2.1 2, 128, .inl (fun _ => 0))), (q22, .inl (Γ.2.1 0, 3, .inl (fun _ => 0))), (q23, .inl (Γ.2.1 3, 21, .inr (.inl (fun _ => 0)))), (q24, .inl (Γ.2.1 3, 2, .inr (.inl (fun _ => 0))))]) S hw i_Mo t_Mo t_Mo_ok n_Mo hin 0 rfl rfl 49 (by decide) zwf_Mo_104 rfl rfl rfl rfl rfl (by decide) rfl dMo_init_948 (fun H locs hw => ?_)
  refine lv_aload_n S.1 S.2.1 dMo_init_951 rfl (lv_at hl 0 rfl) ?_
  refine lv_bipush (v := (15 : Int32)) S.1 S.2.1 dMo_init_952 (by decide) ?_
  refine sk_newi S hw zwa_0 (by decide) (by decide) (Nat.le_of_ble_eq_true rfl) (Nat.le_of_ble_eq_true rfl) (Nat.le_of_ble_eq_true rfl) dMo_init_954 (fun q25 H hw => ?_)
  have hw : sk_S Γ A Θ ws [(h0, .inr (8, [.int 0, .ref q1, .ref q2, .ref q3, .ref q4, .ref q5, .int 0, .ref q6, .int 0, .int 0, .int 0, .ref q7, .ref q8, .int 0, .int (-1 : Int32), .ref q9, .ref q10, .ref q11, .int 0, .int 0, .int 0, .int 0, .int 0, .int 0, .int 0, .int 0, .ref q12, .int 0, .int 0, .int 0, .ref q13, .ref q14, .ref q15, .int 0, .ref q16, .ref q17, .ref q18, .int 0, .ref q19, .ref q20, .ref q21, .ref q22, .ref q23, .int (-1 : Int32), .int 0, .int 0, .int 0, .int 0, .int 0, .ref q24, .null, .int 0, .int 0])), (q1, .inl (Γ.2.1 0, 7, .inl (fun _ => 0))), (q2, .inl (Γ.2.1 0, 5654, .inl (fun _ => 0))), (q3, .inl (Γ.2.1 0, 11308, .inl (fun _ => 0))), (q4, .inl (Γ.2.1 2, 2, .inl (fun _ => 0))), (q5, .inl (Γ.2.1 0, 30, .inl (fun _ => 0))), (q6, .inl (Γ.2.1 1, 124, .inl (wd 124))), (q7, .inl (Γ.2.1 1, 400, .inl (fun _ => 0))), (q8, .inl (Γ.2.1 0, 5, .inl (fun _ => 0))), (q9, .inl (Γ.2.1 0, 401, .inl (fun _ => 0))), (q10, .inl (Γ.2.1 0, 401, .inl (fun _ => 0))), (q11, .inl (Γ.2.1 0, 401, .inl (fun _ => 0))), (q12, .inl (Γ.2.1 0, 8, .inl (fun _ => 0))), (q13, .inl (Γ.2.1 0, 7, .inl (fun _ => 0))), (q14, .inl (Γ.2.1 0, 256, .inl (fun _ => 0))), (q15, .inl (Γ.2.1 0, 256, .inl (fun _ => 0))), (q16, .inl (Γ.2.1 0, 49, .inl (fun _ => 0))), (q17, .inl (Γ.2.1 2, 49, .inl (fun _ => 0))), (q18, .inl (Γ.2.1 0, 33608, .inl (fun _ => 0))), (q19, .inl (Γ.2.1 0, 128, .inl (fun _ => 0))), (q20, .inl (Γ.2.1 0, 128, .inl (fun _ => 0))), (q21, .inl (Γ.2.1 2, 128, .inl (fun _ => 0))), (q22, .inl (Γ.2.1 0, 3, .inl (fun _ => 0))), (q23, .inl (Γ.2.1 3, 21, .inr (.inl (fun _ => 0)))), (q24, .inl (Γ.2.1 3, 2, .inr (.inl (fun _ => 0)))), (q25, .inl (Γ.2.1 0, 15, .inl (fun _ => 0)))] s H _ := hw
  refine sk_putF (x' := [(h0, .inr (8, [.int 0, .ref q1, .ref q2, .ref q3, .ref q4, .ref q5, .int 0, .ref q6, .int 0, .int 0, .int 0, .ref q7, .ref q8, .int 0, .int (-1 : Int32), .ref q9, .ref q10, .ref q11, .int 0, .int 0, .int 0, .int 0, .int 0, .int 0, .int 0, .int 0, .ref q12, .int 0, .int 0, .int 0, .ref q13, .ref q14, .ref q15, .int 0, .ref q16, .ref q17, .ref q18, .int 0, .ref q19, .ref q20, .ref q21, .ref q22, .ref q23, .int (-1 : Int32), .int 0, .int 0, .int 0, .int 0, .int 0, .ref q24, .ref q25, .int 0, .int 0])), (q1, .inl (Γ.2.1 0, 7, .inl (fun _ => 0))), (q2, .inl (Γ.2.1 0, 5654, .inl (fun _ => 0))), (q3, .inl (Γ.2.1 0, 11308, .inl (fun _ => 0))), (q4, .inl (Γ.2.1 2, 2, .inl (fun _ => 0))), (q5, .inl (Γ.2.1 0, 30, .inl (fun _ => 0))), (q6, .inl (Γ.2.1 1, 124, .inl (wd 124))), (q7, .inl (Γ.2.1 1, 400, .inl (fun _ => 0))), (q8, .inl (Γ.2.1 0, 5, .inl (fun _ => 0))), (q9, .inl (Γ.2.1 0, 401, .inl (fun _ => 0))), (q10, .inl (Γ.2.1 0, 401, .inl (fun _ => 0))), (q11, .inl (Γ.2.1 0, 401, .inl (fun _ => 0))), (q12, .inl (Γ.2.1 0, 8, .inl (fun _ => 0))), (q13, .inl (Γ.2.1 0, 7, .inl (fun _ => 0))), (q14, .inl (Γ.2.1 0, 256, .inl (fun _ => 0))), (q15, .inl (Γ.2.1 0, 256, .inl (fun _ => 0))), (q16, .inl (Γ.2.1 0, 49, .inl (fun _ => 0))), (q17, .inl (Γ.2.1 2, 49, .inl (fun _ => 0))), (q18, .inl (Γ.2.1 0, 33608, .inl (fun _ => 0))), (q19, .inl (Γ.2.1 0, 128, .inl (fun _ => 0))), (q20, .inl (Γ.2.1 0, 128, .inl (fun _ => 0))), (q21, .inl (Γ.2.1 2, 128, .inl (fun _ => 0))), (q22, .inl (Γ.2.1 0, 3, .inl (fun _ => 0))), (q23, .inl (Γ.2.1 3, 21, .inr (.inl (fun _ => 0)))), (q24, .inl (Γ.2.1 3, 2, .inr (.inl (fun _ => 0)))), (q25, .inl (Γ.2.1 0, 15, .inl (fun _ => 0)))]) S hw i_Mo t_Mo t_Mo_ok n_Mo hin 0 rfl rfl 50 (by decide) zwf_Mo_107 rfl rfl rfl rfl rfl (by decide) rfl dMo_init_956 (fun H locs hw => ?_)
  refine lv_aload_n S.1 S.2.1 dMo_init_959 rfl (lv_at hl 0 rfl) ?_
  refine lv_iconst (v := (-1 : Int32)) S.1 S.2.1 dMo_init_960 (by decide) ?_
  refine sk_put (x' := [(h0, .inr (8, [.int 0, .ref q1, .ref q2, .ref q3, .ref q4, .ref q5, .int 0, .ref q6, .int 0, .int 0, .int 0, .ref q7, .ref q8, .int 0, .int (-1 : Int32), .ref q9, .ref q10, .ref q11, .int 0, .int 0, .int 0, .int 0, .int 0, .int 0, .int 0, .int 0, .ref q12, .int 0, .int 0, .int 0, .ref q13, .ref q14, .ref q15, .int 0, .ref q16, .ref q17, .ref q18, .int 0, .ref q19, .ref q20, .ref q21, .ref q22, .ref q23, .int (-1 : Int32), .int 0, .int 0, .int 0, .int 0, .int 0, .ref q24, .ref q25, .int (-1 : Int32), .int 0])), (q1, .inl (Γ.2.1 0, 7, .inl (fun _ => 0))), (q2, .inl (Γ.2.1 0, 5654, .inl (fun _ => 0))), (q3, .inl (Γ.2.1 0, 11308, .inl (fun _ => 0))), (q4, .inl (Γ.2.1 2, 2, .inl (fun _ => 0))), (q5, .inl (Γ.2.1 0, 30, .inl (fun _ => 0))), (q6, .inl (Γ.2.1 1, 124, .inl (wd 124))), (q7, .inl (Γ.2.1 1, 400, .inl (fun _ => 0))), (q8, .inl (Γ.2.1 0, 5, .inl (fun _ => 0))), (q9, .inl (Γ.2.1 0, 401, .inl (fun _ => 0))), (q10, .inl (Γ.2.1 0, 401, .inl (fun _ => 0))), (q11, .inl (Γ.2.1 0, 401, .inl (fun _ => 0))), (q12, .inl (Γ.2.1 0, 8, .inl (fun _ => 0))), (q13, .inl (Γ.2.1 0, 7, .inl (fun _ => 0))), (q14, .inl (Γ.2.1 0, 256, .inl (fun _ => 0))), (q15, .inl (Γ.2.1 0, 256, .inl (fun _ => 0))), (q16, .inl (Γ.2.1 0, 49, .inl (fun _ => 0))), (q17, .inl (Γ.2.1 2, 49, .inl (fun _ => 0))), (q18, .inl (Γ.2.1 0, 33608, .inl (fun _ => 0))), (q19, .inl (Γ.2.1 0, 128, .inl (fun _ => 0))), (q20, .inl (Γ.2.1 0, 128, .inl (fun _ => 0))), (q21, .inl (Γ.2.1 2, 128, .inl (fun _ => 0))), (q22, .inl (Γ.2.1 0, 3, .inl (fun _ => 0))), (q23, .inl (Γ.2.1 3, 21, .inr (.inl (fun _ => 0)))), (q24, .inl (Γ.2.1 3, 2, .inr (.inl (fun _ => 0)))), (q25, .inl (Γ.2.1 0, 15, .inl (fun _ => 0)))]) S hw i_Mo t_Mo t_Mo_ok n_Mo 0 rfl rfl 51 (by decide) zwf_Mo_110 rfl rfl rfl rfl (by decide) rfl dMo_init_961 (fun H locs hw => ?_)
  refine lv_aload_n S.1 S.2.1 dMo_init_964 rfl (lv_at hl 0 rfl) ?_
  refine sk_get S hw i_Mo 0 rfl rfl 2 (by decide) zwf_Mo_28 rfl rfl dMo_init_965 ?_
  refine lv_bipush (v := (40 : Int32)) S.1 S.2.1 dMo_init_968 (by decide) ?_
  refine lv_iconst (v := (1 : Int32)) S.1 S.2.1 dMo_init_970 (by decide) ?_
  refine sk_iast (x' := [(h0, .inr (8, [.int 0, .ref q1, .ref q2, .ref q3, .ref q4, .ref q5, .int 0, .ref q6, .int 0, .int 0, .int 0, .ref q7, .ref q8, .int 0, .int (-1 : Int32), .ref q9, .ref q10, .ref q11, .int 0, .int 0, .int 0, .int 0, .int 0, .int 0, .int 0, .int 0, .ref q12, .int 0, .int 0, .int 0, .ref q13, .ref q14, .ref q15, .int 0, .ref q16, .ref q17, .ref q18, .int 0, .ref q19, .ref q20, .ref q21, .ref q22, .ref q23, .int (-1 : Int32), .int 0, .int 0, .int 0, .int 0, .int 0, .ref q24, .ref q25, .int (-1 : Int32), .int 0])), (q1, .inl (Γ.2.1 0, 7, .inl (fun _ => 0))), (q2, .inl (Γ.2.1 0, 5654, .inl (upd (fun _ => 0) (40 : Int32).toNatClampNeg (1 : Int32)))), (q3, .inl (Γ.2.1 0, 11308, .inl (fun _ => 0))), (q4, .inl (Γ.2.1 2, 2, .inl (fun _ => 0))), (q5, .inl (Γ.2.1 0, 30, .inl (fun _ => 0))), (q6, .inl (Γ.2.1 1, 124, .inl (wd 124))), (q7, .inl (Γ.2.1 1, 400, .inl (fun _ => 0))), (q8, .inl (Γ.2.1 0, 5, .inl (fun _ => 0))), (q9, .inl (Γ.2.1 0, 401, .inl (fun _ => 0))), (q10, .inl (Γ.2.1 0, 401, .inl (fun _ => 0))), (q11, .inl (Γ.2.1 0, 401, .inl (fun _ => 0))), (q12, .inl (Γ.2.1 0, 8, .inl (fun _ => 0))), (q13, .inl (Γ.2.1 0, 7, .inl (fun _ => 0))), (q14, .inl (Γ.2.1 0, 256, .inl (fun _ => 0))), (q15, .inl (Γ.2.1 0, 256, .inl (fun _ => 0))), (q16, .inl (Γ.2.1 0, 49, .inl (fun _ => 0))), (q17, .inl (Γ.2.1 2, 49, .inl (fun _ => 0))), (q18, .inl (Γ.2.1 0, 33608, .inl (fun _ => 0))), (q19, .inl (Γ.2.1 0, 128, .inl (fun _ => 0))), (q20, .inl (Γ.2.1 0, 128, .inl (fun _ => 0))), (q21, .inl (Γ.2.1 2, 128, .inl (fun _ => 0))), (q22, .inl (Γ.2.1 0, 3, .inl (fun _ => 0))), (q23, .inl (Γ.2.1 3, 21, .inr (.inl (fun _ => 0)))), (q24, .inl (Γ.2.1 3, 2, .inr (.inl (fun _ => 0)))), (q25, .inl (Γ.2.1 0, 15, .inl (fun _ => 0)))]) S hw 2 rfl (by unfold vp_in; decide) rfl dMo_init_971 (fun H locs hw => ?_)
  refine lv_aload_n S.1 S.2.1 dMo_init_972 rfl (lv_at hl 0 rfl) ?_
  refine sk_get S hw i_Mo 0 rfl rfl 2 (by decide) zwf_Mo_28 rfl rfl dMo_init_973 ?_
  refine lv_bipush (v := (46 : Int32)) S.1 S.2.1 dMo_init_976 (by decide) ?_
  refine lv_iconst (v := (-1 : Int32)) S.1 S.2.1 dMo_init_978 (by decide) ?_
  refine sk_iast (x' := [(h0, .inr (8, [.int 0, .ref q1, .ref q2, .ref q3, .ref q4, .ref q5, .int 0, .ref q6, .int 0, .int 0, .int 0, .ref q7, .ref q8, .int 0, .int (-1 : Int32), .ref q9, .ref q10, .ref q11, .int 0, .int 0, .int 0, .int 0, .int 0, .int 0, .int 0, .int 0, .ref q12, .int 0, .int 0, .int 0, .ref q13, .ref q14, .ref q15, .int 0, .ref q16, .ref q17, .ref q18, .int 0, .ref q19, .ref q20, .ref q21, .ref q22, .ref q23, .int (-1 : Int32), .int 0, .int 0, .int 0, .int 0, .int 0, .ref q24, .ref q25, .int (-1 : Int32), .int 0])), (q1, .inl (Γ.2.1 0, 7, .inl (fun _ => 0))), (q2, .inl (Γ.2.1 0, 5654, .inl (upd (upd (fun _ => 0) (40 : Int32).toNatClampNeg (1 : Int32)) (46 : Int32).toNatClampNeg (-1 : Int32)))), (q3, .inl (Γ.2.1 0, 11308, .inl (fun _ => 0))), (q4, .inl (Γ.2.1 2, 2, .inl (fun _ => 0))), (q5, .inl (Γ.2.1 0, 30, .inl (fun _ => 0))), (q6, .inl (Γ.2.1 1, 124, .inl (wd 124))), (q7, .inl (Γ.2.1 1, 400, .inl (fun _ => 0))), (q8, .inl (Γ.2.1 0, 5, .inl (fun _ => 0))), (q9, .inl (Γ.2.1 0, 401, .inl (fun _ => 0))), (q10, .inl (Γ.2.1 0, 401, .inl (fun _ => 0))), (q11, .inl (Γ.2.1 0, 401, .inl (fun _ => 0))), (q12, .inl (Γ.2.1 0, 8, .inl (fun _ => 0))), (q13, .inl (Γ.2.1 0, 7, .inl (fun _ => 0))), (q14, .inl (Γ.2.1 0, 256, .inl (fun _ => 0))), (q15, .inl (Γ.2.1 0, 256, .inl (fun _ => 0))), (q16, .inl (Γ.2.1 0, 49, .inl (fun _ => 0))), (q17, .inl (Γ.2.1 2, 49, .inl (fun _ => 0))), (q18, .inl (Γ.2.1 0, 33608, .inl (fun _ => 0))), (q19, .inl (Γ.2.1 0, 128, .inl (fun _ => 0))), (q20, .inl (Γ.2.1 0, 128, .inl (fun _ => 0))), (q21, .inl (Γ.2.1 2, 128, .inl (fun _ => 0))), (q22, .inl (Γ.2.1 0, 3, .inl (fun _ => 0))), (q23, .inl (Γ.2.1 3, 21, .inr (.inl (fun _ => 0)))), (q24, .inl (Γ.2.1 3, 2, .inr (.inl (fun _ => 0)))), (q25, .inl (Γ.2.1 0, 15, .inl (fun _ => 0)))]) S hw 2 rfl (by unfold vp_in; decide) rfl dMo_init_979 (fun H locs hw => ?_)
  exact sk_vret (u := (fun j => ([0, q1, q2, q3, q4, q5, q6, q7, q8, q9, q10, q11, q12, q13, q14, q15, q16, q17, q18, q19, q20, q21, q22, q23, q24, q25] : List Nat).getD j 0)) (cf := cf_Mo Γ h0) (pst := fun _ => True) S hr hlk hw trivial rfl dMo_init_980
