/-! ===== CONSTRUCTORS: a list of cells that grows behind what is there already ===== -/
def sk_good (Θ : State → Prop) : Prop := (∀ u U : State, U.vm = u.vm → Θ u → Θ U) ∧ ∀ s U : State, s.WarmedH U.vm → Θ s → Θ U
def sk_W (Γ : sw_C) (A : Nat → Prop) (ws l : va_W) (U : State) : Prop := va_P Γ.1 swCl (ws ++ l) U.heap ∧ va_K Γ.1 swCl (sw_tys Γ) U ∧ va_D A (ws ++ l)
def sk_V (Γ : sw_C) (A : Nat → Prop) (Θ : State → Prop) (ws l : va_W) (U : State) : Prop := sk_W Γ A ws l U ∧ (∀ q : Nat, U.heap.size ≤ q → A q) ∧ Θ U
def sk_S (Γ : sw_C) (A : Nat → Prop) (Θ : State → Prop) (ws l : va_W) (s : State) (H : Heap) (locs : List Loc) : Prop := va_P Γ.1 swCl (ws ++ l) H ∧ va_K Γ.1 swCl (sw_tys Γ) s ∧ va_D A (ws ++ l) ∧ va_S A s.heap H locs ∧ (∀ q : Nat, s.heap.size ≤ q → A q) ∧ Θ s
theorem sk_begin {Γ : sw_C} {A : Nat → Prop} {Θ : State → Prop} {ws l : va_W} {s : State} (h : sk_V Γ A Θ ws l s) : sk_S Γ A Θ ws l s s.heap [] := ⟨h.1.1, h.1.2.1, h.1.2.2, va_S.rf, h.2.1, h.2.2⟩
theorem sk_blind {Γ : sw_C} {A : Nat → Prop} {Θ : State → Prop} (hΘ : sk_good Θ) {ws l : va_W} {av : List Value} : FrameBlind (va_Pc av (sk_V Γ A Θ ws l)) := fun a U f mk h => ⟨h.1, ⟨h.2.1.1, va_K.moved (u := U) (U := U.calling f mk a) (Vm.Alike.refl U.vm) h.2.1.2.1, h.2.1.2.2⟩, h.2.2.1, hΘ.1 U _ rfl h.2.2.2⟩
theorem sk_end {Γ : sw_C} {A : Nat → Prop} {Θ : State → Prop} {ws l : va_W} {s t : State} {H : Heap} {locs : List Loc} (h : sk_S Γ A Θ ws l s H locs) (ht : t.heap = H) (hW : s.WarmedH t.vm) : sk_W Γ A ws l t := ⟨by rw [ht]; exact h.1, va_K.moved hW.alike h.2.1, h.2.2.1⟩
theorem sk_at {ws l : va_W} {k : Nat} {x : Nat × va_E} (h : l[k]? = some x) : (ws ++ l)[ws.length + k]? = some x := by
  rw [List.getElem?_append_right (Nat.le_add_right _ _), Nat.add_sub_cancel_left]
  exact h
theorem sk_set {ws l : va_W} {k : Nat} {x : Nat × va_E} : (ws ++ l).set (ws.length + k) x = ws ++ l.set k x := by
  rw [List.set_append_right _ _ (Nat.le_add_right _ _), Nat.add_sub_cancel_left]
section SKR
variable {p : Program} {l : Launch} {e : Env} {R : Room} {s : State} {m : MethodId} {args : Array Value} {below : List Frame} {meth : Method} {c : Code} {H : Heap} {locs : List Loc} {cells slots : Nat} {Q : State → Prop}
variable {cc : ByteArray} {pc nL index : Nat} {ls : Array Slot} {rest : List Value} {Γ : sw_C} {A : Nat → Prop} {Θ : State → Prop} {ws x x' : va_W} {w0 : Cond} {own : String} {n a : Nat}
theorem sk_setS {k : Nat} {y : Nat × va_E} {H1 : Heap} {locs1 : List Loc} (hw : sk_S Γ A Θ ws x s H locs) (hx : x.set k y = x') (h1 : va_P Γ.1 swCl ((ws ++ x).set (ws.length + k) y) H1) (h2 : va_D A ((ws ++ x).set (ws.length + k) y)) (h3 : va_S A s.heap H1 locs1) : sk_S Γ A Θ ws x' s H1 locs1 := by
  rw [sk_set, hx] at h1 h2
  exact ⟨h1, hw.2.1, h2, h3, hw.2.2.2.2⟩
theorem sk_addS {y : Nat × va_E} {H1 : Heap} (hw : sk_S Γ A Θ ws x s H locs) (hx : x ++ [y] = x') (h1 : va_P Γ.1 swCl ((ws ++ x) ++ [y]) H1) (h2 : va_D A ((ws ++ x) ++ [y])) (h3 : va_S A s.heap H1 locs) : sk_S Γ A Θ ws x' s H1 locs := by
  rw [List.append_assoc, hx] at h1 h2
  exact ⟨h1, hw.2.1, h2, h3, hw.2.2.2.2⟩
theorem sk_new {C : String} {T : u_T} {N ci : Nat} {fs : List Value} (S : CallFix p m c cc nL s args (w0 :: sw_tb) own) (hw : sk_S Γ A Θ ws x s H locs) (hin : ∀ w ∈ u_ws C T N, w ∈ sw_tb) (ty : Nat → FieldType) (hty : ∀ k, k < N → parseFieldDescriptor (T k).2.2.1 = some (ty k)) (h1 : Cond.classLink own index C ∈ sw_tb) (h2 : Cond.instantiable C N ∈ sw_tb) (h3 : Cond.initialized C ∈ sw_tb) (hc : swCl[ci]? = some (C, T, N)) (hfs : ∀ j, j < N → defaultValue (ty j) = vp_V fs j) (hcl : cells + 1 ≤ R.cells) (hsl : slots + N ≤ R.slots) (hdg : decode cc pc = .ok (.new index, 3))
    (kk : ∀ (q : Nat) (H1 : Heap), sk_S Γ A Θ ws (x ++ [(q, .inr (ci, fs))]) s H1 locs → W p l e R s m args below meth c H1 locs (cells + 1) (slots + N) Q (F0 m (pc + 3) ls (.ref q :: rest))) : W p l e R s m args below meth c H locs cells slots Q (F0 m pc ls rest) :=
  va_new S.1 S.2.1 S.2.2.2.2 (fun w h => List.mem_cons_of_mem _ (hin w h)) ty hty S.2.2.2.1 (sw_word S h1) (sw_word S h2) (sw_word S h3) hw.2.1 hw.1 hw.2.2.1 hw.2.2.2.1 hw.2.2.2.2.1 hc hfs hcl hsl hdg (fun q H1 b1 b2 b3 => kk q H1 (sk_addS hw rfl b1 b2 b3))
theorem sk_same {cA cB : ClassId} {t0 : Nat} {ty : FieldType} {tys : List (ClassId × FieldType)} (hK : va_K Γ.1 swCl (tys ++ [(cA, ty)]) s) (h : tys[t0]? = some (cB, ty)) : cA = cB := by
  have h1 := (hK.2 tys.length (cA, ty) (by rw [List.getElem?_append_right (Nat.le_refl _), Nat.sub_self]; rfl)).2
  have h2 := (hK.2 t0 (cB, ty) (by rw [List.getElem?_append_left (List.getElem?_eq_some_iff.mp h).1]; exact h)).2
  cases ty with
  | object C =>
    obtain ⟨_, _, -, -, -, e1⟩ := h1
    obtain ⟨_, _, -, -, -, e2⟩ := h2
    exact Option.some.inj (e1.symm.trans e2)
  | _ => exact Option.some.inj (h1.symm.trans h2)
theorem sk_newi {k : Int32} {n : Nat} (S : CallFix p m c cc nL s args (w0 :: sw_tb) own) (hw : sk_S Γ A Θ ws x s H locs) (ha : Cond.arrayClass .int ∈ sw_tb) (hk : ¬ k < 0) (hn : k.toNatClampNeg = n) (hb : n * 4 ≤ 536870912) (hcl : cells + 1 ≤ R.cells) (hsl : slots + n ≤ R.slots) (hdg : decode cc pc = .ok (.newarray .int, 2))
    (kk : ∀ (q : Nat) (H1 : Heap), sk_S Γ A Θ ws (x ++ [(q, .inl (Γ.2.1 0, n, .inl (fun _ => 0)))]) s H1 locs → W p l e R s m args below meth c H1 locs (cells + 1) (slots + n) Q (F0 m (pc + 2) ls (.ref q :: rest))) : W p l e R s m args below meth c H locs cells slots Q (F0 m pc ls (.int k :: rest)) :=
  va_newa (atype := .int) S.1 S.2.1 (sw_word S ha) rfl hw.2.1 hw.1 hw.2.2.1 hw.2.2.2.1 hw.2.2.2.2.1 (a0 := (n, .inl (fun _ => 0))) (fun _ => rfl) hk hn hb hcl hsl hdg (fun q cA H1 hK b1 b2 b3 => by
    have e1 : cA = Γ.2.1 0 := sk_same (t0 := 0) hK rfl
    subst e1
    exact kk q H1 (sk_addS hw rfl b1 b2 b3))
theorem sk_newb {k : Int32} {n : Nat} (S : CallFix p m c cc nL s args (w0 :: sw_tb) own) (hw : sk_S Γ A Θ ws x s H locs) (ha : Cond.arrayClass .byte ∈ sw_tb) (hk : ¬ k < 0) (hn : k.toNatClampNeg = n) (hb : n * 1 ≤ 536870912) (hcl : cells + 1 ≤ R.cells) (hsl : slots + n ≤ R.slots) (hdg : decode cc pc = .ok (.newarray .byte, 2))
    (kk : ∀ (q : Nat) (H1 : Heap), sk_S Γ A Θ ws (x ++ [(q, .inl (Γ.2.1 1, n, .inl (fun _ => 0)))]) s H1 locs → W p l e R s m args below meth c H1 locs (cells + 1) (slots + n) Q (F0 m (pc + 2) ls (.ref q :: rest))) : W p l e R s m args below meth c H locs cells slots Q (F0 m pc ls (.int k :: rest)) :=
  va_newa (atype := .byte) S.1 S.2.1 (sw_word S ha) rfl hw.2.1 hw.1 hw.2.2.1 hw.2.2.2.1 hw.2.2.2.2.1 (a0 := (n, .inl (fun _ => 0))) (fun _ => rfl) hk hn hb hcl hsl hdg (fun q cA H1 hK b1 b2 b3 => by
    have e1 : cA = Γ.2.1 1 := sk_same (t0 := 1) hK rfl
    subst e1
    exact kk q H1 (sk_addS hw rfl b1 b2 b3))
theorem sk_newz {k : Int32} {n : Nat} (S : CallFix p m c cc nL s args (w0 :: sw_tb) own) (hw : sk_S Γ A Θ ws x s H locs) (ha : Cond.arrayClass .boolean ∈ sw_tb) (hk : ¬ k < 0) (hn : k.toNatClampNeg = n) (hb : n * 1 ≤ 536870912) (hcl : cells + 1 ≤ R.cells) (hsl : slots + n ≤ R.slots) (hdg : decode cc pc = .ok (.newarray .boolean, 2))
    (kk : ∀ (q : Nat) (H1 : Heap), sk_S Γ A Θ ws (x ++ [(q, .inl (Γ.2.1 2, n, .inl (fun _ => 0)))]) s H1 locs → W p l e R s m args below meth c H1 locs (cells + 1) (slots + n) Q (F0 m (pc + 2) ls (.ref q :: rest))) : W p l e R s m args below meth c H locs cells slots Q (F0 m pc ls (.int k :: rest)) :=
  va_newa (atype := .boolean) S.1 S.2.1 (sw_word S ha) rfl hw.2.1 hw.1 hw.2.2.1 hw.2.2.2.1 hw.2.2.2.2.1 (a0 := (n, .inl (fun _ => 0))) (fun _ => rfl) hk hn hb hcl hsl hdg (fun q cA H1 hK b1 b2 b3 => by
    have e1 : cA = Γ.2.1 2 := sk_same (t0 := 2) hK rfl
    subst e1
    exact kk q H1 (sk_addS hw rfl b1 b2 b3))
theorem sk_newl {k : Int32} {n : Nat} (S : CallFix p m c cc nL s args (w0 :: sw_tb) own) (hw : sk_S Γ A Θ ws x s H locs) (ha : Cond.arrayClass .long ∈ sw_tb) (hk : ¬ k < 0) (hn : k.toNatClampNeg = n) (hb : n * 8 ≤ 536870912) (hcl : cells + 1 ≤ R.cells) (hsl : slots + n ≤ R.slots) (hdg : decode cc pc = .ok (.newarray .long, 2))
    (kk : ∀ (q : Nat) (H1 : Heap), sk_S Γ A Θ ws (x ++ [(q, .inl (Γ.2.1 3, n, .inr (.inl (fun _ => 0))))]) s H1 locs → W p l e R s m args below meth c H1 locs (cells + 1) (slots + n) Q (F0 m (pc + 2) ls (.ref q :: rest))) : W p l e R s m args below meth c H locs cells slots Q (F0 m pc ls (.int k :: rest)) :=
  va_newa (atype := .long) S.1 S.2.1 (sw_word S ha) rfl hw.2.1 hw.1 hw.2.2.1 hw.2.2.2.1 hw.2.2.2.2.1 (a0 := (n, .inr (.inl (fun _ => 0)))) (fun _ => rfl) hk hn hb hcl hsl hdg (fun q cA H1 hK b1 b2 b3 => by
    have e1 : cA = Γ.2.1 3 := sk_same (t0 := 3) hK rfl
    subst e1
    exact kk q H1 (sk_addS hw rfl b1 b2 b3))
theorem sk_newq {C : String} {k : Int32} {n t0 : Nat} {cB : ClassId} (S : CallFix p m c cc nL s args (w0 :: sw_tb) own) (hw : sk_S Γ A Θ ws x s H locs) (hl : Cond.classLink own index C ∈ sw_tb) (ho : va_AO C s) (ht : (sw_tys Γ)[t0]? = some (cB, .object C)) (hk : ¬ k < 0) (hn : k.toNatClampNeg = n) (hb : n * 4 ≤ 536870912) (hcl : cells + 1 ≤ R.cells) (hsl : slots + n ≤ R.slots) (hdg : decode cc pc = .ok (.anewarray index, 3))
    (kk : ∀ (q : Nat) (H1 : Heap), sk_S Γ A Θ ws (x ++ [(q, .inl (cB, n, .inr (.inr (.inr (.inr (fun _ => none))))))]) s H1 locs → W p l e R s m args below meth c H1 locs (cells + 1) (slots + n) Q (F0 m (pc + 3) ls (.ref q :: rest))) : W p l e R s m args below meth c H locs cells slots Q (F0 m pc ls (.int k :: rest)) :=
  va_newq S.1 S.2.1 S.2.2.2.1 (sw_word S hl) ho hw.2.1 hw.1 hw.2.2.1 hw.2.2.2.1 hw.2.2.2.2.1 hk hn hb hcl hsl hdg (fun q cA H1 hK b1 b2 b3 => by
    have e1 : cA = cB := sk_same (t0 := t0) hK ht
    subst e1
    exact kk q H1 (sk_addS hw rfl b1 b2 b3))
theorem sk_get {C : String} {T : u_T} {N ci : Nat} {fs : List Value} (S : CallFix p m c cc nL s args (w0 :: sw_tb) own) (hw : sk_S Γ A Θ ws x s H locs) (hin : ∀ w ∈ u_ws C T N, w ∈ sw_tb) (h : Nat) (he : x[h]? = some (a, .inr (ci, fs))) (hc : swCl[ci]? = some (C, T, N)) (k : Nat) (hN : k < N) (hl : Cond.fieldLink own index C (T k).2.1 (T k).2.2.1 ∈ sw_tb) (hcl : (T k).1 = C) {v : Value} (hv : fs[k]? = some v) (hdg : decode cc pc = .ok (.getfield index, 3))
    (kk : W p l e R s m args below meth c H locs cells slots Q (F0 m (pc + 3) ls (v :: rest))) : W p l e R s m args below meth c H locs cells slots Q (F0 m pc ls (.ref a :: rest)) :=
  va_get (T := T) (N := N) S.1 S.2.1 S.2.2.2.2 (fun w h => List.mem_cons_of_mem _ (hin w h)) S.2.2.2.1 hw.2.1 hw.1 (ws.length + h) (sk_at he) hc k hN (sw_word S hl) (fun z h => by rw [hcl] at h; exact h) hv hdg kk
theorem sk_putF {C : String} {T : u_T} {N ci : Nat} {fs : List Value} (S : CallFix p m c cc nL s args (w0 :: sw_tb) own) (hw : sk_S Γ A Θ ws x s H locs) (hin : ∀ w ∈ u_ws C T N, w ∈ sw_tb) (ty : Nat → FieldType) (hty : ∀ k, k < N → parseFieldDescriptor (T k).2.2.1 = some (ty k)) (hnm : ∀ a, a < N → ∀ b, b < N → a ≠ b → (T a).2.1 ≠ (T b).2.1) (hi : meth.name = "<init>") (h : Nat) (he : x[h]? = some (a, .inr (ci, fs))) (hc : swCl[ci]? = some (C, T, N)) (k : Nat) (hN : k < N) (hl : Cond.fieldLink own index C (T k).2.1 (T k).2.2.1 ∈ sw_tb) (hcl : (T k).1 = C) (hC : (T k).1 = own) (hfin : (T k).2.2.2 = true) {v : Value} (hn : narrow (ty k) v = v) (hfit : fits (ty k) v = true) (hlen : k < fs.length) (hx : x.set h (a, .inr (ci, fs.set k v)) = x') (hdg : decode cc pc = .ok (.putfield index, 3))
    (kk : ∀ (H1 : Heap) (locs1 : List Loc), sk_S Γ A Θ ws x' s H1 locs1 → W p l e R s m args below meth c H1 locs1 cells slots Q (F0 m (pc + 3) ls rest)) : W p l e R s m args below meth c H locs cells slots Q (F0 m pc ls (v :: .ref a :: rest)) :=
  va_putF (T := T) (N := N) S.1 S.2.1 S.2.2.2.2 (fun w h => List.mem_cons_of_mem _ (hin w h)) ty hty hnm S.2.2.2.1 hw.2.1 hw.1 hw.2.2.1 hw.2.2.2.1 (ws.length + h) (sk_at he) hc k hN (sw_word S hl) (fun z h => by rw [hcl] at h; exact h) hfin hi hC (hty k hN) hn hfit hlen hdg (fun H1 locs1 b1 b2 b3 => kk H1 locs1 (sk_setS hw hx b1 b2 b3))
theorem sk_put {C : String} {T : u_T} {N ci : Nat} {fs : List Value} (S : CallFix p m c cc nL s args (w0 :: sw_tb) own) (hw : sk_S Γ A Θ ws x s H locs) (hin : ∀ w ∈ u_ws C T N, w ∈ sw_tb) (ty : Nat → FieldType) (hty : ∀ k, k < N → parseFieldDescriptor (T k).2.2.1 = some (ty k)) (hnm : ∀ a, a < N → ∀ b, b < N → a ≠ b → (T a).2.1 ≠ (T b).2.1) (h : Nat) (he : x[h]? = some (a, .inr (ci, fs))) (hc : swCl[ci]? = some (C, T, N)) (k : Nat) (hN : k < N) (hl : Cond.fieldLink own index C (T k).2.1 (T k).2.2.1 ∈ sw_tb) (hcl : (T k).1 = C) (hfin : (T k).2.2.2 = false) {v : Value} (hn : narrow (ty k) v = v) (hfit : fits (ty k) v = true) (hlen : k < fs.length) (hx : x.set h (a, .inr (ci, fs.set k v)) = x') (hdg : decode cc pc = .ok (.putfield index, 3))
    (kk : ∀ (H1 : Heap) (locs1 : List Loc), sk_S Γ A Θ ws x' s H1 locs1 → W p l e R s m args below meth c H1 locs1 cells slots Q (F0 m (pc + 3) ls rest)) : W p l e R s m args below meth c H locs cells slots Q (F0 m pc ls (v :: .ref a :: rest)) :=
  va_put (T := T) (N := N) S.1 S.2.1 S.2.2.2.2 (fun w h => List.mem_cons_of_mem _ (hin w h)) ty hty hnm S.2.2.2.1 hw.2.1 hw.1 hw.2.2.1 hw.2.2.2.1 (ws.length + h) (sk_at he) hc k hN (sw_word S hl) (fun z h => by rw [hcl] at h; exact h) hfin (hty k hN) hn hfit hlen hdg (fun H1 locs1 b1 b2 b3 => kk H1 locs1 (sk_setS hw hx b1 b2 b3))
theorem sk_iast {f : Nat → Int32} (S : CallFix p m c cc nL s args (w0 :: sw_tb) own) (hw : sk_S Γ A Θ ws x s H locs) (h : Nat) (he : x[h]? = some (a, .inl (Γ.2.1 0, n, .inl f))) {i v : Int32} (hi : vp_in i n) (hx : x.set h (a, .inl (Γ.2.1 0, n, .inl (upd f i.toNatClampNeg v))) = x') (hdg : decode cc pc = .ok (.iastore, 1))
    (kk : ∀ (H1 : Heap) (locs1 : List Loc), sk_S Γ A Θ ws x' s H1 locs1 → W p l e R s m args below meth c H1 locs1 cells slots Q (F0 m (pc + 1) ls rest)) : W p l e R s m args below meth c H locs cells slots Q (F0 m pc ls (.int v :: .int i :: .ref a :: rest)) :=
  va_iast S.1 S.2.1 hw.2.1 hw.1 hw.2.2.1 hw.2.2.2.1 (ws.length + h) 0 (sk_at he) rfl hi hdg (fun H1 locs1 b1 b2 b3 => kk H1 locs1 (sk_setS hw hx b1 b2 b3))
theorem sk_bast {f : Nat → Int32} (S : CallFix p m c cc nL s args (w0 :: sw_tb) own) (hw : sk_S Γ A Θ ws x s H locs) (h : Nat) (he : x[h]? = some (a, .inl (Γ.2.1 1, n, .inl f))) {i v : Int32} (hi : vp_in i n) {f' : Nat → Int32} (hf : upd f i.toNatClampNeg (vp_nar .byte v) = f') (hx : x.set h (a, .inl (Γ.2.1 1, n, .inl f')) = x') (hdg : decode cc pc = .ok (.bastore, 1))
    (kk : ∀ (H1 : Heap) (locs1 : List Loc), sk_S Γ A Θ ws x' s H1 locs1 → W p l e R s m args below meth c H1 locs1 cells slots Q (F0 m (pc + 1) ls rest)) : W p l e R s m args below meth c H locs cells slots Q (F0 m pc ls (.int v :: .int i :: .ref a :: rest)) := by
  subst hf
  exact va_bast S.1 S.2.1 hw.2.1 hw.1 hw.2.2.1 hw.2.2.2.1 (ws.length + h) 1 (sk_at he) rfl hi hdg (fun H1 locs1 b1 b2 b3 => kk H1 locs1 (sk_setS hw hx b1 b2 b3))
theorem wO_link {i : Nat} (h : Cond.methodLink own i objectInit ∈ sw_tb) : Cond.methodLink own i objectInit ∈ sw_tb := h
theorem wO_inst : Cond.instanceMethod objectInit ∈ sw_tb := tb_mem 24 (by decide +kernel) (by decide +kernel)
theorem wO_code : Cond.code objectInit ⟨#[0xb1]⟩ 1 none ∈ sw_tb := tb_mem 25 (by decide +kernel) (by decide +kernel)
theorem sk_obj (S : CallFix p m c cc nL s args (w0 :: sw_tb) own) (hz : ls.size = nL) (hl : Cond.methodLink own index objectInit ∈ sw_tb) (h1 : 1 ≤ R.frames) (h2 : (rest.map fun v => v.category).sum + 12 ≤ R.locals) (hdg : decode cc pc = .ok (.invokespecial index, 3)) (kk : W p l e R s m args below meth c H locs cells slots Q (F0 m (pc + 3) ls rest)) : W p l e R s m args below meth c H locs cells slots Q (F0 m pc ls (.ref a :: rest)) :=
  W.objInit S.1 S.2.1 S.2.2.2.1 (sw_word S hl) (sw_word S wO_inst) (sw_word S wO_code) rfl (hz.trans S.2.2.1.symm) rfl hdg h1 (by show 2 * 0 + _ + 12 ≤ _; omega) kk
theorem sk_vret {U : Type} {u : U} {pst : U → Prop} {cf : U → va_W} {mc ms : Nat} (S : CallFix p m c cc nL s args (w0 :: sw_tb) own) (hr : meth.sig.returnType = none) (hlk : meth.locks = false) (hw : sk_S Γ A Θ ws x s H locs) (hu : pst u) (hx : cf u = x) (hdg : decode cc pc = .ok (.return_, 1)) : W p l e R s m args below meth c H locs mc ms (MQ below (va_Qv pst (fun u t => sk_W Γ A ws (cf u) t) A) args s mc ms A) (F0 m pc ls []) :=
  W.vret S.1 S.2.1 hr (fun t ht hW => ⟨⟨u, rfl, hu, by show sk_W Γ A ws (cf u) t; rw [hx]; exact sk_end hw ht hW⟩, hw.2.2.2.1.F ht⟩) hw.2.2.2.1.2.2 hdg
/-- a constructor's call on the last cell -/
theorem sk_ctor {U : Type} {y : MethodName} {bytes : ByteArray} {maxL k mc ms q : Nat} {rm : Room} {As : List Value} {pst : U → Prop} {cf : U → va_W} {x0 : va_W} {y0 : Nat × va_E} {st0 : List Value} (S : CallFix p m c cc nL s args (w0 :: sw_tb) own) (hΘ : sk_good Θ) (hw : sk_S Γ A Θ ws (x0 ++ [y0]) s H locs)
    (hM : Met l y (Cond.code y bytes maxL none :: sw_tb) rm (va_Pc (.ref q :: As) (sk_V Γ A Θ (ws ++ x0) [y0])) (va_Qv pst (fun u t => sk_W Γ A (ws ++ x0) (cf u) t) A) mc ms A) (hy : sw_y y bytes maxL none k) (hl : Cond.methodLink own index y ∈ sw_tb) (hin : Cond.instanceMethod y ∈ sw_tb) (hnm : y.name = "<init>") (hst : st0 = As.reverse ++ .ref q :: rest) (hn : As.length = k) (hz : ls.size = nL)
    (hro : (rest.map fun v => v.category).sum ≤ 8) (hR : rm.cells = mc ∧ rm.slots = ms ∧ rm.frames + 1 ≤ R.frames ∧ 8 + (maxL + 11) + rm.locals ≤ R.locals) (hf : cells + mc ≤ R.cells ∧ slots + ms ≤ R.slots) (hdg : decode cc pc = .ok (.invokespecial index, 3))
    (kk : ∀ (u : U) (H1 : Heap) (locs1 : List Loc), pst u → sk_S Γ A Θ ws (x0 ++ cf u) s H1 locs1 → W p l e R s m args below meth c H1 locs1 (cells + mc) (slots + ms) Q (F0 m (pc + 3) ls rest)) : W p l e R s m args below meth c H locs cells slots Q (F0 m pc ls st0) := by
  subst hst
  refine va_callv (va_runI (As := As) (rest := rest) S hM ⟨callB_of k S.2.2.2.2 (tb_good hy.1) rfl hR.1 hR.2.1 (sw_word S hy.2.1) (sw_word S hl) hy.2.2 hR.2.2, hnm, sw_word S hin⟩ ⟨sk_blind hΘ, fun V hV hW => ⟨rfl, ⟨by rw [hV, List.append_assoc]; exact hw.1, va_K.moved hW.alike hw.2.1, by rw [List.append_assoc]; exact hw.2.2.1⟩, fun q hq => hw.2.2.2.2.1 q (Nat.le_trans hw.2.2.2.1.1 (by rw [← hV]; exact hq)), hΘ.2 s V hW hw.2.2.2.2.2⟩⟩ rfl hn hz rfl (lv_room hro) hdg hf) hw.2.2.2.1 (fun _ _ h => h) (fun _ h => h) (fun u t H1 locs1 ht hvm hr hB _ _ hS => ?_)
  rw [← ht] at hS ⊢
  have hB1 := hB.1
  have hB2 := hB.2.2
  rw [List.append_assoc] at hB1 hB2
  exact kk u t.heap locs1 hr ⟨hB1, va_K.moved hvm.symm hB.2.1, hB2, hS, hw.2.2.2.2⟩
theorem sk_ctorN {U : Type} {y : MethodName} {host : String} {bytes : ByteArray} {maxL k mc ms q : Nat} {rm : Room} {As : List Value} {pst : U → Prop} {cf : U → va_W} {x0 : va_W} {y0 : Nat × va_E} {st0 : List Value} (S : CallFix p m c cc nL s args (w0 :: sw_tb) own) (hΘ : sk_good Θ) (hw : sk_S Γ A Θ ws (x0 ++ [y0]) s H locs)
    (hM : Met l y (Cond.code y bytes maxL none :: sw_tb) rm (va_Pc (.ref q :: As) (sk_V Γ A Θ (ws ++ x0) [y0])) (va_Qv pst (fun u t => sk_W Γ A (ws ++ x0) (cf u) t) A) mc ms A) (hy : sw_y y bytes maxL none k) (hl : va_Nw (.methodLinkNest own index y host) s) (hin : Cond.instanceMethod y ∈ sw_tb) (hnm : y.name = "<init>") (hst : st0 = As.reverse ++ .ref q :: rest) (hn : As.length = k) (hz : ls.size = nL)
    (hro : (rest.map fun v => v.category).sum ≤ 8) (hR : rm.cells = mc ∧ rm.slots = ms ∧ rm.frames + 1 ≤ R.frames ∧ 8 + (maxL + 11) + rm.locals ≤ R.locals) (hf : cells + mc ≤ R.cells ∧ slots + ms ≤ R.slots) (hdg : decode cc pc = .ok (.invokespecial index, 3))
    (kk : ∀ (u : U) (H1 : Heap) (locs1 : List Loc), pst u → sk_S Γ A Θ ws (x0 ++ cf u) s H1 locs1 → W p l e R s m args below meth c H1 locs1 (cells + mc) (slots + ms) Q (F0 m (pc + 3) ls rest)) : W p l e R s m args below meth c H locs cells slots Q (F0 m pc ls st0) := by
  subst hst
  refine va_callv (va_runIN (As := As) (rest := rest) S hM ⟨va_cnB k S.2.2.2.2 (tb_good hy.1) rfl hR.1 hR.2.1 hl (sw_word S hy.2.1) hy.2.2 hR.2.2, hnm, sw_word S hin⟩ ⟨sk_blind hΘ, fun V hV hW => ⟨rfl, ⟨by rw [hV, List.append_assoc]; exact hw.1, va_K.moved hW.alike hw.2.1, by rw [List.append_assoc]; exact hw.2.2.1⟩, fun q hq => hw.2.2.2.2.1 q (Nat.le_trans hw.2.2.2.1.1 (by rw [← hV]; exact hq)), hΘ.2 s V hW hw.2.2.2.2.2⟩⟩ rfl hn hz rfl (lv_room hro) hdg hf) hw.2.2.2.1 (fun _ _ h => h) (fun _ h => h) (fun u t H1 locs1 ht hvm hr hB _ _ hS => ?_)
  rw [← ht] at hS ⊢
  have hB1 := hB.1
  have hB2 := hB.2.2
  rw [List.append_assoc] at hB1 hB2
  exact kk u t.heap locs1 hr ⟨hB1, va_K.moved hvm.symm hB.2.1, hB2, hS, hw.2.2.2.2⟩
end SKR

def yHi_init : MethodName := ⟨R_Hi, "<init>", "()V"⟩
set_option maxRecDepth 100000 in
theorem y_Hi : sw_y yHi_init prog_2_method_1_code 1 none 0 := ⟨tb_mem 96 (by rfl) (by decide +kernel), tb_mem 3 (by decide +kernel) (by decide +kernel), by decide +kernel, by decide +kernel, by decide +kernel⟩
theorem df_Hi : ∀ j, j < 3 → defaultValue (t_Hi j) = vp_V [.int 0, .int 0, .null] j := by decide +kernel
def yJu_init : MethodName := ⟨R_Ju, "<init>", "()V"⟩
set_option maxRecDepth 100000 in
theorem y_Ju : sw_y yJu_init prog_3_method_1_code 1 none 0 := ⟨tb_mem 205 (by rfl) (by decide +kernel), tb_mem 7 (by decide +kernel) (by decide +kernel), by decide +kernel, by decide +kernel, by decide +kernel⟩
theorem df_Ju : ∀ j, j < 2 → defaultValue (t_Ju j) = vp_V [.null, .null] j := by decide +kernel
def yPl_init : MethodName := ⟨R_Pl, "<init>", "()V"⟩
set_option maxRecDepth 100000 in
theorem y_Pl : sw_y yPl_init prog_4_method_1_code 1 none 0 := ⟨tb_mem 30 (by rfl) (by decide +kernel), tb_mem 2 (by decide +kernel) (by decide +kernel), by decide +kernel, by decide +kernel, by decide +kernel⟩
theorem df_Pl : ∀ j, j < 12 → defaultValue (t_Pl j) = vp_V [.int 0, .null, .null, .null, .null, .int 0, .null, .null, .null, .int 0, .null, .int 0] j := by decide +kernel
def yRe_init : MethodName := ⟨R_Re, "<init>", "()V"⟩
set_option maxRecDepth 100000 in
theorem y_Re : sw_y yRe_init prog_5_method_1_code 1 none 0 := ⟨tb_mem 113 (by rfl) (by decide +kernel), tb_mem 4 (by decide +kernel) (by decide +kernel), by decide +kernel, by decide +kernel, by decide +kernel⟩
theorem df_Re : ∀ j, j < 9 → defaultValue (t_Re j) = vp_V [.int 0, .null, .int 0, .null, .int 0, .int 0, .int 0, .int 0, .int 0] j := by decide +kernel
def yRk_init : MethodName := ⟨R_Rk, "<init>", "()V"⟩
set_option maxRecDepth 100000 in
theorem y_Rk : sw_y yRk_init prog_6_method_1_code 1 none 0 := ⟨tb_mem 211 (by rfl) (by decide +kernel), tb_mem 8 (by decide +kernel) (by decide +kernel), by decide +kernel, by decide +kernel, by decide +kernel⟩
theorem df_Rk : ∀ j, j < 2 → defaultValue (t_Rk j) = vp_V [.int 0, .null] j := by decide +kernel
def yRo_init : MethodName := ⟨R_Ro, "<init>", "()V"⟩
set_option maxRecDepth 100000 in
theorem y_Ro : sw_y yRo_init prog_7_method_1_code 1 none 0 := ⟨tb_mem 236 (by rfl) (by decide +kernel), tb_mem 9 (by decide +kernel) (by decide +kernel), by decide +kernel, by decide +kernel, by decide +kernel⟩
theorem df_Ro : ∀ j, j < 8 → defaultValue (t_Ro j) = vp_V [.null, .null, .null, .null, .null, .null, .int 0, .int 0] j := by decide +kernel
def yTe_init : MethodName := ⟨R_Te, "<init>", "(I)V"⟩
set_option maxRecDepth 100000 in
theorem y_Te : sw_y yTe_init prog_8_method_1_code 2 none 1 := ⟨tb_mem 119 (by rfl) (by decide +kernel), tb_mem 5 (by decide +kernel) (by decide +kernel), by decide +kernel, by decide +kernel, by decide +kernel⟩
theorem df_Te : ∀ j, j < 8 → defaultValue (t_Te j) = vp_V [.int 0, .null, .null, .null, .null, .null, .int 0, .null] j := by decide +kernel
def ySx_init : MethodName := ⟨R_Sx, "<init>", "()V"⟩
set_option maxRecDepth 100000 in
theorem y_Sx : sw_y ySx_init prog_1_method_1_code 1 none 0 := ⟨tb_mem 22 (by rfl) (by decide +kernel), tb_mem 1 (by decide +kernel) (by decide +kernel), by decide +kernel, by decide +kernel, by decide +kernel⟩
theorem df_Sx : ∀ j, j < 17 → defaultValue (t_Sx j) = vp_V [.null, .null, .null, .null, .null, .null, .null, .null, .null, .null, .null, .null, .null, .null, .int 0, .int 0, .int 0] j := by decide +kernel
def yMo_init : MethodName := ⟨R_Mo, "<init>", "()V"⟩
set_option maxRecDepth 100000 in
theorem y_Mo : sw_y yMo_init prog_10_method_12_code 1 none 0 := ⟨tb_mem 988 (by rfl) (by decide +kernel), tb_mem 10 (by decide +kernel) (by decide +kernel), by decide +kernel, by decide +kernel, by decide +kernel⟩
theorem df_Mo : ∀ j, j < 53 → defaultValue (t_Mo j) = vp_V [.int 0, .null, .null, .null, .null, .null, .int 0, .null, .int 0, .int 0, .int 0, .null, .null, .int 0, .int 0, .null, .null, .null, .int 0, .int 0, .int 0, .int 0, .int 0, .int 0, .int 0, .int 0, .null, .int 0, .int 0, .int 0, .null, .null, .null, .int 0, .null, .null, .null, .int 0, .null, .null, .null, .null, .null, .int 0, .int 0, .int 0, .int 0, .int 0, .int 0, .null, .null, .int 0, .int 0] j := by decide +kernel
def sk_O (U : State) : Prop := va_AO R_Te U ∧ va_AO R_Pl U ∧ va_Nw (.methodLinkNest R_Sx 28 yHi_init "SeeSaws") U ∧ va_Nw (.methodLinkNest R_Sx 45 yJu_init "SeeSaws") U ∧ va_Nw (.methodLinkNest R_Ju 11 yRk_init "SeeSaws") U ∧ va_Nw (.methodLinkNest R_Sx 52 yRk_init "SeeSaws") U ∧ va_Nw (.methodLinkNest R_Sx 63 yRo_init "SeeSaws") U
def wdl : List Int32 := [99, 111, 117, 110, 116, 115, 32, 115, 104, 101, 100, 115, 32, 98, 97, 114, 115, 32, 105, 102, 32, 111, 114, 32, 97, 110, 100, 32, 110, 111, 116, 32, 99, 108, 97, 105, 109, 32, 107, 105, 110, 100, 32, 112, 108, 97, 99, 101, 32, 97, 114, 109, 32, 109, 111, 111, 100, 32, 115, 108, 97, 99, 107, 32, 104, 101, 97, 118, 121, 32, 100, 97, 121, 32, 100, 111, 110, 101, 32, 108, 97, 116, 101, 115, 116, 32, 116, 105, 108, 116, 32, 111, 110, 32, 97, 116, 32, 112, 117, 116, 32, 116, 97, 107, 101, 32, 112, 97, 100, 32, 116, 111, 32, 112, 97, 115, 115, 32, 116, 105, 109, 101, 115, 32]
/-- the words' signs, the first k of them laid -/
def wd (k : Nat) : Nat → Int32 := fun j => if j < k then wdl.getD j 0 else 0
theorem wd_n : ∀ k, k < 124 → vp_nar .byte (wdl.getD k 0) = wdl.getD k 0 := by decide +kernel
theorem wd_u (k : Nat) {i v : Int32} (hi : i.toNatClampNeg = k) (hv : vp_nar .byte v = wdl.getD k 0) : upd (wd k) i.toNatClampNeg (vp_nar .byte v) = wd (k + 1) := by
  rw [hi, hv]
  funext j
  unfold upd wd
  by_cases h : j = k
  · subst h; simp
  · by_cases h2 : j < k
    · rw [if_neg h, if_pos h2, if_pos (by omega)]
    · rw [if_neg h, if_neg h2, if_neg (by omega)]
theorem zwa_0 : Cond.arrayClass .int ∈ sw_tb := tb_mem 90 (by decide +kernel) (by decide +kernel)
theorem zwa_1 : Cond.arrayClass .byte ∈ sw_tb := tb_mem 670 (by decide +kernel) (by decide +kernel)
theorem zwa_2 : Cond.arrayClass .boolean ∈ sw_tb := tb_mem 1151 (by decide +kernel) (by decide +kernel)
theorem zwa_3 : Cond.arrayClass .long ∈ sw_tb := tb_mem 222 (by decide +kernel) (by decide +kernel)
theorem zwc_Mo_81c : Cond.constant R_Mo 81 (33608 : Int32) ∈ sw_tb := tb_mem 990 (by decide +kernel) (by decide +kernel)
theorem zwf_Hi_11 : Cond.fieldLink R_Hi 11 R_Hi (F_Hi 2).2.1 (F_Hi 2).2.2.1 ∈ sw_tb := tb_mem 101 (by decide +kernel) (by decide +kernel)
theorem zwf_Ju_12 : Cond.fieldLink R_Ju 12 R_Ju (F_Ju 0).2.1 (F_Ju 0).2.2.1 ∈ sw_tb := tb_mem 223 (by decide +kernel) (by decide +kernel)
theorem zwf_Ju_18 : Cond.fieldLink R_Ju 18 R_Ju (F_Ju 1).2.1 (F_Ju 1).2.2.1 ∈ sw_tb := tb_mem 224 (by decide +kernel) (by decide +kernel)
theorem zwf_Mo_101 : Cond.fieldLink R_Mo 101 R_Mo (F_Mo 43).2.1 (F_Mo 43).2.2.1 ∈ sw_tb := tb_mem 1034 (by decide +kernel) (by decide +kernel)
theorem zwf_Mo_104 : Cond.fieldLink R_Mo 104 R_Mo (F_Mo 49).2.1 (F_Mo 49).2.2.1 ∈ sw_tb := tb_mem 1040 (by decide +kernel) (by decide +kernel)
theorem zwf_Mo_107 : Cond.fieldLink R_Mo 107 R_Mo (F_Mo 50).2.1 (F_Mo 50).2.2.1 ∈ sw_tb := tb_mem 1041 (by decide +kernel) (by decide +kernel)
theorem zwf_Mo_110 : Cond.fieldLink R_Mo 110 R_Mo (F_Mo 51).2.1 (F_Mo 51).2.2.1 ∈ sw_tb := tb_mem 1042 (by decide +kernel) (by decide +kernel)
theorem zwf_Mo_28 : Cond.fieldLink R_Mo 28 R_Mo (F_Mo 2).2.1 (F_Mo 2).2.2.1 ∈ sw_tb := tb_mem 993 (by decide +kernel) (by decide +kernel)
theorem zwf_Mo_31 : Cond.fieldLink R_Mo 31 R_Mo (F_Mo 3).2.1 (F_Mo 3).2.2.1 ∈ sw_tb := tb_mem 994 (by decide +kernel) (by decide +kernel)
theorem zwf_Mo_34 : Cond.fieldLink R_Mo 34 R_Mo (F_Mo 4).2.1 (F_Mo 4).2.2.1 ∈ sw_tb := tb_mem 995 (by decide +kernel) (by decide +kernel)
theorem zwf_Mo_38 : Cond.fieldLink R_Mo 38 R_Mo (F_Mo 5).2.1 (F_Mo 5).2.2.1 ∈ sw_tb := tb_mem 996 (by decide +kernel) (by decide +kernel)
theorem zwf_Mo_41 : Cond.fieldLink R_Mo 41 R_Mo (F_Mo 7).2.1 (F_Mo 7).2.2.1 ∈ sw_tb := tb_mem 998 (by decide +kernel) (by decide +kernel)
theorem zwf_Mo_45 : Cond.fieldLink R_Mo 45 R_Mo (F_Mo 11).2.1 (F_Mo 11).2.2.1 ∈ sw_tb := tb_mem 1002 (by decide +kernel) (by decide +kernel)
theorem zwf_Mo_48 : Cond.fieldLink R_Mo 48 R_Mo (F_Mo 12).2.1 (F_Mo 12).2.2.1 ∈ sw_tb := tb_mem 1003 (by decide +kernel) (by decide +kernel)
theorem zwf_Mo_51 : Cond.fieldLink R_Mo 51 R_Mo (F_Mo 14).2.1 (F_Mo 14).2.2.1 ∈ sw_tb := tb_mem 1005 (by decide +kernel) (by decide +kernel)
theorem zwf_Mo_54 : Cond.fieldLink R_Mo 54 R_Mo (F_Mo 15).2.1 (F_Mo 15).2.2.1 ∈ sw_tb := tb_mem 1006 (by decide +kernel) (by decide +kernel)
theorem zwf_Mo_57 : Cond.fieldLink R_Mo 57 R_Mo (F_Mo 16).2.1 (F_Mo 16).2.2.1 ∈ sw_tb := tb_mem 1007 (by decide +kernel) (by decide +kernel)
theorem zwf_Mo_60 : Cond.fieldLink R_Mo 60 R_Mo (F_Mo 17).2.1 (F_Mo 17).2.2.1 ∈ sw_tb := tb_mem 1008 (by decide +kernel) (by decide +kernel)
theorem zwf_Mo_63 : Cond.fieldLink R_Mo 63 R_Mo (F_Mo 26).2.1 (F_Mo 26).2.2.1 ∈ sw_tb := tb_mem 1017 (by decide +kernel) (by decide +kernel)
theorem zwf_Mo_66 : Cond.fieldLink R_Mo 66 R_Mo (F_Mo 30).2.1 (F_Mo 30).2.2.1 ∈ sw_tb := tb_mem 1021 (by decide +kernel) (by decide +kernel)
theorem zwf_Mo_69 : Cond.fieldLink R_Mo 69 R_Mo (F_Mo 31).2.1 (F_Mo 31).2.2.1 ∈ sw_tb := tb_mem 1022 (by decide +kernel) (by decide +kernel)
theorem zwf_Mo_7 : Cond.fieldLink R_Mo 7 R_Mo (F_Mo 1).2.1 (F_Mo 1).2.2.1 ∈ sw_tb := tb_mem 992 (by decide +kernel) (by decide +kernel)
theorem zwf_Mo_72 : Cond.fieldLink R_Mo 72 R_Mo (F_Mo 32).2.1 (F_Mo 32).2.2.1 ∈ sw_tb := tb_mem 1023 (by decide +kernel) (by decide +kernel)
theorem zwf_Mo_75 : Cond.fieldLink R_Mo 75 R_Mo (F_Mo 34).2.1 (F_Mo 34).2.2.1 ∈ sw_tb := tb_mem 1025 (by decide +kernel) (by decide +kernel)
theorem zwf_Mo_78 : Cond.fieldLink R_Mo 78 R_Mo (F_Mo 35).2.1 (F_Mo 35).2.2.1 ∈ sw_tb := tb_mem 1026 (by decide +kernel) (by decide +kernel)
theorem zwf_Mo_82 : Cond.fieldLink R_Mo 82 R_Mo (F_Mo 36).2.1 (F_Mo 36).2.2.1 ∈ sw_tb := tb_mem 1027 (by decide +kernel) (by decide +kernel)
theorem zwf_Mo_85 : Cond.fieldLink R_Mo 85 R_Mo (F_Mo 38).2.1 (F_Mo 38).2.2.1 ∈ sw_tb := tb_mem 1029 (by decide +kernel) (by decide +kernel)
theorem zwf_Mo_88 : Cond.fieldLink R_Mo 88 R_Mo (F_Mo 39).2.1 (F_Mo 39).2.2.1 ∈ sw_tb := tb_mem 1030 (by decide +kernel) (by decide +kernel)
theorem zwf_Mo_91 : Cond.fieldLink R_Mo 91 R_Mo (F_Mo 40).2.1 (F_Mo 40).2.2.1 ∈ sw_tb := tb_mem 1031 (by decide +kernel) (by decide +kernel)
theorem zwf_Mo_94 : Cond.fieldLink R_Mo 94 R_Mo (F_Mo 41).2.1 (F_Mo 41).2.2.1 ∈ sw_tb := tb_mem 1032 (by decide +kernel) (by decide +kernel)
theorem zwf_Mo_97 : Cond.fieldLink R_Mo 97 R_Mo (F_Mo 42).2.1 (F_Mo 42).2.2.1 ∈ sw_tb := tb_mem 1033 (by decide +kernel) (by decide +kernel)
theorem zwf_Pl_15 : Cond.fieldLink R_Pl 15 R_Pl (F_Pl 2).2.1 (F_Pl 2).2.2.1 ∈ sw_tb := tb_mem 40 (by decide +kernel) (by decide +kernel)
theorem zwf_Pl_18 : Cond.fieldLink R_Pl 18 R_Pl (F_Pl 3).2.1 (F_Pl 3).2.2.1 ∈ sw_tb := tb_mem 43 (by decide +kernel) (by decide +kernel)
theorem zwf_Pl_21 : Cond.fieldLink R_Pl 21 R_Pl (F_Pl 4).2.1 (F_Pl 4).2.2.1 ∈ sw_tb := tb_mem 47 (by decide +kernel) (by decide +kernel)
theorem zwf_Pl_24 : Cond.fieldLink R_Pl 24 R_Pl (F_Pl 6).2.1 (F_Pl 6).2.2.1 ∈ sw_tb := tb_mem 53 (by decide +kernel) (by decide +kernel)
theorem zwf_Pl_27 : Cond.fieldLink R_Pl 27 R_Pl (F_Pl 7).2.1 (F_Pl 7).2.2.1 ∈ sw_tb := tb_mem 55 (by decide +kernel) (by decide +kernel)
theorem zwf_Pl_30 : Cond.fieldLink R_Pl 30 R_Pl (F_Pl 8).2.1 (F_Pl 8).2.2.1 ∈ sw_tb := tb_mem 57 (by decide +kernel) (by decide +kernel)
theorem zwf_Pl_35 : Cond.fieldLink R_Pl 35 R_Pl (F_Pl 10).2.1 (F_Pl 10).2.2.1 ∈ sw_tb := tb_mem 61 (by decide +kernel) (by decide +kernel)
theorem zwf_Pl_39 : Cond.fieldLink R_Pl 39 R_Pl (F_Pl 11).2.1 (F_Pl 11).2.2.1 ∈ sw_tb := tb_mem 62 (by decide +kernel) (by decide +kernel)
theorem zwf_Pl_9 : Cond.fieldLink R_Pl 9 R_Pl (F_Pl 1).2.1 (F_Pl 1).2.2.1 ∈ sw_tb := tb_mem 36 (by decide +kernel) (by decide +kernel)
theorem zwf_Re_20 : Cond.fieldLink R_Re 20 R_Re (F_Re 3).2.1 (F_Re 3).2.2.1 ∈ sw_tb := tb_mem 175 (by decide +kernel) (by decide +kernel)
theorem zwf_Re_24 : Cond.fieldLink R_Re 24 R_Re (F_Re 2).2.1 (F_Re 2).2.2.1 ∈ sw_tb := tb_mem 173 (by decide +kernel) (by decide +kernel)
theorem zwf_Re_9 : Cond.fieldLink R_Re 9 R_Re (F_Re 1).2.1 (F_Re 1).2.2.1 ∈ sw_tb := tb_mem 171 (by decide +kernel) (by decide +kernel)
theorem zwf_Rk_9 : Cond.fieldLink R_Rk 9 R_Rk (F_Rk 1).2.1 (F_Rk 1).2.2.1 ∈ sw_tb := tb_mem 216 (by decide +kernel) (by decide +kernel)
theorem zwf_Te_15 : Cond.fieldLink R_Te 15 R_Te (F_Te 2).2.1 (F_Te 2).2.2.1 ∈ sw_tb := tb_mem 132 (by decide +kernel) (by decide +kernel)
theorem zwf_Te_18 : Cond.fieldLink R_Te 18 R_Te (F_Te 3).2.1 (F_Te 3).2.2.1 ∈ sw_tb := tb_mem 136 (by decide +kernel) (by decide +kernel)
theorem zwf_Te_21 : Cond.fieldLink R_Te 21 R_Te (F_Te 4).2.1 (F_Te 4).2.2.1 ∈ sw_tb := tb_mem 139 (by decide +kernel) (by decide +kernel)
theorem zwf_Te_24 : Cond.fieldLink R_Te 24 R_Te (F_Te 5).2.1 (F_Te 5).2.2.1 ∈ sw_tb := tb_mem 142 (by decide +kernel) (by decide +kernel)
theorem zwf_Te_33 : Cond.fieldLink R_Te 33 R_Te (F_Te 7).2.1 (F_Te 7).2.2.1 ∈ sw_tb := tb_mem 149 (by decide +kernel) (by decide +kernel)
theorem zwf_Te_9 : Cond.fieldLink R_Te 9 R_Te (F_Te 1).2.1 (F_Te 1).2.2.1 ∈ sw_tb := tb_mem 128 (by decide +kernel) (by decide +kernel)
theorem zwi_Rk : Cond.initialized R_Rk ∈ sw_tb := tb_mem 8 (by decide +kernel) (by decide +kernel)
theorem zwi_Te : Cond.initialized R_Te ∈ sw_tb := tb_mem 5 (by decide +kernel) (by decide +kernel)
theorem zwl_Ju_9 : Cond.classLink R_Ju 9 R_Rk ∈ sw_tb := tb_mem 207 (by decide +kernel) (by decide +kernel)
theorem zwl_Pl_33 : Cond.classLink R_Pl 33 R_Te ∈ sw_tb := tb_mem 32 (by decide +kernel) (by decide +kernel)
theorem zwl_Re_15 : Cond.classLink R_Re 15 R_Te ∈ sw_tb := tb_mem 115 (by decide +kernel) (by decide +kernel)
theorem zwm_Re_17 : Cond.methodLink R_Re 17 yTe_init ∈ sw_tb := tb_mem 117 (by decide +kernel) (by decide +kernel)
theorem zwm_Te_27 : Cond.methodLink R_Te 27 Lib.Math.max.name ∈ sw_tb := tb_mem 121 (by decide +kernel) (by decide +kernel)
theorem zwn_Rk : Cond.instantiable R_Rk 2 ∈ sw_tb := tb_mem 208 (by decide +kernel) (by decide +kernel)
theorem zwn_Te : Cond.instantiable R_Te 8 ∈ sw_tb := tb_mem 116 (by decide +kernel) (by decide +kernel)
theorem zwo_Hi_5 : Cond.methodLink R_Hi 5 objectInit ∈ sw_tb := tb_mem 97 (by decide +kernel) (by decide +kernel)
theorem zwo_Ju_3 : Cond.methodLink R_Ju 3 objectInit ∈ sw_tb := tb_mem 206 (by decide +kernel) (by decide +kernel)
theorem zwo_Mo_22 : Cond.methodLink R_Mo 22 objectInit ∈ sw_tb := tb_mem 989 (by decide +kernel) (by decide +kernel)
theorem zwo_Pl_3 : Cond.methodLink R_Pl 3 objectInit ∈ sw_tb := tb_mem 31 (by decide +kernel) (by decide +kernel)
theorem zwo_Re_3 : Cond.methodLink R_Re 3 objectInit ∈ sw_tb := tb_mem 114 (by decide +kernel) (by decide +kernel)
theorem zwo_Rk_3 : Cond.methodLink R_Rk 3 objectInit ∈ sw_tb := tb_mem 212 (by decide +kernel) (by decide +kernel)
theorem zwo_Te_3 : Cond.methodLink R_Te 3 objectInit ∈ sw_tb := tb_mem 120 (by decide +kernel) (by decide +kernel)
theorem zwv_Rk : Cond.instanceMethod yRk_init ∈ sw_tb := tb_mem 210 (by decide +kernel) (by decide +kernel)
theorem zwv_Te : Cond.instanceMethod yTe_init ∈ sw_tb := tb_mem 118 (by decide +kernel) (by decide +kernel)
theorem dHi_init_0 : decode prog_2_method_1_code 0 = .ok (.aload_n 0, 1) := by decide +kernel
theorem dHi_init_1 : decode prog_2_method_1_code 1 = .ok (.invokespecial 5, 3) := by decide +kernel
theorem dHi_init_4 : decode prog_2_method_1_code 4 = .ok (.aload_n 0, 1) := by decide +kernel
theorem dHi_init_5 : decode prog_2_method_1_code 5 = .ok (.sipush 256, 3) := by decide +kernel
theorem dHi_init_8 : decode prog_2_method_1_code 8 = .ok (.newarray .int, 2) := by decide +kernel
theorem dHi_init_10 : decode prog_2_method_1_code 10 = .ok (.putfield 11, 3) := by decide +kernel
theorem dHi_init_13 : decode prog_2_method_1_code 13 = .ok (.return_, 1) := by decide +kernel
theorem dRk_init_0 : decode prog_6_method_1_code 0 = .ok (.aload_n 0, 1) := by decide +kernel
theorem dRk_init_1 : decode prog_6_method_1_code 1 = .ok (.invokespecial 3, 3) := by decide +kernel
theorem dRk_init_4 : decode prog_6_method_1_code 4 = .ok (.aload_n 0, 1) := by decide +kernel
theorem dRk_init_5 : decode prog_6_method_1_code 5 = .ok (.bipush 40, 2) := by decide +kernel
theorem dRk_init_7 : decode prog_6_method_1_code 7 = .ok (.newarray .long, 2) := by decide +kernel
theorem dRk_init_9 : decode prog_6_method_1_code 9 = .ok (.putfield 9, 3) := by decide +kernel
theorem dRk_init_12 : decode prog_6_method_1_code 12 = .ok (.return_, 1) := by decide +kernel
theorem dTe_init_0 : decode prog_8_method_1_code 0 = .ok (.aload_n 0, 1) := by decide +kernel
theorem dTe_init_1 : decode prog_8_method_1_code 1 = .ok (.invokespecial 3, 3) := by decide +kernel
theorem dTe_init_4 : decode prog_8_method_1_code 4 = .ok (.aload_n 0, 1) := by decide +kernel
theorem dTe_init_5 : decode prog_8_method_1_code 5 = .ok (.bipush 12, 2) := by decide +kernel
theorem dTe_init_7 : decode prog_8_method_1_code 7 = .ok (.newarray .int, 2) := by decide +kernel
theorem dTe_init_9 : decode prog_8_method_1_code 9 = .ok (.putfield 9, 3) := by decide +kernel
theorem dTe_init_12 : decode prog_8_method_1_code 12 = .ok (.aload_n 0, 1) := by decide +kernel
theorem dTe_init_13 : decode prog_8_method_1_code 13 = .ok (.bipush 12, 2) := by decide +kernel
theorem dTe_init_15 : decode prog_8_method_1_code 15 = .ok (.newarray .int, 2) := by decide +kernel
theorem dTe_init_17 : decode prog_8_method_1_code 17 = .ok (.putfield 15, 3) := by decide +kernel
theorem dTe_init_20 : decode prog_8_method_1_code 20 = .ok (.aload_n 0, 1) := by decide +kernel
theorem dTe_init_21 : decode prog_8_method_1_code 21 = .ok (.bipush 12, 2) := by decide +kernel
theorem dTe_init_23 : decode prog_8_method_1_code 23 = .ok (.newarray .int, 2) := by decide +kernel
theorem dTe_init_25 : decode prog_8_method_1_code 25 = .ok (.putfield 18, 3) := by decide +kernel
theorem dTe_init_28 : decode prog_8_method_1_code 28 = .ok (.aload_n 0, 1) := by decide +kernel
theorem dTe_init_29 : decode prog_8_method_1_code 29 = .ok (.bipush 12, 2) := by decide +kernel
theorem dTe_init_31 : decode prog_8_method_1_code 31 = .ok (.newarray .int, 2) := by decide +kernel
theorem dTe_init_33 : decode prog_8_method_1_code 33 = .ok (.putfield 21, 3) := by decide +kernel
theorem dTe_init_36 : decode prog_8_method_1_code 36 = .ok (.aload_n 0, 1) := by decide +kernel
theorem dTe_init_37 : decode prog_8_method_1_code 37 = .ok (.bipush 12, 2) := by decide +kernel
theorem dTe_init_39 : decode prog_8_method_1_code 39 = .ok (.newarray .int, 2) := by decide +kernel
theorem dTe_init_41 : decode prog_8_method_1_code 41 = .ok (.putfield 24, 3) := by decide +kernel
theorem dTe_init_44 : decode prog_8_method_1_code 44 = .ok (.aload_n 0, 1) := by decide +kernel
theorem dTe_init_45 : decode prog_8_method_1_code 45 = .ok (.iconst 0, 1) := by decide +kernel
theorem dTe_init_46 : decode prog_8_method_1_code 46 = .ok (.iload_n 1, 1) := by decide +kernel
theorem dTe_init_47 : decode prog_8_method_1_code 47 = .ok (.invokestatic 27, 3) := by decide +kernel
theorem dTe_init_50 : decode prog_8_method_1_code 50 = .ok (.newarray .int, 2) := by decide +kernel
theorem dTe_init_52 : decode prog_8_method_1_code 52 = .ok (.putfield 33, 3) := by decide +kernel
theorem dTe_init_55 : decode prog_8_method_1_code 55 = .ok (.return_, 1) := by decide +kernel
theorem dPl_init_0 : decode prog_4_method_1_code 0 = .ok (.aload_n 0, 1) := by decide +kernel
theorem dPl_init_1 : decode prog_4_method_1_code 1 = .ok (.invokespecial 3, 3) := by decide +kernel
theorem dPl_init_4 : decode prog_4_method_1_code 4 = .ok (.aload_n 0, 1) := by decide +kernel
theorem dPl_init_5 : decode prog_4_method_1_code 5 = .ok (.bipush 7, 2) := by decide +kernel
theorem dPl_init_7 : decode prog_4_method_1_code 7 = .ok (.newarray .int, 2) := by decide +kernel
theorem dPl_init_9 : decode prog_4_method_1_code 9 = .ok (.putfield 9, 3) := by decide +kernel
theorem dPl_init_12 : decode prog_4_method_1_code 12 = .ok (.aload_n 0, 1) := by decide +kernel
theorem dPl_init_13 : decode prog_4_method_1_code 13 = .ok (.bipush 7, 2) := by decide +kernel
theorem dPl_init_15 : decode prog_4_method_1_code 15 = .ok (.newarray .int, 2) := by decide +kernel
theorem dPl_init_17 : decode prog_4_method_1_code 17 = .ok (.putfield 15, 3) := by decide +kernel
theorem dPl_init_20 : decode prog_4_method_1_code 20 = .ok (.aload_n 0, 1) := by decide +kernel
theorem dPl_init_21 : decode prog_4_method_1_code 21 = .ok (.bipush 7, 2) := by decide +kernel
theorem dPl_init_23 : decode prog_4_method_1_code 23 = .ok (.newarray .int, 2) := by decide +kernel
theorem dPl_init_25 : decode prog_4_method_1_code 25 = .ok (.putfield 18, 3) := by decide +kernel
theorem dPl_init_28 : decode prog_4_method_1_code 28 = .ok (.aload_n 0, 1) := by decide +kernel
theorem dPl_init_29 : decode prog_4_method_1_code 29 = .ok (.iconst 4, 1) := by decide +kernel
theorem dPl_init_30 : decode prog_4_method_1_code 30 = .ok (.newarray .int, 2) := by decide +kernel
theorem dPl_init_32 : decode prog_4_method_1_code 32 = .ok (.putfield 21, 3) := by decide +kernel
theorem dPl_init_35 : decode prog_4_method_1_code 35 = .ok (.aload_n 0, 1) := by decide +kernel
theorem dPl_init_36 : decode prog_4_method_1_code 36 = .ok (.bipush 6, 2) := by decide +kernel
theorem dPl_init_38 : decode prog_4_method_1_code 38 = .ok (.newarray .int, 2) := by decide +kernel
theorem dPl_init_40 : decode prog_4_method_1_code 40 = .ok (.putfield 24, 3) := by decide +kernel
theorem dPl_init_43 : decode prog_4_method_1_code 43 = .ok (.aload_n 0, 1) := by decide +kernel
theorem dPl_init_44 : decode prog_4_method_1_code 44 = .ok (.bipush 6, 2) := by decide +kernel
theorem dPl_init_46 : decode prog_4_method_1_code 46 = .ok (.newarray .int, 2) := by decide +kernel
theorem dPl_init_48 : decode prog_4_method_1_code 48 = .ok (.putfield 27, 3) := by decide +kernel
theorem dPl_init_51 : decode prog_4_method_1_code 51 = .ok (.aload_n 0, 1) := by decide +kernel
theorem dPl_init_52 : decode prog_4_method_1_code 52 = .ok (.bipush 6, 2) := by decide +kernel
theorem dPl_init_54 : decode prog_4_method_1_code 54 = .ok (.newarray .int, 2) := by decide +kernel
theorem dPl_init_56 : decode prog_4_method_1_code 56 = .ok (.putfield 30, 3) := by decide +kernel
theorem dPl_init_59 : decode prog_4_method_1_code 59 = .ok (.aload_n 0, 1) := by decide +kernel
theorem dPl_init_60 : decode prog_4_method_1_code 60 = .ok (.bipush 6, 2) := by decide +kernel
theorem dPl_init_62 : decode prog_4_method_1_code 62 = .ok (.anewarray 33, 3) := by decide +kernel
theorem dPl_init_65 : decode prog_4_method_1_code 65 = .ok (.putfield 35, 3) := by decide +kernel
theorem dPl_init_68 : decode prog_4_method_1_code 68 = .ok (.aload_n 0, 1) := by decide +kernel
theorem dPl_init_69 : decode prog_4_method_1_code 69 = .ok (.getfield 21, 3) := by decide +kernel
theorem dPl_init_72 : decode prog_4_method_1_code 72 = .ok (.iconst 1, 1) := by decide +kernel
theorem dPl_init_73 : decode prog_4_method_1_code 73 = .ok (.iconst 1, 1) := by decide +kernel
theorem dPl_init_74 : decode prog_4_method_1_code 74 = .ok (.iastore, 1) := by decide +kernel
theorem dPl_init_75 : decode prog_4_method_1_code 75 = .ok (.aload_n 0, 1) := by decide +kernel
theorem dPl_init_76 : decode prog_4_method_1_code 76 = .ok (.iconst (-1), 1) := by decide +kernel
theorem dPl_init_77 : decode prog_4_method_1_code 77 = .ok (.putfield 39, 3) := by decide +kernel
theorem dPl_init_80 : decode prog_4_method_1_code 80 = .ok (.return_, 1) := by decide +kernel
theorem dJu_init_0 : decode prog_3_method_1_code 0 = .ok (.aload_n 0, 1) := by decide +kernel
theorem dJu_init_1 : decode prog_3_method_1_code 1 = .ok (.invokespecial 3, 3) := by decide +kernel
theorem dJu_init_4 : decode prog_3_method_1_code 4 = .ok (.aload_n 0, 1) := by decide +kernel
theorem dJu_init_5 : decode prog_3_method_1_code 5 = .ok (.new 9, 3) := by decide +kernel
theorem dJu_init_8 : decode prog_3_method_1_code 8 = .ok (.dup, 1) := by decide +kernel
theorem dJu_init_9 : decode prog_3_method_1_code 9 = .ok (.invokespecial 11, 3) := by decide +kernel
theorem dJu_init_12 : decode prog_3_method_1_code 12 = .ok (.putfield 12, 3) := by decide +kernel
theorem dJu_init_15 : decode prog_3_method_1_code 15 = .ok (.aload_n 0, 1) := by decide +kernel
theorem dJu_init_16 : decode prog_3_method_1_code 16 = .ok (.bipush 8, 2) := by decide +kernel
theorem dJu_init_18 : decode prog_3_method_1_code 18 = .ok (.newarray .int, 2) := by decide +kernel
theorem dJu_init_20 : decode prog_3_method_1_code 20 = .ok (.putfield 18, 3) := by decide +kernel
theorem dJu_init_23 : decode prog_3_method_1_code 23 = .ok (.return_, 1) := by decide +kernel
theorem dRe_init_0 : decode prog_5_method_1_code 0 = .ok (.aload_n 0, 1) := by decide +kernel
theorem dRe_init_1 : decode prog_5_method_1_code 1 = .ok (.invokespecial 3, 3) := by decide +kernel
theorem dRe_init_4 : decode prog_5_method_1_code 4 = .ok (.aload_n 0, 1) := by decide +kernel
theorem dRe_init_5 : decode prog_5_method_1_code 5 = .ok (.sipush 400, 3) := by decide +kernel
theorem dRe_init_8 : decode prog_5_method_1_code 8 = .ok (.newarray .int, 2) := by decide +kernel
theorem dRe_init_10 : decode prog_5_method_1_code 10 = .ok (.putfield 9, 3) := by decide +kernel
theorem dRe_init_13 : decode prog_5_method_1_code 13 = .ok (.aload_n 0, 1) := by decide +kernel
theorem dRe_init_14 : decode prog_5_method_1_code 14 = .ok (.new 15, 3) := by decide +kernel
theorem dRe_init_17 : decode prog_5_method_1_code 17 = .ok (.dup, 1) := by decide +kernel
theorem dRe_init_18 : decode prog_5_method_1_code 18 = .ok (.sipush 512, 3) := by decide +kernel
theorem dRe_init_21 : decode prog_5_method_1_code 21 = .ok (.invokespecial 17, 3) := by decide +kernel
theorem dRe_init_24 : decode prog_5_method_1_code 24 = .ok (.putfield 20, 3) := by decide +kernel
theorem dRe_init_27 : decode prog_5_method_1_code 27 = .ok (.aload_n 0, 1) := by decide +kernel
theorem dRe_init_28 : decode prog_5_method_1_code 28 = .ok (.iconst (-1), 1) := by decide +kernel
theorem dRe_init_29 : decode prog_5_method_1_code 29 = .ok (.putfield 24, 3) := by decide +kernel
theorem dRe_init_32 : decode prog_5_method_1_code 32 = .ok (.return_, 1) := by decide +kernel
theorem wd_0 {i v : Int32} (hi : i.toNatClampNeg = 0) (hv : vp_nar .byte v = wdl.getD 0 0) : upd (fun _ => 0) i.toNatClampNeg (vp_nar .byte v) = wd 1 := by
  rw [hi, hv]
  funext j
  unfold upd wd
  by_cases h : j = 0
  · subst h; simp
  · rw [if_neg h, if_neg (by omega)]
def cf_Hi (Γ : sw_C) (h0 : Nat) (u : (Nat → Nat)) : va_W := [(h0, .inr (0, [.int 0, .int 0, .ref (u 1)])), ((u 1), .inl (Γ.2.1 0, 256, .inl (fun _ => 0)))]
set_option maxHeartbeats 4000000 in
set_option maxRecDepth 100000 in
theorem cHi_init (l : Launch) {Γ : sw_C} {A : Nat → Prop} {Θ : State → Prop} {ws : va_W} {h0 : Nat} (hΘ : sk_good Θ) : Met l yHi_init (Cond.code yHi_init prog_2_method_1_code 1 none :: sw_tb) { frames := 1, cells := 1, slots := 256, locals := 20 } (va_Pc [.ref h0] (sk_V Γ A Θ ws [(h0, .inr (0, [.int 0, .int 0, .null]))])) (va_Qv (fun (_ : (Nat → Nat)) => True) (fun u t => sk_W Γ A ws (cf_Hi Γ h0 u) t) A) 1 (256) A := by
  refine Met.ofW (cc := prog_2_method_1_code) (maxL := 1) (ret := none) (by decide) rfl ?_
  intro p e s m args below meth c s₁ B hml hv
  obtain ⟨rfl, hv⟩ := hv
  have S : CallFix p m c prog_2_method_1_code 1 s _ (Cond.code yHi_init prog_2_method_1_code 1 none :: sw_tb) R_Hi := ⟨B.exec, B.bytes, hml, findClass_of_methodNamed B.named, atoms_spec (ws := (Cond.code yHi_init prog_2_method_1_code 1 none :: sw_tb)) B.pre⟩
  have hr := B.returns
  have hlk := B.notSynchronized
  have hin : meth.name = "<init>" := (name_of_methodNamed B.named B.method).1
  have hw := sk_begin hv
  have hl := lv_entry [.ref h0] (n := 1) (Nat.le_of_ble_eq_true rfl)
  rw [lg_entry_eq]
  generalize (lg_sl [.ref h0] ++ List.replicate (1 - (lg_sl [.ref h0]).length) Slot.unset).toArray = ls at hl ⊢
  have hl : lv_has ls 1 [(0, .ref h0)] := hl
  refine lv_aload_n S.1 S.2.1 dHi_init_0 rfl (lv_at hl 0 rfl) ?_
  refine sk_obj (rest := []) S hl.1 zwo_Hi_5 (Nat.le_of_ble_eq_true rfl) (Nat.le_of_ble_eq_true rfl) dHi_init_1 ?_
  refine lv_aload_n S.1 S.2.1 dHi_init_4 rfl (lv_at hl 0 rfl) ?_
  refine lv_sipush (v := (256 : Int32)) S.1 S.2.1 dHi_init_5 (by decide) ?_
  refine sk_newi (n := 256) S hw zwa_0 (by decide) (by decide) (Nat.le_of_ble_eq_true rfl) (Nat.le_of_ble_eq_true rfl) (Nat.le_of_ble_eq_true rfl) dHi_init_8 (fun q1 H hw => ?_)
  have hw : sk_S Γ A Θ ws [(h0, .inr (0, [.int 0, .int 0, .null])), (q1, .inl (Γ.2.1 0, 256, .inl (fun _ => 0)))] s H _ := hw
  refine sk_putF (x' := [(h0, .inr (0, [.int 0, .int 0, .ref q1])), (q1, .inl (Γ.2.1 0, 256, .inl (fun _ => 0)))]) S hw i_Hi t_Hi t_Hi_ok n_Hi hin 0 rfl rfl 2 (by decide) zwf_Hi_11 rfl rfl rfl rfl rfl (Nat.le_of_ble_eq_true rfl) rfl dHi_init_10 (fun H locs hw => ?_)
  exact sk_vret (u := (fun j => ([0, q1] : List Nat).getD j 0)) (cf := cf_Hi Γ h0) (pst := fun _ => True) S hr hlk hw trivial rfl dHi_init_13
def cf_Rk (Γ : sw_C) (h0 : Nat) (u : (Nat → Nat)) : va_W := [(h0, .inr (4, [.int 0, .ref (u 1)])), ((u 1), .inl (Γ.2.1 3, 40, .inr (.inl (fun _ => 0))))]
set_option maxHeartbeats 4000000 in
set_option maxRecDepth 100000 in
theorem cRk_init (l : Launch) {Γ : sw_C} {A : Nat → Prop} {Θ : State → Prop} {ws : va_W} {h0 : Nat} (hΘ : sk_good Θ) : Met l yRk_init (Cond.code yRk_init prog_6_method_1_code 1 none :: sw_tb) { frames := 1, cells := 1, slots := 40, locals := 20 } (va_Pc [.ref h0] (sk_V Γ A Θ ws [(h0, .inr (4, [.int 0, .null]))])) (va_Qv (fun (_ : (Nat → Nat)) => True) (fun u t => sk_W Γ A ws (cf_Rk Γ h0 u) t) A) 1 (40) A := by
  refine Met.ofW (cc := prog_6_method_1_code) (maxL := 1) (ret := none) (by decide) rfl ?_
  intro p e s m args below meth c s₁ B hml hv
  obtain ⟨rfl, hv⟩ := hv
  have S : CallFix p m c prog_6_method_1_code 1 s _ (Cond.code yRk_init prog_6_method_1_code 1 none :: sw_tb) R_Rk := ⟨B.exec, B.bytes, hml, findClass_of_methodNamed B.named, atoms_spec (ws := (Cond.code yRk_init prog_6_method_1_code 1 none :: sw_tb)) B.pre⟩
  have hr := B.returns
  have hlk := B.notSynchronized
  have hin : meth.name = "<init>" := (name_of_methodNamed B.named B.method).1
  have hw := sk_begin hv
  have hl := lv_entry [.ref h0] (n := 1) (Nat.le_of_ble_eq_true rfl)
  rw [lg_entry_eq]
  generalize (lg_sl [.ref h0] ++ List.replicate (1 - (lg_sl [.ref h0]).length) Slot.unset).toArray = ls at hl ⊢
  have hl : lv_has ls 1 [(0, .ref h0)] := hl
  refine lv_aload_n S.1 S.2.1 dRk_init_0 rfl (lv_at hl 0 rfl) ?_
  refine sk_obj (rest := []) S hl.1 zwo_Rk_3 (Nat.le_of_ble_eq_true rfl) (Nat.le_of_ble_eq_true rfl) dRk_init_1 ?_
  refine lv_aload_n S.1 S.2.1 dRk_init_4 rfl (lv_at hl 0 rfl) ?_
  refine lv_bipush (v := (40 : Int32)) S.1 S.2.1 dRk_init_5 (by decide) ?_
  refine sk_newl (n := 40) S hw zwa_3 (by decide) (by decide) (Nat.le_of_ble_eq_true rfl) (Nat.le_of_ble_eq_true rfl) (Nat.le_of_ble_eq_true rfl) dRk_init_7 (fun q1 H hw => ?_)
  have hw : sk_S Γ A Θ ws [(h0, .inr (4, [.int 0, .null])), (q1, .inl (Γ.2.1 3, 40, .inr (.inl (fun _ => 0))))] s H _ := hw
  refine sk_putF (x' := [(h0, .inr (4, [.int 0, .ref q1])), (q1, .inl (Γ.2.1 3, 40, .inr (.inl (fun _ => 0))))]) S hw i_Rk t_Rk t_Rk_ok n_Rk hin 0 rfl rfl 1 (by decide) zwf_Rk_9 rfl rfl rfl rfl rfl (Nat.le_of_ble_eq_true rfl) rfl dRk_init_9 (fun H locs hw => ?_)
  exact sk_vret (u := (fun j => ([0, q1] : List Nat).getD j 0)) (cf := cf_Rk Γ h0) (pst := fun _ => True) S hr hlk hw trivial rfl dRk_init_12
def cf_Te (Γ : sw_C) (h0 : Nat) (u : (Nat → Nat)) (n : Nat) : va_W := [(h0, .inr (6, [.int 0, .ref (u 1), .ref (u 2), .ref (u 3), .ref (u 4), .ref (u 5), .int 0, .ref (u 6)])), ((u 1), .inl (Γ.2.1 0, 12, .inl (fun _ => 0))), ((u 2), .inl (Γ.2.1 0, 12, .inl (fun _ => 0))), ((u 3), .inl (Γ.2.1 0, 12, .inl (fun _ => 0))), ((u 4), .inl (Γ.2.1 0, 12, .inl (fun _ => 0))), ((u 5), .inl (Γ.2.1 0, 12, .inl (fun _ => 0))), ((u 6), .inl (Γ.2.1 0, n, .inl (fun _ => 0)))]
set_option maxHeartbeats 4000000 in
set_option maxRecDepth 100000 in
theorem cTe_init (l : Launch) {Γ : sw_C} {A : Nat → Prop} {Θ : State → Prop} {ws : va_W} {h0 : Nat} (hΘ : sk_good Θ) {a1 : Int32} {n : Nat} (hn0 : ¬ jmax (0 : Int32) a1 < 0) (hn1 : (jmax (0 : Int32) a1).toNatClampNeg = n) (hn2 : n ≤ 1000) : Met l yTe_init (Cond.code yTe_init prog_8_method_1_code 2 none :: sw_tb) { frames := 1, cells := 6, slots := 60 + n, locals := 20 } (va_Pc [.ref h0, .int a1] (sk_V Γ A Θ ws [(h0, .inr (6, [.int 0, .null, .null, .null, .null, .null, .int 0, .null]))])) (va_Qv (fun (_ : (Nat → Nat)) => True) (fun u t => sk_W Γ A ws (cf_Te Γ h0 u n) t) A) 6 (60 + n) A := by
  refine Met.ofW (cc := prog_8_method_1_code) (maxL := 2) (ret := none) (by decide) rfl ?_
  intro p e s m args below meth c s₁ B hml hv
  obtain ⟨rfl, hv⟩ := hv
  have S : CallFix p m c prog_8_method_1_code 2 s _ (Cond.code yTe_init prog_8_method_1_code 2 none :: sw_tb) R_Te := ⟨B.exec, B.bytes, hml, findClass_of_methodNamed B.named, atoms_spec (ws := (Cond.code yTe_init prog_8_method_1_code 2 none :: sw_tb)) B.pre⟩
  have hr := B.returns
  have hlk := B.notSynchronized
  have hin : meth.name = "<init>" := (name_of_methodNamed B.named B.method).1
  have hw := sk_begin hv
  have hl := lv_entry [.ref h0, .int a1] (n := 2) (Nat.le_of_ble_eq_true rfl)
  rw [lg_entry_eq]
  generalize (lg_sl [.ref h0, .int a1] ++ List.replicate (2 - (lg_sl [.ref h0, .int a1]).length) Slot.unset).toArray = ls at hl ⊢
  have hl : lv_has ls 2 [(0, .ref h0), (1, .int a1)] := hl
  refine lv_aload_n S.1 S.2.1 dTe_init_0 rfl (lv_at hl 0 rfl) ?_
  refine sk_obj (rest := []) S hl.1 zwo_Te_3 (Nat.le_of_ble_eq_true rfl) (Nat.le_of_ble_eq_true rfl) dTe_init_1 ?_
  refine lv_aload_n S.1 S.2.1 dTe_init_4 rfl (lv_at hl 0 rfl) ?_
  refine lv_bipush (v := (12 : Int32)) S.1 S.2.1 dTe_init_5 (by decide) ?_
  refine sk_newi (n := 12) S hw zwa_0 (by decide) (by decide) (Nat.le_of_ble_eq_true rfl) (Nat.le_of_ble_eq_true rfl) (by show _ ≤ 60 + n; omega) dTe_init_7 (fun q1 H hw => ?_)
  have hw : sk_S Γ A Θ ws [(h0, .inr (6, [.int 0, .null, .null, .null, .null, .null, .int 0, .null])), (q1, .inl (Γ.2.1 0, 12, .inl (fun _ => 0)))] s H _ := hw
  refine sk_putF (x' := [(h0, .inr (6, [.int 0, .ref q1, .null, .null, .null, .null, .int 0, .null])), (q1, .inl (Γ.2.1 0, 12, .inl (fun _ => 0)))]) S hw i_Te t_Te t_Te_ok n_Te hin 0 rfl rfl 1 (by decide) zwf_Te_9 rfl rfl rfl rfl rfl (Nat.le_of_ble_eq_true rfl) rfl dTe_init_9 (fun H locs hw => ?_)
  refine lv_aload_n S.1 S.2.1 dTe_init_12 rfl (lv_at hl 0 rfl) ?_
  refine lv_bipush (v := (12 : Int32)) S.1 S.2.1 dTe_init_13 (by decide) ?_
  refine sk_newi (n := 12) S hw zwa_0 (by decide) (by decide) (Nat.le_of_ble_eq_true rfl) (Nat.le_of_ble_eq_true rfl) (by show _ ≤ 60 + n; omega) dTe_init_15 (fun q2 H hw => ?_)
  have hw : sk_S Γ A Θ ws [(h0, .inr (6, [.int 0, .ref q1, .null, .null, .null, .null, .int 0, .null])), (q1, .inl (Γ.2.1 0, 12, .inl (fun _ => 0))), (q2, .inl (Γ.2.1 0, 12, .inl (fun _ => 0)))] s H _ := hw
  refine sk_putF (x' := [(h0, .inr (6, [.int 0, .ref q1, .ref q2, .null, .null, .null, .int 0, .null])), (q1, .inl (Γ.2.1 0, 12, .inl (fun _ => 0))), (q2, .inl (Γ.2.1 0, 12, .inl (fun _ => 0)))]) S hw i_Te t_Te t_Te_ok n_Te hin 0 rfl rfl 2 (by decide) zwf_Te_15 rfl rfl rfl rfl rfl (Nat.le_of_ble_eq_true rfl) rfl dTe_init_17 (fun H locs hw => ?_)
  refine lv_aload_n S.1 S.2.1 dTe_init_20 rfl (lv_at hl 0 rfl) ?_
  refine lv_bipush (v := (12 : Int32)) S.1 S.2.1 dTe_init_21 (by decide) ?_
  refine sk_newi (n := 12) S hw zwa_0 (by decide) (by decide) (Nat.le_of_ble_eq_true rfl) (Nat.le_of_ble_eq_true rfl) (by show _ ≤ 60 + n; omega) dTe_init_23 (fun q3 H hw => ?_)
  have hw : sk_S Γ A Θ ws [(h0, .inr (6, [.int 0, .ref q1, .ref q2, .null, .null, .null, .int 0, .null])), (q1, .inl (Γ.2.1 0, 12, .inl (fun _ => 0))), (q2, .inl (Γ.2.1 0, 12, .inl (fun _ => 0))), (q3, .inl (Γ.2.1 0, 12, .inl (fun _ => 0)))] s H _ := hw
  refine sk_putF (x' := [(h0, .inr (6, [.int 0, .ref q1, .ref q2, .ref q3, .null, .null, .int 0, .null])), (q1, .inl (Γ.2.1 0, 12, .inl (fun _ => 0))), (q2, .inl (Γ.2.1 0, 12, .inl (fun _ => 0))), (q3, .inl (Γ.2.1 0, 12, .inl (fun _ => 0)))]) S hw i_Te t_Te t_Te_ok n_Te hin 0 rfl rfl 3 (by decide) zwf_Te_18 rfl rfl rfl rfl rfl (Nat.le_of_ble_eq_true rfl) rfl dTe_init_25 (fun H locs hw => ?_)
  refine lv_aload_n S.1 S.2.1 dTe_init_28 rfl (lv_at hl 0 rfl) ?_
  refine lv_bipush (v := (12 : Int32)) S.1 S.2.1 dTe_init_29 (by decide) ?_
  refine sk_newi (n := 12) S hw zwa_0 (by decide) (by decide) (Nat.le_of_ble_eq_true rfl) (Nat.le_of_ble_eq_true rfl) (by show _ ≤ 60 + n; omega) dTe_init_31 (fun q4 H hw => ?_)
  have hw : sk_S Γ A Θ ws [(h0, .inr (6, [.int 0, .ref q1, .ref q2, .ref q3, .null, .null, .int 0, .null])), (q1, .inl (Γ.2.1 0, 12, .inl (fun _ => 0))), (q2, .inl (Γ.2.1 0, 12, .inl (fun _ => 0))), (q3, .inl (Γ.2.1 0, 12, .inl (fun _ => 0))), (q4, .inl (Γ.2.1 0, 12, .inl (fun _ => 0)))] s H _ := hw
  refine sk_putF (x' := [(h0, .inr (6, [.int 0, .ref q1, .ref q2, .ref q3, .ref q4, .null, .int 0, .null])), (q1, .inl (Γ.2.1 0, 12, .inl (fun _ => 0))), (q2, .inl (Γ.2.1 0, 12, .inl (fun _ => 0))), (q3, .inl (Γ.2.1 0, 12, .inl (fun _ => 0))), (q4, .inl (Γ.2.1 0, 12, .inl (fun _ => 0)))]) S hw i_Te t_Te t_Te_ok n_Te hin 0 rfl rfl 4 (by decide) zwf_Te_21 rfl rfl rfl rfl rfl (Nat.le_of_ble_eq_true rfl) rfl dTe_init_33 (fun H locs hw => ?_)
  refine lv_aload_n S.1 S.2.1 dTe_init_36 rfl (lv_at hl 0 rfl) ?_
  refine lv_bipush (v := (12 : Int32)) S.1 S.2.1 dTe_init_37 (by decide) ?_
  refine sk_newi (n := 12) S hw zwa_0 (by decide) (by decide) (Nat.le_of_ble_eq_true rfl) (Nat.le_of_ble_eq_true rfl) (by show _ ≤ 60 + n; omega) dTe_init_39 (fun q5 H hw => ?_)
  have hw : sk_S Γ A Θ ws [(h0, .inr (6, [.int 0, .ref q1, .ref q2, .ref q3, .ref q4, .null, .int 0, .null])), (q1, .inl (Γ.2.1 0, 12, .inl (fun _ => 0))), (q2, .inl (Γ.2.1 0, 12, .inl (fun _ => 0))), (q3, .inl (Γ.2.1 0, 12, .inl (fun _ => 0))), (q4, .inl (Γ.2.1 0, 12, .inl (fun _ => 0))), (q5, .inl (Γ.2.1 0, 12, .inl (fun _ => 0)))] s H _ := hw
  refine sk_putF (x' := [(h0, .inr (6, [.int 0, .ref q1, .ref q2, .ref q3, .ref q4, .ref q5, .int 0, .null])), (q1, .inl (Γ.2.1 0, 12, .inl (fun _ => 0))), (q2, .inl (Γ.2.1 0, 12, .inl (fun _ => 0))), (q3, .inl (Γ.2.1 0, 12, .inl (fun _ => 0))), (q4, .inl (Γ.2.1 0, 12, .inl (fun _ => 0))), (q5, .inl (Γ.2.1 0, 12, .inl (fun _ => 0)))]) S hw i_Te t_Te t_Te_ok n_Te hin 0 rfl rfl 5 (by decide) zwf_Te_24 rfl rfl rfl rfl rfl (Nat.le_of_ble_eq_true rfl) rfl dTe_init_41 (fun H locs hw => ?_)
  refine lv_aload_n S.1 S.2.1 dTe_init_44 rfl (lv_at hl 0 rfl) ?_
  refine lv_iconst (v := (0 : Int32)) S.1 S.2.1 dTe_init_45 (by decide) ?_
  refine lv_iload_n S.1 S.2.1 dTe_init_46 rfl (lv_at hl 1 rfl) ?_
  refine sw_max (rest := [.ref h0]) S hl.1 zwm_Te_27 (Nat.le_of_ble_eq_true rfl) (Nat.le_of_ble_eq_true rfl) (Nat.le_of_ble_eq_true rfl) (by show _ ≤ 60 + n; omega) dTe_init_47 ?_
  refine sk_newi (n := n) S hw zwa_0 hn0 hn1 (by omega) (Nat.le_of_ble_eq_true rfl) (by show _ ≤ 60 + n; omega) dTe_init_50 (fun q6 H hw => ?_)
  have hw : sk_S Γ A Θ ws [(h0, .inr (6, [.int 0, .ref q1, .ref q2, .ref q3, .ref q4, .ref q5, .int 0, .null])), (q1, .inl (Γ.2.1 0, 12, .inl (fun _ => 0))), (q2, .inl (Γ.2.1 0, 12, .inl (fun _ => 0))), (q3, .inl (Γ.2.1 0, 12, .inl (fun _ => 0))), (q4, .inl (Γ.2.1 0, 12, .inl (fun _ => 0))), (q5, .inl (Γ.2.1 0, 12, .inl (fun _ => 0))), (q6, .inl (Γ.2.1 0, n, .inl (fun _ => 0)))] s H _ := hw
  refine sk_putF (x' := [(h0, .inr (6, [.int 0, .ref q1, .ref q2, .ref q3, .ref q4, .ref q5, .int 0, .ref q6])), (q1, .inl (Γ.2.1 0, 12, .inl (fun _ => 0))), (q2, .inl (Γ.2.1 0, 12, .inl (fun _ => 0))), (q3, .inl (Γ.2.1 0, 12, .inl (fun _ => 0))), (q4, .inl (Γ.2.1 0, 12, .inl (fun _ => 0))), (q5, .inl (Γ.2.1 0, 12, .inl (fun _ => 0))), (q6, .inl (Γ.2.1 0, n, .inl (fun _ => 0)))]) S hw i_Te t_Te t_Te_ok n_Te hin 0 rfl rfl 7 (by decide) zwf_Te_33 rfl rfl rfl rfl rfl (Nat.le_of_ble_eq_true rfl) rfl dTe_init_52 (fun H locs hw => ?_)
  exact sk_vret (u := (fun j => ([0, q1, q2, q3, q4, q5, q6] : List Nat).getD j 0)) (cf := fun u => cf_Te Γ h0 u n) (pst := fun _ => True) S hr hlk hw trivial rfl dTe_init_55
def cf_Pl (Γ : sw_C) (h0 : Nat) (u : (Nat → Nat)) : va_W := [(h0, .inr (2, [.int 0, .ref (u 1), .ref (u 2), .ref (u 3), .ref (u 4), .int 0, .ref (u 5), .ref (u 6), .ref (u 7), .int 0, .ref (u 8), .int (-1 : Int32)])), ((u 1), .inl (Γ.2.1 0, 7, .inl (fun _ => 0))), ((u 2), .inl (Γ.2.1 0, 7, .inl (fun _ => 0))), ((u 3), .inl (Γ.2.1 0, 7, .inl (fun _ => 0))), ((u 4), .inl (Γ.2.1 0, 4, .inl (upd (fun _ => 0) (1 : Int32).toNatClampNeg (1 : Int32)))), ((u 5), .inl (Γ.2.1 0, 6, .inl (fun _ => 0))), ((u 6), .inl (Γ.2.1 0, 6, .inl (fun _ => 0))), ((u 7), .inl (Γ.2.1 0, 6, .inl (fun _ => 0))), ((u 8), .inl (Γ.2.1 4, 6, .inr (.inr (.inr (.inr (fun _ => none))))))]
set_option maxHeartbeats 4000000 in
set_option maxRecDepth 100000 in
theorem cPl_init (l : Launch) {Γ : sw_C} {A : Nat → Prop} {Θ : State → Prop} {ws : va_W} {h0 : Nat} (hΘ : sk_good Θ) (hT : ∀ U, Θ U → va_AO R_Te U) : Met l yPl_init (Cond.code yPl_init prog_4_method_1_code 1 none :: sw_tb) { frames := 1, cells := 8, slots := 49, locals := 20 } (va_Pc [.ref h0] (sk_V Γ A Θ ws [(h0, .inr (2, [.int 0, .null, .null, .null, .null, .int 0, .null, .null, .null, .int 0, .null, .int 0]))])) (va_Qv (fun (_ : (Nat → Nat)) => True) (fun u t => sk_W Γ A ws (cf_Pl Γ h0 u) t) A) 8 (49) A := by
  refine Met.ofW (cc := prog_4_method_1_code) (maxL := 1) (ret := none) (by decide) rfl ?_
  intro p e s m args below meth c s₁ B hml hv
  obtain ⟨rfl, hv⟩ := hv
  have S : CallFix p m c prog_4_method_1_code 1 s _ (Cond.code yPl_init prog_4_method_1_code 1 none :: sw_tb) R_Pl := ⟨B.exec, B.bytes, hml, findClass_of_methodNamed B.named, atoms_spec (ws := (Cond.code yPl_init prog_4_method_1_code 1 none :: sw_tb)) B.pre⟩
  have hr := B.returns
  have hlk := B.notSynchronized
  have hin : meth.name = "<init>" := (name_of_methodNamed B.named B.method).1
  have hw := sk_begin hv
  have hl := lv_entry [.ref h0] (n := 1) (Nat.le_of_ble_eq_true rfl)
  rw [lg_entry_eq]
  generalize (lg_sl [.ref h0] ++ List.replicate (1 - (lg_sl [.ref h0]).length) Slot.unset).toArray = ls at hl ⊢
  have hl : lv_has ls 1 [(0, .ref h0)] := hl
  refine lv_aload_n S.1 S.2.1 dPl_init_0 rfl (lv_at hl 0 rfl) ?_
  refine sk_obj (rest := []) S hl.1 zwo_Pl_3 (Nat.le_of_ble_eq_true rfl) (Nat.le_of_ble_eq_true rfl) dPl_init_1 ?_
  refine lv_aload_n S.1 S.2.1 dPl_init_4 rfl (lv_at hl 0 rfl) ?_
  refine lv_bipush (v := (7 : Int32)) S.1 S.2.1 dPl_init_5 (by decide) ?_
  refine sk_newi (n := 7) S hw zwa_0 (by decide) (by decide) (Nat.le_of_ble_eq_true rfl) (Nat.le_of_ble_eq_true rfl) (Nat.le_of_ble_eq_true rfl) dPl_init_7 (fun q1 H hw => ?_)
  have hw : sk_S Γ A Θ ws [(h0, .inr (2, [.int 0, .null, .null, .null, .null, .int 0, .null, .null, .null, .int 0, .null, .int 0])), (q1, .inl (Γ.2.1 0, 7, .inl (fun _ => 0)))] s H _ := hw
  refine sk_putF (x' := [(h0, .inr (2, [.int 0, .ref q1, .null, .null, .null, .int 0, .null, .null, .null, .int 0, .null, .int 0])), (q1, .inl (Γ.2.1 0, 7, .inl (fun _ => 0)))]) S hw i_Pl t_Pl t_Pl_ok n_Pl hin 0 rfl rfl 1 (by decide) zwf_Pl_9 rfl rfl rfl rfl rfl (Nat.le_of_ble_eq_true rfl) rfl dPl_init_9 (fun H locs hw => ?_)
  refine lv_aload_n S.1 S.2.1 dPl_init_12 rfl (lv_at hl 0 rfl) ?_
  refine lv_bipush (v := (7 : Int32)) S.1 S.2.1 dPl_init_13 (by decide) ?_
  refine sk_newi (n := 7) S hw zwa_0 (by decide) (by decide) (Nat.le_of_ble_eq_true rfl) (Nat.le_of_ble_eq_true rfl) (Nat.le_of_ble_eq_true rfl) dPl_init_15 (fun q2 H hw => ?_)
  have hw : sk_S Γ A Θ ws [(h0, .inr (2, [.int 0, .ref q1, .null, .null, .null, .int 0, .null, .null, .null, .int 0, .null, .int 0])), (q1, .inl (Γ.2.1 0, 7, .inl (fun _ => 0))), (q2, .inl (Γ.2.1 0, 7, .inl (fun _ => 0)))] s H _ := hw
  refine sk_putF (x' := [(h0, .inr (2, [.int 0, .ref q1, .ref q2, .null, .null, .int 0, .null, .null, .null, .int 0, .null, .int 0])), (q1, .inl (Γ.2.1 0, 7, .inl (fun _ => 0))), (q2, .inl (Γ.2.1 0, 7, .inl (fun _ => 0)))]) S hw i_Pl t_Pl t_Pl_ok n_Pl hin 0 rfl rfl 2 (by decide) zwf_Pl_15 rfl rfl rfl rfl rfl (Nat.le_of_ble_eq_true rfl) rfl dPl_init_17 (fun H locs hw => ?_)
  refine lv_aload_n S.1 S.2.1 dPl_init_20 rfl (lv_at hl 0 rfl) ?_
  refine lv_bipush (v := (7 : Int32)) S.1 S.2.1 dPl_init_21 (by decide) ?_
  refine sk_newi (n := 7) S hw zwa_0 (by decide) (by decide) (Nat.le_of_ble_eq_true rfl) (Nat.le_of_ble_eq_true rfl) (Nat.le_of_ble_eq_true rfl) dPl_init_23 (fun q3 H hw => ?_)
  have hw : sk_S Γ A Θ ws [(h0, .inr (2, [.int 0, .ref q1, .ref q2, .null, .null, .int 0, .null, .null, .null, .int 0, .null, .int 0])), (q1, .inl (Γ.2.1 0, 7, .inl (fun _ => 0))), (q2, .inl (Γ.2.1 0, 7, .inl (fun _ => 0))), (q3, .inl (Γ.2.1 0, 7, .inl (fun _ => 0)))] s H _ := hw
  refine sk_putF (x' := [(h0, .inr (2, [.int 0, .ref q1, .ref q2, .ref q3, .null, .int 0, .null, .null, .null, .int 0, .null, .int 0])), (q1, .inl (Γ.2.1 0, 7, .inl (fun _ => 0))), (q2, .inl (Γ.2.1 0, 7, .inl (fun _ => 0))), (q3, .inl (Γ.2.1 0, 7, .inl (fun _ => 0)))]) S hw i_Pl t_Pl t_Pl_ok n_Pl hin 0 rfl rfl 3 (by decide) zwf_Pl_18 rfl rfl rfl rfl rfl (Nat.le_of_ble_eq_true rfl) rfl dPl_init_25 (fun H locs hw => ?_)
  refine lv_aload_n S.1 S.2.1 dPl_init_28 rfl (lv_at hl 0 rfl) ?_
  refine lv_iconst (v := (4 : Int32)) S.1 S.2.1 dPl_init_29 (by decide) ?_
  refine sk_newi (n := 4) S hw zwa_0 (by decide) (by decide) (Nat.le_of_ble_eq_true rfl) (Nat.le_of_ble_eq_true rfl) (Nat.le_of_ble_eq_true rfl) dPl_init_30 (fun q4 H hw => ?_)
  have hw : sk_S Γ A Θ ws [(h0, .inr (2, [.int 0, .ref q1, .ref q2, .ref q3, .null, .int 0, .null, .null, .null, .int 0, .null, .int 0])), (q1, .inl (Γ.2.1 0, 7, .inl (fun _ => 0))), (q2, .inl (Γ.2.1 0, 7, .inl (fun _ => 0))), (q3, .inl (Γ.2.1 0, 7, .inl (fun _ => 0))), (q4, .inl (Γ.2.1 0, 4, .inl (fun _ => 0)))] s H _ := hw
  refine sk_putF (x' := [(h0, .inr (2, [.int 0, .ref q1, .ref q2, .ref q3, .ref q4, .int 0, .null, .null, .null, .int 0, .null, .int 0])), (q1, .inl (Γ.2.1 0, 7, .inl (fun _ => 0))), (q2, .inl (Γ.2.1 0, 7, .inl (fun _ => 0))), (q3, .inl (Γ.2.1 0, 7, .inl (fun _ => 0))), (q4, .inl (Γ.2.1 0, 4, .inl (fun _ => 0)))]) S hw i_Pl t_Pl t_Pl_ok n_Pl hin 0 rfl rfl 4 (by decide) zwf_Pl_21 rfl rfl rfl rfl rfl (Nat.le_of_ble_eq_true rfl) rfl dPl_init_32 (fun H locs hw => ?_)
  refine lv_aload_n S.1 S.2.1 dPl_init_35 rfl (lv_at hl 0 rfl) ?_
  refine lv_bipush (v := (6 : Int32)) S.1 S.2.1 dPl_init_36 (by decide) ?_
  refine sk_newi (n := 6) S hw zwa_0 (by decide) (by decide) (Nat.le_of_ble_eq_true rfl) (Nat.le_of_ble_eq_true rfl) (Nat.le_of_ble_eq_true rfl) dPl_init_38 (fun q5 H hw => ?_)
  have hw : sk_S Γ A Θ ws [(h0, .inr (2, [.int 0, .ref q1, .ref q2, .ref q3, .ref q4, .int 0, .null, .null, .null, .int 0, .null, .int 0])), (q1, .inl (Γ.2.1 0, 7, .inl (fun _ => 0))), (q2, .inl (Γ.2.1 0, 7, .inl (fun _ => 0))), (q3, .inl (Γ.2.1 0, 7, .inl (fun _ => 0))), (q4, .inl (Γ.2.1 0, 4, .inl (fun _ => 0))), (q5, .inl (Γ.2.1 0, 6, .inl (fun _ => 0)))] s H _ := hw
  refine sk_putF (x' := [(h0, .inr (2, [.int 0, .ref q1, .ref q2, .ref q3, .ref q4, .int 0, .ref q5, .null, .null, .int 0, .null, .int 0])), (q1, .inl (Γ.2.1 0, 7, .inl (fun _ => 0))), (q2, .inl (Γ.2.1 0, 7, .inl (fun _ => 0))), (q3, .inl (Γ.2.1 0, 7, .inl (fun _ => 0))), (q4, .inl (Γ.2.1 0, 4, .inl (fun _ => 0))), (q5, .inl (Γ.2.1 0, 6, .inl (fun _ => 0)))]) S hw i_Pl t_Pl t_Pl_ok n_Pl hin 0 rfl rfl 6 (by decide) zwf_Pl_24 rfl rfl rfl rfl rfl (Nat.le_of_ble_eq_true rfl) rfl dPl_init_40 (fun H locs hw => ?_)
  refine lv_aload_n S.1 S.2.1 dPl_init_43 rfl (lv_at hl 0 rfl) ?_
  refine lv_bipush (v := (6 : Int32)) S.1 S.2.1 dPl_init_44 (by decide) ?_
  refine sk_newi (n := 6) S hw zwa_0 (by decide) (by decide) (Nat.le_of_ble_eq_true rfl) (Nat.le_of_ble_eq_true rfl) (Nat.le_of_ble_eq_true rfl) dPl_init_46 (fun q6 H hw => ?_)
  have hw : sk_S Γ A Θ ws [(h0, .inr (2, [.int 0, .ref q1, .ref q2, .ref q3, .ref q4, .int 0, .ref q5, .null, .null, .int 0, .null, .int 0])), (q1, .inl (Γ.2.1 0, 7, .inl (fun _ => 0))), (q2, .inl (Γ.2.1 0, 7, .inl (fun _ => 0))), (q3, .inl (Γ.2.1 0, 7, .inl (fun _ => 0))), (q4, .inl (Γ.2.1 0, 4, .inl (fun _ => 0))), (q5, .inl (Γ.2.1 0, 6, .inl (fun _ => 0))), (q6, .inl (Γ.2.1 0, 6, .inl (fun _ => 0)))] s H _ := hw
  refine sk_putF (x' := [(h0, .inr (2, [.int 0, .ref q1, .ref q2, .ref q3, .ref q4, .int 0, .ref q5, .ref q6, .null, .int 0, .null, .int 0])), (q1, .inl (Γ.2.1 0, 7, .inl (fun _ => 0))), (q2, .inl (Γ.2.1 0, 7, .inl (fun _ => 0))), (q3, .inl (Γ.2.1 0, 7, .inl (fun _ => 0))), (q4, .inl (Γ.2.1 0, 4, .inl (fun _ => 0))), (q5, .inl (Γ.2.1 0, 6, .inl (fun _ => 0))), (q6, .inl (Γ.2.1 0, 6, .inl (fun _ => 0)))]) S hw i_Pl t_Pl t_Pl_ok n_Pl hin 0 rfl rfl 7 (by decide) zwf_Pl_27 rfl rfl rfl rfl rfl (Nat.le_of_ble_eq_true rfl) rfl dPl_init_48 (fun H locs hw => ?_)
  refine lv_aload_n S.1 S.2.1 dPl_init_51 rfl (lv_at hl 0 rfl) ?_
  refine lv_bipush (v := (6 : Int32)) S.1 S.2.1 dPl_init_52 (by decide) ?_
  refine sk_newi (n := 6) S hw zwa_0 (by decide) (by decide) (Nat.le_of_ble_eq_true rfl) (Nat.le_of_ble_eq_true rfl) (Nat.le_of_ble_eq_true rfl) dPl_init_54 (fun q7 H hw => ?_)
  have hw : sk_S Γ A Θ ws [(h0, .inr (2, [.int 0, .ref q1, .ref q2, .ref q3, .ref q4, .int 0, .ref q5, .ref q6, .null, .int 0, .null, .int 0])), (q1, .inl (Γ.2.1 0, 7, .inl (fun _ => 0))), (q2, .inl (Γ.2.1 0, 7, .inl (fun _ => 0))), (q3, .inl (Γ.2.1 0, 7, .inl (fun _ => 0))), (q4, .inl (Γ.2.1 0, 4, .inl (fun _ => 0))), (q5, .inl (Γ.2.1 0, 6, .inl (fun _ => 0))), (q6, .inl (Γ.2.1 0, 6, .inl (fun _ => 0))), (q7, .inl (Γ.2.1 0, 6, .inl (fun _ => 0)))] s H _ := hw
  refine sk_putF (x' := [(h0, .inr (2, [.int 0, .ref q1, .ref q2, .ref q3, .ref q4, .int 0, .ref q5, .ref q6, .ref q7, .int 0, .null, .int 0])), (q1, .inl (Γ.2.1 0, 7, .inl (fun _ => 0))), (q2, .inl (Γ.2.1 0, 7, .inl (fun _ => 0))), (q3, .inl (Γ.2.1 0, 7, .inl (fun _ => 0))), (q4, .inl (Γ.2.1 0, 4, .inl (fun _ => 0))), (q5, .inl (Γ.2.1 0, 6, .inl (fun _ => 0))), (q6, .inl (Γ.2.1 0, 6, .inl (fun _ => 0))), (q7, .inl (Γ.2.1 0, 6, .inl (fun _ => 0)))]) S hw i_Pl t_Pl t_Pl_ok n_Pl hin 0 rfl rfl 8 (by decide) zwf_Pl_30 rfl rfl rfl rfl rfl (Nat.le_of_ble_eq_true rfl) rfl dPl_init_56 (fun H locs hw => ?_)
  refine lv_aload_n S.1 S.2.1 dPl_init_59 rfl (lv_at hl 0 rfl) ?_
  refine lv_bipush (v := (6 : Int32)) S.1 S.2.1 dPl_init_60 (by decide) ?_
  refine sk_newq (t0 := 4) (n := 6) S hw zwl_Pl_33 (hT _ hw.2.2.2.2.2) rfl (by decide) (by decide) (Nat.le_of_ble_eq_true rfl) (Nat.le_of_ble_eq_true rfl) (Nat.le_of_ble_eq_true rfl) dPl_init_62 (fun q8 H hw => ?_)
  have hw : sk_S Γ A Θ ws [(h0, .inr (2, [.int 0, .ref q1, .ref q2, .ref q3, .ref q4, .int 0, .ref q5, .ref q6, .ref q7, .int 0, .null, .int 0])), (q1, .inl (Γ.2.1 0, 7, .inl (fun _ => 0))), (q2, .inl (Γ.2.1 0, 7, .inl (fun _ => 0))), (q3, .inl (Γ.2.1 0, 7, .inl (fun _ => 0))), (q4, .inl (Γ.2.1 0, 4, .inl (fun _ => 0))), (q5, .inl (Γ.2.1 0, 6, .inl (fun _ => 0))), (q6, .inl (Γ.2.1 0, 6, .inl (fun _ => 0))), (q7, .inl (Γ.2.1 0, 6, .inl (fun _ => 0))), (q8, .inl (Γ.2.1 4, 6, .inr (.inr (.inr (.inr (fun _ => none))))))] s H _ := hw
  refine sk_putF (x' := [(h0, .inr (2, [.int 0, .ref q1, .ref q2, .ref q3, .ref q4, .int 0, .ref q5, .ref q6, .ref q7, .int 0, .ref q8, .int 0])), (q1, .inl (Γ.2.1 0, 7, .inl (fun _ => 0))), (q2, .inl (Γ.2.1 0, 7, .inl (fun _ => 0))), (q3, .inl (Γ.2.1 0, 7, .inl (fun _ => 0))), (q4, .inl (Γ.2.1 0, 4, .inl (fun _ => 0))), (q5, .inl (Γ.2.1 0, 6, .inl (fun _ => 0))), (q6, .inl (Γ.2.1 0, 6, .inl (fun _ => 0))), (q7, .inl (Γ.2.1 0, 6, .inl (fun _ => 0))), (q8, .inl (Γ.2.1 4, 6, .inr (.inr (.inr (.inr (fun _ => none))))))]) S hw i_Pl t_Pl t_Pl_ok n_Pl hin 0 rfl rfl 10 (by decide) zwf_Pl_35 rfl rfl rfl rfl rfl (Nat.le_of_ble_eq_true rfl) rfl dPl_init_65 (fun H locs hw => ?_)
  refine lv_aload_n S.1 S.2.1 dPl_init_68 rfl (lv_at hl 0 rfl) ?_
  refine sk_get S hw i_Pl 0 rfl rfl 4 (by decide) zwf_Pl_21 rfl rfl dPl_init_69 ?_
  refine lv_iconst (v := (1 : Int32)) S.1 S.2.1 dPl_init_72 (by decide) ?_
  refine lv_iconst (v := (1 : Int32)) S.1 S.2.1 dPl_init_73 (by decide) ?_
  refine sk_iast (x' := [(h0, .inr (2, [.int 0, .ref q1, .ref q2, .ref q3, .ref q4, .int 0, .ref q5, .ref q6, .ref q7, .int 0, .ref q8, .int 0])), (q1, .inl (Γ.2.1 0, 7, .inl (fun _ => 0))), (q2, .inl (Γ.2.1 0, 7, .inl (fun _ => 0))), (q3, .inl (Γ.2.1 0, 7, .inl (fun _ => 0))), (q4, .inl (Γ.2.1 0, 4, .inl (upd (fun _ => 0) (1 : Int32).toNatClampNeg (1 : Int32)))), (q5, .inl (Γ.2.1 0, 6, .inl (fun _ => 0))), (q6, .inl (Γ.2.1 0, 6, .inl (fun _ => 0))), (q7, .inl (Γ.2.1 0, 6, .inl (fun _ => 0))), (q8, .inl (Γ.2.1 4, 6, .inr (.inr (.inr (.inr (fun _ => none))))))]) S hw 4 rfl (by unfold vp_in; decide) rfl dPl_init_74 (fun H locs hw => ?_)
  refine lv_aload_n S.1 S.2.1 dPl_init_75 rfl (lv_at hl 0 rfl) ?_
  refine lv_iconst (v := (-1 : Int32)) S.1 S.2.1 dPl_init_76 (by decide) ?_
  refine sk_put (x' := [(h0, .inr (2, [.int 0, .ref q1, .ref q2, .ref q3, .ref q4, .int 0, .ref q5, .ref q6, .ref q7, .int 0, .ref q8, .int (-1 : Int32)])), (q1, .inl (Γ.2.1 0, 7, .inl (fun _ => 0))), (q2, .inl (Γ.2.1 0, 7, .inl (fun _ => 0))), (q3, .inl (Γ.2.1 0, 7, .inl (fun _ => 0))), (q4, .inl (Γ.2.1 0, 4, .inl (upd (fun _ => 0) (1 : Int32).toNatClampNeg (1 : Int32)))), (q5, .inl (Γ.2.1 0, 6, .inl (fun _ => 0))), (q6, .inl (Γ.2.1 0, 6, .inl (fun _ => 0))), (q7, .inl (Γ.2.1 0, 6, .inl (fun _ => 0))), (q8, .inl (Γ.2.1 4, 6, .inr (.inr (.inr (.inr (fun _ => none))))))]) S hw i_Pl t_Pl t_Pl_ok n_Pl 0 rfl rfl 11 (by decide) zwf_Pl_39 rfl rfl rfl rfl (Nat.le_of_ble_eq_true rfl) rfl dPl_init_77 (fun H locs hw => ?_)
  exact sk_vret (u := (fun j => ([0, q1, q2, q3, q4, q5, q6, q7, q8] : List Nat).getD j 0)) (cf := cf_Pl Γ h0) (pst := fun _ => True) S hr hlk hw trivial rfl dPl_init_80
def cf_Ju (Γ : sw_C) (h0 : Nat) (u : ((Nat → Nat) × (Nat → Nat))) : va_W := ((h0, .inr (1, [.ref (u.1 1), .ref (u.1 2)])) :: (([] ++ cf_Rk Γ (u.1 1) u.2) ++ [((u.1 2), .inl (Γ.2.1 0, 8, .inl (fun _ => 0)))]))
set_option maxHeartbeats 4000000 in
set_option maxRecDepth 100000 in
theorem cJu_init (l : Launch) {Γ : sw_C} {A : Nat → Prop} {Θ : State → Prop} {ws : va_W} {h0 : Nat} (hΘ : sk_good Θ) (hO : ∀ U, Θ U → sk_O U) : Met l yJu_init (Cond.code yJu_init prog_3_method_1_code 1 none :: sw_tb) { frames := 2, cells := 3, slots := 50, locals := 40 } (va_Pc [.ref h0] (sk_V Γ A Θ ws [(h0, .inr (1, [.null, .null]))])) (va_Qv (fun (_ : ((Nat → Nat) × (Nat → Nat))) => True) (fun u t => sk_W Γ A ws (cf_Ju Γ h0 u) t) A) 3 (50) A := by
  refine Met.ofW (cc := prog_3_method_1_code) (maxL := 1) (ret := none) (by decide) rfl ?_
  intro p e s m args below meth c s₁ B hml hv
  obtain ⟨rfl, hv⟩ := hv
  have S : CallFix p m c prog_3_method_1_code 1 s _ (Cond.code yJu_init prog_3_method_1_code 1 none :: sw_tb) R_Ju := ⟨B.exec, B.bytes, hml, findClass_of_methodNamed B.named, atoms_spec (ws := (Cond.code yJu_init prog_3_method_1_code 1 none :: sw_tb)) B.pre⟩
  have hr := B.returns
  have hlk := B.notSynchronized
  have hin : meth.name = "<init>" := (name_of_methodNamed B.named B.method).1
  have hw := sk_begin hv
  have hT : ∀ U, Θ U → va_AO R_Te U := fun U h => (hO U h).1
  have hTP : ∀ U, Θ U → va_AO R_Pl U := fun U h => (hO U h).2.1
  have hw : sk_S Γ A Θ ws ((h0, .inr (1, [.null, .null])) :: []) s s.heap [] := hw
  have hl := lv_entry [.ref h0] (n := 1) (Nat.le_of_ble_eq_true rfl)
  rw [lg_entry_eq]
  generalize (lg_sl [.ref h0] ++ List.replicate (1 - (lg_sl [.ref h0]).length) Slot.unset).toArray = ls at hl ⊢
  have hl : lv_has ls 1 [(0, .ref h0)] := hl
  refine lv_aload_n S.1 S.2.1 dJu_init_0 rfl (lv_at hl 0 rfl) ?_
  refine sk_obj (rest := []) S hl.1 zwo_Ju_3 (Nat.le_of_ble_eq_true rfl) (Nat.le_of_ble_eq_true rfl) dJu_init_1 ?_
  refine lv_aload_n S.1 S.2.1 dJu_init_4 rfl (lv_at hl 0 rfl) ?_
  refine sk_new (ci := 4) (fs := [.int 0, .null]) S hw i_Rk t_Rk t_Rk_ok zwl_Ju_9 zwn_Rk zwi_Rk rfl df_Rk (Nat.le_of_ble_eq_true rfl) (Nat.le_of_ble_eq_true rfl) dJu_init_5 (fun q1 H hw => ?_)
  refine lv_dup S.1 S.2.1 dJu_init_8 rfl ?_
  refine sk_ctorN (rest := [.ref q1, .ref h0]) S hΘ hw (cRk_init l hΘ) y_Rk (hO _ hw.2.2.2.2.2).2.2.2.2.1 zwv_Rk rfl rfl rfl hl.1 (Nat.le_of_ble_eq_true rfl) ⟨rfl, rfl, Nat.le_of_ble_eq_true rfl, Nat.le_of_ble_eq_true rfl⟩ ⟨Nat.le_of_ble_eq_true rfl, Nat.le_of_ble_eq_true rfl⟩ dJu_init_9 (fun u1 H locs _ hw => ?_)
  refine sk_putF (x' := ((h0, .inr (1, [.ref q1, .null])) :: ([] ++ cf_Rk Γ q1 u1))) S hw i_Ju t_Ju t_Ju_ok n_Ju hin 0 rfl rfl 0 (by decide) zwf_Ju_12 rfl rfl rfl rfl rfl (Nat.le_of_ble_eq_true rfl) rfl dJu_init_12 (fun H locs hw => ?_)
  refine lv_aload_n S.1 S.2.1 dJu_init_15 rfl (lv_at hl 0 rfl) ?_
  refine lv_bipush (v := (8 : Int32)) S.1 S.2.1 dJu_init_16 (by decide) ?_
  refine sk_newi (n := 8) S hw zwa_0 (by decide) (by decide) (Nat.le_of_ble_eq_true rfl) (Nat.le_of_ble_eq_true rfl) (Nat.le_of_ble_eq_true rfl) dJu_init_18 (fun q2 H hw => ?_)
  refine sk_putF (x' := ((h0, .inr (1, [.ref q1, .ref q2])) :: (([] ++ cf_Rk Γ q1 u1) ++ [(q2, .inl (Γ.2.1 0, 8, .inl (fun _ => 0)))]))) S hw i_Ju t_Ju t_Ju_ok n_Ju hin 0 rfl rfl 1 (by decide) zwf_Ju_18 rfl rfl rfl rfl rfl (Nat.le_of_ble_eq_true rfl) rfl dJu_init_20 (fun H locs hw => ?_)
  exact sk_vret (u := ((fun j => ([0, q1, q2] : List Nat).getD j 0), u1)) (cf := cf_Ju Γ h0) (pst := fun _ => True) S hr hlk hw trivial rfl dJu_init_23
def cf_Re (Γ : sw_C) (h0 : Nat) (u : ((Nat → Nat) × (Nat → Nat))) : va_W := ((h0, .inr (3, [.int 0, .ref (u.1 1), .int (-1 : Int32), .ref (u.1 2), .int 0, .int 0, .int 0, .int 0, .int 0])) :: (([] ++ [((u.1 1), .inl (Γ.2.1 0, 400, .inl (fun _ => 0)))]) ++ cf_Te Γ (u.1 2) u.2 512))
set_option maxHeartbeats 4000000 in
set_option maxRecDepth 100000 in
theorem cRe_init (l : Launch) {Γ : sw_C} {A : Nat → Prop} {Θ : State → Prop} {ws : va_W} {h0 : Nat} (hΘ : sk_good Θ) : Met l yRe_init (Cond.code yRe_init prog_5_method_1_code 1 none :: sw_tb) { frames := 2, cells := 8, slots := 980, locals := 41 } (va_Pc [.ref h0] (sk_V Γ A Θ ws [(h0, .inr (3, [.int 0, .null, .int 0, .null, .int 0, .int 0, .int 0, .int 0, .int 0]))])) (va_Qv (fun (_ : ((Nat → Nat) × (Nat → Nat))) => True) (fun u t => sk_W Γ A ws (cf_Re Γ h0 u) t) A) 8 (980) A := by
  refine Met.ofW (cc := prog_5_method_1_code) (maxL := 1) (ret := none) (by decide) rfl ?_
  intro p e s m args below meth c s₁ B hml hv
  obtain ⟨rfl, hv⟩ := hv
  have S : CallFix p m c prog_5_method_1_code 1 s _ (Cond.code yRe_init prog_5_method_1_code 1 none :: sw_tb) R_Re := ⟨B.exec, B.bytes, hml, findClass_of_methodNamed B.named, atoms_spec (ws := (Cond.code yRe_init prog_5_method_1_code 1 none :: sw_tb)) B.pre⟩
  have hr := B.returns
  have hlk := B.notSynchronized
  have hin : meth.name = "<init>" := (name_of_methodNamed B.named B.method).1
  have hw := sk_begin hv
  have hw : sk_S Γ A Θ ws ((h0, .inr (3, [.int 0, .null, .int 0, .null, .int 0, .int 0, .int 0, .int 0, .int 0])) :: []) s s.heap [] := hw
  have hl := lv_entry [.ref h0] (n := 1) (Nat.le_of_ble_eq_true rfl)
  rw [lg_entry_eq]
  generalize (lg_sl [.ref h0] ++ List.replicate (1 - (lg_sl [.ref h0]).length) Slot.unset).toArray = ls at hl ⊢
  have hl : lv_has ls 1 [(0, .ref h0)] := hl
  refine lv_aload_n S.1 S.2.1 dRe_init_0 rfl (lv_at hl 0 rfl) ?_
  refine sk_obj (rest := []) S hl.1 zwo_Re_3 (Nat.le_of_ble_eq_true rfl) (Nat.le_of_ble_eq_true rfl) dRe_init_1 ?_
  refine lv_aload_n S.1 S.2.1 dRe_init_4 rfl (lv_at hl 0 rfl) ?_
  refine lv_sipush (v := (400 : Int32)) S.1 S.2.1 dRe_init_5 (by decide) ?_
  refine sk_newi (n := 400) S hw zwa_0 (by decide) (by decide) (Nat.le_of_ble_eq_true rfl) (Nat.le_of_ble_eq_true rfl) (Nat.le_of_ble_eq_true rfl) dRe_init_8 (fun q1 H hw => ?_)
  refine sk_putF (x' := ((h0, .inr (3, [.int 0, .ref q1, .int 0, .null, .int 0, .int 0, .int 0, .int 0, .int 0])) :: ([] ++ [(q1, .inl (Γ.2.1 0, 400, .inl (fun _ => 0)))]))) S hw i_Re t_Re t_Re_ok n_Re hin 0 rfl rfl 1 (by decide) zwf_Re_9 rfl rfl rfl rfl rfl (Nat.le_of_ble_eq_true rfl) rfl dRe_init_10 (fun H locs hw => ?_)
  refine lv_aload_n S.1 S.2.1 dRe_init_13 rfl (lv_at hl 0 rfl) ?_
  refine sk_new (ci := 6) (fs := [.int 0, .null, .null, .null, .null, .null, .int 0, .null]) S hw i_Te t_Te t_Te_ok zwl_Re_15 zwn_Te zwi_Te rfl df_Te (Nat.le_of_ble_eq_true rfl) (Nat.le_of_ble_eq_true rfl) dRe_init_14 (fun q2 H hw => ?_)
  refine lv_dup S.1 S.2.1 dRe_init_17 rfl ?_
  refine lv_sipush (v := (512 : Int32)) S.1 S.2.1 dRe_init_18 (by decide) ?_
  refine sk_ctor (rest := [.ref q2, .ref h0]) S hΘ hw (cTe_init l hΘ (a1 := (512 : Int32)) (n := 512) (by decide) (by decide) (by decide)) y_Te zwm_Re_17 zwv_Te rfl rfl rfl hl.1 (Nat.le_of_ble_eq_true rfl) ⟨rfl, rfl, Nat.le_of_ble_eq_true rfl, Nat.le_of_ble_eq_true rfl⟩ ⟨Nat.le_of_ble_eq_true rfl, Nat.le_of_ble_eq_true rfl⟩ dRe_init_21 (fun u2 H locs _ hw => ?_)
  refine sk_putF (x' := ((h0, .inr (3, [.int 0, .ref q1, .int 0, .ref q2, .int 0, .int 0, .int 0, .int 0, .int 0])) :: (([] ++ [(q1, .inl (Γ.2.1 0, 400, .inl (fun _ => 0)))]) ++ cf_Te Γ q2 u2 512))) S hw i_Re t_Re t_Re_ok n_Re hin 0 rfl rfl 3 (by decide) zwf_Re_20 rfl rfl rfl rfl rfl (Nat.le_of_ble_eq_true rfl) rfl dRe_init_24 (fun H locs hw => ?_)
  refine lv_aload_n S.1 S.2.1 dRe_init_27 rfl (lv_at hl 0 rfl) ?_
  refine lv_iconst (v := (-1 : Int32)) S.1 S.2.1 dRe_init_28 (by decide) ?_
  refine sk_put (x' := ((h0, .inr (3, [.int 0, .ref q1, .int (-1 : Int32), .ref q2, .int 0, .int 0, .int 0, .int 0, .int 0])) :: (([] ++ [(q1, .inl (Γ.2.1 0, 400, .inl (fun _ => 0)))]) ++ cf_Te Γ q2 u2 512))) S hw i_Re t_Re t_Re_ok n_Re 0 rfl rfl 2 (by decide) zwf_Re_24 rfl rfl rfl rfl (Nat.le_of_ble_eq_true rfl) rfl dRe_init_29 (fun H locs hw => ?_)
  exact sk_vret (u := ((fun j => ([0, q1, q2] : List Nat).getD j 0), u2)) (cf := cf_Re Γ h0) (pst := fun _ => True) S hr hlk hw trivial rfl dRe_init_32
