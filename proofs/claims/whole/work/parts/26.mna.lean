/-! ===== new int[n][k] ===== -/
def sk_AA (U : State) : Prop := (Cond.arrayOver (.array .int)).before #[] U = true
theorem sk_AA.moved {u U : State} (ha : u.vm.Alike U.vm) (hz : sk_AA u) : sk_AA U := by
  have h1 : (Cond.arrayOver (.array .int)).before #[] (u.setVm U.vm) = true := (Cond.arrayOver_setVmC ha (.array .int)).trans hz
  first | exact h1 | (unfold sk_AA; simp only [Cond.before, Cond.holds, Cond.value] at h1 ⊢; exact h1)
theorem sk_AA.same {u U : State} (h : U.vm = u.vm) (hz : sk_AA u) : sk_AA U := hz.moved (by rw [h]; exact Vm.Alike.refl _)
theorem sk_AA.warm {s U : State} (hW : s.WarmedH U.vm) (hz : sk_AA s) : sk_AA U := hz.moved hW.alike
def mg (c6 c0 : ClassId) (q : Nat) (r : Nat → Nat) (N K : Nat) : va_W := (q, .inl (c6, N, .inr (.inr (.inr (.inr (fun i => if i < N then some (r i) else none)))))) :: (List.range N).map (fun i => (r i, .inl (c0, K, .inl (fun _ => 0))))
theorem mg_at {c6 c0 : ClassId} {h N K k : Nat} {z : Nat × va_E} (hz : (mg c6 c0 h (fun i => h + 1 + i) N K)[k]? = some z) : z.1 = h + k := by
  cases k with
  | zero => cases hz; rfl
  | succ k =>
    have hz : ((List.range N).map (fun i => ((h + 1 + i, .inl (c0, K, .inl (fun _ => 0))) : Nat × va_E)))[k]? = some z := hz
    rw [List.getElem?_map] at hz
    by_cases hk : k < N
    · rw [List.getElem?_range hk] at hz
      cases hz
      show h + 1 + k = h + (k + 1)
      omega
    · rw [List.getElem?_eq_none (by rw [List.length_range]; omega)] at hz
      cases hz
theorem sk_pushD {A : Nat → Prop} {L new : va_W} {h : Nat} (hD : va_D A L) (hlt : ∀ (k : Nat) (q : Nat × va_E), L[k]? = some q → q.1 < h) (hn : ∀ (k : Nat) (q : Nat × va_E), new[k]? = some q → q.1 = h + k) (hA : ∀ q, h ≤ q → A q) : va_D A (L ++ new) := by
  refine ⟨fun i j x y hi hj hxy => ?_, fun k q hk => ?_⟩
  · by_cases h1 : i < L.length <;> by_cases h2 : j < L.length
    · rw [List.getElem?_append_left h1] at hi
      rw [List.getElem?_append_left h2] at hj
      exact hD.1 i j x y hi hj hxy
    · rw [List.getElem?_append_left h1] at hi
      rw [List.getElem?_append_right (by omega)] at hj
      have a1 := hlt _ _ hi
      have a2 := hn _ _ hj
      omega
    · rw [List.getElem?_append_right (by omega)] at hi
      rw [List.getElem?_append_left h2] at hj
      have a1 := hlt _ _ hj
      have a2 := hn _ _ hi
      omega
    · rw [List.getElem?_append_right (by omega)] at hi hj
      have a1 := hn _ _ hi
      have a2 := hn _ _ hj
      omega
  · by_cases h1 : k < L.length
    · rw [List.getElem?_append_left h1] at hk
      exact hD.2 k q hk
    · rw [List.getElem?_append_right (by omega)] at hk
      have a1 := hn _ _ hk
      exact hA _ (by omega)
theorem mg_outer (c : ClassId) (N h0 : Nat) : ∀ i : Nat, Jvm.Free.Multi.outerC c N h0 i = arrV c N (fun j => va_rf (if j < i then some (h0 + 1 + j) else none))
  | 0 => by
    show ({ cls := c, slots := Array.replicate N .null, vm := .none } : Cell) = _
    rw [arrV_new]
    refine congrArg (arrV c N) (funext fun j => ?_)
    simp [va_rf]
  | i + 1 => by
    show (Jvm.Free.Multi.outerC c N h0 i).setSlot i (.ref (h0 + 1 + i)) = _
    rw [mg_outer c N h0 i, arrV_store]
    refine congrArg (arrV c N) (funext fun j => ?_)
    by_cases e : j = i
    · subst e
      simp [updV, va_rf]
    · by_cases h : j < i
      · simp [updV, e, h, Nat.lt_succ_of_lt h]
      · simp [updV, e, h, show ¬ j < i + 1 by omega]
section SKM
variable {p : Program} {l : Launch} {e : Env} {R : Room} {s : State} {m : MethodId} {args : Array Value} {below : List Frame} {meth : Method} {c : Code} {H : Heap} {locs : List Loc} {cells slots : Nat} {Q : State → Prop}
variable {cc : ByteArray} {pc nL index : Nat} {ls : Array Slot} {rest : List Value} {Γ : sw_C} {A : Nat → Prop} {Θ : State → Prop} {ws x x' : va_W} {w0 : Cond} {own : String} {n a : Nat}
theorem sk_mna {n k : Int32} {N K : Nat} (S : CallFix p m c cc nL s args (w0 :: sw_tb) own) (hw : sk_S Γ A Θ ws x s H locs) (hl : Cond.classLink own index "[[I" ∈ sw_tb) (ho : sk_AA s) (ha : Cond.arrayClass .int ∈ sw_tb) (hn : ¬ n < 0) (hk : ¬ k < 0) (hN : n.toNatClampNeg = N) (hK1 : k.toNatClampNeg = K) (hb1 : N * 4 ≤ 536870912) (hb2 : K * 4 ≤ 536870912) (hcl : cells + (1 + N) ≤ R.cells) (hsl : slots + (N + N * K) ≤ R.slots) (hdg : decode cc pc = .ok (.multianewarray index 2, 4))
    (kk : ∀ (q : Nat) (r : Nat → Nat) (H1 : Heap), sk_S Γ A Θ ws (x ++ mg (Γ.2.1 6) (Γ.2.1 0) q r N K) s H1 locs → W p l e R s m args below meth c H1 locs (cells + 1 + N) (slots + N + N * K) Q (F0 m (pc + 4) ls (.ref q :: rest))) : W p l e R s m args below meth c H locs cells slots Q (F0 m pc ls (.int k :: .int n :: rest)) := by
  subst hN
  subst hK1
  intro T hT Xs
  have ho' : (Cond.arrayOver (.array .int)).before args s = true := ho
  obtain ⟨vm₁, cA, comp, -, fA, fC, hO, -, X', step⟩ := Xs.multianewarray2F (ty := .int) S.1 S.2.2.2.1 (sw_word S hl) ho' (sw_word S ha) (g := F0 m pc ls (.int k :: .int n :: rest)) rfl (by rw [S.2.1]; exact hdg) rfl hn hk hb1 hb2 (by omega) rfl rfl hcl hsl
  have e6 : cA = Γ.2.1 6 := Option.some.inj (fA.symm.trans (hw.2.1.2 6 _ rfl).2)
  have e0 : comp = Γ.2.1 0 := Option.some.inj (fC.symm.trans (hw.2.1.2 0 _ rfl).2)
  subst e6
  subst e0
  generalize hF : Jvm.Free.Multi.fill (T.setVm vm₁) (Γ.2.1 6) (Γ.2.1 0) n.toNatClampNeg k.toNatClampNeg (defaultValue .int) n.toNatClampNeg = F at X' step
  have hTh : (T.setVm vm₁).heap = H := hT
  obtain ⟨f1, f2, -, -⟩ := Jvm.Free.Multi.fill_facts (T.setVm vm₁) (Γ.2.1 6) (Γ.2.1 0) n.toNatClampNeg k.toNatClampNeg (defaultValue .int) n.toNatClampNeg
  rw [hF, hTh] at f1 f2
  rw [mg_outer] at f2
  have hold : ∀ y : Nat, y < H.size → F.heap[y]? = H[y]? := fun y hy => by
    have h1 := Jvm.Free.Multi.fill_old (T.setVm vm₁) (Γ.2.1 6) (Γ.2.1 0) n.toNatClampNeg k.toNatClampNeg (defaultValue .int) (a := y) (by rw [hTh]; exact hy) n.toNatClampNeg
    rw [hF, hTh] at h1
    exact h1
  have hrow : ∀ j : Nat, j < n.toNatClampNeg → F.heap[H.size + 1 + j]? = some (vp_cell (Γ.2.1 0) (k.toNatClampNeg, .inl (fun _ => 0))) := fun j hj => by
    have h1 := Jvm.Free.Multi.fill_inner (T.setVm vm₁) (Γ.2.1 6) (Γ.2.1 0) n.toNatClampNeg k.toNatClampNeg (defaultValue .int) n.toNatClampNeg j hj
    rw [hF, hTh] at h1
    rw [h1, vp_cell_i, ← arrV_new]
    rfl
  have hlt : ∀ (y : Nat) (z : Nat × va_E), (ws ++ x)[y]? = some z → z.1 < H.size := fun y z h => (hw.1 y z h).lt
  have hP2 : va_P Γ.1 swCl ((ws ++ x) ++ mg (Γ.2.1 6) (Γ.2.1 0) H.size (fun i => H.size + 1 + i) n.toNatClampNeg k.toNatClampNeg) F.heap := by
    refine (hw.1.kept (fun y z h => hold z.1 (hlt y z h))).app ?_
    intro y z hz
    cases y with
    | zero => cases hz; exact f2
    | succ y =>
      have hz : ((List.range n.toNatClampNeg).map (fun i => ((H.size + 1 + i, .inl (Γ.2.1 0, k.toNatClampNeg, .inl (fun _ => 0))) : Nat × va_E)))[y]? = some z := hz
      obtain ⟨i, hi, rfl⟩ := List.mem_map.mp (List.mem_of_getElem? hz)
      exact hrow i (List.mem_range.mp hi)
  have hD2 : va_D A ((ws ++ x) ++ mg (Γ.2.1 6) (Γ.2.1 0) H.size (fun i => H.size + 1 + i) n.toNatClampNeg k.toNatClampNeg) := sk_pushD hw.2.2.1 hlt (fun y z h => mg_at h) (fun q hq => hw.2.2.2.2.1 q (Nat.le_trans hw.2.2.2.1.1 hq))
  rw [List.append_assoc] at hP2 hD2
  obtain ⟨t, a1, b1⟩ := kk H.size (fun i => H.size + 1 + i) F.heap ⟨hP2, hw.2.1, hD2, ⟨Nat.le_trans hw.2.2.2.1.1 (by omega), fun y h1 h2 => (hold y (Nat.lt_of_lt_of_le h1 hw.2.2.2.1.1)).trans (hw.2.2.2.1.2.1 y h1 h2), hw.2.2.2.1.2.2⟩, hw.2.2.2.2⟩ F rfl X'
  refine ⟨t, step t ?_, b1⟩
  have e9 : T.heap.size = H.size := by rw [hT]
  rw [e9]
  exact a1
end SKM
