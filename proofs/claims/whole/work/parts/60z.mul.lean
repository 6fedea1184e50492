/-! needs multianewarray2F: a wide round -/
theorem vr_outer (c : ClassId) (N h0 : Nat) : ∀ i : Nat, Jvm.Free.Multi.outerC c N h0 i = arrV c N (fun j => va_rf (if j < i then some (h0 + 1 + j) else none))
  | 0 => by
    show ({ cls := c, slots := Array.replicate N .null, vm := .none } : Cell) = _
    rw [arrV_new]
    refine congrArg (arrV c N) (funext fun j => ?_)
    simp [va_rf]
  | i + 1 => by
    show (Jvm.Free.Multi.outerC c N h0 i).setSlot i (.ref (h0 + 1 + i)) = _
    rw [vr_outer c N h0 i, arrV_store]
    refine congrArg (arrV c N) (funext fun j => ?_)
    by_cases e : j = i
    · subst e
      simp [updV, va_rf]
    · by_cases h : j < i
      · simp [updV, e, h, Nat.lt_succ_of_lt h]
      · simp [updV, e, h, show ¬ j < i + 1 by omega]
section BORNM
variable {p : Program} {l : Launch} {e : Env} {R : Room} {s : State} {m : MethodId} {args : Array Value} {below : List Frame} {meth : Method} {c : Code} {H : Heap} {locs : List Loc} {cells slots : Nat} {Q : State → Prop}
variable {cc : ByteArray} {nL pc : Nat} {ow : String} {ls : Array Slot} {rest st0 : List Value} {B : Wb} {b n : Nat} {E E' : Nat → va_E}
/-- new int[n][m] -/
theorem bMul (C0 : Cx p s m args meth c cc nL ow) (w : Bx B b n E s H locs) {idx : Nat} (hcl : Cond.classLink ow idx ("[" ++ (FieldType.array .int).toString) ∈ GL) (harr : Cond.arrayClass .int ∈ GL) {i j : Int32} {N M : Nat} (hn : ¬ i < 0) (hm : ¬ j < 0) (hN : i.toNatClampNeg = N) (hM : j.toNatClampNeg = M) (hb1 : N * 4 ≤ 536870912) (hb2 : M * componentBytes .int ≤ 536870912) (hb3 : M ≤ 536870912) (hcells : cells + (1 + N) ≤ R.cells) (hslots : slots + (N + N * M) ≤ R.slots) (d : decode cc pc = .ok (.multianewarray idx 2, 4))
    (kk : ∀ H, Bx B b (n + (1 + N)) (fun q => if q < n then E q else if q = n then .inl (wC B 4, N, .inr (.inr (.inr (.inr (fun r => some (wA B (n + 1 + r))))))) else .inl (wC B 0, M, .inl (fun _ => 0))) s H locs → W p l e R s m args below meth c H locs (cells + 1 + N) (slots + N + N * M) Q (F0 m (pc + 4) ls (.ref (wA B n) :: rest))) : W p l e R s m args below meth c H locs cells slots Q (F0 m pc ls (.int j :: .int i :: rest)) := by
  subst hN
  subst hM
  have ht := C0.1.2.2.2.2
  have hh : H.size = wA B n := w.2.2.2.2.2.1
  intro T hT Xs
  obtain ⟨vm₁, cA, comp, -, fA, fC, hO, -, X', step⟩ := Jvm.Stand.multianewarray2F Xs C0.1.1 C0.1.2.2.2.1 (ht _ hcl) w.2.2.2.2.1.2.2.2 (ht _ harr) (g := F0 m pc ls (.int j :: .int i :: rest)) rfl (by rw [C0.1.2.1]; exact d) rfl hn hm hb1 hb2 hb3 rfl rfl hcells hslots
  have e0 : s.vm.findClass ("[" ++ (FieldType.int).toString) = some (wC B 0) := (w.2.1.2 0 _ rfl).2
  have e4 : s.vm.findClass ("[" ++ (FieldType.array .int).toString) = some (wC B 4) := (w.2.1.2 4 _ rfl).2
  have ec : comp = wC B 0 := Option.some.inj (fC.symm.trans e0)
  have ea : cA = wC B 4 := Option.some.inj (fA.symm.trans e4)
  subst ec
  subst ea
  generalize hF : Jvm.Free.Multi.fill (T.setVm vm₁) (wC B 4) (wC B 0) i.toNatClampNeg j.toNatClampNeg (defaultValue .int) i.toNatClampNeg = F at X' step
  have hTh : (T.setVm vm₁).heap = H := hT
  obtain ⟨f1, f2, -, -⟩ := Jvm.Free.Multi.fill_facts (T.setVm vm₁) (wC B 4) (wC B 0) i.toNatClampNeg j.toNatClampNeg (defaultValue .int) i.toNatClampNeg
  rw [hF, hTh] at f1 f2
  have hold : ∀ x : Nat, x < H.size → F.heap[x]? = H[x]? := fun x hx => by
    have := Jvm.Free.Multi.fill_old (T.setVm vm₁) (wC B 4) (wC B 0) i.toNatClampNeg j.toNatClampNeg (defaultValue .int) (a := x) (by rw [hTh]; exact hx) i.toNatClampNeg
    rw [hF, hTh] at this
    exact this
  have hrow : ∀ r : Nat, r < i.toNatClampNeg → F.heap[H.size + 1 + r]? = some (vp_cell (wC B 0) (j.toNatClampNeg, .inl (fun _ => 0))) := fun r hr => by
    have := Jvm.Free.Multi.fill_inner (T.setVm vm₁) (wC B 4) (wC B 0) i.toNatClampNeg j.toNatClampNeg (defaultValue .int) i.toNatClampNeg r hr
    rw [hF, hTh] at this
    rw [this]
    show some _ = some (arrV (wC B 0) j.toNatClampNeg (fun _ => .int 0))
    rw [← arrV_new]
    rfl
  have hout : F.heap[H.size]? = some (vp_cell (wC B 4) (i.toNatClampNeg, .inr (.inr (.inr (.inr (fun r => some (wA B (n + 1 + r)))))))) := by
    rw [f2, vp_cell_q, vr_outer]
    refine congrArg some ?_
    refine arrV_congr (fun r hr => ?_)
    rw [if_pos hr, hh, w.2.2.1 n, w.2.2.1 (n + 1 + r)]
    show va_rf (some _) = va_rf (some _)
    congr 2
    omega
  have hbx := w.grow (k := 1 + i.toNatClampNeg) (H' := F.heap) (E' := fun q => if q < n then E q else if q = n then .inl (wC B 4, i.toNatClampNeg, .inr (.inr (.inr (.inr (fun r => some (wA B (n + 1 + r))))))) else .inl (wC B 0, j.toNatClampNeg, .inl (fun _ => 0))) (by rw [f1, hh, w.2.2.1 n, w.2.2.1 (n + (1 + i.toNatClampNeg))]; omega) hold (fun q _ hq => if_pos hq) (fun q h1 h2 => by
    show va_at B.1 vwCl (wA B q, if q < n then E q else if q = n then _ else _) F.heap
    rw [if_neg (by omega)]
    by_cases hq : q = n
    · subst hq
      rw [if_pos rfl]
      show F.heap[wA B q]? = _
      rw [← hh]
      exact hout
    · rw [if_neg hq]
      have g := hrow (q - (n + 1)) (by omega)
      have hadr : H.size + 1 + (q - (n + 1)) = wA B q := by rw [hh, w.2.2.1 n, w.2.2.1 q]; omega
      rw [hadr] at g
      exact g)
  obtain ⟨t, a1, b1⟩ := kk F.heap hbx F rfl X'
  refine ⟨t, step t ?_, b1⟩
  have hw : wA B n = T.heap.size := by rw [hT, hh]
  rw [hw] at a1
  exact a1
end BORNM
