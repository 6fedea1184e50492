/-! ===== rows for the words of the enum and their texts ===== -/
theorem wvR {B : Wb} {x : Int32} (h : ¬ x < 0) : wv B x = .ref (wE B x.toNatClampNeg) := if_neg h
theorem wvL {B : Wb} {x : Int32} (h : x < 0) : wv B x = .null := if_pos h
theorem wvI {B : Wb} {x : Int32} {n : Nat} (h : inb x n = true) : wv B x = .ref (wE B x.toNatClampNeg) := wvR fun q => inbE h (Or.inl q)
theorem inbL {x : Int32} {n : Nat} (h : inb x n = true) : x.toNatClampNeg < n := Nat.not_le.mp fun q => inbE h (Or.inr q)
theorem inbP {x : Int32} {n : Nat} (h : inb x n = true) : ¬ x < 0 := fun q => inbE h (Or.inl q)
theorem wvc {B : Wb} {x : Int32} : (wv B x).category = 1 := by
  unfold wv
  by_cases h : x < 0
  · rw [if_pos h]; rfl
  · rw [if_neg h]; rfl
theorem catR {a : Nat} : (Value.ref a).category = 1 := rfl
theorem catI {a : Int32} : (Value.int a).category = 1 := rfl
theorem catL {a : Int64} : (Value.long a).category = 2 := rfl
theorem ordE {x : Int32} (h : inb x 8 = true) : wOrd.getD x.toNatClampNeg 0 = x := by
  obtain ⟨j, hj, rfl⟩ := nI_of (inbP h)
  have h2 := inbL h
  rw [nI_clamp hj] at h2 ⊢
  have key : ∀ k, k < 8 → wOrd.getD k 0 = nI k := by decide +kernel
  exact key j h2
def nums (x : Int32) : Int32 := wNu.getD x.toNatClampNeg 0
def swOf (x : Int32) : Int32 := sMap.getD x.toNatClampNeg 0
def sLen (x : Int32) : Int32 := Int32.ofNat (wLe.getD x.toNatClampNeg 0)
def sChr (x j : Int32) : Int32 := (wBy.getD x.toNatClampNeg []).getD j.toNatClampNeg 0
section ROWS4
variable {p : Program} {l : Launch} {e : Env} {R : Room} {s : State} {m : MethodId} {args : Array Value} {below : List Frame} {meth : Method} {c : Code} {H : Heap} {locs : List Loc} {cells slots : Nat} {Q : State → Prop}
variable {cc : ByteArray} {nL pc : Nat} {ow : String} {ls : Array Slot} {rest st0 : List Value} {B : Wb} {σ σ' : Mem}
theorem gen_ (w : Wx B σ s H locs) : Gen B (own B s.heap.size) s s.heap := w.2.2.2.2.2.2.2.2.2.2.1
theorem zG (C0 : Cx p s m args meth c cc nL ow) (w : Wx B σ s H locs) {C n d : String} {v : Value} {idx : Nat} (hZ : va_Z C n d v (own B s.heap.size) s s.heap) (hl : Cond.fieldLink ow idx C n d ∈ GL) (dd : decode cc pc = .ok (.getstatic idx, 3)) (kk : W p l e R s m args below meth c H locs cells slots Q (F0 m (pc + 3) ls (v :: rest))) : W p l e R s m args below meth c H locs cells slots Q (F0 m pc ls rest) :=
  va_gets C0.1.1 C0.1.2.1 hZ w.2.2.2.1 C0.1.2.2.2.1 (C0.1.2.2.2.2 _ hl) (fun _ h => h) dd kk
theorem zF (C0 : Cx p s m args meth c cc nL ow) (w : Wx B σ s H locs) {o n d : String} {q : Nat} {v : Value} {idx : Nat} (hE : va_OF o n d v q (own B s.heap.size) s s.heap) (hl : Cond.fieldLink ow idx o n d ∈ GL) (dd : decode cc pc = .ok (.getfield idx, 3)) (kk : W p l e R s m args below meth c H locs cells slots Q (F0 m (pc + 3) ls (v :: rest))) : W p l e R s m args below meth c H locs cells slots Q (F0 m pc ls (.ref q :: rest)) :=
  vk_getf C0.1.1 C0.1.2.1 hE w.2.2.2.1 C0.1.2.2.2.1 (C0.1.2.2.2.2 _ hl) (fun _ h => h) dd kk
theorem zN (C0 : Cx p s m args meth c cc nL ow) (w : Wx B σ s H locs) {o n d host : String} {q : Nat} {v : Value} {idx : Nat} (hE : va_OF o n d v q (own B s.heap.size) s s.heap) (hl : (ow, idx, o, n, d, host) ∈ nestF) (dd : decode cc pc = .ok (.getfield idx, 3)) (kk : W p l e R s m args below meth c H locs cells slots Q (F0 m (pc + 3) ls (v :: rest))) : W p l e R s m args below meth c H locs cells slots Q (F0 m pc ls (.ref q :: rest)) := by
  obtain ⟨cf, k, fi, f, cell, h1, h2, h3, h4, h5, h6⟩ := hE.kept w.2.2.2.1.2.1
  exact va_Wgetf C0.1.1 C0.1.2.1 C0.1.2.2.2.1 (va_Nw.use rfl (w.2.2.2.2.2.1 _ hl)) h1 h2 h3 h4 h5 rfl rfl dd kk
/-- text and numbers of a word -/
theorem zText (C0 : Cx p s m args meth c cc nL ow) (w : Wx B σ s H locs) {x : Int32} {idx : Nat} {host : String} (hi : inb x 8 = true) (hl : (ow, idx, RX10, "text", "Ljava/lang/String;", host) ∈ nestF) (dd : decode cc pc = .ok (.getfield idx, 3)) (kk : W p l e R s m args below meth c H locs cells slots Q (F0 m (pc + 3) ls (.ref (wK B x.toNatClampNeg) :: rest))) : W p l e R s m args below meth c H locs cells slots Q (F0 m pc ls (.ref (wE B x.toNatClampNeg) :: rest)) :=
  zN C0 w ((gen_ w).2.2.2.1 _ (inbL hi)) hl dd kk
theorem zNums (C0 : Cx p s m args meth c cc nL ow) (w : Wx B σ s H locs) {x : Int32} {idx : Nat} {host : String} (hi : inb x 8 = true) (hl : (ow, idx, RX10, "numbers", "I", host) ∈ nestF) (dd : decode cc pc = .ok (.getfield idx, 3)) (kk : W p l e R s m args below meth c H locs cells slots Q (F0 m (pc + 3) ls (.int (nums x) :: rest))) : W p l e R s m args below meth c H locs cells slots Q (F0 m pc ls (.ref (wE B x.toNatClampNeg) :: rest)) :=
  zN C0 w ((gen_ w).2.2.1 _ (inbL hi)) hl dd kk
theorem zWORDS (C0 : Cx p s m args meth c cc nL ow) (w : Wx B σ s H locs) {idx : Nat} (hl : Cond.fieldLink ow idx RX5 "WORDS" "[LSlownessImager$Word;" ∈ GL) (dd : decode cc pc = .ok (.getstatic idx, 3)) (kk : W p l e R s m args below meth c H locs cells slots Q (F0 m (pc + 3) ls (.ref (wT B) :: rest))) : W p l e R s m args below meth c H locs cells slots Q (F0 m pc ls rest) :=
  zG C0 w (gen_ w).2.2.2.2.2.1 hl dd kk
theorem zSW (C0 : Cx p s m args meth c cc nL ow) (w : Wx B σ s H locs) {idx : Nat} (hl : Cond.fieldLink ow idx RX0 "$SwitchMap$SlownessImager$Word" "[I" ∈ GL) (dd : decode cc pc = .ok (.getstatic idx, 3)) (kk : W p l e R s m args below meth c H locs cells slots Q (F0 m (pc + 3) ls (.ref (wS B) :: rest))) : W p l e R s m args below meth c H locs cells slots Q (F0 m pc ls rest) :=
  zG C0 w (gen_ w).2.2.2.2.2.2.2.1 hl dd kk
theorem zTlen (C0 : Cx p s m args meth c cc nL ow) (w : Wx B σ s H locs) (dd : decode cc pc = .ok (.arraylength, 1)) (kk : W p l e R s m args below meth c H locs cells slots Q (F0 m (pc + 1) ls (.int 8 :: rest))) : W p l e R s m args below meth c H locs cells slots Q (F0 m pc ls (.ref (wT B) :: rest)) :=
  va_tlen C0.1.1 C0.1.2.1 (gen_ w).2.2.2.2.2.2.1 w.2.2.2.1 rfl dd kk
theorem zTat (C0 : Cx p s m args meth c cc nL ow) (w : Wx B σ s H locs) {i : Int32} (hi : inb i 8 = true) (dd : decode cc pc = .ok (.aaload, 1)) (kk : W p l e R s m args below meth c H locs cells slots Q (F0 m (pc + 1) ls (.ref (wE B i.toNatClampNeg) :: rest))) : W p l e R s m args below meth c H locs cells slots Q (F0 m pc ls (.int i :: .ref (wT B) :: rest)) :=
  vb_tq C0.1.1 C0.1.2.1 (gen_ w).2.2.2.2.2.2.1 w.2.2.2.1 (inbE hi) rfl dd kk
theorem zSat (C0 : Cx p s m args meth c cc nL ow) (w : Wx B σ s H locs) {i : Int32} (hi : inb i 8 = true) (dd : decode cc pc = .ok (.iaload, 1)) (kk : W p l e R s m args below meth c H locs cells slots Q (F0 m (pc + 1) ls (.int (swOf i) :: rest))) : W p l e R s m args below meth c H locs cells slots Q (F0 m pc ls (.int i :: .ref (wS B) :: rest)) :=
  va_ti C0.1.1 C0.1.2.1 (gen_ w).2.2.2.2.2.2.2.2.1 w.2.2.2.1 (inbE hi) rfl dd kk
/-- a word out of the row of words, and into it -/
theorem aW (C0 : Cx p s m args meth c cc nL ow) (w : Wx B σ s H locs) {k n : Nat} {i : Int32} (hs : shA k 7 n = true) (hi : vp_in i n) (dd : decode cc pc = .ok (.aaload, 1))
    (kk : W p l e R s m args below meth c H locs cells slots Q (F0 m (pc + 1) ls (wv B (σ.1 k i.toNatClampNeg) :: rest))) : W p l e R s m args below meth c H locs cells slots Q (F0 m pc ls (.int i :: .ref (wA B k) :: rest)) := by
  have ha : (wd B σ)[k]? = some (wA B k, .inl (wC B 6, n, .inr (.inr (.inr (.inr (fun j => if σ.1 k j < 0 then none else some (wE B (σ.1 k j).toNatClampNeg))))))) := wd_getA hs _ rfl
  refine va_aldq C0.1.1 C0.1.2.1 w.2.1 w.1 k 6 ha rfl hi dd ?_
  have he : va_rf (if σ.1 k i.toNatClampNeg < 0 then none else some (wE B (σ.1 k i.toNatClampNeg).toNatClampNeg)) = wv B (σ.1 k i.toNatClampNeg) := by
    unfold wv
    by_cases h : σ.1 k i.toNatClampNeg < 0
    · rw [if_pos h, if_pos h]; rfl
    · rw [if_neg h, if_neg h]; rfl
  show W p l e R s m args below meth c H locs cells slots Q (F0 m (pc + 1) ls (va_rf (if σ.1 k i.toNatClampNeg < 0 then none else some (wE B (σ.1 k i.toNatClampNeg).toNatClampNeg)) :: rest))
  rw [he]
  exact kk
theorem shE (w : Wx B σ s H locs) {i : Nat} (hi : i < 8) : ∃ cell : Cell, H[wE B i]? = some cell ∧ cell.vm.isStatics = false ∧ s.vm.findClass RX10 = some cell.cls := by
  obtain ⟨cell, h1, h2, h3, h4⟩ := (gen_ w).1 i hi
  exact ⟨cell, (w.2.2.2.1.2.1 _ (Array.getElem?_eq_some_iff.mp h1).1 h4).trans h1, h2, h3⟩
theorem shS (w : Wx B σ s H locs) {i : Nat} (hi : i < 8) : ∃ cell : Cell, H[wK B i]? = some cell ∧ cell.vm.isStatics = false ∧ s.vm.findClass "java/lang/String" = some cell.cls := by
  obtain ⟨cell, h1, h2, h3, h4⟩ := ((gen_ w).2.2.2.2.1.1 i hi).1
  exact ⟨cell, (w.2.2.2.1.2.1 _ (Array.getElem?_eq_some_iff.mp h1).1 h4).trans h1, h2, h3⟩
theorem sW (C0 : Cx p s m args meth c cc nL ow) (w : Wx B σ s H locs) {k n : Nat} {i x : Int32} (hs : shA k 7 n = true) (hi : vp_in i n) (hx : inb x 8 = true) (dd : decode cc pc = .ok (.aastore, 1))
    (kk : ∀ H locs, Wx B (setI σ k i.toNatClampNeg x) s H locs → W p l e R s m args below meth c H locs cells slots Q (F0 m (pc + 1) ls rest)) : W p l e R s m args below meth c H locs cells slots Q (F0 m pc ls (.ref (wE B x.toNatClampNeg) :: .int i :: .ref (wA B k) :: rest)) := by
  have ha : (wd B σ)[k]? = some (wA B k, .inl (wC B 6, n, .inr (.inr (.inr (.inr (fun j => if σ.1 k j < 0 then none else some (wE B (σ.1 k j).toNatClampNeg))))))) := wd_getA hs _ rfl
  refine vb_astq C0.1.1 C0.1.2.1 w.2.1 w.1 (wd_D (σ := σ) w.2.2.1 (A := own B s.heap.size) own_A) w.2.2.2.1 k 6 ha rfl (shE w (inbL hx)) (vb_asgS (C := RX10)) hi dd (fun H1 l1 hP _ hS => ?_)
  refine kk H1 l1 ⟨?_, w.2.1, w.2.2.1, hS, w.2.2.2.2⟩
  obtain ⟨h1, h2, h3⟩ := shA_ok hs
  have hf : va_up (fun j => if σ.1 k j < 0 then none else some (wE B (σ.1 k j).toNatClampNeg)) i.toNatClampNeg (some (wE B x.toNatClampNeg)) = fun j => if upd (σ.1 k) i.toNatClampNeg x j < 0 then none else some (wE B (upd (σ.1 k) i.toNatClampNeg x j).toNatClampNeg) := by
    funext j
    by_cases hj : j = i.toNatClampNeg
    · subst hj; simp [va_up, upd, inbP hx]
    · simp [va_up, upd, hj]
  rw [hf] at hP
  have he : ((.inl (wC B 6, n, .inr (.inr (.inr (.inr (fun j => if upd (σ.1 k) i.toNatClampNeg x j < 0 then none else some (wE B (upd (σ.1 k) i.toNatClampNeg x j).toNatClampNeg)))))) ) : va_E) = mk B (shp k) (upd (σ.1 k) i.toNatClampNeg x) (σ.2 k) := by simp [mk, h2, h3]
  rw [he, wd_repI] at hP
  exact hP
/-! a call at an object that isn't of the world -/
theorem cR (C0 : Cx p s m args meth c cc nL ow) (w : Wx B σ s H locs) {y : MethodName} {bytes : ByteArray} {maxL n b idx : Nat} {ret : Option FieldType} {rm : Room} {As : List Value} {v : Option Value} (hM : MetC l y bytes maxL ret rm B H.size σ σ' (.ref b :: As) v) (hy : Ky y bytes maxL ret n) (hv : Kv y) (hl : Cond.methodLink ow idx y ∈ GL) (hs : ∃ cell : Cell, H[b]? = some cell ∧ cell.vm.isStatics = false ∧ s.vm.findClass y.cls = some cell.cls)
    (hR : rm.frames + 1 ≤ R.frames ∧ 8 + (maxL + 11) + rm.locals ≤ R.locals) (hf : cells + rm.cells ≤ R.cells ∧ slots + rm.slots ≤ R.slots) (hn : As.length = n) (hst : st0 = As.reverse ++ .ref b :: rest) (hW : (rest.map fun v => v.category).sum ≤ 8) (hls : ls.size = nL) (d : decode cc pc = .ok (.invokevirtual idx, 3))
    (kk : ∀ H locs, Wx B σ' s H locs → W p l e R s m args below meth c H locs (cells + rm.cells) (slots + rm.slots) Q (F0 m (pc + 3) ls (v.toList ++ rest))) : W p l e R s m args below meth c H locs cells slots Q (F0 m pc ls st0) := by
  have ht := C0.1.2.2.2.2
  refine call_go (va_runV (As := As) (rest := rest) (C := y.cls) C0.1 hM ⟨callB_of n ht (by intro z hz; rcases List.mem_cons.mp hz with rfl | h; exact ⟨hy.1, good_of_word (List.mem_filter.mp hy.1).2⟩; exact ⟨h, good_of_word (List.mem_filter.mp h).2⟩) rfl rfl rfl (ht _ hy.2.1) (ht _ hl) hy.2.2 hR, ht _ hv.1, ht _ hv.2⟩ ⟨Pw_blind, hs, fun U hU hW => ⟨rfl, by rw [hU], w.here hU hW⟩⟩ rfl hn hls hst (lv_room hW) d hf) w kk
/-- .. of a method that the object's class inherits -/
theorem cU (C0 : Cx p s m args meth c cc nL ow) (w : Wx B σ s H locs) {C owner : String} {x y : MethodName} {bytes : ByteArray} {maxL n b idx : Nat} {ret : Option FieldType} {rm : Room} {As : List Value} {v : Option Value} (hM : MetC l y bytes maxL ret rm B H.size σ σ' (.ref b :: As) v) (hyx : y = ⟨owner, x.name, x.desc⟩) (hd : owner ≠ "java/lang/invoke/MethodHandle" ∧ owner ≠ "java/lang/invoke/VarHandle" ∧ (parseMethodDescriptor x.desc).map (fun d => d.parameters.length) = some n) (hws : ∀ z ∈ ([.methodLink ow idx x, .sameMethod x.cls owner x.name x.desc, .selects C x y, .instanceMethod y, .initialized y.cls, .code y bytes maxL ret] : List Cond), z ∈ GL) (hs : ∃ cell : Cell, H[b]? = some cell ∧ cell.vm.isStatics = false ∧ s.vm.findClass C = some cell.cls)
    (hR : rm.frames + 1 ≤ R.frames ∧ 8 + (maxL + 11) + rm.locals ≤ R.locals) (hf : cells + rm.cells ≤ R.cells ∧ slots + rm.slots ≤ R.slots) (hn : As.length = n) (hst : st0 = As.reverse ++ .ref b :: rest) (hW : (rest.map fun v => v.category).sum ≤ 8) (hls : ls.size = nL) (d : decode cc pc = .ok (.invokevirtual idx, 3))
    (kk : ∀ H locs, Wx B σ' s H locs → W p l e R s m args below meth c H locs (cells + rm.cells) (slots + rm.slots) Q (F0 m (pc + 3) ls (v.toList ++ rest))) : W p l e R s m args below meth c H locs cells slots Q (F0 m pc ls st0) := by
  have ht := C0.1.2.2.2.2
  refine call_go (va_runU (As := As) (rest := rest) (C := C) (owner := owner) (x := x) C0.1 hM (va_cwU n ht (by
    intro z hz
    have hz' : z ∈ GL := by
      unfold va_wsU at hz
      rcases List.mem_append.mp hz with h | h
      · exact hws z (by simp only [List.mem_cons, List.not_mem_nil, or_false] at h ⊢; rcases h with h | h | h | h | h <;> simp [h])
      · rcases List.mem_cons.mp h with rfl | h
        · exact hws _ (by simp)
        · exact h
    exact ⟨hz', good_of_word (List.mem_filter.mp hz').2⟩) rfl rfl rfl hyx hd hR) ⟨Pw_blind, hs, fun U hU hW => ⟨rfl, by rw [hU], w.here hU hW⟩⟩ rfl hn hls hst (lv_room hW) d hf) w kk
/-! a word or none: stores, loads, returns -/
theorem stW_n (C0 : Cx p s m args meth c cc nL ow) {k : Fin 4} {i : Nat} {x : Int32} {lv lv' : List (Nat × Value)} (dd : decode cc pc = .ok (.astore_n k, 1)) (hi : (k : Nat) = i) (h : lv_has ls nL lv) (hn : i < nL) (hl : (i, wv B x) :: lv.filter (fun q => !(q.1 == i) && !(q.1 + 1 == i && q.2.category == 2)) = lv')
    (kk : ∀ ls' : Array Slot, lv_has ls' nL lv' → W p l e R s m args below meth c H locs cells slots Q (F0 m (pc + 1) ls' rest)) : W p l e R s m args below meth c H locs cells slots Q (F0 m pc ls (wv B x :: rest)) := by
  by_cases hx : x < 0
  · rw [wvL hx] at hl ⊢
    subst hi
    obtain ⟨ls', e', h'⟩ := lv_store1 (v := .null) h hn rfl
    intro T hT X
    obtain ⟨t, a, b⟩ := kk ls' (hl ▸ h') T hT X
    refine ⟨t, ?_, b⟩
    jvm_step X.here [X.here.top, ↓top_set X.here.top, C0.1.1, C0.1.2.1, dd, e', Value.isRef]
    exact a
  · rw [wvR hx] at hl ⊢
    exact lv_astore_n C0.1.1 C0.1.2.1 dd hi h hn hl kk
theorem ldW_n (C0 : Cx p s m args meth c cc nL ow) {k : Fin 4} {i : Nat} {x : Int32} (dd : decode cc pc = .ok (.aload_n k, 1)) (hi : (k : Nat) = i) (hl : ls[i]? = some (.val (wv B x))) (kk : W p l e R s m args below meth c H locs cells slots Q (F0 m (pc + 1) ls (wv B x :: rest))) : W p l e R s m args below meth c H locs cells slots Q (F0 m pc ls rest) := by
  by_cases hx : x < 0
  · rw [wvL hx] at hl kk
    exact lv_aload_nN C0.1.1 C0.1.2.1 dd hi hl kk
  · rw [wvR hx] at hl kk
    exact lv_aload_n C0.1.1 C0.1.2.1 dd hi hl kk
theorem eW (C0 : Cx p s m args meth c cc nL ow) {N : String} (hr : meth.sig.returnType = some (.object N)) (w : Wx B σ s H locs) {v : Value} (hv : v = .null ∨ ∃ a, v = .ref a) (d : decode cc pc = .ok (.areturn, 1)) : W p l e R s m args below meth c H locs cells slots (MQ below (Qo B σ (some v) (own B s.heap.size)) args s cells slots (own B s.heap.size)) (F0 m pc ls [v]) :=
  W.aret C0.1.1 C0.1.2.1 hr (Or.inl ⟨_, rfl⟩) hv (fun t ht _ => ⟨⟨rfl, by rw [ht]; exact w.1⟩, w.2.2.2.1.F ht⟩) w.2.2.2.1.2.2 d (hlocks := C0.2)
end ROWS4
