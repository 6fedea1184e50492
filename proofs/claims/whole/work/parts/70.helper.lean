/-! ===== the law's helpers: a method with an exception table ===== -/
abbrev MetL (l : Launch) (y : MethodName) (bytes : ByteArray) (maxL : Nat) (hh : List (Nat × Nat × Nat × Nat)) (rm : Room) (B : Wb) (sz : Nat) (σ σ' : Mem) (av : List Value) (v : Option Value) : Prop :=
  Met l y (.codeWith y bytes maxL (some .int) hh :: GL) rm (Pw B sz σ av) (Qo B σ' v (own B sz)) 1 6 (own B sz)
theorem metL_in {l : Launch} {y : MethodName} {bytes : ByteArray} {maxL : Nat} {hh : List (Nat × Nat × Nat × Nat)} {rm : Room} {B : Wb} {sz : Nat} {σ σ' : Mem} {av : List Value} {v : Option Value} (hp : plainName y.cls = true) (hlen : (lg_sl av).length ≤ maxL)
    (body : ∀ p e s m below meth c, Cx p s m av.toArray meth c bytes maxL y.cls → meth.sig.returnType = some .int → c.exceptionTable.toList.map (fun h => (h.startPc, h.endPc, h.handlerPc, h.catchType)) = hh → Wx B σ s s.heap [] → ∀ ls, lv_has ls maxL (lv_args 0 av) → W p l e rm s m av.toArray below meth c s.heap [] 0 0 (MQ below (Qo B σ' v (own B s.heap.size)) av.toArray s 1 6 (own B s.heap.size)) (F0 m 0 ls [])) : MetL l y bytes maxL hh rm B sz σ σ' av v := by
  refine MetFree.of_bodyS (code := bytes) (maxLocals := maxL) (ret := some .int) hp ?_ ?_
  · intro args s m h hn
    obtain ⟨m9, meth, c, hn9, h1, h2, h3, h4, -, h5, h6, -⟩ := Cond.codeWith_spec (atoms_spec (ws := .codeWith y bytes maxL (some .int) hh :: GL) h _ List.mem_cons_self)
    cases hn.symm.trans hn9
    exact ⟨meth, c, h1, h2, h3, h4, h5, h6⟩
  · intro p e s m args below meth c s₁ B0 hml hP _
    obtain ⟨rfl, hsz, hw⟩ := hP
    subst hsz
    have hts := atoms_spec (ws := .codeWith y bytes maxL (some .int) hh :: GL) B0.pre
    have hown : s.vm.findClass y.cls = some m.cls := findClass_of_methodNamed B0.named
    have hX := Stand.of_body B0
    have hex : c.exceptionTable.toList.map (fun h => (h.startPc, h.endPc, h.handlerPc, h.catchType)) = hh := by
      obtain ⟨m9, meth9, c9, hn9, h1, h2, -, -, h5, -⟩ := Cond.codeWith_spec (hts _ List.mem_cons_self)
      cases B0.named.symm.trans hn9
      cases B0.method.symm.trans h1
      cases hX.code.symm.trans h2
      exact h5
    have hh0 : s₁.heap = s.heap := by rw [B0.state]; rfl
    have key : W p l e rm s m av.toArray below meth c s.heap [] 0 0 (MQ below (Qo B σ' v (own B s.heap.size)) av.toArray s 1 6 (own B s.heap.size)) (entryFrame m av.toArray maxL) := by
      rw [lg_entry_eq]
      exact body p e s m below meth c ⟨⟨B0.exec, B0.bytes, hml, hown, fun w h => hts w (List.mem_cons_of_mem _ h)⟩, B0.notSynchronized⟩ B0.returns hex (wx_in hw) _ (lv_entry av hlen)
    obtain ⟨t, a1, o, b1, b2, b3⟩ := key s₁ hh0 hX
    exact ⟨t, o, a1, b1, b2, ⟨b3.1, b3.2⟩⟩
