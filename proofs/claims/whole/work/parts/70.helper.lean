/-! ===== the law's helpers: a method with an exception table ===== -/
abbrev MetL (l : Launch) (y : MethodName) (bytes : ByteArray) (maxL : Nat) (hh : List (Nat × Nat × Nat × Nat)) (rm : Room) (B : Wb) (sz : Nat) (σ σ' : Mem) (av : List Value) (v : Option Value) : Prop :=
  Met l y (.codeWith y bytes maxL (some .int) hh :: GL) rm (Pw B sz σ av) (Qo B σ' v (own B sz)) 1 6 (own B sz)
theorem metL_in {l : Launch} {y : MethodName} {bytes : ByteArray} {maxL : Nat} {hh : List (Nat × Nat × Nat × Nat)} {rm : Room} {B : Wb} {sz : Nat} {σ σ' : Mem} {av : List Value} {v : Option Value} (hp : plainName y.cls = true) (hlen : (lg_sl av).length ≤ maxL)
    (body : ∀ p e s m below meth c, Cx p s m av.toArray meth c bytes maxL y.cls → meth.sig.returnType = some .int → c.exceptionTable.toList.map (fun h => (h.startPc, h.endPc, h.handlerPc, h.catchType)) = hh → Wx B σ s s.heap [] → ∀ ls, lv_has ls maxL (lv_args 0 av) → W p l e rm s m av.toArray below meth c s.heap [] 0 0 (MQ below (Qo B σ' v (own B s.heap.size)) av.toArray s 1 6 (own B s.heap.size)) (F0 m 0 ls [])) : MetL l y bytes maxL hh rm B sz σ σ' av v := by
  refine MetFree.of_bodyS (code := bytes) (maxLocals := maxL) (ret := some .int) hp ?_ ?_
  · intro args s m h hn
    obtain ⟨m9, meth, c, hn9, h1, h2, h3, h4, -, h5, h6, -⟩ := Cond.codeWith_spec (atoms_spec (ws := .codeWith y bytes maxL (some .int) hh :: GL) h _ List.mem_cons_self)
    cases hn.symm.trans hn9
    exact ⟨meth, c, h1, h2, h3, h4, h5, h6⟩
  · intro p e s m args below meth c s₁ B0 hml hP _
    obtain ⟨rfl, hsz, hw⟩ := hP
    subst hsz
    have hts := atoms_spec (ws := .codeWith y bytes maxL (some .int) hh :: GL) B0.pre
    have hown : s.vm.findClass y.cls = some m.cls := findClass_of_methodNamed B0.named
    have hX := Stand.of_body B0
    have hex : c.exceptionTable.toList.map (fun h => (h.startPc, h.endPc, h.handlerPc, h.catchType)) = hh := by
      obtain ⟨m9, meth9, c9, hn9, h1, h2, -, -, h5, -⟩ := Cond.codeWith_spec (hts _ List.mem_cons_self)
      cases B0.named.symm.trans hn9
      cases B0.method.symm.trans h1
      cases hX.code.symm.trans h2
      exact h5
    have hh0 : s₁.heap = s.heap := by rw [B0.state]; rfl
    have key : W p l e rm s m av.toArray below meth c s.heap [] 0 0 (MQ below (Qo B σ' v (own B s.heap.size)) av.toArray s 1 6 (own B s.heap.size)) (entryFrame m av.toArray maxL) := by
      rw [lg_entry_eq]
      exact body p e s m below meth c ⟨⟨B0.exec, B0.bytes, hml, hown, fun w h => hts w (List.mem_cons_of_mem _ h)⟩, B0.notSynchronized⟩ B0.returns hex (wx_in hw) _ (lv_entry av hlen)
    obtain ⟨t, a1, o, b1, b2, b3⟩ := key s₁ hh0 hX
    exact ⟨t, o, a1, b1, b2, ⟨b3.1, b3.2⟩⟩
section CAT
variable {p : Program} {l : Launch} {e : Env} {R : Room} {s : State} {m : MethodId} {args : Array Value} {below : List Frame} {meth : Method} {c : Code} {H : Heap} {locs : List Loc} {cells slots : Nat} {Q : State → Prop}
variable {cc : ByteArray} {nL pc : Nat} {ow : String} {ls : Array Slot} {rest st0 : List Value} {B : Wb} {σ σ' : Mem}
theorem xCat (C0 : Cx p s m args meth c cc nL ow) (w : Wx B σ s H locs) {E : String} {ce : Cell} {q9 : Addr} {pre suf : List (Nat × Nat × Nat × Nat)} {sp ep hpc ct : Nat} (hex : c.exceptionTable.toList.map (fun h => (h.startPc, h.endPc, h.handlerPc, h.catchType)) = pre ++ (sp, ep, hpc, ct) :: suf) (hpre : ∀ z ∈ pre, z.2.2.2 ≠ 0 ∧ ∃ nm : String, Cond.classLink ow z.2.2.2 nm ∈ GL ∧ (E, nm) ∈ ncP) (hcov : ∀ x : ExceptionTableEntry, x.startPc = sp → x.endPc = ep → covers x pc = true) (h0 : ct ≠ 0) (hl : Cond.classLink ow ct E ∈ GL) (hE : E ∈ [xIA, xIO, xIS]) (hcell : H[q9]? = some ce) (hv : ce.vm = .none) (hcl : s.vm.findClass E = some ce.cls)
    (kk : W p l e R s m args below meth c H locs cells slots Q (F0 m hpc ls [.ref q9])) : vx_W p l e R s m args below meth c H locs cells slots Q (F0 m pc ls rest) q9 := by
  have ht := C0.1.2.2.2.2
  obtain ⟨L1, L2, hL, hL1, hL2⟩ := List.map_eq_append_iff.mp hex
  obtain ⟨x, L3, hL4, hx, hL3⟩ := List.map_eq_cons_iff.mp hL2
  subst hL4
  have e1 : x.startPc = sp := congrArg (fun z => z.1) hx
  have e2 : x.endPc = ep := congrArg (fun z => z.2.1) hx
  have e3 : x.handlerPc = hpc := congrArg (fun z => z.2.2.1) hx
  have e4 : x.catchType = ct := congrArg (fun z => z.2.2.2) hx
  refine vx_catch (E := E) (name := E) (own := ow) C0.1.2.2.2.1 L1 x L3 hL (fun z hz => ?_) (hcov x e1 e2) (by rw [e4]; exact h0) (by rw [e4]; exact ht _ hl) (va_Nw.use rfl (w.2.2.2.2.2.2.2.2.2.2.2.1 E hE)) hcell hv hcl (by rw [e3]; exact kk)
  have hz' : (z.startPc, z.endPc, z.handlerPc, z.catchType) ∈ pre := by rw [← hL1]; exact List.mem_map.mpr ⟨z, hz, rfl⟩
  obtain ⟨g0, nm, g1, g2⟩ := hpre _ hz'
  exact Or.inr ⟨g0, nm, ht _ g1, w.2.2.2.2.2.2.2.1 _ g2⟩
end CAT
