/-! ===== methods that throw; words of the enum ===== -/
def XT (B : Wb) (σ : Mem) (E : String) (A : Nat → Prop) : String → State → State → Prop := fun E' st t => E' = E ∧ va_P B.1 vwCl (wd B σ) t.heap ∧ va_F A st t
def QF : Array Value → State → Outcome → State → Prop := fun _ _ _ _ => False
abbrev MetT (l : Launch) (y : MethodName) (bytes : ByteArray) (maxL : Nat) (ret : Option FieldType) (rm : Room) (B : Wb) (sz : Nat) (σ σ' : Mem) (av : List Value) (E : String) : Prop :=
  vx_Met l y (.code y bytes maxL ret :: GL) rm (Pw B sz σ av) QF (XT B σ' E (own B sz)) rm.cells rm.slots (own B sz)
theorem metT_in {l : Launch} {y : MethodName} {bytes : ByteArray} {maxL : Nat} {ret : Option FieldType} {rm : Room} {B : Wb} {sz : Nat} {σ σ' : Mem} {av : List Value} {E : String} (hp : plainName y.cls = true) (hlen : (lg_sl av).length ≤ maxL)
    (body : ∀ p e s m below meth c, Cx p s m av.toArray meth c bytes maxL y.cls → (∀ x ∈ c.exceptionTable.toList, False) → Wx B σ s s.heap [] → s.heap.size = sz → ∀ ls, lv_has ls maxL (lv_args 0 av) → W p l e rm s m av.toArray below meth c s.heap [] 0 0 (vx_MQ below QF (XT B σ' E (own B s.heap.size)) av.toArray s rm.cells rm.slots (own B s.heap.size)) (F0 m 0 ls [])) : MetT l y bytes maxL ret rm B sz σ σ' av E := by
  refine vx_ofW (cc := bytes) (maxL := maxL) (ret := ret) hp rfl ?_
  intro p e s m args below meth c s₁ B0 hml hto hv
  obtain ⟨rfl, hsz, hw⟩ := hv
  subst hsz
  have hts := atoms_spec (ws := .code y bytes maxL ret :: GL) B0.pre
  have hown : s.vm.findClass y.cls = some m.cls := findClass_of_methodNamed B0.named
  rw [lg_entry_eq]
  exact body p e s m below meth c ⟨⟨B0.exec, B0.bytes, hml, hown, fun w h => hts w (List.mem_cons_of_mem _ h)⟩, B0.notSynchronized⟩ hto (wx_in hw) rfl _ (lv_entry av hlen)
def xNames : List String := ["java/lang/RuntimeException", "java/lang/Exception"]
/-- a throw's words that aren't good -/
def xNg (X : String) : List Cond := [.declares (Bundle.initS "java/lang/RuntimeException"), .declares (Bundle.initS "java/lang/Exception"), .declares (Bundle.initS Bundle.tN), .castable X X]
section ROWS3
variable {p : Program} {l : Launch} {e : Env} {R : Room} {s : State} {m : MethodId} {args : Array Value} {below : List Frame} {meth : Method} {c : Code} {H : Heap} {locs : List Loc} {cells slots : Nat} {Q : State → Prop}
variable {cc : ByteArray} {nL pc : Nat} {ow : String} {ls : Array Slot} {rest st0 : List Value} {B : Wb} {σ σ' : Mem}
/-- the words of a throw of X in the outer class -/
theorem x_hat (C0 : Cx p s m args meth c cc nL ow) (w : Wx B σ s H locs) {ic : Nat} {X : String} (hX : X ∈ [xIA, xIO, xIS]) (h1 : ∀ z ∈ (vx_atS ow ic X xNames).filter goodWord, z ∈ GL) (h2 : (vx_atS ow ic X xNames).filter (fun z => !goodWord z) = xNg X) : ∀ z ∈ vx_atS ow ic X xNames, z.before args s = true :=
  vx_hat (B := xNg X) (fun z hz => C0.1.2.2.2.2 _ (h1 z hz)) (fun z hz => by rw [h2] at hz; exact hz) (vx_c (va_Nw.use rfl (w.2.2.2.2.2.2.2.2.2.2.2.2 _ (by decide +kernel))) (vx_c (va_Nw.use rfl (w.2.2.2.2.2.2.2.2.2.2.2.2 _ (by decide +kernel))) (vx_c (va_Nw.use rfl (w.2.2.2.2.2.2.2.2.2.2.2.2 _ (by decide +kernel))) (vx_c (va_Nw.use rfl (w.2.2.2.2.2.2.2.2.2.2.2.1 X hX)) vx_n))))
def Xok (ow : String) (ik is ic : Nat) (X text : String) : Prop := X ∈ [xIA, xIO, xIS] ∧ Bundle.fit X = true ∧ Cond.classLink ow ik X ∈ GL ∧ Cond.initialized X ∈ GL ∧ (ow, is, text) ∈ strR ∧ (∀ z ∈ (vx_atS ow ic X xNames).filter goodWord, z ∈ GL) ∧ (vx_atS ow ic X xNames).filter (fun z => !goodWord z) = xNg X ∧ (∀ z ∈ Cond.classLink ow ik X :: Cond.initialized X :: vx_atS ow ic X xNames, vx_ot z = true)
theorem xThrow (C0 : Cx p s m args meth c cc nL ow) (hfl : l.stackTraces = false) (hto : ∀ x ∈ c.exceptionTable.toList, False) (w : Wx B σ s H locs) {ik is ic mc ms : Nat} {X text : String} (hX : Xok ow ik is ic X text) (hls : ls.size = nL)
    (d0 : decode cc pc = .ok (.new ik, 3)) (d3 : decode cc (pc + 3) = .ok (.dup, 1)) (d4 : decode cc (pc + 4) = .ok (.ldc is, 2)) (d6 : decode cc (pc + 6) = .ok (.invokespecial ic, 3)) (d9 : decode cc (pc + 9) = .ok (.athrow, 1))
    (hRf : 5 < R.frames) (hRl : (rest.map fun v => v.category).sum + 82 ≤ R.locals) (hRc : cells + 1 ≤ R.cells) (hRs : slots + 6 ≤ R.slots) (hc : cells + 1 ≤ mc) (hs : slots + 6 ≤ ms) :
    W p l e R s m args below meth c H locs cells slots (vx_MQ below QF (XT B σ X (own B s.heap.size)) args s mc ms (own B s.heap.size)) (F0 m pc ls rest) := by
  obtain ⟨h1, h2, h3, h4, h5, h6, h7, h8⟩ := hX
  have ht := C0.1.2.2.2.2
  obtain ⟨sa, hsa⟩ := w.2.2.2.2.2.2.1 _ h5
  refine vx_throwS (names := xNames) C0.1.1 C0.1.2.1 hfl C0.1.2.2.2.1 h2 (by decide +kernel) (ht _ h3) (ht _ h4) hsa (x_hat C0 w h1 h6 h7) h8 w.2.2.2.2.2.2.2.2.1 w.2.2.2.2.2.2.2.2.2.1 w.2.2.2.1 (hls.trans C0.1.2.2.1.symm) d0 d3 d4 d6 d9 (fun x hx => (hto x hx).elim) hRf hRl hRc hRs C0.2 (fun t _ hz hk => ⟨rfl, w.1.kept (fun k q hq => hk q.1 ((w.1 k q hq).lt)), Nat.le_trans w.2.2.2.1.1 hz, fun q g1 g2 => (hk q (Nat.lt_of_lt_of_le g1 w.2.2.2.1.1)).trans (w.2.2.2.1.2.1 q g1 g2)⟩) w.2.2.2.1.2.2 hc hs
theorem xThrowW (C0 : Cx p s m args meth c cc nL ow) (hfl : l.stackTraces = false) (hto : ∀ x ∈ c.exceptionTable.toList, False) (w : Wx B σ s H locs) {ik is ic mc ms : Nat} {X text : String} (hX : Xok ow ik is ic X text) (hls : ls.size = nL)
    (d0 : decode cc pc = .ok (.new ik, 3)) (d3 : decode cc (pc + 3) = .ok (.dup, 1)) (d4 : decode cc (pc + 4) = .ok (.ldc_w is, 3)) (d7 : decode cc (pc + 7) = .ok (.invokespecial ic, 3)) (d10 : decode cc (pc + 10) = .ok (.athrow, 1))
    (hRf : 5 < R.frames) (hRl : (rest.map fun v => v.category).sum + 82 ≤ R.locals) (hRc : cells + 1 ≤ R.cells) (hRs : slots + 6 ≤ R.slots) (hc : cells + 1 ≤ mc) (hs : slots + 6 ≤ ms) :
    W p l e R s m args below meth c H locs cells slots (vx_MQ below QF (XT B σ X (own B s.heap.size)) args s mc ms (own B s.heap.size)) (F0 m pc ls rest) := by
  obtain ⟨h1, h2, h3, h4, h5, h6, h7, h8⟩ := hX
  have ht := C0.1.2.2.2.2
  obtain ⟨sa, hsa⟩ := w.2.2.2.2.2.2.1 _ h5
  refine vx_throwSW (names := xNames) C0.1.1 C0.1.2.1 hfl C0.1.2.2.2.1 h2 (by decide +kernel) (ht _ h3) (ht _ h4) hsa (x_hat C0 w h1 h6 h7) h8 w.2.2.2.2.2.2.2.2.1 w.2.2.2.2.2.2.2.2.2.1 w.2.2.2.1 (hls.trans C0.1.2.2.1.symm) d0 d3 d4 d7 d10 (fun x hx => (hto x hx).elim) hRf hRl hRc hRs C0.2 (fun t _ hz hk => ⟨rfl, w.1.kept (fun k q hq => hk q.1 ((w.1 k q hq).lt)), Nat.le_trans w.2.2.2.1.1 hz, fun q g1 g2 => (hk q (Nat.lt_of_lt_of_le g1 w.2.2.2.1.1)).trans (w.2.2.2.1.2.1 q g1 g2)⟩) w.2.2.2.1.2.2 hc hs
/-- a callee throws: with the exception over the frame -/
theorem callT_go {mc ms : Nat} {E : String} {a : Array Value} (hr : vx_Run p l e R s m args below meth c H locs cells slots mc ms (F0 m pc ls st0) rest (QF a) (XT B σ' E (own B H.size)) (own B H.size)) (w : Wx B σ s H locs)
    (kx : ∀ (ce : Cell) (q9 : Addr) H locs, Wx B σ' s H locs → H[q9]? = some ce → ce.vm = .none → s.vm.findClass E = some ce.cls → vx_W p l e R s m args below meth c H locs (cells + mc) (slots + ms) Q (F0 m pc ls rest) q9) : W p l e R s m args below meth c H locs cells slots Q (F0 m pc ls st0) := by
  intro T hT X
  rcases hr T hT X with ⟨v, st₀, t, T', L, h0, X', hL, e1, e2, hF, st⟩ | ⟨q, st₀, t, T', L, E', ce, h0, X', hL, e1, e2, ⟨rfl, hp, hF⟩, hce, hcv, hcl, st⟩
  · exact hF.elim
  · obtain ⟨w1, w2, w3, w4, w5⟩ := w
    have hsub : ∀ q, own B H.size q → own B s.heap.size q := own_le w4.1
    obtain ⟨k1, k2, k3⟩ := vx_keep h0 e1 w4 (fun q _ h => hsub q h) hsub hL hF
    obtain ⟨t2, a1, b1⟩ := kx ce q T'.heap (locs ++ L) ⟨by rw [e1]; exact hp, w2, w3, k3, w5⟩ (by rw [e1]; exact hce) hcv hcl T' rfl X'
    exact ⟨t2, st.trans a1, b1⟩
theorem xOut (C0 : Cx p s m args meth c cc nL ow) (hto : ∀ x ∈ c.exceptionTable.toList, False) (w : Wx B σ s H locs) {E : String} {ce : Cell} {q9 : Addr} {mc ms : Nat} (h1 : H[q9]? = some ce) (h2 : ce.vm = .none) (h3 : s.vm.findClass E = some ce.cls) (hc : cells ≤ mc) (hs : slots ≤ ms) : vx_W p l e R s m args below meth c H locs cells slots (vx_MQ below QF (XT B σ E (own B s.heap.size)) args s mc ms (own B s.heap.size)) (F0 m pc ls rest) q9 :=
  vx_out (fun x hx => (hto x hx).elim) C0.2 h1 h2 h3 (fun t ht _ => ⟨rfl, by rw [ht]; exact w.1, w.2.2.2.1.F ht⟩) w.2.2.2.1.2.2 hc hs
theorem cVT (C0 : Cx p s m args meth c cc nL ow) (w : Wx B σ s H locs) {y : MethodName} {bytes : ByteArray} {maxL n k ci idx : Nat} {ret : Option FieldType} {rm : Room} {As : List Value} {E : String} (hM : MetT l y bytes maxL ret rm B H.size σ σ' (.ref (wA B k) :: As) E) (hy : Ky y bytes maxL ret n) (hv : Kv y) (hl : Cond.methodLink ow idx y ∈ GL) {T : u_T} {N : Nat} (hc : vwCl[ci]? = some (y.cls, T, N)) (hs : shO k ci 0 ((shp k).2.2.getD 0 0) = true)
    (hR : rm.frames + 1 ≤ R.frames ∧ 8 + (maxL + 11) + rm.locals ≤ R.locals) (hf : cells + rm.cells ≤ R.cells ∧ slots + rm.slots ≤ R.slots) (hn : As.length = n) (hst : st0 = As.reverse ++ .ref (wA B k) :: rest) (hW : (rest.map fun v => v.category).sum ≤ 8) (hls : ls.size = nL) (d : decode cc pc = .ok (.invokevirtual idx, 3))
    (kx : ∀ (ce : Cell) (q9 : Addr) H locs, Wx B σ' s H locs → H[q9]? = some ce → ce.vm = .none → s.vm.findClass E = some ce.cls → vx_W p l e R s m args below meth c H locs (cells + rm.cells) (slots + rm.slots) Q (F0 m pc ls rest) q9) : W p l e R s m args below meth c H locs cells slots Q (F0 m pc ls st0) := by
  have ht := C0.1.2.2.2.2
  refine callT_go (vx_runV (As := As) (rest := rest) (C := y.cls) C0.1 hM ⟨callB_of n ht (by intro z hz; rcases List.mem_cons.mp hz with rfl | h; exact ⟨hy.1, good_of_word (List.mem_filter.mp hy.1).2⟩; exact ⟨h, good_of_word (List.mem_filter.mp h).2⟩) rfl rfl rfl (ht _ hy.2.1) (ht _ hl) hy.2.2 hR, ht _ hv.1, ht _ hv.2⟩ ⟨Pw_blind, shR hc w hs, fun U hU hW => ⟨rfl, by rw [hU], w.here hU hW⟩⟩ rfl hn hls hst (lv_room hW) d hf) w kx
theorem cST (C0 : Cx p s m args meth c cc nL ow) (w : Wx B σ s H locs) {y : MethodName} {bytes : ByteArray} {maxL n idx : Nat} {ret : Option FieldType} {rm : Room} {As : List Value} {E : String} (hM : MetT l y bytes maxL ret rm B H.size σ σ' As E) (hy : Ky y bytes maxL ret n) (hv : Cond.static y ∈ GL) (hl : Cond.methodLink ow idx y ∈ GL)
    (hR : rm.frames + 1 ≤ R.frames ∧ 8 + (maxL + 11) + rm.locals ≤ R.locals) (hf : cells + rm.cells ≤ R.cells ∧ slots + rm.slots ≤ R.slots) (hn : As.length = n) (hst : st0 = As.reverse ++ rest) (hW : (rest.map fun v => v.category).sum ≤ 8) (hls : ls.size = nL) (d : decode cc pc = .ok (.invokestatic idx, 3))
    (kx : ∀ (ce : Cell) (q9 : Addr) H locs, Wx B σ' s H locs → H[q9]? = some ce → ce.vm = .none → s.vm.findClass E = some ce.cls → vx_W p l e R s m args below meth c H locs (cells + rm.cells) (slots + rm.slots) Q (F0 m pc ls rest) q9) : W p l e R s m args below meth c H locs cells slots Q (F0 m pc ls st0) := by
  have ht := C0.1.2.2.2.2
  refine callT_go (vx_runS (As := As) (rest := rest) C0.1 hM ⟨callB_of n ht (by intro z hz; rcases List.mem_cons.mp hz with rfl | h; exact ⟨hy.1, good_of_word (List.mem_filter.mp hy.1).2⟩; exact ⟨h, good_of_word (List.mem_filter.mp h).2⟩) rfl rfl rfl (ht _ hy.2.1) (ht _ hl) hy.2.2 hR, ht _ hv⟩ ⟨Pw_blind, fun U hU hW => ⟨rfl, by rw [hU], w.here hU hW⟩⟩ rfl hn hls hst (lv_room hW) d hf) w kx
/-! words as values: less than 0: none -/
def wv (B : Wb) (x : Int32) : Value := if x < 0 then .null else .ref (wE B x.toNatClampNeg)
theorem wN (C0 : Cx p s m args meth c cc nL ow) {x : Int32} {off : Int} {tgt : Nat} (d : decode cc pc = .ok (.ifnull off, 3)) (ht : (pc : Int) + off = (tgt : Int)) (kt : x < 0 → W p l e R s m args below meth c H locs cells slots Q (F0 m tgt ls rest)) (kf : ¬ x < 0 → W p l e R s m args below meth c H locs cells slots Q (F0 m (pc + 3) ls rest)) : W p l e R s m args below meth c H locs cells slots Q (F0 m pc ls (wv B x :: rest)) := by
  unfold wv
  by_cases h : x < 0
  · rw [if_pos h]; exact lv_ifnullN C0.1.1 C0.1.2.1 d ht (kt h)
  · rw [if_neg h]; exact lv_ifnull C0.1.1 C0.1.2.1 d (kf h)
theorem wNN (C0 : Cx p s m args meth c cc nL ow) {x : Int32} {off : Int} {tgt : Nat} (d : decode cc pc = .ok (.ifnonnull off, 3)) (ht : (pc : Int) + off = (tgt : Int)) (kt : ¬ x < 0 → W p l e R s m args below meth c H locs cells slots Q (F0 m tgt ls rest)) (kf : x < 0 → W p l e R s m args below meth c H locs cells slots Q (F0 m (pc + 3) ls rest)) : W p l e R s m args below meth c H locs cells slots Q (F0 m pc ls (wv B x :: rest)) := by
  unfold wv
  by_cases h : x < 0
  · rw [if_pos h]; exact lv_ifnonnullN C0.1.1 C0.1.2.1 d (kf h)
  · rw [if_neg h]; exact lv_ifnonnull C0.1.1 C0.1.2.1 d ht (kt h)
end ROWS3
