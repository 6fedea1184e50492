/-! ===== a callee whose class nobody calls initialized (Enum.ordinal): its walk from the call itself ===== -/
theorem cold_back {l : Launch} {R rm : Room} {p : Program} {e : Env} {below : List Frame} {s : State} {sargs : Array Value} {y : MethodName} {bytes : ByteArray} {maxL : Nat} {ret : Option FieldType} {Pc : Array Value → State → Prop} {Qc : Array Value → State → Outcome → State → Prop} {mc ms : Nat} {free : Addr → Prop}
    (hy : plainFor y = true) (hcode : ∀ (a' : Array Value) (U : State), s.WarmedH U.vm → (Cond.code y bytes maxL ret).before a' U = true) (hblind : FrameBlind Pc)
    (hrc : rm.cells = mc) (hrs : rm.slots = ms) (hframes : rm.frames + 1 ≤ R.frames) (hlocals : 8 + (maxL + 11) + rm.locals ≤ R.locals)
    (body : ∀ (u : State) (mk : MethodId) (a : Array Value) (bl : List Frame) (meth : Method) (c : Code) (s₁ : State), s.WarmedH u.vm → s₁.heap = u.heap → Stand p l e rm u mk a bl meth c s₁ [] 0 0 → c.code = bytes → c.maxLocals = maxL → meth.sig.returnType = ret → meth.locks = false → u.vm.findClass y.cls = some mk.cls → Pc a u → ∃ t, Steps p.tables e bl (s₁.setTop (entryFrame mk a maxL)) t ∧ MQ bl Qc a u mc ms free t) :
    Back l R p e below s sargs y 3 8 (PreOf R mc ms Pc) (PostOf Qc mc ms free) := by
  intro m meth c A g ig mk a X hg hsize hdg hW hn hp
  obtain ⟨U, Ls, c0, s0⟩ := A
  obtain ⟨hp1, hp2, hp3⟩ := hp
  dsimp only [Pt.U, Pt.locs, Pt.cells, Pt.slots] at hp1 hp2 hp3 X hn ⊢
  obtain ⟨methY, cY, hmY, hcY, hbY, hlY, hrY, hkY, -⟩ := Cond.code_spec hn (hcode a U X.warmed)
  have h : At U g.method c below := by rw [hg]; exact X.here
  have hroomY := X.room_calling (g := g) (R' := rm) (args' := a) hsize hmY hcY hframes (by rw [hlY]; omega) (by rw [hrc]; exact hp1) (by rw [hrs]; exact hp2)
  obtain ⟨mid, hmid⟩ := h.above
  have hfr : (U.setTop g).frames = (.java g :: mid) ++ below := by rw [State.frames_setTop' g h.top, hmid]; rfl
  have hf : (U.calling g mk a).frames = .invoking mk a :: .java g :: U.frames.tail := State.frames_calling h.top g mk a
  have hcur := State.cur_lt_of_frames hf
  have hf1 : ((U.calling g mk a).setFrames (.java (entryFrame mk a maxL) :: (.java g :: U.frames.tail))).frames = .java (entryFrame mk a maxL) :: (.java g :: U.frames.tail) := State.frames_setFrames _ hcur
  have ht1 := State.topJava?_of_frames hf1
  have hnY : (U.calling g mk a).methodNamed? y = some mk := hn
  have hmY' : (U.calling g mk a).vm.method? mk = some methY := hmY
  have hable : (U.calling g mk a).curStatus? = some .runnable := by simpa [State.calling] using h.runnable
  have halone : (U.calling g mk a).alone = true := by simpa [State.calling] using h.alone
  have hplain : ((U.calling g mk a).setFrames (.java (entryFrame mk a maxL) :: (.java g :: U.frames.tail))).plainMethod mk := State.plainMethod.of_named (s := U.calling g mk a) hy hnY hmY'
  have hAt : At ((U.calling g mk a).setFrames (.java (entryFrame mk a maxL) :: (.java g :: U.frames.tail))) mk cY (.java g :: U.frames.tail) :=
    ⟨by rw [ht1]; rfl, ⟨[], by rw [hf1]; rfl⟩, h.running, by simpa using hable, by simpa using halone,
      by rw [State.code?_eq]; simp [State.setFrames, hmY', hcY], hplain⟩
  have hhears : (U.calling g mk a).hears mk (.java g :: U.frames.tail) = true := by
    have hcg : (U.calling g mk a).code? g.method = some c := by
      have := h.code
      rw [State.code?_eq] at this ⊢
      simpa [State.calling, State.pushFrame, State.setFrames] using this
    simp [State.hears, hcg, hdg, Except.toOption]
  have hB : (stepThread p.tables e (U.calling g mk a)).1 = ((U.calling g mk a).setFrames (.java (entryFrame mk a maxL) :: (.java g :: U.frames.tail))).setTop (entryFrame mk a maxL) := by
    have hfull : e.platform.stackFull ((U.calling g mk a).setFrames (.java g :: U.frames.tail)).me ((U.calling g mk a).setFrames (.java g :: U.frames.tail)).frames cY.maxLocals = false := by
      obtain ⟨-, h1, -, h2⟩ := State.hasRoom_stack hroomY
      rw [hf, List.length_cons] at h1
      rw [State.localsInUse_invoking hf hmY' hcY] at h2
      have hw := stackUse_le_stackWeight (.java g :: U.frames.tail)
      rw [State.frames_setFrames _ hcur]
      exact Platform.stackFull_eq_false (by rw [State.stackLimits_setFrames]; omega) (by rw [State.stackLimits_setFrames]; omega)
    rw [stepThread_invoking hf, (doInvoke_java (s := (U.calling g mk a).setFrames (.java g :: U.frames.tail)) (e := e) (meth := methY) (code := cY) hmY' hcY hkY hfull).1, State.setTop_self ht1]
    simp only [State.pushFrame, State.frames_setFrames _ hcur, State.setFrames_setFrames, hlY, entryFrame]
  have hA : (stepThread p.tables e (U.calling g mk a)).1 = (doInvoke e (U.setTop g) [] mk a).1 := by
    obtain ⟨g₀, hg0⟩ := Option.isSome_iff_exists.mp h.top
    obtain ⟨r, hr⟩ := State.topJava?_eq_some.mp hg0
    rw [stepThread_invoking hf, State.calling_eq h.top, State.setFrames_setFrames, State.setTop_of_frames _ hr, hr]
    rfl
  have hX : Stand p l e rm (U.calling g mk a) mk a (.java g :: U.frames.tail) methY cY ((U.calling g mk a).setFrames (.java (entryFrame mk a maxL) :: (.java g :: U.frames.tail))) [] 0 0 := by
    obtain ⟨t, ht, -⟩ := State.frames_cons hf
    refine ⟨X.admits, X.cas, X.clock, hf, hroomY, hhears, hmY', hcY, hAt, by rw [hf1]; rfl, State.WarmedH.refl _, by rw [State.stackLimits_setFrames], by rw [State.stackBytes_setFrames], ?_⟩
    exact (State.sameButNew.refl (U.calling g mk a) ht).setFrames _ hcur
  obtain ⟨s₂, hst, o, hrun, hend, hq, L, hfe, hL⟩ := body (U.calling g mk a) mk a _ methY cY ((U.calling g mk a).setFrames (.java (entryFrame mk a maxL) :: (.java g :: U.frames.tail))) X.warmed rfl hX hbY hlY hrY hkY (findClass_of_methodNamed hn) (hblind _ _ _ _ hp3)
  have hsteps : Steps p.tables e below (doInvoke e (U.setTop g) [] mk a).1 s₂ := by
    rw [← hA, hB]
    obtain ⟨k, hk, hw⟩ := hst
    have hfr' : (Frame.java g :: U.frames.tail) = (.java g :: mid) ++ below := by rw [← State.frames_setTop' g h.top]; exact hfr
    refine ⟨k, hk, fun j hj => ?_⟩
    exact Within.weaken (mid := .java g :: mid) (by rw [← hfr']; exact hw j hj)
  obtain ⟨⟨v, rfl⟩, hW₂, e2, q2, q3, q4, q5, q6⟩ := id hfe
  have e3 : s₂ = ({ (U.calling g mk a).setFrames s₂.frames with heap := s₂.heap, slotsUsed := s₂.slotsUsed } : State).setVm s₂.vm := by
    have : s₂ = ({ s₂ with vm := (U.calling g mk a).vm } : State).setVm s₂.vm := rfl
    rw [e2] at this
    exact this
  obtain ⟨c₂, i₂, len₂, hc₂, hd₂, hf₂⟩ := hend
  have hW' : U.WarmedH s₂.vm := hW₂
  have hcc : c₂ = c := by
    have h1 : s₂.code? g.method = U.code? g.method := by
      rw [State.code?_eq, State.code?_eq, hW'.alike.method?]
    exact Option.some.inj (hc₂.symm.trans (h1.trans h.code))
  subst hcc
  have hlen : len₂ = 3 := by rw [hdg] at hd₂; cases hd₂; rfl
  subst hlen
  obtain ⟨g₀, hg0⟩ := Option.isSome_iff_exists.mp h.top
  obtain ⟨r, hr⟩ := State.topJava?_eq_some.mp hg0
  have hs₂ : s₂ = (({ U with heap := s₂.heap, slotsUsed := s₂.slotsUsed } : State).setVm s₂.vm).setTop { g with pc := g.pc + 3, stack := v.toList ++ g.stack } := by
    have hr' : (({ U with heap := s₂.heap, slotsUsed := s₂.slotsUsed } : State).setVm s₂.vm).frames = .java g₀ :: r := hr
    refine e3.trans ?_
    rw [hf₂, State.calling_eq h.top, State.setFrames_setFrames, State.setTop_of_frames _ hr', hr]
    rfl
  have hsame : U.sameButNew ({ U with heap := s₂.heap, slotsUsed := s₂.slotsUsed } : State) L mc ms := by
    refine ⟨?_, q2, q3, q4, q5, q6⟩
    obtain ⟨t, ht, -⟩ := State.frames_cons hr
    show ({ U with heap := s₂.heap, slotsUsed := s₂.slotsUsed } : State) = { U.setFrames U.frames with heap := s₂.heap, slotsUsed := s₂.slotsUsed }
    rw [State.setFrames_self ht]
  subst hg
  refine ⟨v, ⟨(({ U with heap := s₂.heap, slotsUsed := s₂.slotsUsed } : State).setVm s₂.vm), Ls ++ L, c0 + mc, s0 + ms⟩,
    ⟨X.admits, X.cas, X.clock, X.frames, X.room, X.hears, X.method, X.code, (X.here.setHeapUsed s₂.heap s₂.slotsUsed).setVm hW'.alike, X.tail, State.WarmedH.trans X.warmed hW', X.limits, X.bytes, X.same.trans (hsame.setVm s.vm)⟩,
    ⟨g, mk, s₂, L, rfl, rfl, hq, rfl, hL, rfl, rfl⟩, ?_⟩
  show Steps p.tables e below _ ((({ U with heap := s₂.heap, slotsUsed := s₂.slotsUsed } : State).setVm s₂.vm).setTop { g with pc := g.pc + 3, stack := v.toList ++ g.stack })
  rw [← hs₂]
  exact hsteps
theorem ord_w : ∀ z ∈ ([.methodLink RX11 372 ⟨RX10, "ordinal", "()I"⟩, .sameMethod RX10 "java/lang/Enum" "ordinal" "()I", .selects RX10 ⟨RX10, "ordinal", "()I"⟩ yJx29ce0_ordinal_8abf5, .instanceMethod yJx29ce0_ordinal_8abf5, .code yJx29ce0_ordinal_8abf5 cJx29ce0_ordinal_8abf5 1 (some .int)] : List Cond), z ∈ GL := gl_all (by decide +kernel)
section ORD
variable {p : Program} {l : Launch} {e : Env} {R : Room} {s : State} {m : MethodId} {args : Array Value} {below : List Frame} {meth : Method} {c : Code} {H : Heap} {locs : List Loc} {cells slots : Nat} {Q : State → Prop}
variable {cc : ByteArray} {nL pc : Nat} {ls : Array Slot} {rest : List Value} {B : Wb} {σ : Mem}
theorem ordBack (C0 : Cx p s m args meth c cc nL RX11) {sz : Nat} {x : Int32} (h8 : inb x 8 = true) (hR : 1 ≤ R.frames ∧ 20 ≤ R.locals) : Back l R p e below s args yJx29ce0_ordinal_8abf5 3 8 (PreOf R 0 0 (Pw B sz σ [.ref (wE B x.toNatClampNeg)])) (PostOf (Qo B σ (some (.int x)) (own B sz)) 0 0 (own B sz)) := by
  refine cold_back (rm := { frames := 0, cells := 0, slots := 0, locals := 0 }) (bytes := cJx29ce0_ordinal_8abf5) (maxL := 1) (ret := some .int) (by decide +kernel) (fun a' U hW => ?_) Pw_blind rfl rfl hR.1 hR.2 ?_
  · have h := ord_w (.code yJx29ce0_ordinal_8abf5 cJx29ce0_ordinal_8abf5 1 (some .int)) (by simp)
    exact word_at hW (good_of_word (List.mem_filter.mp h).2) (C0.1.2.2.2.2 _ h)
  · intro u mk a bl meth c s₁ hWu hh X hb0 hml hret hlk hown hv
    obtain ⟨rfl, hsz, hw⟩ := hv
    subst hsz
    have C1 : Cx p u mk [Value.ref (wE B x.toNatClampNeg)].toArray meth c cJx29ce0_ordinal_8abf5 1 RJx29ce0 := ⟨⟨C0.1.1, hb0, hml, hown, fun z hz => word_at hWu (good_of_word (List.mem_filter.mp hz).2) (C0.1.2.2.2.2 _ hz)⟩, hlk⟩
    have w := wx_in hw
    have hx := C1.1.1
    have hb := C1.1.2.1
    have hE : va_OF "java/lang/Enum" "ordinal" "I" (.int (wOrd.getD x.toNatClampNeg 0)) (wE B x.toNatClampNeg) (own B u.heap.size) u u.heap := (gen_ w).2.1 _ (inbL h8)
    rw [ordE h8] at hE
    have hl := lv_entry (n := 1) [Value.ref (wE B x.toNatClampNeg)] (Nat.le_of_ble_eq_true rfl)
    have key : W p l e { frames := 0, cells := 0, slots := 0, locals := 0 } u mk [Value.ref (wE B x.toNatClampNeg)].toArray bl meth c u.heap [] 0 0 (MQ bl (Qo B σ (some (.int x)) (own B u.heap.size)) [Value.ref (wE B x.toNatClampNeg)].toArray u 0 0 (own B u.heap.size)) (entryFrame mk [Value.ref (wE B x.toNatClampNeg)].toArray 1) := by
      rw [lg_entry_eq]
      refine lv_aload_n hx hb dJx29ce0_ordinal_8abf5_0 rfl (lv_at hl 0 rfl) ?_
      refine zF C1 w hE fk_Jx29ce0_7 dJx29ce0_ordinal_8abf5_1 ?_
      exact eI C1 hret w rfl dJx29ce0_ordinal_8abf5_4
    exact key s₁ hh X
theorem ordRun (C0 : Cx p s m args meth c cc nL RX11) (w : Wx B σ s H locs) {x : Int32} (h8 : inb x 8 = true) (hR : 1 ≤ R.frames ∧ 20 ≤ R.locals) (hf : cells ≤ R.cells ∧ slots ≤ R.slots) (hW : (rest.map fun v => v.category).sum ≤ 8) (hls : ls.size = nL) (d : decode cc pc = .ok (.invokevirtual 372, 3)) : va_Run p l e R s m args below meth c H locs cells slots 0 0 (F0 m pc ls (.ref (wE B x.toNatClampNeg) :: rest)) rest (Qo B σ (some (.int x)) (own B H.size) [Value.ref (wE B x.toNatClampNeg)].toArray) (own B H.size) := by
  have ht := C0.1.2.2.2.2
  have hK := ordBack (l := l) (e := e) (below := below) (B := B) (σ := σ) (sz := H.size) C0 h8 hR
  obtain ⟨cellB, hcB, hoB, hclB⟩ := shE w (inbL h8)
  intro T hT X
  obtain ⟨v, vm₁, ⟨U', l2, c2, s2⟩, hW₁, X', ⟨g', mk, t, L, e1, e2, hq, h1, hL, h2, h3⟩, st⟩ := va_callVU X C0.1.1 (own := RX11) (index := 372) (C := RX10) (owner := "java/lang/Enum") (x := ⟨RX10, "ordinal", "()I"⟩) (y := yJx29ce0_ordinal_8abf5) (bytes := cJx29ce0_ordinal_8abf5) (maxL := 1) (ret := some .int) C0.1.2.2.2.1 (ht _ (ord_w _ (by simp))) (ht _ (ord_w _ (by simp))) (va_Decl.abs (w.2.2.2.2.2.2.2.2.2.2.2.2 ⟨"java/lang/Enum", "ordinal", "()I"⟩ (by decide +kernel))) ⟨by decide +kernel, by decide +kernel⟩ (ht _ (ord_w _ (by simp))) (ht _ (ord_w _ (by simp))) (ht _ (ord_w _ (by simp))) hK (by rw [hT]; exact hcB) hoB hclB (g := F0 m pc ls (.ref (wE B x.toNatClampNeg) :: rest)) rfl (hls.trans C0.1.2.2.1.symm) (argsL := []) (rest := rest) (fun sig h => by
      have h2 : (parseMethodDescriptor "()I").map (fun d => d.parameters.length) = some 0 := by decide +kernel
      rw [h] at h2
      exact (Option.some.inj h2).symm) rfl (lv_room hW) (by rw [C0.1.2.1]; exact d)
    (fun vm₁ hW₁ => ⟨hf.1, hf.2, rfl, by show T.heap.size = H.size; rw [hT], w.here (U := T.setVm vm₁) hT hW₁⟩)
  dsimp only [Pt.U, Pt.locs, Pt.cells, Pt.slots] at X' e1 e2 h1 h2 h3 st
  subst h1; subst h2; subst h3
  exact ⟨v, (T.setVm vm₁).calling g' mk (Value.ref (wE B x.toNatClampNeg) :: []).toArray, t, U', L, hT, X', hL, e1, e2, hq, st⟩
theorem cOrd (C0 : Cx p s m args meth c cc nL RX11) (w : Wx B σ s H locs) {x : Int32} (h8 : inb x 8 = true) (hR : 1 ≤ R.frames ∧ 20 ≤ R.locals) (hf : cells ≤ R.cells ∧ slots ≤ R.slots) (hW : (rest.map fun v => v.category).sum ≤ 8) (hls : ls.size = nL) (d : decode cc pc = .ok (.invokevirtual 372, 3))
    (kk : ∀ H locs, Wx B σ s H locs → W p l e R s m args below meth c H locs cells slots Q (F0 m (pc + 3) ls (.int x :: rest))) : W p l e R s m args below meth c H locs cells slots Q (F0 m pc ls (.ref (wE B x.toNatClampNeg) :: rest)) :=
  call_go (ordRun C0 w h8 hR hf hW hls d) w (fun H locs w => kk H locs w)
end ORD
