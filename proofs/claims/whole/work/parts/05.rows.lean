/-! ===== what never changes: links of nest mates, texts, the enum, statics ===== -/
def nestM : List (String × Nat × MethodName × String) := [(RX11, 18, yX2_init, RX11), (RX11, 77, yX5_init, RX11), (RX9, 68, yX11_turnRound, RX11), (RX1, 123, yX11_roundedQuotient, RX11), (RX1, 87, yX11_nextChance, RX11), (RX1, 93, yX11_leadingPart, RX11), (RX8, 73, yX11_turnRound, RX11), (RX8, 87, yX11_nextChance, RX11), (RX8, 90, yX11_leadingPart, RX11), (RX1, 56, yX11_clamped, RX11), (RX4, 57, yX11_isWithin, RX11)]
def nestF : List (String × Nat × String × String × String × String) := [(RX5, 65, RX10, "text", "Ljava/lang/String;", RX11), (RX5, 53, RX10, "numbers", "I", RX11)]
def strR : List (String × Nat × String) := [(RX11, 328, "an argument is out of range"), (RX11, 335, "there is no such cell"), (RX11, 346, "there is no such ray"), (RX11, 341, "there is no such row"), (RX11, 148, "there are 16 rays"), (RX11, 175, "the time is out of range"), (RX11, 348, "the ray has no observed time"), (RX11, 229, "the index is negative"), (RX11, 274, "the script has 120 bytes"), (RX11, 291, "the undo stack is empty")]
def xIA : String := "java/lang/IllegalArgumentException"
def xIO : String := "java/lang/IndexOutOfBoundsException"
def xIS : String := "java/lang/IllegalStateException"
def declM : List MethodName := [Bundle.initS "java/lang/RuntimeException", Bundle.initS "java/lang/Exception", Bundle.initS Bundle.tN, ⟨"java/lang/Enum", "ordinal", "()I"⟩]
def ncP : List (String × String) := [(xIA, xIO), (xIA, xIS), (xIO, xIA), (xIO, xIS), (xIS, xIA), (xIS, xIO)]
def wNm : List String := ["RAY", "CELL", "TRUE", "TAKE", "SWEEP", "SMOOTH", "FILL", "USE"]
def wDs : String := "LSlownessImager$Word;"
def wFi : List (String × String × String × List Int32) := [("java/lang/Enum", "ordinal", "I", [0, 1, 2, 3, 4, 5, 6, 7]), (RX10, "numbers", "I", [2, 2, 2, 1, 1, 1, 0, 2])]
def wLe : List Nat := [3, 4, 4, 4, 5, 6, 4, 3]
def wBy : List (List Int32) := [[114, 97, 121], [99, 101, 108, 108], [116, 114, 117, 101], [116, 97, 107, 101], [115, 119, 101, 101, 112], [115, 109, 111, 111, 116, 104], [102, 105, 108, 108], [117, 115, 101]]
def sMap : List Int32 := [1, 2, 3, 4, 5, 6, 7, 0]
/-- the enum Word: constants, texts, the row of all, the switch's row; what String asks -/
def wOrd : List Int32 := [0, 1, 2, 3, 4, 5, 6, 7]
def wNu : List Int32 := [2, 2, 2, 1, 1, 1, 0, 2]
def Gen (B : Wb) (A : Nat → Prop) (U : State) (H : Heap) : Prop :=
  (∀ i, i < 8 → va_O RX10 (wE B i) A U H) ∧ va_Ef 8 "java/lang/Enum" "ordinal" "I" (fun i => .int (wOrd.getD i 0)) (wE B) A U H ∧ va_Ef 8 RX10 "numbers" "I" (fun i => .int (wNu.getD i 0)) (wE B) A U H ∧
  va_Ef 8 RX10 "text" "Ljava/lang/String;" (fun i => .ref (wK B i)) (wE B) A U H ∧ vk_S 8 wLe wBy (wK B) (wV B) A U H ∧
  va_Z RX5 "WORDS" "[LSlownessImager$Word;" (.ref (wT B)) A U H ∧ va_T (.object RX10) (wT B) 8 (fun j => .ref (wE B j)) A U H ∧
  va_Z RX0 "$SwitchMap$SlownessImager$Word" "[I" (.ref (wS B)) A U H ∧ va_T .int (wS B) 8 (fun j => .int (sMap.getD j 0)) A U H ∧
  va_Z "java/lang/String" "COMPACT_STRINGS" "Z" (.int 1) A U H ∧ va_Zq "jdk/internal/util/Preconditions" "SIOOBE_FORMATTER" "Ljava/util/function/BiFunction;" A U H
theorem Gen.moved {B : Wb} {A : Nat → Prop} {u U : State} {H : Heap} (hvm : u.vm.Alike U.vm) (h : Gen B A u H) : Gen B A U H := by
  obtain ⟨h0, h1, h1', h2, h3, h4, h5, h6, h7, h8, h9⟩ := h
  exact ⟨fun i hi => va_O.moved hvm (h0 i hi), va_Ef.moved hvm h1, va_Ef.moved hvm h1', va_Ef.moved hvm h2, vk_S.moved hvm h3, va_Z.moved hvm h4, va_T.moved hvm h5, va_Z.moved hvm h6, va_T.moved hvm h7, va_Z.moved hvm h8, va_Zq.moved hvm h9⟩
theorem Gen.kept {B : Wb} {A : Nat → Prop} {U : State} {H H1 : Heap} (h : Gen B A U H) (hq : ∀ a : Nat, a < H.size → ¬ A a → H1[a]? = H[a]?) : Gen B A U H1 := by
  obtain ⟨h0, h1, h1', h2, h3, h4, h5, h6, h7, h8, h9⟩ := h
  exact ⟨fun i hi => (h0 i hi).kept hq, h1.kept hq, h1'.kept hq, h2.kept hq, h3.kept hq, h4.kept hq, h5.kept hq, h6.kept hq, h7.kept hq, h8.kept hq, h9.kept hq⟩
theorem Gen.narrow {B : Wb} {A A' : Nat → Prop} {U : State} {H : Heap} (h : Gen B A U H) (hA : ∀ q, A' q → A q) : Gen B A' U H := by
  obtain ⟨h0, h1, h1', h2, h3, h4, h5, h6, h7, h8, h9⟩ := h
  exact ⟨fun i hi => (h0 i hi).narrow hA, h1.narrow hA, h1'.narrow hA, h2.narrow hA, h3.narrow hA, h4.narrow hA, h5.narrow hA, h6.narrow hA, h7.narrow hA, h8.narrow hA, h9.narrow hA⟩
def Gst (B : Wb) (A : Nat → Prop) (U : State) (H : Heap) : Prop :=
  (∀ q ∈ nestM, va_Nw (.methodLinkNest q.1 q.2.1 q.2.2.1 q.2.2.2) U) ∧ (∀ q ∈ nestF, va_Nw (.fieldLinkNest q.1 q.2.1 q.2.2.1 q.2.2.2.1 q.2.2.2.2.1 q.2.2.2.2.2) U) ∧
  (∀ q ∈ strR, ∃ a, vk_R q.1 q.2.1 q.2.2 a U) ∧ (∀ q ∈ ncP, va_Nc q.1 q.2 U) ∧
  vx_Zq Bundle.tN "UNASSIGNED_STACK" Bundle.steD A U H ∧ vx_Zq Bundle.tN "SUPPRESSED_SENTINEL" Bundle.listD A U H ∧ Gen B A U H ∧ (∀ q ∈ [xIA, xIO, xIS], va_Nw (.castable q q) U) ∧ (∀ q ∈ declM, va_Nw (.declares q) U)
theorem Gst.moved {B : Wb} {A : Nat → Prop} {u U : State} {H : Heap} (hW : u.WarmedH U.vm) (h : Gst B A u H) : Gst B A U H := by
  obtain ⟨h1, h2, h3, h4, h5, h6, h7, h8, h9⟩ := h
  have hvm := hW.alike
  exact ⟨fun q hq => va_Nw.warmM hW (h1 q hq), fun q hq => va_Nw.warmF hW (h2 q hq), fun q hq => (h3 q hq).imp fun a ha => vk_R.warm hW ha, fun q hq => (h4 q hq).moved hvm, vx_Zq.moved hvm h5, vx_Zq.moved hvm h6, Gen.moved hvm h7, fun q hq => va_Nw.warmC hW (h8 q hq), fun q hq => va_Nw.warmD hW (h9 q hq)⟩
theorem Gst.kept {B : Wb} {A : Nat → Prop} {U : State} {H H1 : Heap} (h : Gst B A U H) (hq : ∀ a : Nat, a < H.size → ¬ A a → H1[a]? = H[a]?) : Gst B A U H1 := by
  obtain ⟨h1, h2, h3, h4, h5, h6, h7, h8, h9⟩ := h
  exact ⟨h1, h2, h3, h4, h5.kept hq, h6.kept hq, h7.kept hq, h8, h9⟩
theorem Gst.narrow {B : Wb} {A A' : Nat → Prop} {U : State} {H : Heap} (h : Gst B A U H) (hA : ∀ q, A' q → A q) : Gst B A' U H := by
  obtain ⟨h1, h2, h3, h4, h5, h6, h7, h8, h9⟩ := h
  exact ⟨h1, h2, h3, h4, h5.narrow hA, h6.narrow hA, h7.narrow hA, h8, h9⟩
/-! ===== a method's start, its walk's world, its end ===== -/
def Wd (B : Wb) (σ : Mem) (U : State) : Prop := va_P B.1 vwCl (wd B σ) U.heap ∧ va_K B.1 vwCl (tysB B) U ∧ InjB B ∧ Gst B (own B U.heap.size) U U.heap
def Wx (B : Wb) (σ : Mem) (s : State) (H : Heap) (locs : List Loc) : Prop := va_P B.1 vwCl (wd B σ) H ∧ va_K B.1 vwCl (tysB B) s ∧ InjB B ∧ va_S (own B s.heap.size) s.heap H locs ∧ Gst B (own B s.heap.size) s s.heap
theorem Wd.moved {B : Wb} {σ : Mem} {u U : State} (hh : U.heap = u.heap) (hW : u.WarmedH U.vm) (h : Wd B σ u) : Wd B σ U := by
  obtain ⟨h1, h2, h3, h4⟩ := h
  exact ⟨by rw [hh]; exact h1, va_K.moved hW.alike h2, h3, by rw [hh]; exact h4.moved hW⟩
theorem wx_in {B : Wb} {σ : Mem} {s : State} (h : Wd B σ s) : Wx B σ s s.heap [] := ⟨h.1, h.2.1, h.2.2.1, va_S.rf, h.2.2.2⟩
theorem Wx.here {B : Wb} {σ : Mem} {s U : State} {H : Heap} {locs : List Loc} (h : Wx B σ s H locs) (hH : U.heap = H) (hW : s.WarmedH U.vm) : Wd B σ U := by
  obtain ⟨h1, h2, h3, h4, h5⟩ := h
  refine ⟨by rw [hH]; exact h1, va_K.moved hW.alike h2, h3, ?_⟩
  rw [hH]
  exact ((h5.kept h4.2.1).narrow (own_le h4.1)).moved hW
def Qo (B : Wb) (σ : Mem) (v : Option Value) (A : Nat → Prop) : Array Value → State → Outcome → State → Prop := fun _ st oc t => (oc = .returned v ∧ va_P B.1 vwCl (wd B σ) t.heap) ∧ va_F A st t
abbrev Pw (B : Wb) (sz : Nat) (σ : Mem) (av : List Value) : Array Value → State → Prop := va_Pc av (fun U => U.heap.size = sz ∧ Wd B σ U)
abbrev MetC (l : Launch) (y : MethodName) (bytes : ByteArray) (maxL : Nat) (ret : Option FieldType) (rm : Room) (B : Wb) (sz : Nat) (σ σ' : Mem) (av : List Value) (v : Option Value) : Prop :=
  Met l y (.code y bytes maxL ret :: GL) rm (Pw B sz σ av) (Qo B σ' v (own B sz)) rm.cells rm.slots (own B sz)
theorem Pw_blind {B : Wb} {sz : Nat} {σ : Mem} {av : List Value} : FrameBlind (Pw B sz σ av) := fun _ U g mk q => ⟨q.1, q.2.1, Wd.moved (u := U) rfl (State.WarmedH.refl U) q.2.2⟩
abbrev Cx (p : Program) (s : State) (m : MethodId) (args : Array Value) (meth : Method) (c : Code) (cc : ByteArray) (nL : Nat) (ow : String) : Prop := CallFix p m c cc nL s args GL ow ∧ meth.locks = false
theorem met_in {l : Launch} {y : MethodName} {bytes : ByteArray} {maxL : Nat} {ret : Option FieldType} {rm : Room} {B : Wb} {sz : Nat} {σ σ' : Mem} {av : List Value} {v : Option Value} (hp : plainName y.cls = true) (hlen : (lg_sl av).length ≤ maxL)
    (body : ∀ p e s m below meth c, Cx p s m av.toArray meth c bytes maxL y.cls → meth.sig.returnType = ret → Wx B σ s s.heap [] → s.heap.size = sz → ∀ ls, lv_has ls maxL (lv_args 0 av) → W p l e rm s m av.toArray below meth c s.heap [] 0 0 (MQ below (Qo B σ' v (own B s.heap.size)) av.toArray s rm.cells rm.slots (own B s.heap.size)) (F0 m 0 ls [])) : MetC l y bytes maxL ret rm B sz σ σ' av v := by
  refine Met.ofW (cc := bytes) (maxL := maxL) (ret := ret) hp rfl ?_
  intro p e s m args below meth c s₁ B0 hml hv
  obtain ⟨rfl, hsz, hw⟩ := hv
  subst hsz
  have hts := atoms_spec (ws := .code y bytes maxL ret :: GL) B0.pre
  have hown : s.vm.findClass y.cls = some m.cls := findClass_of_methodNamed B0.named
  rw [lg_entry_eq]
  exact body p e s m below meth c ⟨⟨B0.exec, B0.bytes, hml, hown, fun w h => hts w (List.mem_cons_of_mem _ h)⟩, B0.notSynchronized⟩ B0.returns (wx_in hw) rfl _ (lv_entry av hlen)
/-! ===== links: a field's, a method's ===== -/
def Fok (ow : String) (idx ci j : Nat) : Prop := ∃ (C : String) (T : u_T) (N : Nat), vwCl[ci]? = some (C, T, N) ∧ j < N ∧ (∀ w ∈ u_ws C T N, w ∈ GL) ∧ Cond.fieldLink ow idx C (T j).2.1 (T j).2.2.1 ∈ GL ∧ (T j).1 = C
def Fpt (ci j : Nat) (ty : FieldType) : Prop := ∃ (C : String) (T : u_T) (N : Nat) (t0 : Nat → FieldType), vwCl[ci]? = some (C, T, N) ∧ (∀ k, k < N → parseFieldDescriptor (T k).2.2.1 = some (t0 k)) ∧ (∀ a, a < N → ∀ b, b < N → a ≠ b → (T a).2.1 ≠ (T b).2.1) ∧ (T j).2.2.2 = false ∧ parseFieldDescriptor (T j).2.2.1 = some ty
def shO (k ci j kd : Nat) : Bool := decide (k < 240) && decide ((shp k).1 = 0) && decide ((shp k).2.1 = ci) && decide (j < (shp k).2.2.length) && decide ((shp k).2.2.getD j 0 = kd)
def shA (k t n : Nat) : Bool := decide (k < 240) && decide ((shp k).1 = t) && decide ((shp k).2.1 = n)
theorem shO_ok {k ci j kd : Nat} (h : shO k ci j kd = true) : k < 240 ∧ (shp k).1 = 0 ∧ (shp k).2.1 = ci ∧ j < (shp k).2.2.length ∧ (shp k).2.2.getD j 0 = kd := by
  simp only [shO, Bool.and_eq_true, decide_eq_true_eq] at h
  exact ⟨h.1.1.1.1, h.1.1.1.2, h.1.1.2, h.1.2, h.2⟩
theorem shA_ok {k t n : Nat} (h : shA k t n = true) : k < 240 ∧ (shp k).1 = t ∧ (shp k).2.1 = n := by
  simp only [shA, Bool.and_eq_true, decide_eq_true_eq] at h
  exact ⟨h.1.1, h.1.2, h.2⟩
theorem ws_in {ws : List Cond} (ps : List Nat) (hp : ws = ps.filterMap (fun i => tables_1[i]?)) (h : ws.all goodWord = true) : ∀ w ∈ ws, w ∈ GL := by
  intro w hw
  have h1 := List.all_eq_true.mp h w hw
  rw [hp] at hw
  obtain ⟨i, -, hi⟩ := List.mem_filterMap.mp hw
  exact gl_in i hi h1
section ROWS
variable {p : Program} {l : Launch} {e : Env} {R : Room} {s : State} {m : MethodId} {args : Array Value} {below : List Frame} {meth : Method} {c : Code} {H : Heap} {locs : List Loc} {cells slots : Nat} {Q : State → Prop}
variable {cc : ByteArray} {nL pc : Nat} {ow : String} {ls : Array Slot} {rest st0 : List Value} {B : Wb} {σ σ' : Mem}
theorem wd_getO {k : Nat} (hk : k < 240) (h0 : (shp k).1 = 0) : (wd B σ)[k]? = some (wA B k, .inr ((shp k).2.1, fl B (σ.1 k) (σ.2 k) (shp k).2.2)) := by
  rw [wd_get hk]
  simp [mk, h0]
theorem r_get (C0 : Cx p s m args meth c cc nL ow) (w : Wx B σ s H locs) {k ci j kd idx : Nat} (hF : Fok ow idx ci j) (hs : shO k ci j kd = true) (d : decode cc pc = .ok (.getfield idx, 3)) {v : Value} (hv : kv B (σ.1 k) (σ.2 k) j kd = v)
    (kk : W p l e R s m args below meth c H locs cells slots Q (F0 m (pc + 3) ls (v :: rest))) : W p l e R s m args below meth c H locs cells slots Q (F0 m pc ls (.ref (wA B k) :: rest)) := by
  obtain ⟨C, T, N, hc, hj, hin, hl, hn⟩ := hF
  obtain ⟨h1, h2, h3, h4, h5⟩ := shO_ok hs
  have he := wd_getO (B := B) (σ := σ) h1 h2
  rw [h3] at he
  refine va_get (D := B.1) (cl := vwCl) (C := C) (T := T) (N := N) (ref := C) C0.1.1 C0.1.2.1 C0.1.2.2.2.2 hin C0.1.2.2.2.1 w.2.1 w.1 k he hc j hj (C0.1.2.2.2.2 _ hl) (by rw [hn]; exact fun _ h => h) (v := v) ?_ d kk
  rw [fl_get h4, h5, hv]
theorem gI (C0 : Cx p s m args meth c cc nL ow) (w : Wx B σ s H locs) {k ci j idx : Nat} (hF : Fok ow idx ci j) (hs : shO k ci j 0 = true) (d : decode cc pc = .ok (.getfield idx, 3))
    (kk : W p l e R s m args below meth c H locs cells slots Q (F0 m (pc + 3) ls (.int (σ.1 k j) :: rest))) : W p l e R s m args below meth c H locs cells slots Q (F0 m pc ls (.ref (wA B k) :: rest)) := r_get C0 w hF hs d (by simp [kv]) kk
theorem gL (C0 : Cx p s m args meth c cc nL ow) (w : Wx B σ s H locs) {k ci j idx : Nat} (hF : Fok ow idx ci j) (hs : shO k ci j 1 = true) (d : decode cc pc = .ok (.getfield idx, 3))
    (kk : W p l e R s m args below meth c H locs cells slots Q (F0 m (pc + 3) ls (.long (σ.2 k j) :: rest))) : W p l e R s m args below meth c H locs cells slots Q (F0 m pc ls (.ref (wA B k) :: rest)) := r_get C0 w hF hs d (by simp [kv]) kk
theorem gR (C0 : Cx p s m args meth c cc nL ow) (w : Wx B σ s H locs) (q : Nat) {k ci j idx : Nat} (hF : Fok ow idx ci j) (hs : shO k ci j (q + 2) = true) (d : decode cc pc = .ok (.getfield idx, 3))
    (kk : W p l e R s m args below meth c H locs cells slots Q (F0 m (pc + 3) ls (.ref (wA B q) :: rest))) : W p l e R s m args below meth c H locs cells slots Q (F0 m pc ls (.ref (wA B k) :: rest)) := r_get C0 w hF hs d (by simp [kv]) kk
theorem pI (C0 : Cx p s m args meth c cc nL ow) (w : Wx B σ s H locs) {k ci j idx : Nat} {x : Int32} (hF : Fok ow idx ci j) (hT : Fpt ci j .int) (hs : shO k ci j 0 = true) (d : decode cc pc = .ok (.putfield idx, 3))
    (kk : ∀ H locs, Wx B (setI σ k j x) s H locs → W p l e R s m args below meth c H locs cells slots Q (F0 m (pc + 3) ls rest)) : W p l e R s m args below meth c H locs cells slots Q (F0 m pc ls (.int x :: .ref (wA B k) :: rest)) := by
  obtain ⟨C, T, N, hc, hj, hin, hl, hn⟩ := hF
  obtain ⟨C', T', N', t0, hc', ht0, hnm, hfin, hd⟩ := hT
  cases hc.symm.trans hc'
  obtain ⟨h1, h2, h3, h4, h5⟩ := shO_ok hs
  have he := wd_getO (B := B) (σ := σ) h1 h2
  rw [h3] at he
  have hD := wd_D (σ := σ) w.2.2.1 (A := own B s.heap.size) own_A
  refine va_put (D := B.1) (cl := vwCl) (C := C) (T := T) (N := N) (ref := C) C0.1.1 C0.1.2.1 C0.1.2.2.2.2 hin t0 ht0 hnm C0.1.2.2.2.1 w.2.1 w.1 hD w.2.2.2.1 k he hc j hj (C0.1.2.2.2.2 _ hl) (by rw [hn]; exact fun _ h => h) hfin hd rfl rfl (by rw [fl_len]; exact h4) d (fun H1 l1 hP _ hS => ?_)
  refine kk H1 l1 ⟨?_, w.2.1, w.2.2.1, hS, w.2.2.2.2⟩
  rw [fl_setI h4 h5] at hP
  have e : ((.inr (ci, fl B (upd (σ.1 k) j x) (σ.2 k) (shp k).2.2)) : va_E) = mk B (shp k) (upd (σ.1 k) j x) (σ.2 k) := by simp [mk, h2, h3]
  rw [e, wd_repI] at hP
  exact hP
theorem pL (C0 : Cx p s m args meth c cc nL ow) (w : Wx B σ s H locs) {k ci j idx : Nat} {x : Int64} (hF : Fok ow idx ci j) (hT : Fpt ci j .long) (hs : shO k ci j 1 = true) (d : decode cc pc = .ok (.putfield idx, 3))
    (kk : ∀ H locs, Wx B (setL σ k j x) s H locs → W p l e R s m args below meth c H locs cells slots Q (F0 m (pc + 3) ls rest)) : W p l e R s m args below meth c H locs cells slots Q (F0 m pc ls (.long x :: .ref (wA B k) :: rest)) := by
  obtain ⟨C, T, N, hc, hj, hin, hl, hn⟩ := hF
  obtain ⟨C', T', N', t0, hc', ht0, hnm, hfin, hd⟩ := hT
  cases hc.symm.trans hc'
  obtain ⟨h1, h2, h3, h4, h5⟩ := shO_ok hs
  have he := wd_getO (B := B) (σ := σ) h1 h2
  rw [h3] at he
  have hD := wd_D (σ := σ) w.2.2.1 (A := own B s.heap.size) own_A
  refine va_put (D := B.1) (cl := vwCl) (C := C) (T := T) (N := N) (ref := C) C0.1.1 C0.1.2.1 C0.1.2.2.2.2 hin t0 ht0 hnm C0.1.2.2.2.1 w.2.1 w.1 hD w.2.2.2.1 k he hc j hj (C0.1.2.2.2.2 _ hl) (by rw [hn]; exact fun _ h => h) hfin hd rfl rfl (by rw [fl_len]; exact h4) d (fun H1 l1 hP _ hS => ?_)
  refine kk H1 l1 ⟨?_, w.2.1, w.2.2.1, hS, w.2.2.2.2⟩
  rw [fl_setL h4 h5] at hP
  have e : ((.inr (ci, fl B (σ.1 k) (vp_updL (σ.2 k) j x) (shp k).2.2)) : va_E) = mk B (shp k) (σ.1 k) (vp_updL (σ.2 k) j x) := by simp [mk, h2, h3]
  rw [e, wd_repL] at hP
  exact hP
theorem wd_getA {k t n : Nat} (h : shA k t n = true) (f : va_E) (hf : mk B (t, n, (shp k).2.2) (σ.1 k) (σ.2 k) = f) : (wd B σ)[k]? = some (wA B k, f) := by
  obtain ⟨h1, h2, h3⟩ := shA_ok h
  rw [wd_get h1, ← hf, ← h2, ← h3]
theorem aI (C0 : Cx p s m args meth c cc nL ow) (w : Wx B σ s H locs) {k n : Nat} {i : Int32} (hs : shA k 1 n = true) (hi : vp_in i n) (d : decode cc pc = .ok (.iaload, 1))
    (kk : W p l e R s m args below meth c H locs cells slots Q (F0 m (pc + 1) ls (.int (σ.1 k i.toNatClampNeg) :: rest))) : W p l e R s m args below meth c H locs cells slots Q (F0 m pc ls (.int i :: .ref (wA B k) :: rest)) :=
  va_iald C0.1.1 C0.1.2.1 w.2.1 w.1 k 0 (wd_getA hs _ rfl) rfl hi d kk
theorem aL (C0 : Cx p s m args meth c cc nL ow) (w : Wx B σ s H locs) {k n : Nat} {i : Int32} (hs : shA k 2 n = true) (hi : vp_in i n) (d : decode cc pc = .ok (.laload, 1))
    (kk : W p l e R s m args below meth c H locs cells slots Q (F0 m (pc + 1) ls (.long (σ.2 k i.toNatClampNeg) :: rest))) : W p l e R s m args below meth c H locs cells slots Q (F0 m pc ls (.int i :: .ref (wA B k) :: rest)) :=
  va_lald C0.1.1 C0.1.2.1 w.2.1 w.1 k 1 (wd_getA hs _ rfl) rfl hi d kk
theorem aZ (C0 : Cx p s m args meth c cc nL ow) (w : Wx B σ s H locs) {k n : Nat} {i : Int32} (hs : shA k 3 n = true) (hi : vp_in i n) (d : decode cc pc = .ok (.baload, 1))
    (kk : W p l e R s m args below meth c H locs cells slots Q (F0 m (pc + 1) ls (.int (σ.1 k i.toNatClampNeg) :: rest))) : W p l e R s m args below meth c H locs cells slots Q (F0 m pc ls (.int i :: .ref (wA B k) :: rest)) :=
  va_zald C0.1.1 C0.1.2.1 w.2.1 w.1 k 2 (wd_getA hs _ rfl) rfl hi d kk
theorem aB (C0 : Cx p s m args meth c cc nL ow) (w : Wx B σ s H locs) {k n : Nat} {i : Int32} (hs : shA k 4 n = true) (hi : vp_in i n) (d : decode cc pc = .ok (.baload, 1))
    (kk : W p l e R s m args below meth c H locs cells slots Q (F0 m (pc + 1) ls (.int (σ.1 k i.toNatClampNeg) :: rest))) : W p l e R s m args below meth c H locs cells slots Q (F0 m pc ls (.int i :: .ref (wA B k) :: rest)) :=
  va_bald C0.1.1 C0.1.2.1 w.2.1 w.1 k 3 (wd_getA hs _ rfl) rfl hi d kk
theorem sI (C0 : Cx p s m args meth c cc nL ow) (w : Wx B σ s H locs) {k n : Nat} {i x : Int32} (hs : shA k 1 n = true) (hi : vp_in i n) (d : decode cc pc = .ok (.iastore, 1))
    (kk : ∀ H locs, Wx B (setI σ k i.toNatClampNeg x) s H locs → W p l e R s m args below meth c H locs cells slots Q (F0 m (pc + 1) ls rest)) : W p l e R s m args below meth c H locs cells slots Q (F0 m pc ls (.int x :: .int i :: .ref (wA B k) :: rest)) := by
  refine va_iast C0.1.1 C0.1.2.1 w.2.1 w.1 (wd_D (σ := σ) w.2.2.1 (A := own B s.heap.size) own_A) w.2.2.2.1 k 0 (wd_getA hs _ rfl) rfl hi d (fun H1 l1 hP _ hS => ?_)
  refine kk H1 l1 ⟨?_, w.2.1, w.2.2.1, hS, w.2.2.2.2⟩
  obtain ⟨h1, h2, h3⟩ := shA_ok hs
  have e : ((.inl (wC B 0, n, .inl (upd (σ.1 k) i.toNatClampNeg x))) : va_E) = mk B (shp k) (upd (σ.1 k) i.toNatClampNeg x) (σ.2 k) := by simp [mk, h2, h3]
  rw [e, wd_repI] at hP
  exact hP
theorem sL (C0 : Cx p s m args meth c cc nL ow) (w : Wx B σ s H locs) {k n : Nat} {i : Int32} {x : Int64} (hs : shA k 2 n = true) (hi : vp_in i n) (d : decode cc pc = .ok (.lastore, 1))
    (kk : ∀ H locs, Wx B (setL σ k i.toNatClampNeg x) s H locs → W p l e R s m args below meth c H locs cells slots Q (F0 m (pc + 1) ls rest)) : W p l e R s m args below meth c H locs cells slots Q (F0 m pc ls (.long x :: .int i :: .ref (wA B k) :: rest)) := by
  refine va_last C0.1.1 C0.1.2.1 w.2.1 w.1 (wd_D (σ := σ) w.2.2.1 (A := own B s.heap.size) own_A) w.2.2.2.1 k 1 (wd_getA hs _ rfl) rfl hi d (fun H1 l1 hP _ hS => ?_)
  refine kk H1 l1 ⟨?_, w.2.1, w.2.2.1, hS, w.2.2.2.2⟩
  obtain ⟨h1, h2, h3⟩ := shA_ok hs
  have e : ((.inl (wC B 1, n, .inr (.inl (vp_updL (σ.2 k) i.toNatClampNeg x)))) : va_E) = mk B (shp k) (σ.1 k) (vp_updL (σ.2 k) i.toNatClampNeg x) := by simp [mk, h2, h3]
  rw [e, wd_repL] at hP
  exact hP
theorem sZ (C0 : Cx p s m args meth c cc nL ow) (w : Wx B σ s H locs) {k n : Nat} {i x : Int32} (hs : shA k 3 n = true) (hi : vp_in i n) (hx : vp_nar .boolean x = x) (d : decode cc pc = .ok (.bastore, 1))
    (kk : ∀ H locs, Wx B (setI σ k i.toNatClampNeg x) s H locs → W p l e R s m args below meth c H locs cells slots Q (F0 m (pc + 1) ls rest)) : W p l e R s m args below meth c H locs cells slots Q (F0 m pc ls (.int x :: .int i :: .ref (wA B k) :: rest)) := by
  refine va_zast C0.1.1 C0.1.2.1 w.2.1 w.1 (wd_D (σ := σ) w.2.2.1 (A := own B s.heap.size) own_A) w.2.2.2.1 k 2 (wd_getA hs _ rfl) rfl hi d (fun H1 l1 hP _ hS => ?_)
  refine kk H1 l1 ⟨?_, w.2.1, w.2.2.1, hS, w.2.2.2.2⟩
  obtain ⟨h1, h2, h3⟩ := shA_ok hs
  rw [hx] at hP
  have e : ((.inl (wC B 2, n, .inl (upd (σ.1 k) i.toNatClampNeg x))) : va_E) = mk B (shp k) (upd (σ.1 k) i.toNatClampNeg x) (σ.2 k) := by simp [mk, h2, h3]
  rw [e, wd_repI] at hP
  exact hP
theorem sB (C0 : Cx p s m args meth c cc nL ow) (w : Wx B σ s H locs) {k n : Nat} {i x : Int32} (hs : shA k 4 n = true) (hi : vp_in i n) (hx : vp_nar .byte x = x) (d : decode cc pc = .ok (.bastore, 1))
    (kk : ∀ H locs, Wx B (setI σ k i.toNatClampNeg x) s H locs → W p l e R s m args below meth c H locs cells slots Q (F0 m (pc + 1) ls rest)) : W p l e R s m args below meth c H locs cells slots Q (F0 m pc ls (.int x :: .int i :: .ref (wA B k) :: rest)) := by
  refine va_bast C0.1.1 C0.1.2.1 w.2.1 w.1 (wd_D (σ := σ) w.2.2.1 (A := own B s.heap.size) own_A) w.2.2.2.1 k 3 (wd_getA hs _ rfl) rfl hi d (fun H1 l1 hP _ hS => ?_)
  refine kk H1 l1 ⟨?_, w.2.1, w.2.2.1, hS, w.2.2.2.2⟩
  obtain ⟨h1, h2, h3⟩ := shA_ok hs
  rw [hx] at hP
  have e : ((.inl (wC B 3, n, .inl (upd (σ.1 k) i.toNatClampNeg x))) : va_E) = mk B (shp k) (upd (σ.1 k) i.toNatClampNeg x) (σ.2 k) := by simp [mk, h2, h3]
  rw [e, wd_repI] at hP
  exact hP
/-- a row out of int[][] -/
theorem aG (C0 : Cx p s m args meth c cc nL ow) (w : Wx B σ s H locs) {k n : Nat} (b st : Nat) {i : Int32} (hs : shA k 5 n = true) (hb : (shp k).2.2 = [b, st]) (hi : vp_in i n) (d : decode cc pc = .ok (.aaload, 1))
    (kk : W p l e R s m args below meth c H locs cells slots Q (F0 m (pc + 1) ls (.ref (wA B (b + st * i.toNatClampNeg)) :: rest))) : W p l e R s m args below meth c H locs cells slots Q (F0 m pc ls (.int i :: .ref (wA B k) :: rest)) := by
  have hlt : i.toNatClampNeg < n := Nat.not_le.mp fun q => hi (Or.inr q)
  have ha : (wd B σ)[k]? = some (wA B k, .inl (wC B 4, n, .inr (.inr (.inr (.inr (fun j => some (wA B (b + st * j)))))))) := wd_getA hs _ (by rw [hb]; rfl)
  exact W.aald (v := va_rf (some (wA B (b + st * i.toNatClampNeg)))) (ty := .array .int) C0.1.1 C0.1.2.1 (w.1 k _ ha) ((w.2.1.2 4 _ rfl).1 n (fun j => va_rf (some (wA B (b + st * j))))) rfl (fun q => by cases q) (by show ¬ (i < 0 ∨ (arrV _ _ _).slots.size ≤ _); rw [arrV_size]; exact hi) (by show (arrV _ _ _).slots[_]? = _; rw [arrV_read _ _ hlt]) rfl rfl d kk
theorem aO (C0 : Cx p s m args meth c cc nL ow) (w : Wx B σ s H locs) {k n : Nat} (b st : Nat) {i : Int32} (hs : shA k 6 n = true) (hb : (shp k).2.2 = [b, st]) (hi : vp_in i n) (d : decode cc pc = .ok (.aaload, 1))
    (kk : W p l e R s m args below meth c H locs cells slots Q (F0 m (pc + 1) ls (.ref (wA B (b + st * i.toNatClampNeg)) :: rest))) : W p l e R s m args below meth c H locs cells slots Q (F0 m pc ls (.int i :: .ref (wA B k) :: rest)) := by
  have ha : (wd B σ)[k]? = some (wA B k, .inl (wC B 5, n, .inr (.inr (.inr (.inr (fun j => some (wA B (b + st * j)))))))) := wd_getA hs _ (by rw [hb]; rfl)
  exact va_aldq C0.1.1 C0.1.2.1 w.2.1 w.1 k 5 ha rfl hi d kk
theorem r_len (C0 : Cx p s m args meth c cc nL ow) (w : Wx B σ s H locs) {k n : Nat} (hs : shA k 1 n = true) (d : decode cc pc = .ok (.arraylength, 1))
    (kk : W p l e R s m args below meth c H locs cells slots Q (F0 m (pc + 1) ls (.int (Int32.ofNat n) :: rest))) : W p l e R s m args below meth c H locs cells slots Q (F0 m pc ls (.ref (wA B k) :: rest)) :=
  va_alen C0.1.1 C0.1.2.1 w.2.1 w.1 k 0 (wd_getA hs _ rfl) rfl rfl d kk
/-! calls -/
theorem call_go {mc ms : Nat} {v : Option Value} {a : Array Value} (hr : va_Run p l e R s m args below meth c H locs cells slots mc ms (F0 m pc ls st0) rest (Qo B σ' v (own B H.size) a) (own B H.size)) (w : Wx B σ s H locs)
    (kk : ∀ H locs, Wx B σ' s H locs → W p l e R s m args below meth c H locs (cells + mc) (slots + ms) Q (F0 m (pc + 3) ls (v.toList ++ rest))) : W p l e R s m args below meth c H locs cells slots Q (F0 m pc ls st0) := by
  intro T hT X
  obtain ⟨v', st₀, t, T', L, h0, X', hL, e1, e2, ⟨⟨hv, hp⟩, hz, hk⟩, st⟩ := hr T hT X
  cases hv
  rw [h0] at hz hk
  obtain ⟨w1, w2, w3, w4, w5⟩ := w
  have hsub : ∀ q, own B H.size q → own B s.heap.size q := own_le w4.1
  obtain ⟨t2, a1, b1⟩ := kk T'.heap (locs ++ L) ⟨by rw [e1]; exact hp, w2, w3, ⟨Nat.le_trans w4.1 (by rw [e1]; exact hz), fun q h1 h2 => by
      rw [e1, hk q (Nat.lt_of_lt_of_le h1 w4.1) (fun z => h2 (hsub q z))]; exact w4.2.1 q h1 h2, fun q hq => by
      rcases List.mem_append.mp hq with h | h
      · exact w4.2.2 q h
      · exact hsub _ (hL q h)⟩, w5⟩ T' rfl X'
  exact ⟨t2, st t2 a1, b1⟩
def Ky (y : MethodName) (bytes : ByteArray) (maxL : Nat) (ret : Option FieldType) (n : Nat) : Prop := Cond.code y bytes maxL ret ∈ GL ∧ Cond.initialized y.cls ∈ GL ∧ y.cls ≠ "java/lang/invoke/MethodHandle" ∧ y.cls ≠ "java/lang/invoke/VarHandle" ∧ (parseMethodDescriptor y.desc).map (fun d => d.parameters.length) = some n
def Kv (y : MethodName) : Prop := Cond.instanceMethod y ∈ GL ∧ Cond.selects y.cls y y ∈ GL
theorem shR {k ci : Nat} {C : String} {T : u_T} {N : Nat} (hc : vwCl[ci]? = some (C, T, N)) (w : Wx B σ s H locs) (hs : shO k ci 0 ((shp k).2.2.getD 0 0) = true) : ∃ cell : Cell, H[wA B k]? = some cell ∧ cell.vm.isStatics = false ∧ s.vm.findClass C = some cell.cls := by
  obtain ⟨h1, h2, h3, -⟩ := shO_ok hs
  have he := wd_getO (B := B) (σ := σ) h1 h2
  rw [h3] at he
  exact va_recv w.2.1 w.1 hc he
theorem cV (C0 : Cx p s m args meth c cc nL ow) (w : Wx B σ s H locs) {y : MethodName} {bytes : ByteArray} {maxL n k ci idx : Nat} {ret : Option FieldType} {rm : Room} {As : List Value} {v : Option Value} (hM : MetC l y bytes maxL ret rm B H.size σ σ' (.ref (wA B k) :: As) v) (hy : Ky y bytes maxL ret n) (hv : Kv y) (hl : Cond.methodLink ow idx y ∈ GL) {T : u_T} {N : Nat} (hc : vwCl[ci]? = some (y.cls, T, N)) (hs : shO k ci 0 ((shp k).2.2.getD 0 0) = true)
    (hR : rm.frames + 1 ≤ R.frames ∧ 8 + (maxL + 11) + rm.locals ≤ R.locals) (hf : cells + rm.cells ≤ R.cells ∧ slots + rm.slots ≤ R.slots) (hn : As.length = n) (hst : st0 = As.reverse ++ .ref (wA B k) :: rest) (hW : (rest.map fun v => v.category).sum ≤ 8) (hls : ls.size = nL) (d : decode cc pc = .ok (.invokevirtual idx, 3))
    (kk : ∀ H locs, Wx B σ' s H locs → W p l e R s m args below meth c H locs (cells + rm.cells) (slots + rm.slots) Q (F0 m (pc + 3) ls (v.toList ++ rest))) : W p l e R s m args below meth c H locs cells slots Q (F0 m pc ls st0) := by
  have ht := C0.1.2.2.2.2
  refine call_go (va_runV (As := As) (rest := rest) (C := y.cls) C0.1 hM ⟨callB_of n ht (by intro z hz; rcases List.mem_cons.mp hz with rfl | h; exact ⟨hy.1, good_of_word (List.mem_filter.mp hy.1).2⟩; exact ⟨h, good_of_word (List.mem_filter.mp h).2⟩) rfl rfl rfl (ht _ hy.2.1) (ht _ hl) hy.2.2 hR, ht _ hv.1, ht _ hv.2⟩ ⟨Pw_blind, shR hc w hs, fun U hU hW => ⟨rfl, by rw [hU], w.here hU hW⟩⟩ rfl hn hls hst (lv_room hW) d hf) w kk
theorem cS (C0 : Cx p s m args meth c cc nL ow) (w : Wx B σ s H locs) {y : MethodName} {bytes : ByteArray} {maxL n idx : Nat} {ret : Option FieldType} {rm : Room} {As : List Value} {v : Option Value} (hM : MetC l y bytes maxL ret rm B H.size σ σ' As v) (hy : Ky y bytes maxL ret n) (hv : Cond.static y ∈ GL) (hl : Cond.methodLink ow idx y ∈ GL)
    (hR : rm.frames + 1 ≤ R.frames ∧ 8 + (maxL + 11) + rm.locals ≤ R.locals) (hf : cells + rm.cells ≤ R.cells ∧ slots + rm.slots ≤ R.slots) (hn : As.length = n) (hst : st0 = As.reverse ++ rest) (hW : (rest.map fun v => v.category).sum ≤ 8) (hls : ls.size = nL) (d : decode cc pc = .ok (.invokestatic idx, 3))
    (kk : ∀ H locs, Wx B σ' s H locs → W p l e R s m args below meth c H locs (cells + rm.cells) (slots + rm.slots) Q (F0 m (pc + 3) ls (v.toList ++ rest))) : W p l e R s m args below meth c H locs cells slots Q (F0 m pc ls st0) := by
  have ht := C0.1.2.2.2.2
  refine call_go (va_runS (As := As) (rest := rest) C0.1 hM ⟨callB_of n ht (by intro z hz; rcases List.mem_cons.mp hz with rfl | h; exact ⟨hy.1, good_of_word (List.mem_filter.mp hy.1).2⟩; exact ⟨h, good_of_word (List.mem_filter.mp h).2⟩) rfl rfl rfl (ht _ hy.2.1) (ht _ hl) hy.2.2 hR, ht _ hv⟩ ⟨Pw_blind, fun U hU hW => ⟨rfl, by rw [hU], w.here hU hW⟩⟩ rfl hn hls hst (lv_room hW) d hf) w kk
/-- a private static method of the outer class -/
theorem cN (C0 : Cx p s m args meth c cc nL ow) (w : Wx B σ s H locs) {y : MethodName} {host : String} {bytes : ByteArray} {maxL n idx : Nat} {ret : Option FieldType} {rm : Room} {As : List Value} {v : Option Value} (hM : MetC l y bytes maxL ret rm B H.size σ σ' As v) (hy : Ky y bytes maxL ret n) (hv : Cond.static y ∈ GL) (hl : (ow, idx, y, host) ∈ nestM)
    (hR : rm.frames + 1 ≤ R.frames ∧ 8 + (maxL + 11) + rm.locals ≤ R.locals) (hf : cells + rm.cells ≤ R.cells ∧ slots + rm.slots ≤ R.slots) (hn : As.length = n) (hst : st0 = As.reverse ++ rest) (hW : (rest.map fun v => v.category).sum ≤ 8) (hls : ls.size = nL) (d : decode cc pc = .ok (.invokestatic idx, 3))
    (kk : ∀ H locs, Wx B σ' s H locs → W p l e R s m args below meth c H locs (cells + rm.cells) (slots + rm.slots) Q (F0 m (pc + 3) ls (v.toList ++ rest))) : W p l e R s m args below meth c H locs cells slots Q (F0 m pc ls st0) := by
  have ht := C0.1.2.2.2.2
  refine call_go (va_runSN (As := As) (rest := rest) (host := host) C0.1 hM ⟨va_cnB n ht (by intro z hz; rcases List.mem_cons.mp hz with rfl | h; exact ⟨hy.1, good_of_word (List.mem_filter.mp hy.1).2⟩; exact ⟨h, good_of_word (List.mem_filter.mp h).2⟩) rfl rfl rfl (w.2.2.2.2.1 _ hl) (ht _ hy.2.1) hy.2.2 hR, ht _ hv, trivial⟩ ⟨Pw_blind, fun U hU hW => ⟨rfl, by rw [hU], w.here hU hW⟩⟩ rfl hn hls hst (lv_room hW) d hf) w kk
/-! ends -/
theorem eI (C0 : Cx p s m args meth c cc nL ow) {ty : FieldType} (hr : meth.sig.returnType = some ty) (w : Wx B σ s H locs) {v : Int32} (hn : narrow ty (.int v) = .int v) (d : decode cc pc = .ok (.ireturn, 1)) : W p l e R s m args below meth c H locs cells slots (MQ below (Qo B σ (some (.int v)) (own B s.heap.size)) args s cells slots (own B s.heap.size)) (F0 m pc ls [.int v]) :=
  W.zret C0.1.1 C0.1.2.1 hr hn (fun t ht _ => ⟨⟨rfl, by rw [ht]; exact w.1⟩, w.2.2.2.1.F ht⟩) w.2.2.2.1.2.2 d (hlocks := C0.2)
theorem eL (C0 : Cx p s m args meth c cc nL ow) (hr : meth.sig.returnType = some .long) (w : Wx B σ s H locs) {v : Int64} (d : decode cc pc = .ok (.lreturn, 1)) : W p l e R s m args below meth c H locs cells slots (MQ below (Qo B σ (some (.long v)) (own B s.heap.size)) args s cells slots (own B s.heap.size)) (F0 m pc ls [.long v]) :=
  W.lret C0.1.1 C0.1.2.1 hr (fun t ht _ => ⟨⟨rfl, by rw [ht]; exact w.1⟩, w.2.2.2.1.F ht⟩) w.2.2.2.1.2.2 d (hlocks := C0.2)
theorem eV (C0 : Cx p s m args meth c cc nL ow) (hr : meth.sig.returnType = none) (w : Wx B σ s H locs) (d : decode cc pc = .ok (.return_, 1)) : W p l e R s m args below meth c H locs cells slots (MQ below (Qo B σ none (own B s.heap.size)) args s cells slots (own B s.heap.size)) (F0 m pc ls []) :=
  W.vret C0.1.1 C0.1.2.1 hr (fun t ht _ => ⟨⟨rfl, by rw [ht]; exact w.1⟩, w.2.2.2.1.F ht⟩) w.2.2.2.1.2.2 d (hlocks := C0.2)
end ROWS
