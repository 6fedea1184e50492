theorem shO_okN_s {k ci j kd : Nat} (hk : k < 224) (h : shO k ci j kd = true) : k < 224 ∧ (shp k).1 = 0 ∧ (shp k).2.1 = ci ∧ j < (shp k).2.2.length ∧ (shp k).2.2.getD j 0 = kd := ⟨hk, (shO_ok h).2⟩
theorem shA_okN_s {k t n : Nat} (hk : k < 224) (h : shA k t n = true) : k < 224 ∧ (shp k).1 = t ∧ (shp k).2.1 = n := ⟨hk, (shA_ok h).2⟩
def wd_s (B : Wb) (σ : Mem) : va_W := (List.range 224).map fun k => (wA B k, mk B (shp k) (σ.1 k) (σ.2 k))
theorem wd_get_s {B : Wb} {σ : Mem} {k : Nat} (h : k < 224) : (wd_s B σ)[k]? = some (wA B k, mk B (shp k) (σ.1 k) (σ.2 k)) := by
  unfold wd_s
  rw [List.getElem?_map, List.getElem?_range h]
  rfl
theorem wd_set_s {B : Wb} {σ σ' : Mem} {k : Nat} (h : ∀ q, q ≠ k → σ'.1 q = σ.1 q ∧ σ'.2 q = σ.2 q) : (wd_s B σ).set k (wA B k, mk B (shp k) (σ'.1 k) (σ'.2 k)) = wd_s B σ' := by
  apply List.ext_getElem?
  intro i
  by_cases hi : i < 224
  · by_cases hk : i = k
    · subst hk
      rw [List.getElem?_set_self (by simp [wd_s, hi]), wd_get_s hi]
    · rw [List.getElem?_set_ne (Ne.symm hk), wd_get_s hi, wd_get_s hi, (h i hk).1, (h i hk).2]
  · rw [List.getElem?_eq_none (by simp [wd_s]; omega), List.getElem?_eq_none (by simp [wd_s]; omega)]
theorem wd_repI_s {B : Wb} {σ : Mem} {k : Nat} {f : Nat → Int32} : (wd_s B σ).set k (wA B k, mk B (shp k) f (σ.2 k)) = wd_s B (repI σ k f) := by
  have h := wd_set_s (B := B) (σ := σ) (σ' := repI σ k f) (k := k) (fun q hq => by simp [repI, hq])
  simpa [repI] using h
theorem wd_repL_s {B : Wb} {σ : Mem} {k : Nat} {f : Nat → Int64} : (wd_s B σ).set k (wA B k, mk B (shp k) (σ.1 k) f) = wd_s B (repL σ k f) := by
  have h := wd_set_s (B := B) (σ := σ) (σ' := repL σ k f) (k := k) (fun q hq => by simp [repL, hq])
  simpa [repL] using h
def own_s (B : Wb) (sz : Nat) : Nat → Prop := fun q => (∃ k, k < 224 ∧ q = wA B k) ∨ sz ≤ q
def InjB_s (B : Wb) : Prop := ∀ i j, i < 224 → j < 224 → wA B i = wA B j → i = j
theorem wd_D_s {B : Wb} {σ : Mem} (h : InjB_s B) {A : Nat → Prop} (hA : ∀ k, k < 224 → A (wA B k)) : va_D A (wd_s B σ) := by
  have key : ∀ (k : Nat) (q : Nat × va_E), (wd_s B σ)[k]? = some q → k < 224 ∧ q.1 = wA B k := by
    intro k q hq
    have hk : k < 224 := by
      have := (List.getElem?_eq_some_iff.mp hq).1
      simpa [wd_s] using this
    rw [wd_get_s hk] at hq
    cases hq
    exact ⟨hk, rfl⟩
  refine ⟨fun i j p q hi hj e => ?_, fun k q hq => ?_⟩
  · obtain ⟨h1, e1⟩ := key i p hi
    obtain ⟨h2, e2⟩ := key j q hj
    exact h i j h1 h2 (e1.symm.trans (e.trans e2))
  · obtain ⟨h1, e1⟩ := key k q hq
    rw [e1]
    exact hA k h1
theorem own_A_s {B : Wb} {sz : Nat} : ∀ k, k < 224 → own_s B sz (wA B k) := fun k h => Or.inl ⟨k, h, rfl⟩
theorem own_sz_s {B : Wb} {sz : Nat} : ∀ q : Nat, sz ≤ q → own_s B sz q := fun _ h => Or.inr h
theorem own_le_s {B : Wb} {sz sz' : Nat} (h : sz ≤ sz') : ∀ q, own_s B sz' q → own_s B sz q := fun q hq => hq.elim Or.inl (fun z => Or.inr (Nat.le_trans h z))
def Wd_s (B : Wb) (σ : Mem) (U : State) : Prop := va_P B.1 vwCl (wd_s B σ) U.heap ∧ va_K B.1 vwCl (tysB B) U ∧ InjB_s B ∧ Gst B (own_s B U.heap.size) U U.heap
def Wx_s (B : Wb) (σ : Mem) (s : State) (H : Heap) (locs : List Loc) : Prop := va_P B.1 vwCl (wd_s B σ) H ∧ va_K B.1 vwCl (tysB B) s ∧ InjB_s B ∧ va_S (own_s B s.heap.size) s.heap H locs ∧ Gst B (own_s B s.heap.size) s s.heap
theorem Wd_s.moved {B : Wb} {σ : Mem} {u U : State} (hh : U.heap = u.heap) (hW : u.WarmedH U.vm) (h : Wd_s B σ u) : Wd_s B σ U := by
  obtain ⟨h1, h2, h3, h4⟩ := h
  exact ⟨by rw [hh]; exact h1, va_K.moved hW.alike h2, h3, by rw [hh]; exact h4.moved hW⟩
theorem wx_in_s {B : Wb} {σ : Mem} {s : State} (h : Wd_s B σ s) : Wx_s B σ s s.heap [] := ⟨h.1, h.2.1, h.2.2.1, va_S.rf, h.2.2.2⟩
theorem Wx_s.here {B : Wb} {σ : Mem} {s U : State} {H : Heap} {locs : List Loc} (h : Wx_s B σ s H locs) (hH : U.heap = H) (hW : s.WarmedH U.vm) : Wd_s B σ U := by
  obtain ⟨h1, h2, h3, h4, h5⟩ := h
  refine ⟨by rw [hH]; exact h1, va_K.moved hW.alike h2, h3, ?_⟩
  rw [hH]
  exact ((h5.kept h4.2.1).narrow (own_le_s h4.1)).moved hW
def Qo_s (B : Wb) (σ : Mem) (v : Option Value) (A : Nat → Prop) : Array Value → State → Outcome → State → Prop := fun _ st oc t => (oc = .returned v ∧ va_P B.1 vwCl (wd_s B σ) t.heap) ∧ va_F A st t
abbrev Pw_s (B : Wb) (sz : Nat) (σ : Mem) (av : List Value) : Array Value → State → Prop := va_Pc av (fun U => U.heap.size = sz ∧ Wd_s B σ U)
abbrev MetC_s (l : Launch) (y : MethodName) (bytes : ByteArray) (maxL : Nat) (ret : Option FieldType) (rm : Room) (B : Wb) (sz : Nat) (σ σ' : Mem) (av : List Value) (v : Option Value) : Prop :=
  Met l y (.code y bytes maxL ret :: GL) rm (Pw_s B sz σ av) (Qo_s B σ' v (own_s B sz)) rm.cells rm.slots (own_s B sz)
theorem Pw_blind_s {B : Wb} {sz : Nat} {σ : Mem} {av : List Value} : FrameBlind (Pw_s B sz σ av) := fun _ U g mk q => ⟨q.1, q.2.1, Wd_s.moved (u := U) rfl (State.WarmedH.refl U) q.2.2⟩
theorem met_in_s {l : Launch} {y : MethodName} {bytes : ByteArray} {maxL : Nat} {ret : Option FieldType} {rm : Room} {B : Wb} {sz : Nat} {σ σ' : Mem} {av : List Value} {v : Option Value} (hp : plainName y.cls = true) (hlen : (lg_sl av).length ≤ maxL)
    (body : ∀ p e s m below meth c, Cx p s m av.toArray meth c bytes maxL y.cls → meth.sig.returnType = ret → Wx_s B σ s s.heap [] → s.heap.size = sz → ∀ ls, lv_has ls maxL (lv_args 0 av) → W p l e rm s m av.toArray below meth c s.heap [] 0 0 (MQ below (Qo_s B σ' v (own_s B s.heap.size)) av.toArray s rm.cells rm.slots (own_s B s.heap.size)) (F0 m 0 ls [])) : MetC_s l y bytes maxL ret rm B sz σ σ' av v := by
  refine Met.ofW (cc := bytes) (maxL := maxL) (ret := ret) hp rfl ?_
  intro p e s m args below meth c s₁ B0 hml hv
  obtain ⟨rfl, hsz, hw⟩ := hv
  subst hsz
  have hts := atoms_spec (ws := .code y bytes maxL ret :: GL) B0.pre
  have hown : s.vm.findClass y.cls = some m.cls := findClass_of_methodNamed B0.named
  rw [lg_entry_eq]
  exact body p e s m below meth c ⟨⟨B0.exec, B0.bytes, hml, hown, fun w h => hts w (List.mem_cons_of_mem _ h)⟩, B0.notSynchronized⟩ B0.returns (wx_in_s hw) rfl _ (lv_entry av hlen)
section ROWS
variable {p : Program} {l : Launch} {e : Env} {R : Room} {s : State} {m : MethodId} {args : Array Value} {below : List Frame} {meth : Method} {c : Code} {H : Heap} {locs : List Loc} {cells slots : Nat} {Q : State → Prop}
variable {cc : ByteArray} {nL pc : Nat} {ow : String} {ls : Array Slot} {rest st0 : List Value} {B : Wb} {σ σ' : Mem}
theorem wd_getO_s {k : Nat} (hk : k < 224) (h0 : (shp k).1 = 0) : (wd_s B σ)[k]? = some (wA B k, .inr ((shp k).2.1, fl B (σ.1 k) (σ.2 k) (shp k).2.2)) := by
  rw [wd_get_s hk]
  simp [mk, h0]
theorem r_get_s (C0 : Cx p s m args meth c cc nL ow) (w : Wx_s B σ s H locs) {k ci j kd idx : Nat} (hF : Fok ow idx ci j) (hs : shO k ci j kd = true) (d : decode cc pc = .ok (.getfield idx, 3)) {v : Value} (hv : kv B (σ.1 k) (σ.2 k) j kd = v)
    (kk : W p l e R s m args below meth c H locs cells slots Q (F0 m (pc + 3) ls (v :: rest))) (hkN : k < 224) : W p l e R s m args below meth c H locs cells slots Q (F0 m pc ls (.ref (wA B k) :: rest)) := by
  obtain ⟨C, T, N, hc, hj, hin, hl, hn⟩ := hF
  obtain ⟨h1, h2, h3, h4, h5⟩ := shO_okN_s hkN hs
  have he := wd_getO_s (B := B) (σ := σ) h1 h2
  rw [h3] at he
  refine va_get (D := B.1) (cl := vwCl) (C := C) (T := T) (N := N) (ref := C) C0.1.1 C0.1.2.1 C0.1.2.2.2.2 hin C0.1.2.2.2.1 w.2.1 w.1 k he hc j hj (C0.1.2.2.2.2 _ hl) (by rw [hn]; exact fun _ h => h) (v := v) ?_ d kk
  rw [fl_get h4, h5, hv]
theorem gI_s (C0 : Cx p s m args meth c cc nL ow) (w : Wx_s B σ s H locs) {k ci j idx : Nat} (hF : Fok ow idx ci j) (hs : shO k ci j 0 = true) (d : decode cc pc = .ok (.getfield idx, 3))
    (kk : W p l e R s m args below meth c H locs cells slots Q (F0 m (pc + 3) ls (.int (σ.1 k j) :: rest))) (hkN : k < 224) : W p l e R s m args below meth c H locs cells slots Q (F0 m pc ls (.ref (wA B k) :: rest)) := r_get_s C0 w hF hs d (by simp [kv]) kk hkN
theorem gL_s (C0 : Cx p s m args meth c cc nL ow) (w : Wx_s B σ s H locs) {k ci j idx : Nat} (hF : Fok ow idx ci j) (hs : shO k ci j 1 = true) (d : decode cc pc = .ok (.getfield idx, 3))
    (kk : W p l e R s m args below meth c H locs cells slots Q (F0 m (pc + 3) ls (.long (σ.2 k j) :: rest))) (hkN : k < 224) : W p l e R s m args below meth c H locs cells slots Q (F0 m pc ls (.ref (wA B k) :: rest)) := r_get_s C0 w hF hs d (by simp [kv]) kk hkN
theorem gR_s (C0 : Cx p s m args meth c cc nL ow) (w : Wx_s B σ s H locs) (q : Nat) {k ci j idx : Nat} (hF : Fok ow idx ci j) (hs : shO k ci j (q + 2) = true) (d : decode cc pc = .ok (.getfield idx, 3))
    (kk : W p l e R s m args below meth c H locs cells slots Q (F0 m (pc + 3) ls (.ref (wA B q) :: rest))) (hkN : k < 224) : W p l e R s m args below meth c H locs cells slots Q (F0 m pc ls (.ref (wA B k) :: rest)) := r_get_s C0 w hF hs d (by simp [kv]) kk hkN
theorem pI_s (C0 : Cx p s m args meth c cc nL ow) (w : Wx_s B σ s H locs) {k ci j idx : Nat} {x : Int32} (hF : Fok ow idx ci j) (hT : Fpt ci j .int) (hs : shO k ci j 0 = true) (d : decode cc pc = .ok (.putfield idx, 3))
    (kk : ∀ H locs, Wx_s B (setI σ k j x) s H locs → W p l e R s m args below meth c H locs cells slots Q (F0 m (pc + 3) ls rest)) (hkN : k < 224) : W p l e R s m args below meth c H locs cells slots Q (F0 m pc ls (.int x :: .ref (wA B k) :: rest)) := by
  obtain ⟨C, T, N, hc, hj, hin, hl, hn⟩ := hF
  obtain ⟨C', T', N', t0, hc', ht0, hnm, hfin, hd⟩ := hT
  cases hc.symm.trans hc'
  obtain ⟨h1, h2, h3, h4, h5⟩ := shO_okN_s hkN hs
  have he := wd_getO_s (B := B) (σ := σ) h1 h2
  rw [h3] at he
  have hD := wd_D_s (σ := σ) w.2.2.1 (A := own_s B s.heap.size) own_A_s
  refine va_put (D := B.1) (cl := vwCl) (C := C) (T := T) (N := N) (ref := C) C0.1.1 C0.1.2.1 C0.1.2.2.2.2 hin t0 ht0 hnm C0.1.2.2.2.1 w.2.1 w.1 hD w.2.2.2.1 k he hc j hj (C0.1.2.2.2.2 _ hl) (by rw [hn]; exact fun _ h => h) hfin hd rfl rfl (by rw [fl_len]; exact h4) d (fun H1 l1 hP _ hS => ?_)
  refine kk H1 l1 ⟨?_, w.2.1, w.2.2.1, hS, w.2.2.2.2⟩
  rw [fl_setI h4 h5] at hP
  have e : ((.inr (ci, fl B (upd (σ.1 k) j x) (σ.2 k) (shp k).2.2)) : va_E) = mk B (shp k) (upd (σ.1 k) j x) (σ.2 k) := by simp [mk, h2, h3]
  rw [e, wd_repI_s] at hP
  exact hP
theorem pL_s (C0 : Cx p s m args meth c cc nL ow) (w : Wx_s B σ s H locs) {k ci j idx : Nat} {x : Int64} (hF : Fok ow idx ci j) (hT : Fpt ci j .long) (hs : shO k ci j 1 = true) (d : decode cc pc = .ok (.putfield idx, 3))
    (kk : ∀ H locs, Wx_s B (setL σ k j x) s H locs → W p l e R s m args below meth c H locs cells slots Q (F0 m (pc + 3) ls rest)) (hkN : k < 224) : W p l e R s m args below meth c H locs cells slots Q (F0 m pc ls (.long x :: .ref (wA B k) :: rest)) := by
  obtain ⟨C, T, N, hc, hj, hin, hl, hn⟩ := hF
  obtain ⟨C', T', N', t0, hc', ht0, hnm, hfin, hd⟩ := hT
  cases hc.symm.trans hc'
  obtain ⟨h1, h2, h3, h4, h5⟩ := shO_okN_s hkN hs
  have he := wd_getO_s (B := B) (σ := σ) h1 h2
  rw [h3] at he
  have hD := wd_D_s (σ := σ) w.2.2.1 (A := own_s B s.heap.size) own_A_s
  refine va_put (D := B.1) (cl := vwCl) (C := C) (T := T) (N := N) (ref := C) C0.1.1 C0.1.2.1 C0.1.2.2.2.2 hin t0 ht0 hnm C0.1.2.2.2.1 w.2.1 w.1 hD w.2.2.2.1 k he hc j hj (C0.1.2.2.2.2 _ hl) (by rw [hn]; exact fun _ h => h) hfin hd rfl rfl (by rw [fl_len]; exact h4) d (fun H1 l1 hP _ hS => ?_)
  refine kk H1 l1 ⟨?_, w.2.1, w.2.2.1, hS, w.2.2.2.2⟩
  rw [fl_setL h4 h5] at hP
  have e : ((.inr (ci, fl B (σ.1 k) (vp_updL (σ.2 k) j x) (shp k).2.2)) : va_E) = mk B (shp k) (σ.1 k) (vp_updL (σ.2 k) j x) := by simp [mk, h2, h3]
  rw [e, wd_repL_s] at hP
  exact hP
theorem wd_getA_s {k t n : Nat} (hk : k < 224) (h : shA k t n = true) (f : va_E) (hf : mk B (t, n, (shp k).2.2) (σ.1 k) (σ.2 k) = f) : (wd_s B σ)[k]? = some (wA B k, f) := by
  obtain ⟨h1, h2, h3⟩ := shA_okN_s hk h
  rw [wd_get_s h1, ← hf, ← h2, ← h3]
theorem aI_s (C0 : Cx p s m args meth c cc nL ow) (w : Wx_s B σ s H locs) {k n : Nat} {i : Int32} (hs : shA k 1 n = true) (hi : vp_in i n) (d : decode cc pc = .ok (.iaload, 1))
    (kk : W p l e R s m args below meth c H locs cells slots Q (F0 m (pc + 1) ls (.int (σ.1 k i.toNatClampNeg) :: rest))) (hkN : k < 224) : W p l e R s m args below meth c H locs cells slots Q (F0 m pc ls (.int i :: .ref (wA B k) :: rest)) :=
  va_iald C0.1.1 C0.1.2.1 w.2.1 w.1 k 0 (wd_getA_s hkN hs _ rfl) rfl hi d kk
theorem aL_s (C0 : Cx p s m args meth c cc nL ow) (w : Wx_s B σ s H locs) {k n : Nat} {i : Int32} (hs : shA k 2 n = true) (hi : vp_in i n) (d : decode cc pc = .ok (.laload, 1))
    (kk : W p l e R s m args below meth c H locs cells slots Q (F0 m (pc + 1) ls (.long (σ.2 k i.toNatClampNeg) :: rest))) (hkN : k < 224) : W p l e R s m args below meth c H locs cells slots Q (F0 m pc ls (.int i :: .ref (wA B k) :: rest)) :=
  va_lald C0.1.1 C0.1.2.1 w.2.1 w.1 k 1 (wd_getA_s hkN hs _ rfl) rfl hi d kk
theorem aZ_s (C0 : Cx p s m args meth c cc nL ow) (w : Wx_s B σ s H locs) {k n : Nat} {i : Int32} (hs : shA k 3 n = true) (hi : vp_in i n) (d : decode cc pc = .ok (.baload, 1))
    (kk : W p l e R s m args below meth c H locs cells slots Q (F0 m (pc + 1) ls (.int (σ.1 k i.toNatClampNeg) :: rest))) (hkN : k < 224) : W p l e R s m args below meth c H locs cells slots Q (F0 m pc ls (.int i :: .ref (wA B k) :: rest)) :=
  va_zald C0.1.1 C0.1.2.1 w.2.1 w.1 k 2 (wd_getA_s hkN hs _ rfl) rfl hi d kk
theorem aB_s (C0 : Cx p s m args meth c cc nL ow) (w : Wx_s B σ s H locs) {k n : Nat} {i : Int32} (hs : shA k 4 n = true) (hi : vp_in i n) (d : decode cc pc = .ok (.baload, 1))
    (kk : W p l e R s m args below meth c H locs cells slots Q (F0 m (pc + 1) ls (.int (σ.1 k i.toNatClampNeg) :: rest))) (hkN : k < 224) : W p l e R s m args below meth c H locs cells slots Q (F0 m pc ls (.int i :: .ref (wA B k) :: rest)) :=
  va_bald C0.1.1 C0.1.2.1 w.2.1 w.1 k 3 (wd_getA_s hkN hs _ rfl) rfl hi d kk
theorem sI_s (C0 : Cx p s m args meth c cc nL ow) (w : Wx_s B σ s H locs) {k n : Nat} {i x : Int32} (hs : shA k 1 n = true) (hi : vp_in i n) (d : decode cc pc = .ok (.iastore, 1))
    (kk : ∀ H locs, Wx_s B (setI σ k i.toNatClampNeg x) s H locs → W p l e R s m args below meth c H locs cells slots Q (F0 m (pc + 1) ls rest)) (hkN : k < 224) : W p l e R s m args below meth c H locs cells slots Q (F0 m pc ls (.int x :: .int i :: .ref (wA B k) :: rest)) := by
  refine va_iast C0.1.1 C0.1.2.1 w.2.1 w.1 (wd_D_s (σ := σ) w.2.2.1 (A := own_s B s.heap.size) own_A_s) w.2.2.2.1 k 0 (wd_getA_s hkN hs _ rfl) rfl hi d (fun H1 l1 hP _ hS => ?_)
  refine kk H1 l1 ⟨?_, w.2.1, w.2.2.1, hS, w.2.2.2.2⟩
  obtain ⟨h1, h2, h3⟩ := shA_ok hs
  have e : ((.inl (wC B 0, n, .inl (upd (σ.1 k) i.toNatClampNeg x))) : va_E) = mk B (shp k) (upd (σ.1 k) i.toNatClampNeg x) (σ.2 k) := by simp [mk, h2, h3]
  rw [e, wd_repI_s] at hP
  exact hP
theorem sL_s (C0 : Cx p s m args meth c cc nL ow) (w : Wx_s B σ s H locs) {k n : Nat} {i : Int32} {x : Int64} (hs : shA k 2 n = true) (hi : vp_in i n) (d : decode cc pc = .ok (.lastore, 1))
    (kk : ∀ H locs, Wx_s B (setL σ k i.toNatClampNeg x) s H locs → W p l e R s m args below meth c H locs cells slots Q (F0 m (pc + 1) ls rest)) (hkN : k < 224) : W p l e R s m args below meth c H locs cells slots Q (F0 m pc ls (.long x :: .int i :: .ref (wA B k) :: rest)) := by
  refine va_last C0.1.1 C0.1.2.1 w.2.1 w.1 (wd_D_s (σ := σ) w.2.2.1 (A := own_s B s.heap.size) own_A_s) w.2.2.2.1 k 1 (wd_getA_s hkN hs _ rfl) rfl hi d (fun H1 l1 hP _ hS => ?_)
  refine kk H1 l1 ⟨?_, w.2.1, w.2.2.1, hS, w.2.2.2.2⟩
  obtain ⟨h1, h2, h3⟩ := shA_ok hs
  have e : ((.inl (wC B 1, n, .inr (.inl (vp_updL (σ.2 k) i.toNatClampNeg x)))) : va_E) = mk B (shp k) (σ.1 k) (vp_updL (σ.2 k) i.toNatClampNeg x) := by simp [mk, h2, h3]
  rw [e, wd_repL_s] at hP
  exact hP
theorem sZ_s (C0 : Cx p s m args meth c cc nL ow) (w : Wx_s B σ s H locs) {k n : Nat} {i x : Int32} (hs : shA k 3 n = true) (hi : vp_in i n) (hx : vp_nar .boolean x = x) (d : decode cc pc = .ok (.bastore, 1))
    (kk : ∀ H locs, Wx_s B (setI σ k i.toNatClampNeg x) s H locs → W p l e R s m args below meth c H locs cells slots Q (F0 m (pc + 1) ls rest)) (hkN : k < 224) : W p l e R s m args below meth c H locs cells slots Q (F0 m pc ls (.int x :: .int i :: .ref (wA B k) :: rest)) := by
  refine va_zast C0.1.1 C0.1.2.1 w.2.1 w.1 (wd_D_s (σ := σ) w.2.2.1 (A := own_s B s.heap.size) own_A_s) w.2.2.2.1 k 2 (wd_getA_s hkN hs _ rfl) rfl hi d (fun H1 l1 hP _ hS => ?_)
  refine kk H1 l1 ⟨?_, w.2.1, w.2.2.1, hS, w.2.2.2.2⟩
  obtain ⟨h1, h2, h3⟩ := shA_ok hs
  rw [hx] at hP
  have e : ((.inl (wC B 2, n, .inl (upd (σ.1 k) i.toNatClampNeg x))) : va_E) = mk B (shp k) (upd (σ.1 k) i.toNatClampNeg x) (σ.2 k) := by simp [mk, h2, h3]
  rw [e, wd_repI_s] at hP
  exact hP
theorem sB_s (C0 : Cx p s m args meth c cc nL ow) (w : Wx_s B σ s H locs) {k n : Nat} {i x : Int32} (hs : shA k 4 n = true) (hi : vp_in i n) (hx : vp_nar .byte x = x) (d : decode cc pc = .ok (.bastore, 1))
    (kk : ∀ H locs, Wx_s B (setI σ k i.toNatClampNeg x) s H locs → W p l e R s m args below meth c H locs cells slots Q (F0 m (pc + 1) ls rest)) (hkN : k < 224) : W p l e R s m args below meth c H locs cells slots Q (F0 m pc ls (.int x :: .int i :: .ref (wA B k) :: rest)) := by
  refine va_bast C0.1.1 C0.1.2.1 w.2.1 w.1 (wd_D_s (σ := σ) w.2.2.1 (A := own_s B s.heap.size) own_A_s) w.2.2.2.1 k 3 (wd_getA_s hkN hs _ rfl) rfl hi d (fun H1 l1 hP _ hS => ?_)
  refine kk H1 l1 ⟨?_, w.2.1, w.2.2.1, hS, w.2.2.2.2⟩
  obtain ⟨h1, h2, h3⟩ := shA_ok hs
  rw [hx] at hP
  have e : ((.inl (wC B 3, n, .inl (upd (σ.1 k) i.toNatClampNeg x))) : va_E) = mk B (shp k) (upd (σ.1 k) i.toNatClampNeg x) (σ.2 k) := by simp [mk, h2, h3]
  rw [e, wd_repI_s] at hP
  exact hP
/-- a row out of int[][] -/
theorem aG_s (C0 : Cx p s m args meth c cc nL ow) (w : Wx_s B σ s H locs) {k n : Nat} (b st : Nat) {i : Int32} (hs : shA k 5 n = true) (hb : (shp k).2.2 = [b, st]) (hi : vp_in i n) (d : decode cc pc = .ok (.aaload, 1))
    (kk : W p l e R s m args below meth c H locs cells slots Q (F0 m (pc + 1) ls (.ref (wA B (b + st * i.toNatClampNeg)) :: rest))) (hkN : k < 224) : W p l e R s m args below meth c H locs cells slots Q (F0 m pc ls (.int i :: .ref (wA B k) :: rest)) := by
  have hlt : i.toNatClampNeg < n := Nat.not_le.mp fun q => hi (Or.inr q)
  have ha : (wd_s B σ)[k]? = some (wA B k, .inl (wC B 4, n, .inr (.inr (.inr (.inr (fun j => some (wA B (b + st * j)))))))) := wd_getA_s hkN hs _ (by rw [hb]; rfl)
  exact W.aald (v := va_rf (some (wA B (b + st * i.toNatClampNeg)))) (ty := .array .int) C0.1.1 C0.1.2.1 (w.1 k _ ha) ((w.2.1.2 4 _ rfl).1 n (fun j => va_rf (some (wA B (b + st * j))))) rfl (fun q => by cases q) (by show ¬ (i < 0 ∨ (arrV _ _ _).slots.size ≤ _); rw [arrV_size]; exact hi) (by show (arrV _ _ _).slots[_]? = _; rw [arrV_read _ _ hlt]) rfl rfl d kk
theorem aO_s (C0 : Cx p s m args meth c cc nL ow) (w : Wx_s B σ s H locs) {k n : Nat} (b st : Nat) {i : Int32} (hs : shA k 6 n = true) (hb : (shp k).2.2 = [b, st]) (hi : vp_in i n) (d : decode cc pc = .ok (.aaload, 1))
    (kk : W p l e R s m args below meth c H locs cells slots Q (F0 m (pc + 1) ls (.ref (wA B (b + st * i.toNatClampNeg)) :: rest))) (hkN : k < 224) : W p l e R s m args below meth c H locs cells slots Q (F0 m pc ls (.int i :: .ref (wA B k) :: rest)) := by
  have ha : (wd_s B σ)[k]? = some (wA B k, .inl (wC B 5, n, .inr (.inr (.inr (.inr (fun j => some (wA B (b + st * j)))))))) := wd_getA_s hkN hs _ (by rw [hb]; rfl)
  exact va_aldq C0.1.1 C0.1.2.1 w.2.1 w.1 k 5 ha rfl hi d kk
theorem r_len_s (C0 : Cx p s m args meth c cc nL ow) (w : Wx_s B σ s H locs) {k n : Nat} (hs : shA k 1 n = true) (d : decode cc pc = .ok (.arraylength, 1))
    (kk : W p l e R s m args below meth c H locs cells slots Q (F0 m (pc + 1) ls (.int (Int32.ofNat n) :: rest))) (hkN : k < 224) : W p l e R s m args below meth c H locs cells slots Q (F0 m pc ls (.ref (wA B k) :: rest)) :=
  va_alen C0.1.1 C0.1.2.1 w.2.1 w.1 k 0 (wd_getA_s hkN hs _ rfl) rfl rfl d kk
theorem call_go_s {mc ms : Nat} {v : Option Value} {a : Array Value} (hr : va_Run p l e R s m args below meth c H locs cells slots mc ms (F0 m pc ls st0) rest (Qo_s B σ' v (own_s B H.size) a) (own_s B H.size)) (w : Wx_s B σ s H locs)
    (kk : ∀ H locs, Wx_s B σ' s H locs → W p l e R s m args below meth c H locs (cells + mc) (slots + ms) Q (F0 m (pc + 3) ls (v.toList ++ rest))) : W p l e R s m args below meth c H locs cells slots Q (F0 m pc ls st0) := by
  intro T hT X
  obtain ⟨v', st₀, t, T', L, h0, X', hL, e1, e2, ⟨⟨hv, hp⟩, hz, hk⟩, st⟩ := hr T hT X
  cases hv
  rw [h0] at hz hk
  obtain ⟨w1, w2, w3, w4, w5⟩ := w
  have hsub : ∀ q, own_s B H.size q → own_s B s.heap.size q := own_le_s w4.1
  obtain ⟨t2, a1, b1⟩ := kk T'.heap (locs ++ L) ⟨by rw [e1]; exact hp, w2, w3, ⟨Nat.le_trans w4.1 (by rw [e1]; exact hz), fun q h1 h2 => by
      rw [e1, hk q (Nat.lt_of_lt_of_le h1 w4.1) (fun z => h2 (hsub q z))]; exact w4.2.1 q h1 h2, fun q hq => by
      rcases List.mem_append.mp hq with h | h
      · exact w4.2.2 q h
      · exact hsub _ (hL q h)⟩, w5⟩ T' rfl X'
  exact ⟨t2, st t2 a1, b1⟩
theorem shR_s {k ci : Nat} {C : String} {T : u_T} {N : Nat} (hc : vwCl[ci]? = some (C, T, N)) (w : Wx_s B σ s H locs) (hs : shO k ci 0 ((shp k).2.2.getD 0 0) = true) (hkN : k < 224) : ∃ cell : Cell, H[wA B k]? = some cell ∧ cell.vm.isStatics = false ∧ s.vm.findClass C = some cell.cls := by
  obtain ⟨h1, h2, h3, -⟩ := shO_okN_s hkN hs
  have he := wd_getO_s (B := B) (σ := σ) h1 h2
  rw [h3] at he
  exact va_recv w.2.1 w.1 hc he
theorem cV_s (C0 : Cx p s m args meth c cc nL ow) (w : Wx_s B σ s H locs) {y : MethodName} {bytes : ByteArray} {maxL n k ci idx : Nat} {ret : Option FieldType} {rm : Room} {As : List Value} {v : Option Value} (hM : MetC_s l y bytes maxL ret rm B H.size σ σ' (.ref (wA B k) :: As) v) (hy : Ky y bytes maxL ret n) (hv : Kv y) (hl : Cond.methodLink ow idx y ∈ GL) {T : u_T} {N : Nat} (hc : vwCl[ci]? = some (y.cls, T, N)) (hs : shO k ci 0 ((shp k).2.2.getD 0 0) = true)
    (hR : rm.frames + 1 ≤ R.frames ∧ 8 + (maxL + 11) + rm.locals ≤ R.locals) (hf : cells + rm.cells ≤ R.cells ∧ slots + rm.slots ≤ R.slots) (hn : As.length = n) (hst : st0 = As.reverse ++ .ref (wA B k) :: rest) (hW : (rest.map fun v => v.category).sum ≤ 8) (hls : ls.size = nL) (d : decode cc pc = .ok (.invokevirtual idx, 3))
    (kk : ∀ H locs, Wx_s B σ' s H locs → W p l e R s m args below meth c H locs (cells + rm.cells) (slots + rm.slots) Q (F0 m (pc + 3) ls (v.toList ++ rest))) (hkN : k < 224) : W p l e R s m args below meth c H locs cells slots Q (F0 m pc ls st0) := by
  have ht := C0.1.2.2.2.2
  refine call_go_s (va_runV (As := As) (rest := rest) (C := y.cls) C0.1 hM ⟨callB_of n ht (by intro z hz; rcases List.mem_cons.mp hz with rfl | h; exact ⟨hy.1, good_of_word (List.mem_filter.mp hy.1).2⟩; exact ⟨h, good_of_word (List.mem_filter.mp h).2⟩) rfl rfl rfl (ht _ hy.2.1) (ht _ hl) hy.2.2 hR, ht _ hv.1, ht _ hv.2⟩ ⟨Pw_blind_s, shR_s hc w hs hkN, fun U hU hW => ⟨rfl, by rw [hU], w.here hU hW⟩⟩ rfl hn hls hst (lv_room hW) d hf) w kk
theorem cS_s (C0 : Cx p s m args meth c cc nL ow) (w : Wx_s B σ s H locs) {y : MethodName} {bytes : ByteArray} {maxL n idx : Nat} {ret : Option FieldType} {rm : Room} {As : List Value} {v : Option Value} (hM : MetC_s l y bytes maxL ret rm B H.size σ σ' As v) (hy : Ky y bytes maxL ret n) (hv : Cond.static y ∈ GL) (hl : Cond.methodLink ow idx y ∈ GL)
    (hR : rm.frames + 1 ≤ R.frames ∧ 8 + (maxL + 11) + rm.locals ≤ R.locals) (hf : cells + rm.cells ≤ R.cells ∧ slots + rm.slots ≤ R.slots) (hn : As.length = n) (hst : st0 = As.reverse ++ rest) (hW : (rest.map fun v => v.category).sum ≤ 8) (hls : ls.size = nL) (d : decode cc pc = .ok (.invokestatic idx, 3))
    (kk : ∀ H locs, Wx_s B σ' s H locs → W p l e R s m args below meth c H locs (cells + rm.cells) (slots + rm.slots) Q (F0 m (pc + 3) ls (v.toList ++ rest))) : W p l e R s m args below meth c H locs cells slots Q (F0 m pc ls st0) := by
  have ht := C0.1.2.2.2.2
  refine call_go_s (va_runS (As := As) (rest := rest) C0.1 hM ⟨callB_of n ht (by intro z hz; rcases List.mem_cons.mp hz with rfl | h; exact ⟨hy.1, good_of_word (List.mem_filter.mp hy.1).2⟩; exact ⟨h, good_of_word (List.mem_filter.mp h).2⟩) rfl rfl rfl (ht _ hy.2.1) (ht _ hl) hy.2.2 hR, ht _ hv⟩ ⟨Pw_blind_s, fun U hU hW => ⟨rfl, by rw [hU], w.here hU hW⟩⟩ rfl hn hls hst (lv_room hW) d hf) w kk
theorem eI_s (C0 : Cx p s m args meth c cc nL ow) {ty : FieldType} (hr : meth.sig.returnType = some ty) (w : Wx_s B σ s H locs) {v : Int32} (hn : narrow ty (.int v) = .int v) (d : decode cc pc = .ok (.ireturn, 1)) : W p l e R s m args below meth c H locs cells slots (MQ below (Qo_s B σ (some (.int v)) (own_s B s.heap.size)) args s cells slots (own_s B s.heap.size)) (F0 m pc ls [.int v]) :=
  W.zret C0.1.1 C0.1.2.1 hr hn (fun t ht _ => ⟨⟨rfl, by rw [ht]; exact w.1⟩, w.2.2.2.1.F ht⟩) w.2.2.2.1.2.2 d (hlocks := C0.2)
theorem eL_s (C0 : Cx p s m args meth c cc nL ow) (hr : meth.sig.returnType = some .long) (w : Wx_s B σ s H locs) {v : Int64} (d : decode cc pc = .ok (.lreturn, 1)) : W p l e R s m args below meth c H locs cells slots (MQ below (Qo_s B σ (some (.long v)) (own_s B s.heap.size)) args s cells slots (own_s B s.heap.size)) (F0 m pc ls [.long v]) :=
  W.lret C0.1.1 C0.1.2.1 hr (fun t ht _ => ⟨⟨rfl, by rw [ht]; exact w.1⟩, w.2.2.2.1.F ht⟩) w.2.2.2.1.2.2 d (hlocks := C0.2)
theorem eV_s (C0 : Cx p s m args meth c cc nL ow) (hr : meth.sig.returnType = none) (w : Wx_s B σ s H locs) (d : decode cc pc = .ok (.return_, 1)) : W p l e R s m args below meth c H locs cells slots (MQ below (Qo_s B σ none (own_s B s.heap.size)) args s cells slots (own_s B s.heap.size)) (F0 m pc ls []) :=
  W.vret C0.1.1 C0.1.2.1 hr (fun t ht _ => ⟨⟨rfl, by rw [ht]; exact w.1⟩, w.2.2.2.1.F ht⟩) w.2.2.2.1.2.2 d (hlocks := C0.2)
end ROWS
section ROWS2
variable {p : Program} {l : Launch} {e : Env} {R : Room} {s : State} {m : MethodId} {args : Array Value} {below : List Frame} {meth : Method} {c : Code} {H : Heap} {locs : List Loc} {cells slots : Nat} {Q : State → Prop}
variable {cc : ByteArray} {nL pc : Nat} {ow : String} {ls : Array Slot} {rest st0 : List Value} {B : Wb} {σ σ' : Mem}
theorem r_lenL_s (C0 : Cx p s m args meth c cc nL ow) (w : Wx_s B σ s H locs) {k n : Nat} (hs : shA k 2 n = true) (d : decode cc pc = .ok (.arraylength, 1))
    (kk : W p l e R s m args below meth c H locs cells slots Q (F0 m (pc + 1) ls (.int (Int32.ofNat n) :: rest))) (hkN : k < 224) : W p l e R s m args below meth c H locs cells slots Q (F0 m pc ls (.ref (wA B k) :: rest)) :=
  va_alen C0.1.1 C0.1.2.1 w.2.1 w.1 k 1 (wd_getA_s hkN hs _ rfl) rfl rfl d kk
end ROWS2
set_option maxHeartbeats 4000000 in
set_option maxRecDepth 100000 in
theorem lp_X2_layCell_43_s {p : Program} {e : Env} {s : State} {m : MethodId} {args : Array Value} {below : List Frame} {meth : Method} {c : Code} {Q : State → Prop} (l : Launch) (B : Wb) (C0 : Cx p s m args meth c cX2_layCell 9 RX2) (x1 : Int32) (x2 : Int32) (x3 : Int32) (x4 : Int32) (x5 : Int32) (x7 : Int32) : ∀ (n : Nat) (x6 : Int32) (x8 : Int32) (σ : Mem) (o : Int32 × Mem) (H : Heap) (locs : List Loc) (ls : Array Slot), f_X2_layCell_43 x1 x2 x3 x4 x5 x7 n x6 x8 σ = some o → Wx_s B σ s H locs → lv_has ls 9 [(0, .ref (wA B 8)), (1, .int x1), (2, .int x2), (3, .int x3), (4, .int x4), (5, .int x5), (6, .int x6), (7, .int x7), (8, .int x8)] → (∀ (H : Heap) (locs : List Loc) (ls : Array Slot), Wx_s B o.2 s H locs → lv_has ls 9 [(0, .ref (wA B 8)), (1, .int x1), (2, .int x2), (3, .int x3), (4, .int x4), (5, .int x5), (6, .int o.1), (7, .int x7)] → W p l e rm_X2_layCell s m args below meth c H locs 0 0 Q (F0 m 126 ls [])) → W p l e rm_X2_layCell s m args below meth c H locs 0 0 Q (F0 m 43 ls []) := by
  have hx := C0.1.1
  have hb := C0.1.2.1
  intro n
  induction n with
  | zero =>
    intro x6 x8 σ o H locs ls hf w hl hK
    cases hf
  | succ n ih =>
    intro x6 x8 σ o H locs ls hf w hl hK
    rw [f_X2_layCell_43] at hf
    refine lv_iload hx hb dX2_layCell_43 (lv_at hl 8 rfl) ?_
    refine lv_iload_n hx hb dX2_layCell_45 rfl (lv_at hl 1 rfl) ?_
    refine lv_iconst (v := 1) hx hb dX2_layCell_46 (by decide) ?_
    refine lv_iadd hx hb dX2_layCell_47 ?_
    refine lv_iload_n hx hb dX2_layCell_48 rfl (lv_at hl 3 rfl) ?_
    refine lv_iconst (v := 1) hx hb dX2_layCell_49 (by decide) ?_
    refine lv_isub hx hb dX2_layCell_50 ?_
    refine mMin C0 lk_X2_37 ms_min mi_Math mc_min hl.1 (Nat.le_of_ble_eq_true rfl) (Nat.le_of_ble_eq_true rfl) (Nat.zero_le _) (Nat.zero_le _) dX2_layCell_51 ?_
    refine lv_icmp_gt (tgt := 126) hx hb dX2_layCell_54 (by decide) (fun c1 => ?_) (fun c1 => ?_)
    · rw [if_pos c1] at hf
      obtain rfl := Option.some.inj hf
      exact hK _ _ _ w (lv_sub hl [0, 1, 2, 3, 4, 5, 6, 7] rfl)
    · rw [if_neg c1] at hf
      refine lv_iload hx hb dX2_layCell_57 (lv_at hl 8 rfl) ?_
      refine lv_iload_n hx hb dX2_layCell_59 rfl (lv_at hl 1 rfl) ?_
      refine lv_icmp_ne (tgt := 69) hx hb dX2_layCell_60 (by decide) (fun c2 => ?_) (fun c2 => ?_)
      · rw [if_neg c2] at hf
        refine lv_aload_n hx hb dX2_layCell_69 rfl (lv_at hl 0 rfl) ?_
        refine gR_s C0 w 10 fk_X2_17 (by decide +kernel) dX2_layCell_70 ?_ (by first | decide | omega)
        refine lv_iload hx hb dX2_layCell_73 (lv_at hl 5 rfl) ?_
        obtain ⟨g3, hf⟩ := gdE hf
        try have g3L := inbL g3
        refine aG_s C0 w (n := 64) 11 1 (by decide +kernel) rfl (inbE g3) dX2_layCell_75 ?_ (by first | decide | omega)
        refine lv_iload hx hb dX2_layCell_76 (lv_at hl 6 rfl) ?_
        refine lv_iload_n hx hb dX2_layCell_78 rfl (lv_at hl 3 rfl) ?_
        refine lv_iload hx hb dX2_layCell_79 (lv_at hl 7 rfl) ?_
        refine lv_imul hx hb dX2_layCell_81 ?_
        refine lv_iload hx hb dX2_layCell_82 (lv_at hl 8 rfl) ?_
        refine lv_iadd hx hb dX2_layCell_84 ?_
        obtain ⟨g4, hf⟩ := gdE hf
        try have g4L := inbL g4
        obtain ⟨g5, hf⟩ := gdE hf
        try have g5L := inbL g5
        refine sI_s C0 w g4 (inbE g5) dX2_layCell_85 (fun H locs w => ?_) (by first | decide | omega)
        refine lv_aload_n hx hb dX2_layCell_86 rfl (lv_at hl 0 rfl) ?_
        refine gR_s C0 w 75 fk_X2_20 (by decide +kernel) dX2_layCell_87 ?_ (by first | decide | omega)
        refine lv_iload hx hb dX2_layCell_90 (lv_at hl 5 rfl) ?_
        obtain ⟨g6, hf⟩ := gdE hf
        try have g6L := inbL g6
        refine aG_s C0 w (n := 64) 76 1 (by decide +kernel) rfl (inbE g6) dX2_layCell_92 ?_ (by first | decide | omega)
        refine lv_iload hx hb dX2_layCell_93 (lv_at hl 6 rfl) ?_
        refine lv_iload hx hb dX2_layCell_95 (lv_at hl 8 rfl) ?_
        refine lv_iload_n hx hb dX2_layCell_97 rfl (lv_at hl 1 rfl) ?_
        refine lv_icmp_eq (tgt := 107) hx hb dX2_layCell_98 (by decide) (fun c7 => ?_) (fun c7 => ?_)
        · rw [if_pos c7] at hf
          refine lv_sipush (v := 1000) hx hb dX2_layCell_107 (by decide) ?_
          refine lv_goto (tgt := 116) hx hb dX2_layCell_110 (by decide) ?_
          obtain ⟨g8, hf⟩ := gdE hf
          try have g8L := inbL g8
          obtain ⟨g9, hf⟩ := gdE hf
          try have g9L := inbL g9
          refine sI_s C0 w g8 (inbE g9) dX2_layCell_116 (fun H locs w => ?_) (by first | decide | omega)
          refine lv_iinc (k := 6) (v := x6 + 1) (lv' := [(6, .int (x6 + 1)), (0, .ref (wA B 8)), (1, .int x1), (2, .int x2), (3, .int x3), (4, .int x4), (5, .int x5), (7, .int x7), (8, .int x8)]) hx hb dX2_layCell_117 hl rfl (by rfl) (by decide) rfl (fun ls hl => ?_)
          refine lv_iinc (k := 8) (v := x8 + 1) (lv' := [(8, .int (x8 + 1)), (6, .int (x6 + 1)), (0, .ref (wA B 8)), (1, .int x1), (2, .int x2), (3, .int x3), (4, .int x4), (5, .int x5), (7, .int x7)]) hx hb dX2_layCell_120 hl rfl (by rfl) (by decide) rfl (fun ls hl => ?_)
          refine lv_goto (tgt := 43) hx hb dX2_layCell_123 (by decide) ?_
          exact ih (x6 + 1) (x8 + 1) (setI (setI σ (11 + 1 * x5.toNatClampNeg) x6.toNatClampNeg ((x3 * x7) + x8)) (76 + 1 * x5.toNatClampNeg) x6.toNatClampNeg 1000) _ _ _ _ hf w (lv_sub hl [2, 3, 4, 5, 6, 7, 1, 8, 0] rfl) hK
        · rw [if_neg c7] at hf
          refine lv_iload hx hb dX2_layCell_101 (lv_at hl 7 rfl) ?_
          refine lv_iload_n hx hb dX2_layCell_103 rfl (lv_at hl 2 rfl) ?_
          refine lv_icmp_ne (tgt := 113) hx hb dX2_layCell_104 (by decide) (fun c10 => ?_) (fun c10 => ?_)
          · rw [if_neg c10] at hf
            refine lv_sipush (v := 1414) hx hb dX2_layCell_113 (by decide) ?_
            obtain ⟨g11, hf⟩ := gdE hf
            try have g11L := inbL g11
            obtain ⟨g12, hf⟩ := gdE hf
            try have g12L := inbL g12
            refine sI_s C0 w g11 (inbE g12) dX2_layCell_116 (fun H locs w => ?_) (by first | decide | omega)
            refine lv_iinc (k := 6) (v := x6 + 1) (lv' := [(6, .int (x6 + 1)), (0, .ref (wA B 8)), (1, .int x1), (2, .int x2), (3, .int x3), (4, .int x4), (5, .int x5), (7, .int x7), (8, .int x8)]) hx hb dX2_layCell_117 hl rfl (by rfl) (by decide) rfl (fun ls hl => ?_)
            refine lv_iinc (k := 8) (v := x8 + 1) (lv' := [(8, .int (x8 + 1)), (6, .int (x6 + 1)), (0, .ref (wA B 8)), (1, .int x1), (2, .int x2), (3, .int x3), (4, .int x4), (5, .int x5), (7, .int x7)]) hx hb dX2_layCell_120 hl rfl (by rfl) (by decide) rfl (fun ls hl => ?_)
            refine lv_goto (tgt := 43) hx hb dX2_layCell_123 (by decide) ?_
            exact ih (x6 + 1) (x8 + 1) (setI (setI σ (11 + 1 * x5.toNatClampNeg) x6.toNatClampNeg ((x3 * x7) + x8)) (76 + 1 * x5.toNatClampNeg) x6.toNatClampNeg 1414) _ _ _ _ hf w (lv_sub hl [2, 3, 4, 5, 6, 7, 1, 8, 0] rfl) hK
          · rw [if_pos c10] at hf
            refine lv_sipush (v := 1000) hx hb dX2_layCell_107 (by decide) ?_
            refine lv_goto (tgt := 116) hx hb dX2_layCell_110 (by decide) ?_
            obtain ⟨g13, hf⟩ := gdE hf
            try have g13L := inbL g13
            obtain ⟨g14, hf⟩ := gdE hf
            try have g14L := inbL g14
            refine sI_s C0 w g13 (inbE g14) dX2_layCell_116 (fun H locs w => ?_) (by first | decide | omega)
            refine lv_iinc (k := 6) (v := x6 + 1) (lv' := [(6, .int (x6 + 1)), (0, .ref (wA B 8)), (1, .int x1), (2, .int x2), (3, .int x3), (4, .int x4), (5, .int x5), (7, .int x7), (8, .int x8)]) hx hb dX2_layCell_117 hl rfl (by rfl) (by decide) rfl (fun ls hl => ?_)
            refine lv_iinc (k := 8) (v := x8 + 1) (lv' := [(8, .int (x8 + 1)), (6, .int (x6 + 1)), (0, .ref (wA B 8)), (1, .int x1), (2, .int x2), (3, .int x3), (4, .int x4), (5, .int x5), (7, .int x7)]) hx hb dX2_layCell_120 hl rfl (by rfl) (by decide) rfl (fun ls hl => ?_)
            refine lv_goto (tgt := 43) hx hb dX2_layCell_123 (by decide) ?_
            exact ih (x6 + 1) (x8 + 1) (setI (setI σ (11 + 1 * x5.toNatClampNeg) x6.toNatClampNeg ((x3 * x7) + x8)) (76 + 1 * x5.toNatClampNeg) x6.toNatClampNeg 1000) _ _ _ _ hf w (lv_sub hl [2, 3, 4, 5, 6, 7, 1, 8, 0] rfl) hK
      · rw [if_pos c2] at hf
        refine lv_iload hx hb dX2_layCell_63 (lv_at hl 7 rfl) ?_
        refine lv_iload_n hx hb dX2_layCell_65 rfl (lv_at hl 2 rfl) ?_
        refine lv_icmp_eq (tgt := 120) hx hb dX2_layCell_66 (by decide) (fun c15 => ?_) (fun c15 => ?_)
        · rw [if_pos c15] at hf
          refine lv_iinc (k := 8) (v := x8 + 1) (lv' := [(8, .int (x8 + 1)), (0, .ref (wA B 8)), (1, .int x1), (2, .int x2), (3, .int x3), (4, .int x4), (5, .int x5), (6, .int x6), (7, .int x7)]) hx hb dX2_layCell_120 hl rfl (by rfl) (by decide) rfl (fun ls hl => ?_)
          refine lv_goto (tgt := 43) hx hb dX2_layCell_123 (by decide) ?_
          exact ih x6 (x8 + 1) σ _ _ _ _ hf w (lv_sub hl [1, 2, 3, 4, 5, 6, 7, 8, 0] rfl) hK
        · rw [if_neg c15] at hf
          refine lv_aload_n hx hb dX2_layCell_69 rfl (lv_at hl 0 rfl) ?_
          refine gR_s C0 w 10 fk_X2_17 (by decide +kernel) dX2_layCell_70 ?_ (by first | decide | omega)
          refine lv_iload hx hb dX2_layCell_73 (lv_at hl 5 rfl) ?_
          obtain ⟨g16, hf⟩ := gdE hf
          try have g16L := inbL g16
          refine aG_s C0 w (n := 64) 11 1 (by decide +kernel) rfl (inbE g16) dX2_layCell_75 ?_ (by first | decide | omega)
          refine lv_iload hx hb dX2_layCell_76 (lv_at hl 6 rfl) ?_
          refine lv_iload_n hx hb dX2_layCell_78 rfl (lv_at hl 3 rfl) ?_
          refine lv_iload hx hb dX2_layCell_79 (lv_at hl 7 rfl) ?_
          refine lv_imul hx hb dX2_layCell_81 ?_
          refine lv_iload hx hb dX2_layCell_82 (lv_at hl 8 rfl) ?_
          refine lv_iadd hx hb dX2_layCell_84 ?_
          obtain ⟨g17, hf⟩ := gdE hf
          try have g17L := inbL g17
          obtain ⟨g18, hf⟩ := gdE hf
          try have g18L := inbL g18
          refine sI_s C0 w g17 (inbE g18) dX2_layCell_85 (fun H locs w => ?_) (by first | decide | omega)
          refine lv_aload_n hx hb dX2_layCell_86 rfl (lv_at hl 0 rfl) ?_
          refine gR_s C0 w 75 fk_X2_20 (by decide +kernel) dX2_layCell_87 ?_ (by first | decide | omega)
          refine lv_iload hx hb dX2_layCell_90 (lv_at hl 5 rfl) ?_
          obtain ⟨g19, hf⟩ := gdE hf
          try have g19L := inbL g19
          refine aG_s C0 w (n := 64) 76 1 (by decide +kernel) rfl (inbE g19) dX2_layCell_92 ?_ (by first | decide | omega)
          refine lv_iload hx hb dX2_layCell_93 (lv_at hl 6 rfl) ?_
          refine lv_iload hx hb dX2_layCell_95 (lv_at hl 8 rfl) ?_
          refine lv_iload_n hx hb dX2_layCell_97 rfl (lv_at hl 1 rfl) ?_
          refine lv_icmp_eq (tgt := 107) hx hb dX2_layCell_98 (by decide) (fun c20 => ?_) (fun c20 => ?_)
          · rw [if_pos c20] at hf
            refine lv_sipush (v := 1000) hx hb dX2_layCell_107 (by decide) ?_
            refine lv_goto (tgt := 116) hx hb dX2_layCell_110 (by decide) ?_
            obtain ⟨g21, hf⟩ := gdE hf
            try have g21L := inbL g21
            obtain ⟨g22, hf⟩ := gdE hf
            try have g22L := inbL g22
            refine sI_s C0 w g21 (inbE g22) dX2_layCell_116 (fun H locs w => ?_) (by first | decide | omega)
            refine lv_iinc (k := 6) (v := x6 + 1) (lv' := [(6, .int (x6 + 1)), (0, .ref (wA B 8)), (1, .int x1), (2, .int x2), (3, .int x3), (4, .int x4), (5, .int x5), (7, .int x7), (8, .int x8)]) hx hb dX2_layCell_117 hl rfl (by rfl) (by decide) rfl (fun ls hl => ?_)
            refine lv_iinc (k := 8) (v := x8 + 1) (lv' := [(8, .int (x8 + 1)), (6, .int (x6 + 1)), (0, .ref (wA B 8)), (1, .int x1), (2, .int x2), (3, .int x3), (4, .int x4), (5, .int x5), (7, .int x7)]) hx hb dX2_layCell_120 hl rfl (by rfl) (by decide) rfl (fun ls hl => ?_)
            refine lv_goto (tgt := 43) hx hb dX2_layCell_123 (by decide) ?_
            exact ih (x6 + 1) (x8 + 1) (setI (setI σ (11 + 1 * x5.toNatClampNeg) x6.toNatClampNeg ((x3 * x7) + x8)) (76 + 1 * x5.toNatClampNeg) x6.toNatClampNeg 1000) _ _ _ _ hf w (lv_sub hl [2, 3, 4, 5, 6, 7, 1, 8, 0] rfl) hK
          · rw [if_neg c20] at hf
            refine lv_iload hx hb dX2_layCell_101 (lv_at hl 7 rfl) ?_
            refine lv_iload_n hx hb dX2_layCell_103 rfl (lv_at hl 2 rfl) ?_
            refine lv_icmp_ne (tgt := 113) hx hb dX2_layCell_104 (by decide) (fun c23 => ?_) (fun c23 => ?_)
            · rw [if_neg c23] at hf
              refine lv_sipush (v := 1414) hx hb dX2_layCell_113 (by decide) ?_
              obtain ⟨g24, hf⟩ := gdE hf
              try have g24L := inbL g24
              obtain ⟨g25, hf⟩ := gdE hf
              try have g25L := inbL g25
              refine sI_s C0 w g24 (inbE g25) dX2_layCell_116 (fun H locs w => ?_) (by first | decide | omega)
              refine lv_iinc (k := 6) (v := x6 + 1) (lv' := [(6, .int (x6 + 1)), (0, .ref (wA B 8)), (1, .int x1), (2, .int x2), (3, .int x3), (4, .int x4), (5, .int x5), (7, .int x7), (8, .int x8)]) hx hb dX2_layCell_117 hl rfl (by rfl) (by decide) rfl (fun ls hl => ?_)
              refine lv_iinc (k := 8) (v := x8 + 1) (lv' := [(8, .int (x8 + 1)), (6, .int (x6 + 1)), (0, .ref (wA B 8)), (1, .int x1), (2, .int x2), (3, .int x3), (4, .int x4), (5, .int x5), (7, .int x7)]) hx hb dX2_layCell_120 hl rfl (by rfl) (by decide) rfl (fun ls hl => ?_)
              refine lv_goto (tgt := 43) hx hb dX2_layCell_123 (by decide) ?_
              exact ih (x6 + 1) (x8 + 1) (setI (setI σ (11 + 1 * x5.toNatClampNeg) x6.toNatClampNeg ((x3 * x7) + x8)) (76 + 1 * x5.toNatClampNeg) x6.toNatClampNeg 1414) _ _ _ _ hf w (lv_sub hl [2, 3, 4, 5, 6, 7, 1, 8, 0] rfl) hK
            · rw [if_pos c23] at hf
              refine lv_sipush (v := 1000) hx hb dX2_layCell_107 (by decide) ?_
              refine lv_goto (tgt := 116) hx hb dX2_layCell_110 (by decide) ?_
              obtain ⟨g26, hf⟩ := gdE hf
              try have g26L := inbL g26
              obtain ⟨g27, hf⟩ := gdE hf
              try have g27L := inbL g27
              refine sI_s C0 w g26 (inbE g27) dX2_layCell_116 (fun H locs w => ?_) (by first | decide | omega)
              refine lv_iinc (k := 6) (v := x6 + 1) (lv' := [(6, .int (x6 + 1)), (0, .ref (wA B 8)), (1, .int x1), (2, .int x2), (3, .int x3), (4, .int x4), (5, .int x5), (7, .int x7), (8, .int x8)]) hx hb dX2_layCell_117 hl rfl (by rfl) (by decide) rfl (fun ls hl => ?_)
              refine lv_iinc (k := 8) (v := x8 + 1) (lv' := [(8, .int (x8 + 1)), (6, .int (x6 + 1)), (0, .ref (wA B 8)), (1, .int x1), (2, .int x2), (3, .int x3), (4, .int x4), (5, .int x5), (7, .int x7)]) hx hb dX2_layCell_120 hl rfl (by rfl) (by decide) rfl (fun ls hl => ?_)
              refine lv_goto (tgt := 43) hx hb dX2_layCell_123 (by decide) ?_
              exact ih (x6 + 1) (x8 + 1) (setI (setI σ (11 + 1 * x5.toNatClampNeg) x6.toNatClampNeg ((x3 * x7) + x8)) (76 + 1 * x5.toNatClampNeg) x6.toNatClampNeg 1000) _ _ _ _ hf w (lv_sub hl [2, 3, 4, 5, 6, 7, 1, 8, 0] rfl) hK
set_option maxHeartbeats 4000000 in
set_option maxRecDepth 100000 in
theorem lp_X2_layCell_19_s {p : Program} {e : Env} {s : State} {m : MethodId} {args : Array Value} {below : List Frame} {meth : Method} {c : Code} {Q : State → Prop} (l : Launch) (B : Wb) (C0 : Cx p s m args meth c cX2_layCell 9 RX2) (x1 : Int32) (x2 : Int32) (x3 : Int32) (x4 : Int32) (x5 : Int32) : ∀ (n : Nat) (x6 : Int32) (x7 : Int32) (σ : Mem) (o : Int32 × Mem) (H : Heap) (locs : List Loc) (ls : Array Slot), f_X2_layCell_19 x1 x2 x3 x4 x5 n x6 x7 σ = some o → Wx_s B σ s H locs → lv_has ls 9 [(0, .ref (wA B 8)), (1, .int x1), (2, .int x2), (3, .int x3), (4, .int x4), (5, .int x5), (6, .int x6), (7, .int x7)] → (∀ (H : Heap) (locs : List Loc) (ls : Array Slot), Wx_s B o.2 s H locs → lv_has ls 9 [(0, .ref (wA B 8)), (5, .int x5), (6, .int o.1)] → W p l e rm_X2_layCell s m args below meth c H locs 0 0 Q (F0 m 132 ls [])) → W p l e rm_X2_layCell s m args below meth c H locs 0 0 Q (F0 m 19 ls []) := by
  have hx := C0.1.1
  have hb := C0.1.2.1
  intro n
  induction n with
  | zero =>
    intro x6 x7 σ o H locs ls hf w hl hK
    cases hf
  | succ n ih =>
    intro x6 x7 σ o H locs ls hf w hl hK
    rw [f_X2_layCell_19] at hf
    refine lv_iload hx hb dX2_layCell_19 (lv_at hl 7 rfl) ?_
    refine lv_iload_n hx hb dX2_layCell_21 rfl (lv_at hl 2 rfl) ?_
    refine lv_iconst (v := 1) hx hb dX2_layCell_22 (by decide) ?_
    refine lv_iadd hx hb dX2_layCell_23 ?_
    refine lv_iload hx hb dX2_layCell_24 (lv_at hl 4 rfl) ?_
    refine lv_iconst (v := 1) hx hb dX2_layCell_26 (by decide) ?_
    refine lv_isub hx hb dX2_layCell_27 ?_
    refine mMin C0 lk_X2_37 ms_min mi_Math mc_min hl.1 (Nat.le_of_ble_eq_true rfl) (Nat.le_of_ble_eq_true rfl) (Nat.zero_le _) (Nat.zero_le _) dX2_layCell_28 ?_
    refine lv_icmp_gt (tgt := 132) hx hb dX2_layCell_31 (by decide) (fun c1 => ?_) (fun c1 => ?_)
    · rw [if_pos c1] at hf
      obtain rfl := Option.some.inj hf
      exact hK _ _ _ w (lv_sub hl [0, 5, 6] rfl)
    · rw [if_neg c1] at hf
      refine lv_iload_n hx hb dX2_layCell_34 rfl (lv_at hl 1 rfl) ?_
      refine lv_iconst (v := 1) hx hb dX2_layCell_35 (by decide) ?_
      refine lv_isub hx hb dX2_layCell_36 ?_
      refine lv_iconst (v := 0) hx hb dX2_layCell_37 (by decide) ?_
      refine mMax C0 lk_X2_31 ms_max mi_Math mc_max hl.1 (Nat.le_of_ble_eq_true rfl) (Nat.le_of_ble_eq_true rfl) (Nat.zero_le _) (Nat.zero_le _) dX2_layCell_38 ?_
      refine lv_istore (lv' := [(8, .int ((if (x1 - 1) < 0 then 0 else (x1 - 1)))), (0, .ref (wA B 8)), (1, .int x1), (2, .int x2), (3, .int x3), (4, .int x4), (5, .int x5), (6, .int x6), (7, .int x7)]) hx hb dX2_layCell_41 hl (by decide) rfl (fun ls hl => ?_)
      obtain ⟨q2, h3, hf⟩ := bdE hf
      refine lp_X2_layCell_43_s l B C0 x1 x2 x3 x4 x5 x7 100000 x6 ((if (x1 - 1) < 0 then 0 else (x1 - 1))) σ q2 _ _ _ h3 w (lv_sub hl [1, 2, 3, 4, 5, 6, 7, 8, 0] rfl) (fun H locs ls w hl => ?_)
      refine lv_iinc (k := 7) (v := x7 + 1) (lv' := [(7, .int (x7 + 1)), (0, .ref (wA B 8)), (1, .int x1), (2, .int x2), (3, .int x3), (4, .int x4), (5, .int x5), (6, .int q2.1)]) hx hb dX2_layCell_126 hl rfl (by rfl) (by decide) rfl (fun ls hl => ?_)
      refine lv_goto (tgt := 19) hx hb dX2_layCell_129 (by decide) ?_
      exact ih q2.1 (x7 + 1) q2.2 _ _ _ _ hf w (lv_sub hl [1, 2, 3, 4, 5, 6, 7, 0] rfl) hK
set_option maxHeartbeats 4000000 in
set_option maxRecDepth 100000 in
theorem m_X2_layCell_s (l : Launch) (B : Wb) (sz : Nat) (σ : Mem) (x1 : Int32) (x2 : Int32) (x3 : Int32) (x4 : Int32) (q : Mem) (hf : f_X2_layCell x1 x2 x3 x4 σ = some q) : MetC_s l yX2_layCell cX2_layCell 9 none rm_X2_layCell B sz σ q [.ref (wA B 8), .int x1, .int x2, .int x3, .int x4] (none) := by
  refine met_in_s (by decide +kernel) (Nat.le_of_ble_eq_true rfl) ?_
  intro p e s m below meth c C0 hr w hsz ls hl
  have hx := C0.1.1
  have hb := C0.1.2.1
  unfold f_X2_layCell at hf
  refine lv_iload_n hx hb dX2_layCell_0 rfl (lv_at hl 3 rfl) ?_
  refine lv_iload_n hx hb dX2_layCell_1 rfl (lv_at hl 2 rfl) ?_
  refine lv_imul hx hb dX2_layCell_2 ?_
  refine lv_iload_n hx hb dX2_layCell_3 rfl (lv_at hl 1 rfl) ?_
  refine lv_iadd hx hb dX2_layCell_4 ?_
  refine lv_istore (lv' := [(5, .int ((x3 * x2) + x1)), (0, .ref (wA B 8)), (1, .int x1), (2, .int x2), (3, .int x3), (4, .int x4)]) hx hb dX2_layCell_5 hl (by decide) rfl (fun ls hl => ?_)
  refine lv_iconst (v := 0) hx hb dX2_layCell_7 (by decide) ?_
  refine lv_istore (lv' := [(6, .int 0), (5, .int ((x3 * x2) + x1)), (0, .ref (wA B 8)), (1, .int x1), (2, .int x2), (3, .int x3), (4, .int x4)]) hx hb dX2_layCell_8 hl (by decide) rfl (fun ls hl => ?_)
  refine lv_iload_n hx hb dX2_layCell_10 rfl (lv_at hl 4 rfl) ?_
  refine lv_iconst (v := 1) hx hb dX2_layCell_11 (by decide) ?_
  refine lv_isub hx hb dX2_layCell_12 ?_
  refine lv_iconst (v := 0) hx hb dX2_layCell_13 (by decide) ?_
  refine mMax C0 lk_X2_31 ms_max mi_Math mc_max hl.1 (Nat.le_of_ble_eq_true rfl) (Nat.le_of_ble_eq_true rfl) (Nat.zero_le _) (Nat.zero_le _) dX2_layCell_14 ?_
  refine lv_istore (lv' := [(7, .int ((if (x2 - 1) < 0 then 0 else (x2 - 1)))), (6, .int 0), (5, .int ((x3 * x2) + x1)), (0, .ref (wA B 8)), (1, .int x1), (2, .int x2), (3, .int x3), (4, .int x4)]) hx hb dX2_layCell_17 hl (by decide) rfl (fun ls hl => ?_)
  obtain ⟨q1, h2, hf⟩ := bdE hf
  refine lp_X2_layCell_19_s l B C0 x1 x2 x3 x4 ((x3 * x2) + x1) 100000 0 ((if (x2 - 1) < 0 then 0 else (x2 - 1))) σ q1 _ _ _ h2 w (lv_sub hl [3, 4, 5, 6, 7, 2, 1, 0] rfl) (fun H locs ls w hl => ?_)
  refine lv_aload_n hx hb dX2_layCell_132 rfl (lv_at hl 0 rfl) ?_
  refine gR_s C0 w 9 fk_X2_9 (by decide +kernel) dX2_layCell_133 ?_ (by first | decide | omega)
  refine lv_iload hx hb dX2_layCell_136 (lv_at hl 1 rfl) ?_
  refine lv_iload hx hb dX2_layCell_138 (lv_at hl 2 rfl) ?_
  obtain ⟨g3, hf⟩ := gdE hf
  try have g3L := inbL g3
  refine sI_s C0 w (n := 64) (by decide +kernel) (inbE g3) dX2_layCell_140 (fun H locs w => ?_) (by first | decide | omega)
  obtain rfl := Option.some.inj hf
  exact eV_s C0 hr w dX2_layCell_141
set_option maxHeartbeats 4000000 in
set_option maxRecDepth 100000 in
theorem lp_X2_lay_17_s {p : Program} {e : Env} {s : State} {m : MethodId} {args : Array Value} {below : List Frame} {meth : Method} {c : Code} {Q : State → Prop} (l : Launch) (B : Wb) (C0 : Cx p s m args meth c cX2_lay 5 RX2) (x1 : Int32) (x2 : Int32) (x3 : Int32) : ∀ (n : Nat) (x4 : Int32) (σ : Mem) (o : Mem) (H : Heap) (locs : List Loc) (ls : Array Slot), f_X2_lay_17 x1 x2 x3 n x4 σ = some o → Wx_s B σ s H locs → lv_has ls 5 [(0, .ref (wA B 8)), (1, .int x1), (2, .int x2), (3, .int x3), (4, .int x4)] → (∀ (H : Heap) (locs : List Loc) (ls : Array Slot), Wx_s B o s H locs → lv_has ls 5 [(0, .ref (wA B 8)), (1, .int x1), (2, .int x2), (3, .int x3)] → W p l e rm_X2_lay s m args below meth c H locs 0 0 Q (F0 m 38 ls [])) → W p l e rm_X2_lay s m args below meth c H locs 0 0 Q (F0 m 17 ls []) := by
  have hx := C0.1.1
  have hb := C0.1.2.1
  intro n
  induction n with
  | zero =>
    intro x4 σ o H locs ls hf w hl hK
    cases hf
  | succ n ih =>
    intro x4 σ o H locs ls hf w hl hK
    rw [f_X2_lay_17] at hf
    refine lv_iload hx hb dX2_lay_17 (lv_at hl 4 rfl) ?_
    refine lv_iload_n hx hb dX2_lay_19 rfl (lv_at hl 1 rfl) ?_
    refine lv_icmp_ge (tgt := 38) hx hb dX2_lay_20 (by decide) (fun c1 => ?_) (fun c1 => ?_)
    · rw [if_pos c1] at hf
      obtain rfl := Option.some.inj hf
      exact hK _ _ _ w (lv_sub hl [0, 1, 2, 3] rfl)
    · rw [if_neg c1] at hf
      refine lv_aload_n hx hb dX2_lay_23 rfl (lv_at hl 0 rfl) ?_
      refine lv_iload hx hb dX2_lay_24 (lv_at hl 4 rfl) ?_
      refine lv_iload_n hx hb dX2_lay_26 rfl (lv_at hl 3 rfl) ?_
      refine lv_iload_n hx hb dX2_lay_27 rfl (lv_at hl 1 rfl) ?_
      refine lv_iload_n hx hb dX2_lay_28 rfl (lv_at hl 2 rfl) ?_
      obtain ⟨q2, h3, hf⟩ := bdE hf
      refine cV_s (As := [.int x4, .int x3, .int x1, .int x2]) (rest := []) (k := 8) (ci := 1) (T := TX2) (N := 4) C0 w (m_X2_layCell_s l B _ σ x4 x3 x1 x2 q2 h3) ky_X2_layCell kv_X2_layCell lk_X2_27 rfl (by decide +kernel) ⟨Nat.le_of_ble_eq_true rfl, Nat.le_of_ble_eq_true rfl⟩ ⟨Nat.le_of_ble_eq_true rfl, Nat.le_of_ble_eq_true rfl⟩ rfl (by rfl) (Nat.le_of_ble_eq_true rfl) hl.1 dX2_lay_29 (fun H locs w => ?_) (by first | decide | omega)
      refine lv_iinc (k := 4) (v := x4 + 1) (lv' := [(4, .int (x4 + 1)), (0, .ref (wA B 8)), (1, .int x1), (2, .int x2), (3, .int x3)]) hx hb dX2_lay_32 hl rfl (by rfl) (by decide) rfl (fun ls hl => ?_)
      refine lv_goto (tgt := 17) hx hb dX2_lay_35 (by decide) ?_
      exact ih (x4 + 1) q2 _ _ _ _ hf w (lv_sub hl [1, 2, 3, 4, 0] rfl) hK
set_option maxHeartbeats 4000000 in
set_option maxRecDepth 100000 in
theorem lp_X2_lay_9_s {p : Program} {e : Env} {s : State} {m : MethodId} {args : Array Value} {below : List Frame} {meth : Method} {c : Code} {Q : State → Prop} (l : Launch) (B : Wb) (C0 : Cx p s m args meth c cX2_lay 5 RX2) (x1 : Int32) (x2 : Int32) : ∀ (n : Nat) (x3 : Int32) (σ : Mem) (o : Mem) (H : Heap) (locs : List Loc) (ls : Array Slot), f_X2_lay_9 x1 x2 n x3 σ = some o → Wx_s B σ s H locs → lv_has ls 5 [(0, .ref (wA B 8)), (1, .int x1), (2, .int x2), (3, .int x3)] → (∀ (H : Heap) (locs : List Loc) (ls : Array Slot), Wx_s B o s H locs → lv_has ls 5 [] → W p l e rm_X2_lay s m args below meth c H locs 0 0 Q (F0 m 44 ls [])) → W p l e rm_X2_lay s m args below meth c H locs 0 0 Q (F0 m 9 ls []) := by
  have hx := C0.1.1
  have hb := C0.1.2.1
  intro n
  induction n with
  | zero =>
    intro x3 σ o H locs ls hf w hl hK
    cases hf
  | succ n ih =>
    intro x3 σ o H locs ls hf w hl hK
    rw [f_X2_lay_9] at hf
    refine lv_iload_n hx hb dX2_lay_9 rfl (lv_at hl 3 rfl) ?_
    refine lv_iload_n hx hb dX2_lay_10 rfl (lv_at hl 2 rfl) ?_
    refine lv_icmp_ge (tgt := 44) hx hb dX2_lay_11 (by decide) (fun c1 => ?_) (fun c1 => ?_)
    · rw [if_pos c1] at hf
      obtain rfl := Option.some.inj hf
      exact hK _ _ _ w (lv_sub hl [] rfl)
    · rw [if_neg c1] at hf
      refine lv_iconst (v := 0) hx hb dX2_lay_14 (by decide) ?_
      refine lv_istore (lv' := [(4, .int 0), (0, .ref (wA B 8)), (1, .int x1), (2, .int x2), (3, .int x3)]) hx hb dX2_lay_15 hl (by decide) rfl (fun ls hl => ?_)
      obtain ⟨q2, h3, hf⟩ := bdE hf
      refine lp_X2_lay_17_s l B C0 x1 x2 x3 100000 0 σ q2 _ _ _ h3 w (lv_sub hl [1, 2, 3, 4, 0] rfl) (fun H locs ls w hl => ?_)
      refine lv_iinc (k := 3) (v := x3 + 1) (lv' := [(3, .int (x3 + 1)), (0, .ref (wA B 8)), (1, .int x1), (2, .int x2)]) hx hb dX2_lay_38 hl rfl (by rfl) (by decide) rfl (fun ls hl => ?_)
      refine lv_goto (tgt := 9) hx hb dX2_lay_41 (by decide) ?_
      exact ih (x3 + 1) q2 _ _ _ _ hf w (lv_sub hl [1, 2, 3, 0] rfl) hK
set_option maxHeartbeats 4000000 in
set_option maxRecDepth 100000 in
theorem m_X2_lay_s (l : Launch) (B : Wb) (sz : Nat) (σ : Mem) (x1 : Int32) (x2 : Int32) (q : Mem) (hf : f_X2_lay x1 x2 σ = some q) : MetC_s l yX2_lay cX2_lay 5 none rm_X2_lay B sz σ q [.ref (wA B 8), .int x1, .int x2] (none) := by
  refine met_in_s (by decide +kernel) (Nat.le_of_ble_eq_true rfl) ?_
  intro p e s m below meth c C0 hr w hsz ls hl
  have hx := C0.1.1
  have hb := C0.1.2.1
  unfold f_X2_lay at hf
  refine lv_aload_n hx hb dX2_lay_0 rfl (lv_at hl 0 rfl) ?_
  refine lv_iload_n hx hb dX2_lay_1 rfl (lv_at hl 1 rfl) ?_
  refine lv_iload_n hx hb dX2_lay_2 rfl (lv_at hl 2 rfl) ?_
  refine lv_imul hx hb dX2_lay_3 ?_
  refine pI_s C0 w fk_X2_23 fp_X2_0 (by decide +kernel) dX2_lay_4 (fun H locs w => ?_) (by first | decide | omega)
  refine lv_iconst (v := 0) hx hb dX2_lay_7 (by decide) ?_
  refine lv_istore_n (lv' := [(3, .int 0), (0, .ref (wA B 8)), (1, .int x1), (2, .int x2)]) hx hb dX2_lay_8 rfl hl (by decide) rfl (fun ls hl => ?_)
  obtain ⟨q1, h2, hf⟩ := bdE hf
  refine lp_X2_lay_9_s l B C0 x1 x2 100000 0 (setI σ 8 0 (x1 * x2)) q1 _ _ _ h2 w (lv_sub hl [1, 2, 3, 0] rfl) (fun H locs ls w hl => ?_)
  obtain rfl := Option.some.inj hf
  exact eV_s C0 hr w dX2_lay_44
