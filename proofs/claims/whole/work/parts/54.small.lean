theorem shO_okN_t {k ci j kd : Nat} (hk : k < 239) (h : shO k ci j kd = true) : k < 239 ∧ (shp k).1 = 0 ∧ (shp k).2.1 = ci ∧ j < (shp k).2.2.length ∧ (shp k).2.2.getD j 0 = kd := ⟨hk, (shO_ok h).2⟩
theorem shA_okN_t {k t n : Nat} (hk : k < 239) (h : shA k t n = true) : k < 239 ∧ (shp k).1 = t ∧ (shp k).2.1 = n := ⟨hk, (shA_ok h).2⟩
def wd_t (B : Wb) (σ : Mem) : va_W := (List.range 239).map fun k => (wA B k, mk B (shp k) (σ.1 k) (σ.2 k))
theorem wd_get_t {B : Wb} {σ : Mem} {k : Nat} (h : k < 239) : (wd_t B σ)[k]? = some (wA B k, mk B (shp k) (σ.1 k) (σ.2 k)) := by
  unfold wd_t
  rw [List.getElem?_map, List.getElem?_range h]
  rfl
theorem wd_set_t {B : Wb} {σ σ' : Mem} {k : Nat} (h : ∀ q, q ≠ k → σ'.1 q = σ.1 q ∧ σ'.2 q = σ.2 q) : (wd_t B σ).set k (wA B k, mk B (shp k) (σ'.1 k) (σ'.2 k)) = wd_t B σ' := by
  apply List.ext_getElem?
  intro i
  by_cases hi : i < 239
  · by_cases hk : i = k
    · subst hk
      rw [List.getElem?_set_self (by simp [wd_t, hi]), wd_get_t hi]
    · rw [List.getElem?_set_ne (Ne.symm hk), wd_get_t hi, wd_get_t hi, (h i hk).1, (h i hk).2]
  · rw [List.getElem?_eq_none (by simp [wd_t]; omega), List.getElem?_eq_none (by simp [wd_t]; omega)]
theorem wd_repI_t {B : Wb} {σ : Mem} {k : Nat} {f : Nat → Int32} : (wd_t B σ).set k (wA B k, mk B (shp k) f (σ.2 k)) = wd_t B (repI σ k f) := by
  have h := wd_set_t (B := B) (σ := σ) (σ' := repI σ k f) (k := k) (fun q hq => by simp [repI, hq])
  simpa [repI] using h
theorem wd_repL_t {B : Wb} {σ : Mem} {k : Nat} {f : Nat → Int64} : (wd_t B σ).set k (wA B k, mk B (shp k) (σ.1 k) f) = wd_t B (repL σ k f) := by
  have h := wd_set_t (B := B) (σ := σ) (σ' := repL σ k f) (k := k) (fun q hq => by simp [repL, hq])
  simpa [repL] using h
def own_t (B : Wb) (sz : Nat) : Nat → Prop := fun q => (∃ k, k < 239 ∧ q = wA B k) ∨ sz ≤ q
def InjB_t (B : Wb) : Prop := ∀ i j, i < 239 → j < 239 → wA B i = wA B j → i = j
theorem wd_D_t {B : Wb} {σ : Mem} (h : InjB_t B) {A : Nat → Prop} (hA : ∀ k, k < 239 → A (wA B k)) : va_D A (wd_t B σ) := by
  have key : ∀ (k : Nat) (q : Nat × va_E), (wd_t B σ)[k]? = some q → k < 239 ∧ q.1 = wA B k := by
    intro k q hq
    have hk : k < 239 := by
      have := (List.getElem?_eq_some_iff.mp hq).1
      simpa [wd_t] using this
    rw [wd_get_t hk] at hq
    cases hq
    exact ⟨hk, rfl⟩
  refine ⟨fun i j p q hi hj e => ?_, fun k q hq => ?_⟩
  · obtain ⟨h1, e1⟩ := key i p hi
    obtain ⟨h2, e2⟩ := key j q hj
    exact h i j h1 h2 (e1.symm.trans (e.trans e2))
  · obtain ⟨h1, e1⟩ := key k q hq
    rw [e1]
    exact hA k h1
theorem own_A_t {B : Wb} {sz : Nat} : ∀ k, k < 239 → own_t B sz (wA B k) := fun k h => Or.inl ⟨k, h, rfl⟩
theorem own_sz_t {B : Wb} {sz : Nat} : ∀ q : Nat, sz ≤ q → own_t B sz q := fun _ h => Or.inr h
theorem own_le_t {B : Wb} {sz sz' : Nat} (h : sz ≤ sz') : ∀ q, own_t B sz' q → own_t B sz q := fun q hq => hq.elim Or.inl (fun z => Or.inr (Nat.le_trans h z))
def Wd_t (B : Wb) (σ : Mem) (U : State) : Prop := va_P B.1 vwCl (wd_t B σ) U.heap ∧ va_K B.1 vwCl (tysB B) U ∧ InjB_t B ∧ Gst B (own_t B U.heap.size) U U.heap
def Wx_t (B : Wb) (σ : Mem) (s : State) (H : Heap) (locs : List Loc) : Prop := va_P B.1 vwCl (wd_t B σ) H ∧ va_K B.1 vwCl (tysB B) s ∧ InjB_t B ∧ va_S (own_t B s.heap.size) s.heap H locs ∧ Gst B (own_t B s.heap.size) s s.heap
theorem Wd_t.moved {B : Wb} {σ : Mem} {u U : State} (hh : U.heap = u.heap) (hW : u.WarmedH U.vm) (h : Wd_t B σ u) : Wd_t B σ U := by
  obtain ⟨h1, h2, h3, h4⟩ := h
  exact ⟨by rw [hh]; exact h1, va_K.moved hW.alike h2, h3, by rw [hh]; exact h4.moved hW⟩
theorem wx_in_t {B : Wb} {σ : Mem} {s : State} (h : Wd_t B σ s) : Wx_t B σ s s.heap [] := ⟨h.1, h.2.1, h.2.2.1, va_S.rf, h.2.2.2⟩
theorem Wx_t.here {B : Wb} {σ : Mem} {s U : State} {H : Heap} {locs : List Loc} (h : Wx_t B σ s H locs) (hH : U.heap = H) (hW : s.WarmedH U.vm) : Wd_t B σ U := by
  obtain ⟨h1, h2, h3, h4, h5⟩ := h
  refine ⟨by rw [hH]; exact h1, va_K.moved hW.alike h2, h3, ?_⟩
  rw [hH]
  exact ((h5.kept h4.2.1).narrow (own_le_t h4.1)).moved hW
def Qo_t (B : Wb) (σ : Mem) (v : Option Value) (A : Nat → Prop) : Array Value → State → Outcome → State → Prop := fun _ st oc t => (oc = .returned v ∧ va_P B.1 vwCl (wd_t B σ) t.heap) ∧ va_F A st t
abbrev Pw_t (B : Wb) (sz : Nat) (σ : Mem) (av : List Value) : Array Value → State → Prop := va_Pc av (fun U => U.heap.size = sz ∧ Wd_t B σ U)
abbrev MetC_t (l : Launch) (y : MethodName) (bytes : ByteArray) (maxL : Nat) (ret : Option FieldType) (rm : Room) (B : Wb) (sz : Nat) (σ σ' : Mem) (av : List Value) (v : Option Value) : Prop :=
  Met l y (.code y bytes maxL ret :: GL) rm (Pw_t B sz σ av) (Qo_t B σ' v (own_t B sz)) rm.cells rm.slots (own_t B sz)
theorem Pw_blind_t {B : Wb} {sz : Nat} {σ : Mem} {av : List Value} : FrameBlind (Pw_t B sz σ av) := fun _ U g mk q => ⟨q.1, q.2.1, Wd_t.moved (u := U) rfl (State.WarmedH.refl U) q.2.2⟩
theorem met_in_t {l : Launch} {y : MethodName} {bytes : ByteArray} {maxL : Nat} {ret : Option FieldType} {rm : Room} {B : Wb} {sz : Nat} {σ σ' : Mem} {av : List Value} {v : Option Value} (hp : plainName y.cls = true) (hlen : (lg_sl av).length ≤ maxL)
    (body : ∀ p e s m below meth c, Cx p s m av.toArray meth c bytes maxL y.cls → meth.sig.returnType = ret → Wx_t B σ s s.heap [] → s.heap.size = sz → ∀ ls, lv_has ls maxL (lv_args 0 av) → W p l e rm s m av.toArray below meth c s.heap [] 0 0 (MQ below (Qo_t B σ' v (own_t B s.heap.size)) av.toArray s rm.cells rm.slots (own_t B s.heap.size)) (F0 m 0 ls [])) : MetC_t l y bytes maxL ret rm B sz σ σ' av v := by
  refine Met.ofW (cc := bytes) (maxL := maxL) (ret := ret) hp rfl ?_
  intro p e s m args below meth c s₁ B0 hml hv
  obtain ⟨rfl, hsz, hw⟩ := hv
  subst hsz
  have hts := atoms_spec (ws := .code y bytes maxL ret :: GL) B0.pre
  have hown : s.vm.findClass y.cls = some m.cls := findClass_of_methodNamed B0.named
  rw [lg_entry_eq]
  exact body p e s m below meth c ⟨⟨B0.exec, B0.bytes, hml, hown, fun w h => hts w (List.mem_cons_of_mem _ h)⟩, B0.notSynchronized⟩ B0.returns (wx_in_t hw) rfl _ (lv_entry av hlen)
section ROWS
variable {p : Program} {l : Launch} {e : Env} {R : Room} {s : State} {m : MethodId} {args : Array Value} {below : List Frame} {meth : Method} {c : Code} {H : Heap} {locs : List Loc} {cells slots : Nat} {Q : State → Prop}
variable {cc : ByteArray} {nL pc : Nat} {ow : String} {ls : Array Slot} {rest st0 : List Value} {B : Wb} {σ σ' : Mem}
theorem wd_getO_t {k : Nat} (hk : k < 239) (h0 : (shp k).1 = 0) : (wd_t B σ)[k]? = some (wA B k, .inr ((shp k).2.1, fl B (σ.1 k) (σ.2 k) (shp k).2.2)) := by
  rw [wd_get_t hk]
  simp [mk, h0]
theorem r_get_t (C0 : Cx p s m args meth c cc nL ow) (w : Wx_t B σ s H locs) {k ci j kd idx : Nat} (hF : Fok ow idx ci j) (hs : shO k ci j kd = true) (d : decode cc pc = .ok (.getfield idx, 3)) {v : Value} (hv : kv B (σ.1 k) (σ.2 k) j kd = v)
    (kk : W p l e R s m args below meth c H locs cells slots Q (F0 m (pc + 3) ls (v :: rest))) (hkN : k < 239) : W p l e R s m args below meth c H locs cells slots Q (F0 m pc ls (.ref (wA B k) :: rest)) := by
  obtain ⟨C, T, N, hc, hj, hin, hl, hn⟩ := hF
  obtain ⟨h1, h2, h3, h4, h5⟩ := shO_okN_t hkN hs
  have he := wd_getO_t (B := B) (σ := σ) h1 h2
  rw [h3] at he
  refine va_get (D := B.1) (cl := vwCl) (C := C) (T := T) (N := N) (ref := C) C0.1.1 C0.1.2.1 C0.1.2.2.2.2 hin C0.1.2.2.2.1 w.2.1 w.1 k he hc j hj (C0.1.2.2.2.2 _ hl) (by rw [hn]; exact fun _ h => h) (v := v) ?_ d kk
  rw [fl_get h4, h5, hv]
theorem gI_t (C0 : Cx p s m args meth c cc nL ow) (w : Wx_t B σ s H locs) {k ci j idx : Nat} (hF : Fok ow idx ci j) (hs : shO k ci j 0 = true) (d : decode cc pc = .ok (.getfield idx, 3))
    (kk : W p l e R s m args below meth c H locs cells slots Q (F0 m (pc + 3) ls (.int (σ.1 k j) :: rest))) (hkN : k < 239) : W p l e R s m args below meth c H locs cells slots Q (F0 m pc ls (.ref (wA B k) :: rest)) := r_get_t C0 w hF hs d (by simp [kv]) kk hkN
theorem gL_t (C0 : Cx p s m args meth c cc nL ow) (w : Wx_t B σ s H locs) {k ci j idx : Nat} (hF : Fok ow idx ci j) (hs : shO k ci j 1 = true) (d : decode cc pc = .ok (.getfield idx, 3))
    (kk : W p l e R s m args below meth c H locs cells slots Q (F0 m (pc + 3) ls (.long (σ.2 k j) :: rest))) (hkN : k < 239) : W p l e R s m args below meth c H locs cells slots Q (F0 m pc ls (.ref (wA B k) :: rest)) := r_get_t C0 w hF hs d (by simp [kv]) kk hkN
theorem gR_t (C0 : Cx p s m args meth c cc nL ow) (w : Wx_t B σ s H locs) (q : Nat) {k ci j idx : Nat} (hF : Fok ow idx ci j) (hs : shO k ci j (q + 2) = true) (d : decode cc pc = .ok (.getfield idx, 3))
    (kk : W p l e R s m args below meth c H locs cells slots Q (F0 m (pc + 3) ls (.ref (wA B q) :: rest))) (hkN : k < 239) : W p l e R s m args below meth c H locs cells slots Q (F0 m pc ls (.ref (wA B k) :: rest)) := r_get_t C0 w hF hs d (by simp [kv]) kk hkN
theorem pI_t (C0 : Cx p s m args meth c cc nL ow) (w : Wx_t B σ s H locs) {k ci j idx : Nat} {x : Int32} (hF : Fok ow idx ci j) (hT : Fpt ci j .int) (hs : shO k ci j 0 = true) (d : decode cc pc = .ok (.putfield idx, 3))
    (kk : ∀ H locs, Wx_t B (setI σ k j x) s H locs → W p l e R s m args below meth c H locs cells slots Q (F0 m (pc + 3) ls rest)) (hkN : k < 239) : W p l e R s m args below meth c H locs cells slots Q (F0 m pc ls (.int x :: .ref (wA B k) :: rest)) := by
  obtain ⟨C, T, N, hc, hj, hin, hl, hn⟩ := hF
  obtain ⟨C', T', N', t0, hc', ht0, hnm, hfin, hd⟩ := hT
  cases hc.symm.trans hc'
  obtain ⟨h1, h2, h3, h4, h5⟩ := shO_okN_t hkN hs
  have he := wd_getO_t (B := B) (σ := σ) h1 h2
  rw [h3] at he
  have hD := wd_D_t (σ := σ) w.2.2.1 (A := own_t B s.heap.size) own_A_t
  refine va_put (D := B.1) (cl := vwCl) (C := C) (T := T) (N := N) (ref := C) C0.1.1 C0.1.2.1 C0.1.2.2.2.2 hin t0 ht0 hnm C0.1.2.2.2.1 w.2.1 w.1 hD w.2.2.2.1 k he hc j hj (C0.1.2.2.2.2 _ hl) (by rw [hn]; exact fun _ h => h) hfin hd rfl rfl (by rw [fl_len]; exact h4) d (fun H1 l1 hP _ hS => ?_)
  refine kk H1 l1 ⟨?_, w.2.1, w.2.2.1, hS, w.2.2.2.2⟩
  rw [fl_setI h4 h5] at hP
  have e : ((.inr (ci, fl B (upd (σ.1 k) j x) (σ.2 k) (shp k).2.2)) : va_E) = mk B (shp k) (upd (σ.1 k) j x) (σ.2 k) := by simp [mk, h2, h3]
  rw [e, wd_repI_t] at hP
  exact hP
theorem pL_t (C0 : Cx p s m args meth c cc nL ow) (w : Wx_t B σ s H locs) {k ci j idx : Nat} {x : Int64} (hF : Fok ow idx ci j) (hT : Fpt ci j .long) (hs : shO k ci j 1 = true) (d : decode cc pc = .ok (.putfield idx, 3))
    (kk : ∀ H locs, Wx_t B (setL σ k j x) s H locs → W p l e R s m args below meth c H locs cells slots Q (F0 m (pc + 3) ls rest)) (hkN : k < 239) : W p l e R s m args below meth c H locs cells slots Q (F0 m pc ls (.long x :: .ref (wA B k) :: rest)) := by
  obtain ⟨C, T, N, hc, hj, hin, hl, hn⟩ := hF
  obtain ⟨C', T', N', t0, hc', ht0, hnm, hfin, hd⟩ := hT
  cases hc.symm.trans hc'
  obtain ⟨h1, h2, h3, h4, h5⟩ := shO_okN_t hkN hs
  have he := wd_getO_t (B := B) (σ := σ) h1 h2
  rw [h3] at he
  have hD := wd_D_t (σ := σ) w.2.2.1 (A := own_t B s.heap.size) own_A_t
  refine va_put (D := B.1) (cl := vwCl) (C := C) (T := T) (N := N) (ref := C) C0.1.1 C0.1.2.1 C0.1.2.2.2.2 hin t0 ht0 hnm C0.1.2.2.2.1 w.2.1 w.1 hD w.2.2.2.1 k he hc j hj (C0.1.2.2.2.2 _ hl) (by rw [hn]; exact fun _ h => h) hfin hd rfl rfl (by rw [fl_len]; exact h4) d (fun H1 l1 hP _ hS => ?_)
  refine kk H1 l1 ⟨?_, w.2.1, w.2.2.1, hS, w.2.2.2.2⟩
  rw [fl_setL h4 h5] at hP
  have e : ((.inr (ci, fl B (σ.1 k) (vp_updL (σ.2 k) j x) (shp k).2.2)) : va_E) = mk B (shp k) (σ.1 k) (vp_updL (σ.2 k) j x) := by simp [mk, h2, h3]
  rw [e, wd_repL_t] at hP
  exact hP
theorem wd_getA_t {k t n : Nat} (hk : k < 239) (h : shA k t n = true) (f : va_E) (hf : mk B (t, n, (shp k).2.2) (σ.1 k) (σ.2 k) = f) : (wd_t B σ)[k]? = some (wA B k, f) := by
  obtain ⟨h1, h2, h3⟩ := shA_okN_t hk h
  rw [wd_get_t h1, ← hf, ← h2, ← h3]
theorem aI_t (C0 : Cx p s m args meth c cc nL ow) (w : Wx_t B σ s H locs) {k n : Nat} {i : Int32} (hs : shA k 1 n = true) (hi : vp_in i n) (d : decode cc pc = .ok (.iaload, 1))
    (kk : W p l e R s m args below meth c H locs cells slots Q (F0 m (pc + 1) ls (.int (σ.1 k i.toNatClampNeg) :: rest))) (hkN : k < 239) : W p l e R s m args below meth c H locs cells slots Q (F0 m pc ls (.int i :: .ref (wA B k) :: rest)) :=
  va_iald C0.1.1 C0.1.2.1 w.2.1 w.1 k 0 (wd_getA_t hkN hs _ rfl) rfl hi d kk
theorem aL_t (C0 : Cx p s m args meth c cc nL ow) (w : Wx_t B σ s H locs) {k n : Nat} {i : Int32} (hs : shA k 2 n = true) (hi : vp_in i n) (d : decode cc pc = .ok (.laload, 1))
    (kk : W p l e R s m args below meth c H locs cells slots Q (F0 m (pc + 1) ls (.long (σ.2 k i.toNatClampNeg) :: rest))) (hkN : k < 239) : W p l e R s m args below meth c H locs cells slots Q (F0 m pc ls (.int i :: .ref (wA B k) :: rest)) :=
  va_lald C0.1.1 C0.1.2.1 w.2.1 w.1 k 1 (wd_getA_t hkN hs _ rfl) rfl hi d kk
theorem aZ_t (C0 : Cx p s m args meth c cc nL ow) (w : Wx_t B σ s H locs) {k n : Nat} {i : Int32} (hs : shA k 3 n = true) (hi : vp_in i n) (d : decode cc pc = .ok (.baload, 1))
    (kk : W p l e R s m args below meth c H locs cells slots Q (F0 m (pc + 1) ls (.int (σ.1 k i.toNatClampNeg) :: rest))) (hkN : k < 239) : W p l e R s m args below meth c H locs cells slots Q (F0 m pc ls (.int i :: .ref (wA B k) :: rest)) :=
  va_zald C0.1.1 C0.1.2.1 w.2.1 w.1 k 2 (wd_getA_t hkN hs _ rfl) rfl hi d kk
theorem aB_t (C0 : Cx p s m args meth c cc nL ow) (w : Wx_t B σ s H locs) {k n : Nat} {i : Int32} (hs : shA k 4 n = true) (hi : vp_in i n) (d : decode cc pc = .ok (.baload, 1))
    (kk : W p l e R s m args below meth c H locs cells slots Q (F0 m (pc + 1) ls (.int (σ.1 k i.toNatClampNeg) :: rest))) (hkN : k < 239) : W p l e R s m args below meth c H locs cells slots Q (F0 m pc ls (.int i :: .ref (wA B k) :: rest)) :=
  va_bald C0.1.1 C0.1.2.1 w.2.1 w.1 k 3 (wd_getA_t hkN hs _ rfl) rfl hi d kk
theorem sI_t (C0 : Cx p s m args meth c cc nL ow) (w : Wx_t B σ s H locs) {k n : Nat} {i x : Int32} (hs : shA k 1 n = true) (hi : vp_in i n) (d : decode cc pc = .ok (.iastore, 1))
    (kk : ∀ H locs, Wx_t B (setI σ k i.toNatClampNeg x) s H locs → W p l e R s m args below meth c H locs cells slots Q (F0 m (pc + 1) ls rest)) (hkN : k < 239) : W p l e R s m args below meth c H locs cells slots Q (F0 m pc ls (.int x :: .int i :: .ref (wA B k) :: rest)) := by
  refine va_iast C0.1.1 C0.1.2.1 w.2.1 w.1 (wd_D_t (σ := σ) w.2.2.1 (A := own_t B s.heap.size) own_A_t) w.2.2.2.1 k 0 (wd_getA_t hkN hs _ rfl) rfl hi d (fun H1 l1 hP _ hS => ?_)
  refine kk H1 l1 ⟨?_, w.2.1, w.2.2.1, hS, w.2.2.2.2⟩
  obtain ⟨h1, h2, h3⟩ := shA_ok hs
  have e : ((.inl (wC B 0, n, .inl (upd (σ.1 k) i.toNatClampNeg x))) : va_E) = mk B (shp k) (upd (σ.1 k) i.toNatClampNeg x) (σ.2 k) := by simp [mk, h2, h3]
  rw [e, wd_repI_t] at hP
  exact hP
theorem sL_t (C0 : Cx p s m args meth c cc nL ow) (w : Wx_t B σ s H locs) {k n : Nat} {i : Int32} {x : Int64} (hs : shA k 2 n = true) (hi : vp_in i n) (d : decode cc pc = .ok (.lastore, 1))
    (kk : ∀ H locs, Wx_t B (setL σ k i.toNatClampNeg x) s H locs → W p l e R s m args below meth c H locs cells slots Q (F0 m (pc + 1) ls rest)) (hkN : k < 239) : W p l e R s m args below meth c H locs cells slots Q (F0 m pc ls (.long x :: .int i :: .ref (wA B k) :: rest)) := by
  refine va_last C0.1.1 C0.1.2.1 w.2.1 w.1 (wd_D_t (σ := σ) w.2.2.1 (A := own_t B s.heap.size) own_A_t) w.2.2.2.1 k 1 (wd_getA_t hkN hs _ rfl) rfl hi d (fun H1 l1 hP _ hS => ?_)
  refine kk H1 l1 ⟨?_, w.2.1, w.2.2.1, hS, w.2.2.2.2⟩
  obtain ⟨h1, h2, h3⟩ := shA_ok hs
  have e : ((.inl (wC B 1, n, .inr (.inl (vp_updL (σ.2 k) i.toNatClampNeg x)))) : va_E) = mk B (shp k) (σ.1 k) (vp_updL (σ.2 k) i.toNatClampNeg x) := by simp [mk, h2, h3]
  rw [e, wd_repL_t] at hP
  exact hP
theorem sZ_t (C0 : Cx p s m args meth c cc nL ow) (w : Wx_t B σ s H locs) {k n : Nat} {i x : Int32} (hs : shA k 3 n = true) (hi : vp_in i n) (hx : vp_nar .boolean x = x) (d : decode cc pc = .ok (.bastore, 1))
    (kk : ∀ H locs, Wx_t B (setI σ k i.toNatClampNeg x) s H locs → W p l e R s m args below meth c H locs cells slots Q (F0 m (pc + 1) ls rest)) (hkN : k < 239) : W p l e R s m args below meth c H locs cells slots Q (F0 m pc ls (.int x :: .int i :: .ref (wA B k) :: rest)) := by
  refine va_zast C0.1.1 C0.1.2.1 w.2.1 w.1 (wd_D_t (σ := σ) w.2.2.1 (A := own_t B s.heap.size) own_A_t) w.2.2.2.1 k 2 (wd_getA_t hkN hs _ rfl) rfl hi d (fun H1 l1 hP _ hS => ?_)
  refine kk H1 l1 ⟨?_, w.2.1, w.2.2.1, hS, w.2.2.2.2⟩
  obtain ⟨h1, h2, h3⟩ := shA_ok hs
  rw [hx] at hP
  have e : ((.inl (wC B 2, n, .inl (upd (σ.1 k) i.toNatClampNeg x))) : va_E) = mk B (shp k) (upd (σ.1 k) i.toNatClampNeg x) (σ.2 k) := by simp [mk, h2, h3]
  rw [e, wd_repI_t] at hP
  exact hP
theorem sB_t (C0 : Cx p s m args meth c cc nL ow) (w : Wx_t B σ s H locs) {k n : Nat} {i x : Int32} (hs : shA k 4 n = true) (hi : vp_in i n) (hx : vp_nar .byte x = x) (d : decode cc pc = .ok (.bastore, 1))
    (kk : ∀ H locs, Wx_t B (setI σ k i.toNatClampNeg x) s H locs → W p l e R s m args below meth c H locs cells slots Q (F0 m (pc + 1) ls rest)) (hkN : k < 239) : W p l e R s m args below meth c H locs cells slots Q (F0 m pc ls (.int x :: .int i :: .ref (wA B k) :: rest)) := by
  refine va_bast C0.1.1 C0.1.2.1 w.2.1 w.1 (wd_D_t (σ := σ) w.2.2.1 (A := own_t B s.heap.size) own_A_t) w.2.2.2.1 k 3 (wd_getA_t hkN hs _ rfl) rfl hi d (fun H1 l1 hP _ hS => ?_)
  refine kk H1 l1 ⟨?_, w.2.1, w.2.2.1, hS, w.2.2.2.2⟩
  obtain ⟨h1, h2, h3⟩ := shA_ok hs
  rw [hx] at hP
  have e : ((.inl (wC B 3, n, .inl (upd (σ.1 k) i.toNatClampNeg x))) : va_E) = mk B (shp k) (upd (σ.1 k) i.toNatClampNeg x) (σ.2 k) := by simp [mk, h2, h3]
  rw [e, wd_repI_t] at hP
  exact hP
/-- a row out of int[][] -/
theorem aG_t (C0 : Cx p s m args meth c cc nL ow) (w : Wx_t B σ s H locs) {k n : Nat} (b st : Nat) {i : Int32} (hs : shA k 5 n = true) (hb : (shp k).2.2 = [b, st]) (hi : vp_in i n) (d : decode cc pc = .ok (.aaload, 1))
    (kk : W p l e R s m args below meth c H locs cells slots Q (F0 m (pc + 1) ls (.ref (wA B (b + st * i.toNatClampNeg)) :: rest))) (hkN : k < 239) : W p l e R s m args below meth c H locs cells slots Q (F0 m pc ls (.int i :: .ref (wA B k) :: rest)) := by
  have hlt : i.toNatClampNeg < n := Nat.not_le.mp fun q => hi (Or.inr q)
  have ha : (wd_t B σ)[k]? = some (wA B k, .inl (wC B 4, n, .inr (.inr (.inr (.inr (fun j => some (wA B (b + st * j)))))))) := wd_getA_t hkN hs _ (by rw [hb]; rfl)
  exact W.aald (v := va_rf (some (wA B (b + st * i.toNatClampNeg)))) (ty := .array .int) C0.1.1 C0.1.2.1 (w.1 k _ ha) ((w.2.1.2 4 _ rfl).1 n (fun j => va_rf (some (wA B (b + st * j))))) rfl (fun q => by cases q) (by show ¬ (i < 0 ∨ (arrV _ _ _).slots.size ≤ _); rw [arrV_size]; exact hi) (by show (arrV _ _ _).slots[_]? = _; rw [arrV_read _ _ hlt]) rfl rfl d kk
theorem aO_t (C0 : Cx p s m args meth c cc nL ow) (w : Wx_t B σ s H locs) {k n : Nat} (b st : Nat) {i : Int32} (hs : shA k 6 n = true) (hb : (shp k).2.2 = [b, st]) (hi : vp_in i n) (d : decode cc pc = .ok (.aaload, 1))
    (kk : W p l e R s m args below meth c H locs cells slots Q (F0 m (pc + 1) ls (.ref (wA B (b + st * i.toNatClampNeg)) :: rest))) (hkN : k < 239) : W p l e R s m args below meth c H locs cells slots Q (F0 m pc ls (.int i :: .ref (wA B k) :: rest)) := by
  have ha : (wd_t B σ)[k]? = some (wA B k, .inl (wC B 5, n, .inr (.inr (.inr (.inr (fun j => some (wA B (b + st * j)))))))) := wd_getA_t hkN hs _ (by rw [hb]; rfl)
  exact va_aldq C0.1.1 C0.1.2.1 w.2.1 w.1 k 5 ha rfl hi d kk
theorem r_len_t (C0 : Cx p s m args meth c cc nL ow) (w : Wx_t B σ s H locs) {k n : Nat} (hs : shA k 1 n = true) (d : decode cc pc = .ok (.arraylength, 1))
    (kk : W p l e R s m args below meth c H locs cells slots Q (F0 m (pc + 1) ls (.int (Int32.ofNat n) :: rest))) (hkN : k < 239) : W p l e R s m args below meth c H locs cells slots Q (F0 m pc ls (.ref (wA B k) :: rest)) :=
  va_alen C0.1.1 C0.1.2.1 w.2.1 w.1 k 0 (wd_getA_t hkN hs _ rfl) rfl rfl d kk
theorem call_go_t {mc ms : Nat} {v : Option Value} {a : Array Value} (hr : va_Run p l e R s m args below meth c H locs cells slots mc ms (F0 m pc ls st0) rest (Qo_t B σ' v (own_t B H.size) a) (own_t B H.size)) (w : Wx_t B σ s H locs)
    (kk : ∀ H locs, Wx_t B σ' s H locs → W p l e R s m args below meth c H locs (cells + mc) (slots + ms) Q (F0 m (pc + 3) ls (v.toList ++ rest))) : W p l e R s m args below meth c H locs cells slots Q (F0 m pc ls st0) := by
  intro T hT X
  obtain ⟨v', st₀, t, T', L, h0, X', hL, e1, e2, ⟨⟨hv, hp⟩, hz, hk⟩, st⟩ := hr T hT X
  cases hv
  rw [h0] at hz hk
  obtain ⟨w1, w2, w3, w4, w5⟩ := w
  have hsub : ∀ q, own_t B H.size q → own_t B s.heap.size q := own_le_t w4.1
  obtain ⟨t2, a1, b1⟩ := kk T'.heap (locs ++ L) ⟨by rw [e1]; exact hp, w2, w3, ⟨Nat.le_trans w4.1 (by rw [e1]; exact hz), fun q h1 h2 => by
      rw [e1, hk q (Nat.lt_of_lt_of_le h1 w4.1) (fun z => h2 (hsub q z))]; exact w4.2.1 q h1 h2, fun q hq => by
      rcases List.mem_append.mp hq with h | h
      · exact w4.2.2 q h
      · exact hsub _ (hL q h)⟩, w5⟩ T' rfl X'
  exact ⟨t2, st t2 a1, b1⟩
theorem shR_t {k ci : Nat} {C : String} {T : u_T} {N : Nat} (hc : vwCl[ci]? = some (C, T, N)) (w : Wx_t B σ s H locs) (hs : shO k ci 0 ((shp k).2.2.getD 0 0) = true) (hkN : k < 239) : ∃ cell : Cell, H[wA B k]? = some cell ∧ cell.vm.isStatics = false ∧ s.vm.findClass C = some cell.cls := by
  obtain ⟨h1, h2, h3, -⟩ := shO_okN_t hkN hs
  have he := wd_getO_t (B := B) (σ := σ) h1 h2
  rw [h3] at he
  exact va_recv w.2.1 w.1 hc he
theorem cV_t (C0 : Cx p s m args meth c cc nL ow) (w : Wx_t B σ s H locs) {y : MethodName} {bytes : ByteArray} {maxL n k ci idx : Nat} {ret : Option FieldType} {rm : Room} {As : List Value} {v : Option Value} (hM : MetC_t l y bytes maxL ret rm B H.size σ σ' (.ref (wA B k) :: As) v) (hy : Ky y bytes maxL ret n) (hv : Kv y) (hl : Cond.methodLink ow idx y ∈ GL) {T : u_T} {N : Nat} (hc : vwCl[ci]? = some (y.cls, T, N)) (hs : shO k ci 0 ((shp k).2.2.getD 0 0) = true)
    (hR : rm.frames + 1 ≤ R.frames ∧ 8 + (maxL + 11) + rm.locals ≤ R.locals) (hf : cells + rm.cells ≤ R.cells ∧ slots + rm.slots ≤ R.slots) (hn : As.length = n) (hst : st0 = As.reverse ++ .ref (wA B k) :: rest) (hW : (rest.map fun v => v.category).sum ≤ 8) (hls : ls.size = nL) (d : decode cc pc = .ok (.invokevirtual idx, 3))
    (kk : ∀ H locs, Wx_t B σ' s H locs → W p l e R s m args below meth c H locs (cells + rm.cells) (slots + rm.slots) Q (F0 m (pc + 3) ls (v.toList ++ rest))) (hkN : k < 239) : W p l e R s m args below meth c H locs cells slots Q (F0 m pc ls st0) := by
  have ht := C0.1.2.2.2.2
  refine call_go_t (va_runV (As := As) (rest := rest) (C := y.cls) C0.1 hM ⟨callB_of n ht (by intro z hz; rcases List.mem_cons.mp hz with rfl | h; exact ⟨hy.1, good_of_word (List.mem_filter.mp hy.1).2⟩; exact ⟨h, good_of_word (List.mem_filter.mp h).2⟩) rfl rfl rfl (ht _ hy.2.1) (ht _ hl) hy.2.2 hR, ht _ hv.1, ht _ hv.2⟩ ⟨Pw_blind_t, shR_t hc w hs hkN, fun U hU hW => ⟨rfl, by rw [hU], w.here hU hW⟩⟩ rfl hn hls hst (lv_room hW) d hf) w kk
theorem cS_t (C0 : Cx p s m args meth c cc nL ow) (w : Wx_t B σ s H locs) {y : MethodName} {bytes : ByteArray} {maxL n idx : Nat} {ret : Option FieldType} {rm : Room} {As : List Value} {v : Option Value} (hM : MetC_t l y bytes maxL ret rm B H.size σ σ' As v) (hy : Ky y bytes maxL ret n) (hv : Cond.static y ∈ GL) (hl : Cond.methodLink ow idx y ∈ GL)
    (hR : rm.frames + 1 ≤ R.frames ∧ 8 + (maxL + 11) + rm.locals ≤ R.locals) (hf : cells + rm.cells ≤ R.cells ∧ slots + rm.slots ≤ R.slots) (hn : As.length = n) (hst : st0 = As.reverse ++ rest) (hW : (rest.map fun v => v.category).sum ≤ 8) (hls : ls.size = nL) (d : decode cc pc = .ok (.invokestatic idx, 3))
    (kk : ∀ H locs, Wx_t B σ' s H locs → W p l e R s m args below meth c H locs (cells + rm.cells) (slots + rm.slots) Q (F0 m (pc + 3) ls (v.toList ++ rest))) : W p l e R s m args below meth c H locs cells slots Q (F0 m pc ls st0) := by
  have ht := C0.1.2.2.2.2
  refine call_go_t (va_runS (As := As) (rest := rest) C0.1 hM ⟨callB_of n ht (by intro z hz; rcases List.mem_cons.mp hz with rfl | h; exact ⟨hy.1, good_of_word (List.mem_filter.mp hy.1).2⟩; exact ⟨h, good_of_word (List.mem_filter.mp h).2⟩) rfl rfl rfl (ht _ hy.2.1) (ht _ hl) hy.2.2 hR, ht _ hv⟩ ⟨Pw_blind_t, fun U hU hW => ⟨rfl, by rw [hU], w.here hU hW⟩⟩ rfl hn hls hst (lv_room hW) d hf) w kk
theorem eI_t (C0 : Cx p s m args meth c cc nL ow) {ty : FieldType} (hr : meth.sig.returnType = some ty) (w : Wx_t B σ s H locs) {v : Int32} (hn : narrow ty (.int v) = .int v) (d : decode cc pc = .ok (.ireturn, 1)) : W p l e R s m args below meth c H locs cells slots (MQ below (Qo_t B σ (some (.int v)) (own_t B s.heap.size)) args s cells slots (own_t B s.heap.size)) (F0 m pc ls [.int v]) :=
  W.zret C0.1.1 C0.1.2.1 hr hn (fun t ht _ => ⟨⟨rfl, by rw [ht]; exact w.1⟩, w.2.2.2.1.F ht⟩) w.2.2.2.1.2.2 d (hlocks := C0.2)
theorem eL_t (C0 : Cx p s m args meth c cc nL ow) (hr : meth.sig.returnType = some .long) (w : Wx_t B σ s H locs) {v : Int64} (d : decode cc pc = .ok (.lreturn, 1)) : W p l e R s m args below meth c H locs cells slots (MQ below (Qo_t B σ (some (.long v)) (own_t B s.heap.size)) args s cells slots (own_t B s.heap.size)) (F0 m pc ls [.long v]) :=
  W.lret C0.1.1 C0.1.2.1 hr (fun t ht _ => ⟨⟨rfl, by rw [ht]; exact w.1⟩, w.2.2.2.1.F ht⟩) w.2.2.2.1.2.2 d (hlocks := C0.2)
theorem eV_t (C0 : Cx p s m args meth c cc nL ow) (hr : meth.sig.returnType = none) (w : Wx_t B σ s H locs) (d : decode cc pc = .ok (.return_, 1)) : W p l e R s m args below meth c H locs cells slots (MQ below (Qo_t B σ none (own_t B s.heap.size)) args s cells slots (own_t B s.heap.size)) (F0 m pc ls []) :=
  W.vret C0.1.1 C0.1.2.1 hr (fun t ht _ => ⟨⟨rfl, by rw [ht]; exact w.1⟩, w.2.2.2.1.F ht⟩) w.2.2.2.1.2.2 d (hlocks := C0.2)
end ROWS
section ROWS2
variable {p : Program} {l : Launch} {e : Env} {R : Room} {s : State} {m : MethodId} {args : Array Value} {below : List Frame} {meth : Method} {c : Code} {H : Heap} {locs : List Loc} {cells slots : Nat} {Q : State → Prop}
variable {cc : ByteArray} {nL pc : Nat} {ow : String} {ls : Array Slot} {rest st0 : List Value} {B : Wb} {σ σ' : Mem}
theorem r_lenL_t (C0 : Cx p s m args meth c cc nL ow) (w : Wx_t B σ s H locs) {k n : Nat} (hs : shA k 2 n = true) (d : decode cc pc = .ok (.arraylength, 1))
    (kk : W p l e R s m args below meth c H locs cells slots Q (F0 m (pc + 1) ls (.int (Int32.ofNat n) :: rest))) (hkN : k < 239) : W p l e R s m args below meth c H locs cells slots Q (F0 m pc ls (.ref (wA B k) :: rest)) :=
  va_alen C0.1.1 C0.1.2.1 w.2.1 w.1 k 1 (wd_getA_t hkN hs _ rfl) rfl rfl d kk
end ROWS2
set_option maxHeartbeats 4000000 in
set_option maxRecDepth 100000 in
theorem lp_X12_beginAnew_27_t {p : Program} {e : Env} {s : State} {m : MethodId} {args : Array Value} {below : List Frame} {meth : Method} {c : Code} {Q : State → Prop} (l : Launch) (B : Wb) (C0 : Cx p s m args meth c cX12_beginAnew 4 RX12) : ∀ (n : Nat) (x3 : Int32) (σ : Mem) (o : Mem) (H : Heap) (locs : List Loc) (ls : Array Slot), f_X12_beginAnew_27 n x3 σ = some o → Wx_t B σ s H locs → lv_has ls 4 [(0, .ref (wA B 224)), (3, .int x3)] → (∀ (H : Heap) (locs : List Loc) (ls : Array Slot), Wx_t B o s H locs → lv_has ls 4 [] → W p l e rm_X12_beginAnew s m args below meth c H locs 0 0 Q (F0 m 49 ls [])) → W p l e rm_X12_beginAnew s m args below meth c H locs 0 0 Q (F0 m 27 ls []) := by
  have hx := C0.1.1
  have hb := C0.1.2.1
  intro n
  induction n with
  | zero =>
    intro x3 σ o H locs ls hf w hl hK
    cases hf
  | succ n ih =>
    intro x3 σ o H locs ls hf w hl hK
    rw [f_X12_beginAnew_27] at hf
    refine lv_iload_n hx hb dX12_beginAnew_27 rfl (lv_at hl 1 rfl) ?_
    refine lv_sipush (v := 136) hx hb dX12_beginAnew_28 (by decide) ?_
    refine lv_icmp_ge (tgt := 49) hx hb dX12_beginAnew_31 (by decide) (fun c1 => ?_) (fun c1 => ?_)
    · rw [if_pos c1] at hf
      obtain rfl := Option.some.inj hf
      exact hK _ _ _ w (lv_sub hl [] rfl)
    · rw [if_neg c1] at hf
      refine lv_aload_n hx hb dX12_beginAnew_34 rfl (lv_at hl 0 rfl) ?_
      refine gR_t C0 w 225 fk_X12_7 (by decide +kernel) dX12_beginAnew_35 ?_ (by first | decide | omega)
      refine lv_iload_n hx hb dX12_beginAnew_38 rfl (lv_at hl 1 rfl) ?_
      refine kLg C0 1000 kc_X12_56 dX12_beginAnew_39 ?_
      obtain ⟨g2, hf⟩ := gdE hf
      try have g2L := inbL g2
      refine sL_t C0 w (n := 200) (by decide +kernel) (inbE g2) dX12_beginAnew_42 (fun H locs w => ?_) (by first | decide | omega)
      refine lv_iinc (k := 1) (v := x3 + 1) (lv' := [(3, .int (x3 + 1)), (0, .ref (wA B 224))]) hx hb dX12_beginAnew_43 hl rfl (by rfl) (by decide) rfl (fun ls hl => ?_)
      refine lv_goto (tgt := 27) hx hb dX12_beginAnew_46 (by decide) ?_
      exact ih (x3 + 1) (setL σ 225 x3.toNatClampNeg 1000) _ _ _ _ hf w (lv_sub hl [1, 0] rfl) hK
set_option maxHeartbeats 4000000 in
set_option maxRecDepth 100000 in
theorem m_X12_beginAnew_t (l : Launch) (B : Wb) (sz : Nat) (σ : Mem) (x1 : Int32) (x2 : Int32) (q : Mem) (hf : f_X12_beginAnew x1 x2 σ = some q) : MetC_t l yX12_beginAnew cX12_beginAnew 4 none rm_X12_beginAnew B sz σ q [.ref (wA B 224), .int x1, .int x2] (none) := by
  refine met_in_t (by decide +kernel) (Nat.le_of_ble_eq_true rfl) ?_
  intro p e s m below meth c C0 hr w hsz ls hl
  have hx := C0.1.1
  have hb := C0.1.2.1
  unfold f_X12_beginAnew at hf
  refine lv_aload_n hx hb dX12_beginAnew_0 rfl (lv_at hl 0 rfl) ?_
  refine gR_t C0 w 225 fk_X12_7 (by decide +kernel) dX12_beginAnew_1 ?_ (by first | decide | omega)
  refine lv_iconst (v := 0) hx hb dX12_beginAnew_4 (by decide) ?_
  refine lv_iload_n hx hb dX12_beginAnew_5 rfl (lv_at hl 1 rfl) ?_
  refine lv_i2l hx hb dX12_beginAnew_6 rfl ?_
  refine sL_t C0 w (n := 200) (by decide +kernel) (inbE (by decide)) dX12_beginAnew_7 (fun H locs w => ?_) (by first | decide | omega)
  refine lv_aload_n hx hb dX12_beginAnew_8 rfl (lv_at hl 0 rfl) ?_
  refine gR_t C0 w 225 fk_X12_7 (by decide +kernel) dX12_beginAnew_9 ?_ (by first | decide | omega)
  refine lv_iconst (v := 1) hx hb dX12_beginAnew_12 (by decide) ?_
  refine lv_iload_n hx hb dX12_beginAnew_13 rfl (lv_at hl 2 rfl) ?_
  refine lv_i2l hx hb dX12_beginAnew_14 rfl ?_
  refine sL_t C0 w (n := 200) (by decide +kernel) (inbE (by decide)) dX12_beginAnew_15 (fun H locs w => ?_) (by first | decide | omega)
  refine lv_aload_n hx hb dX12_beginAnew_16 rfl (lv_at hl 0 rfl) ?_
  refine gR_t C0 w 225 fk_X12_7 (by decide +kernel) dX12_beginAnew_17 ?_ (by first | decide | omega)
  refine lv_bipush (v := 7) hx hb dX12_beginAnew_20 (by decide) ?_
  refine lv_lconst (v := 0) hx hb dX12_beginAnew_22 (by decide) ?_
  refine sL_t C0 w (n := 200) (by decide +kernel) (inbE (by decide)) dX12_beginAnew_23 (fun H locs w => ?_) (by first | decide | omega)
  refine lv_bipush (v := 8) hx hb dX12_beginAnew_24 (by decide) ?_
  refine lv_istore_n (lv' := [(3, .int 8), (0, .ref (wA B 224)), (1, .int x1), (2, .int x2)]) hx hb dX12_beginAnew_26 rfl hl (by decide) rfl (fun ls hl => ?_)
  obtain ⟨q4, h5, hf⟩ := bdE hf
  refine lp_X12_beginAnew_27_t l B C0 100000 8 (setL (setL (setL σ 225 ((0 : Int32).toNatClampNeg) x1.toInt64) 225 ((1 : Int32).toNatClampNeg) x2.toInt64) 225 ((7 : Int32).toNatClampNeg) 0) q4 _ _ _ h5 w (lv_sub hl [1, 0] rfl) (fun H locs ls w hl => ?_)
  obtain rfl := Option.some.inj hf
  exact eV_t C0 hr w dX12_beginAnew_49
