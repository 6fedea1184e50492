/-! ===== the world as it is born: the places from b on, below n, each with its entry ===== -/
def Pl (B : Wb) (b n : Nat) (E : Nat → va_E) : va_W := (List.range (n - b)).map fun i => (wA B (b + i), E (b + i))
def AdB (B : Wb) : Prop := ∀ k, wA B k = wA B 0 + k
def AP (B : Wb) (b : Nat) : Nat → Prop := fun q => wA B b ≤ q
def Nst (U : State) : Prop := (∀ q ∈ nestM, va_Nw (.methodLinkNest q.1 q.2.1 q.2.2.1 q.2.2.2) U) ∧ va_AO RX7 U ∧ va_AO RX10 U ∧ (Cond.arrayOver (.array .int)).before #[] U = true
def updE (E : Nat → va_E) (k : Nat) (e : va_E) : Nat → va_E := fun q => if q = k then e else E q
theorem updE_eq {E : Nat → va_E} {k : Nat} {e : va_E} : updE E k e k = e := if_pos rfl
theorem updE_ne {E : Nat → va_E} {k q : Nat} {e : va_E} (h : q ≠ k) : updE E k e q = E q := if_neg h
theorem Pl_get {B : Wb} {b n k : Nat} {E : Nat → va_E} (h1 : b ≤ k) (h2 : k < n) : (Pl B b n E)[k - b]? = some (wA B k, E k) := by
  unfold Pl
  rw [List.getElem?_map, List.getElem?_range (by omega)]
  simp only [Option.map_some]
  rw [show b + (k - b) = k by omega]
theorem Pl_len {B : Wb} {b n : Nat} {E : Nat → va_E} : (Pl B b n E).length = n - b := by simp [Pl]
theorem Pl_inv {B : Wb} {b n i : Nat} {E : Nat → va_E} {q : Nat × va_E} (h : (Pl B b n E)[i]? = some q) : b + i < n ∧ q = (wA B (b + i), E (b + i)) := by
  have hi : i < n - b := by
    have := (List.getElem?_eq_some_iff.mp h).1
    rwa [Pl_len] at this
  unfold Pl at h
  rw [List.getElem?_map, List.getElem?_range hi] at h
  exact ⟨by omega, (Option.some.inj h).symm⟩
theorem Pl_D {B : Wb} {b n : Nat} {E : Nat → va_E} (h : AdB B) : va_D (AP B b) (Pl B b n E) := by
  refine ⟨fun i j x y hi hj e => ?_, fun k q hk => ?_⟩
  · obtain ⟨-, rfl⟩ := Pl_inv hi
    obtain ⟨-, rfl⟩ := Pl_inv hj
    have e' : wA B (b + i) = wA B (b + j) := e
    rw [h (b + i), h (b + j)] at e'
    omega
  · obtain ⟨-, rfl⟩ := Pl_inv hk
    show wA B b ≤ wA B (b + k)
    rw [h b, h (b + k)]
    omega
theorem Pl_set {B : Wb} {b n k : Nat} {E : Nat → va_E} {e : va_E} (h1 : b ≤ k) (h2 : k < n) : (Pl B b n E).set (k - b) (wA B k, e) = Pl B b n (updE E k e) := by
  apply List.ext_getElem?
  intro i
  by_cases hi : i < n - b
  · by_cases hk : i = k - b
    · subst hk
      rw [List.getElem?_set_self (by rw [Pl_len]; omega), Pl_get h1 h2, updE_eq]
    · rw [List.getElem?_set_ne (Ne.symm hk)]
      have g := fun E' => Pl_get (B := B) (E := E') (b := b) (n := n) (k := b + i) (by omega) (by omega)
      simp only [Nat.add_sub_cancel_left] at g
      rw [g, g, updE_ne (by omega)]
  · rw [List.getElem?_eq_none (by rw [List.length_set, Pl_len]; omega), List.getElem?_eq_none (by rw [Pl_len]; omega)]
theorem Pl_congr {B : Wb} {b n : Nat} {E E' : Nat → va_E} (h : ∀ k, b ≤ k → k < n → E k = E' k) : Pl B b n E = Pl B b n E' :=
  List.map_congr_left (fun i hi => by rw [h (b + i) (by omega) (by have := List.mem_range.mp hi; omega)])
def Bd (B : Wb) (b n : Nat) (E : Nat → va_E) (U : State) : Prop := va_P B.1 vwCl (Pl B b n E) U.heap ∧ va_K B.1 vwCl (tysB B) U ∧ AdB B ∧ Nst U ∧ U.heap.size = wA B n ∧ b ≤ n
def Bx (B : Wb) (b n : Nat) (E : Nat → va_E) (s : State) (H : Heap) (locs : List Loc) : Prop := va_P B.1 vwCl (Pl B b n E) H ∧ va_K B.1 vwCl (tysB B) s ∧ AdB B ∧ va_S (AP B b) s.heap H locs ∧ Nst s ∧ H.size = wA B n ∧ wA B b ≤ s.heap.size ∧ b ≤ n
theorem Nst.moved {u U : State} (hW : u.WarmedH U.vm) (h : Nst u) : Nst U := ⟨fun q hq => va_Nw.warmM hW (h.1 q hq), va_AO.moved hW.alike h.2.1, va_AO.moved hW.alike h.2.2.1, over_moved hW.alike h.2.2.2⟩
theorem Bd.moved {B : Wb} {b n : Nat} {E : Nat → va_E} {u U : State} (hh : U.heap = u.heap) (hW : u.WarmedH U.vm) (h : Bd B b n E u) : Bd B b n E U := by
  obtain ⟨h1, h2, h3, h4, h5, h6⟩ := h
  exact ⟨by rw [hh]; exact h1, va_K.moved hW.alike h2, h3, h4.moved hW, by rw [hh]; exact h5, h6⟩
theorem bx_in {B : Wb} {b n : Nat} {E : Nat → va_E} {s : State} (h : Bd B b n E s) : Bx B b n E s s.heap [] := by
  obtain ⟨h1, h2, h3, h4, h5, h6⟩ := h
  exact ⟨h1, h2, h3, va_S.rf, h4, h5, by rw [h5, h3 b, h3 n]; omega, h6⟩
theorem Bx.congr {B : Wb} {b n : Nat} {E E' : Nat → va_E} {s : State} {H : Heap} {locs : List Loc} (h : Bx B b n E s H locs) (he : ∀ k, b ≤ k → k < n → E k = E' k) : Bx B b n E' s H locs := by
  obtain ⟨h1, h2⟩ := h
  exact ⟨by rw [← Pl_congr he]; exact h1, h2⟩
theorem Bx.at {B : Wb} {b n k : Nat} {E : Nat → va_E} {s : State} {H : Heap} {locs : List Loc} (h : Bx B b n E s H locs) (h1 : b ≤ k) (h2 : k < n) : va_at B.1 vwCl (wA B k, E k) H := h.1 _ _ (Pl_get h1 h2)
theorem Bx.grow {B : Wb} {b n k : Nat} {E E' : Nat → va_E} {s : State} {H H' : Heap} {locs : List Loc} (h : Bx B b n E s H locs) (hz : H'.size = wA B (n + k)) (ho : ∀ q, q < H.size → H'[q]? = H[q]?) (hE : ∀ j, b ≤ j → j < n → E' j = E j) (hnew : ∀ j, n ≤ j → j < n + k → va_at B.1 vwCl (wA B j, E' j) H') : Bx B b (n + k) E' s H' locs := by
  have h0 := h
  obtain ⟨h1, h2, h3, h4, h5, h6, h7, h8⟩ := h
  have hsz : H.size ≤ H'.size := by rw [hz, h6, h3 n, h3 (n + k)]; omega
  refine ⟨fun i q hq => ?_, h2, h3, ⟨Nat.le_trans h4.1 hsz, fun q g1 g2 => (ho q (Nat.lt_of_lt_of_le g1 h4.1)).trans (h4.2.1 q g1 g2), h4.2.2⟩, h5, hz, h7, by omega⟩
  obtain ⟨hi, rfl⟩ := Pl_inv hq
  by_cases hn : b + i < n
  · have g := h0.at (k := b + i) (by omega) hn
    rw [hE (b + i) (by omega) hn]
    exact g.kept (ho _ g.lt)
  · exact hnew (b + i) (by omega) hi
theorem Bx.put {B : Wb} {b n k : Nat} {E : Nat → va_E} {e : va_E} {s : State} {H H' : Heap} {locs : List Loc} {i : Nat} (h : Bx B b n E s H locs) (h1 : b ≤ k) (h2 : k < n) (hz : H'.size = H.size) (ho : ∀ q, q ≠ wA B k → H'[q]? = H[q]?) (hnew : va_at B.1 vwCl (wA B k, e) H') : Bx B b n (updE E k e) s H' (locs ++ [⟨wA B k, i⟩]) := by
  obtain ⟨g1, g2, g3, g4, g5, g6, g7, g8⟩ := h
  refine ⟨?_, g2, g3, g4.put hz ho (by show wA B b ≤ wA B k; rw [g3 b, g3 k]; omega), g5, hz.trans g6, g7, g8⟩
  rw [← Pl_set h1 h2]
  exact g1.set (Pl_D g3) (Pl_get h1 h2) hnew ho
def FptF (ci j : Nat) (ty : FieldType) : Prop := ∃ (C : String) (T : u_T) (N : Nat) (t0 : Nat → FieldType), vwCl[ci]? = some (C, T, N) ∧ (∀ k, k < N → parseFieldDescriptor (T k).2.2.1 = some (t0 k)) ∧ (∀ a, a < N → ∀ b, b < N → a ≠ b → (T a).2.1 ≠ (T b).2.1) ∧ (T j).2.2.2 = true ∧ parseFieldDescriptor (T j).2.2.1 = some ty
/-- the entry of a place in the world of σ -/
def fin (B : Wb) (σ : Mem) (k : Nat) : va_E := mk B (shp k) (σ.1 k) (σ.2 k)
theorem arrV_congr {c : ClassId} {N : Nat} {f g : Nat → Value} (h : ∀ j, j < N → f j = g j) : arrV c N f = arrV c N g := by
  unfold arrV
  congr 2
  funext j
  exact h j.val j.isLt
section BORN
variable {p : Program} {l : Launch} {e : Env} {R : Room} {s : State} {m : MethodId} {args : Array Value} {below : List Frame} {meth : Method} {c : Code} {H : Heap} {locs : List Loc} {cells slots : Nat} {Q : State → Prop}
variable {cc : ByteArray} {nL pc : Nat} {ow : String} {ls : Array Slot} {rest st0 : List Value} {B : Wb} {b n : Nat} {E E' : Nat → va_E}
theorem bObj (C0 : Cx p s m args meth c cc nL ow) {idx k : Nat} (hl : Cond.methodLink ow idx objectInit ∈ GL) (hi : Cond.instanceMethod objectInit ∈ GL) (hcd : Cond.code objectInit ⟨#[0xb1]⟩ 1 none ∈ GL) (hls : ls.size = nL) (hR : 1 ≤ R.frames ∧ 12 ≤ R.locals) (d : decode cc pc = .ok (.invokespecial idx, 3)) (kk : W p l e R s m args below meth c H locs cells slots Q (F0 m (pc + 3) ls [])) : W p l e R s m args below meth c H locs cells slots Q (F0 m pc ls [.ref k]) := by
  have ht := C0.1.2.2.2.2
  refine W.objInit C0.1.1 C0.1.2.1 C0.1.2.2.2.1 (ht _ hl) (ht _ hi) (ht _ hcd) rfl (hls.trans C0.1.2.2.1.symm) rfl d hR.1 (Nat.le_trans (Nat.le_of_ble_eq_true rfl) hR.2) ?_
  exact kk
theorem bNew (C0 : Cx p s m args meth c cc nL ow) (w : Bx B b n E s H locs) {idx ci N : Nat} {C : String} {T : u_T} (hc : vwCl[ci]? = some (C, T, N)) (hin : ∀ w ∈ u_ws C T N, w ∈ GL) (ty : Nat → FieldType) (hty : ∀ k, k < N → parseFieldDescriptor (T k).2.2.1 = some (ty k)) (hcl : Cond.classLink ow idx C ∈ GL) (hinst : Cond.instantiable C N ∈ GL) (hini : Cond.initialized C ∈ GL) {fs : List Value} (hfs : ∀ j, j < N → defaultValue (ty j) = vp_V fs j) (hcells : cells + 1 ≤ R.cells) (hslots : slots + N ≤ R.slots) (d : decode cc pc = .ok (.new idx, 3))
    (kk : ∀ H, Bx B b (n + 1) (updE E n (.inr (ci, fs))) s H locs → W p l e R s m args below meth c H locs (cells + 1) (slots + N) Q (F0 m (pc + 3) ls (.ref (wA B n) :: rest))) : W p l e R s m args below meth c H locs cells slots Q (F0 m pc ls rest) := by
  have ht := C0.1.2.2.2.2
  have hKn := w.2.1.1 ci _ hc
  refine W.newcK C0.1.1 C0.1.2.1 C0.1.2.2.2.1 (ht _ hcl) (ht _ hinst) (ht _ hini) rfl d hcells hslots hKn.2.1 w.2.2.2.2.2.1 fun H1 kC hkC e1 z1 o1 => ?_
  have hh : H.size = wA B n := w.2.2.2.2.2.1
  refine kk H1 (w.grow (k := 1) (by rw [z1, w.2.2.1 (n + 1), w.2.2.1 n]; omega) (fun q hq => o1 q (by omega)) (fun j _ hj => updE_ne (by omega)) (fun j h1 h2 => ?_))
  rw [show j = n by omega, updE_eq]
  exact ⟨_, hc, (u_born ty ht hin hKn hkC e1 hty).to hfs⟩
theorem bArr (C0 : Cx p s m args meth c cc nL ow) (w : Bx B b n E s H locs) {at_ : ArrayType} (harr : Cond.arrayClass (newarray.typeOf at_) ∈ GL) (t0 : Nat) {cA : ClassId} {ty : FieldType} (hty : newarray.typeOf at_ = ty) (ht0 : (tysB B)[t0]? = some (cA, ty)) (hra : va_RA s cA ty = (s.vm.findClass ("[" ++ ty.toString) = some cA)) {i : Int32} {N : Nat} {a0 : vp_A} (ha : vp_cell cA a0 = arrV cA N (fun _ => defaultValue ty)) (hn : ¬ i < 0) (hN : i.toNatClampNeg = N) (hby : N * componentBytes ty ≤ 536870912) (hcells : cells + 1 ≤ R.cells) (hslots : slots + N ≤ R.slots) (d : decode cc pc = .ok (.newarray at_, 2))
    (kk : ∀ H, Bx B b (n + 1) (updE E n (.inl (cA, a0))) s H locs → W p l e R s m args below meth c H locs (cells + 1) (slots + N) Q (F0 m (pc + 2) ls (.ref (wA B n) :: rest))) : W p l e R s m args below meth c H locs cells slots Q (F0 m pc ls (.int i :: rest)) := by
  subst hty
  have ht := C0.1.2.2.2.2
  have hh : H.size = wA B n := w.2.2.2.2.2.1
  refine va_newaK C0.1.1 C0.1.2.1 (ht _ harr) rfl d rfl hn hN hby hcells hslots hh fun H1 cA' e1 z1 o1 _ hNm => ?_
  have hc : s.vm.findClass ("[" ++ (newarray.typeOf at_).toString) = some cA := by rw [← hra]; exact (w.2.1.2 t0 _ ht0).2
  have hcc : cA' = cA := Option.some.inj (hNm.symm.trans hc)
  subst hcc
  refine kk H1 (w.grow (k := 1) (by rw [z1, w.2.2.1 (n + 1), w.2.2.1 n]; omega) (fun q hq => o1 q (by omega)) (fun j _ hj => updE_ne (by omega)) (fun j h1 h2 => ?_))
  rw [show j = n by omega, updE_eq]
  show H1[wA B n]? = some (vp_cell cA' a0)
  rw [ha]
  exact e1
theorem bPutF (C0 : Cx p s m args meth c cc nL ow) (w : Bx B b n E s H locs) {k ci j idx : Nat} {fs : List Value} {ty : FieldType} {v : Value} (h1 : b ≤ k) (h2 : k < n) (he : E k = .inr (ci, fs)) (hF : Fok ow idx ci j) (hp : FptF ci j ty) (hown : ∀ C T N, vwCl[ci]? = some (C, T, N) → C = ow) (hin2 : meth.name = "<init>") (hn : narrow ty v = v) (hfit : fits ty v = true) (hl : j < fs.length) (d : decode cc pc = .ok (.putfield idx, 3))
    (kk : ∀ H locs, Bx B b n (updE E k (.inr (ci, fs.set j v))) s H locs → W p l e R s m args below meth c H locs cells slots Q (F0 m (pc + 3) ls rest)) : W p l e R s m args below meth c H locs cells slots Q (F0 m pc ls (v :: .ref (wA B k) :: rest)) := by
  have ht := C0.1.2.2.2.2
  obtain ⟨C, T, N, hc, hj, hin, hlink, hTC⟩ := hF
  obtain ⟨C', T', N', ty0, hc', hty, hnm, hfin, hd⟩ := hp
  cases hc.symm.trans hc'
  have hCo := hown C T N hc
  have hap := va_apart (own := ow) ht hin ty0 hty hnm w.2.1 hc
  obtain ⟨r, g1, cell, q1, q2, q3, q4⟩ := (show va_at B.1 vwCl (wA B k, .inr (ci, fs)) H from he ▸ w.at h1 h2)
  have hr : r = (C, T, N) := Option.some.inj (g1.symm.trans hc)
  subst hr
  obtain ⟨hS, hfc, kC, hkC, hkind⟩ := w.2.1.1 ci _ hc
  obtain ⟨cf, kf, fi, f, hi, hsl⟩ := hS j hj
  have hlay := ht _ (hin _ (u_in_lay hj))
  unfold u_lay at hlay
  rw [if_pos hfin] at hlay
  have hst := (u_facts hfc hkC (u_lays ht hin hj) hi).1
  have hcf : m.cls = cf := by
    obtain ⟨_, _, c', _, _, _, -, -, hf', -, -, -, hown2, -⟩ := Cond.laysFinal_spec hlay
    have e1 : c' = cf := by have := hi.symm.trans hf'; simp at this; exact this.1.symm
    rw [hTC, hCo] at hown2
    rw [← e1]; exact Option.some.inj (C0.1.2.2.2.1.symm.trans hown2)
  have h6 := u_fits hfc hkC hkind (Or.inr hlay) hi hd hn hfit
  refine W.putFinK C0.1.1 C0.1.2.1 C0.1.2.2.2.1 (ht _ hlink) (hTC ▸ hi) hst hcf hin2 (by rw [q2]; exact h6) q1 q3 (by rw [hsl]; exact k2_hasslot (q4 j hj)) rfl rfl d fun H' e1 e2 e3 => ?_
  rw [hsl] at e1 ⊢
  exact kk H' _ (w.put h1 h2 e2 e3 ⟨_, hc, t_OB.to (V := updV (vp_V fs) j v) ⟨_, e1, q2, q3, t_set q4 hap hj v⟩ (fun j _ => vp_updV_set hl v j)⟩)
theorem bPut (C0 : Cx p s m args meth c cc nL ow) (w : Bx B b n E s H locs) {k ci j idx : Nat} {fs : List Value} {ty : FieldType} {v : Value} (h1 : b ≤ k) (h2 : k < n) (he : E k = .inr (ci, fs)) (hF : Fok ow idx ci j) (hp : Fpt ci j ty) (hn : narrow ty v = v) (hfit : fits ty v = true) (hl : j < fs.length) (d : decode cc pc = .ok (.putfield idx, 3))
    (kk : ∀ H locs, Bx B b n (updE E k (.inr (ci, fs.set j v))) s H locs → W p l e R s m args below meth c H locs cells slots Q (F0 m (pc + 3) ls rest)) : W p l e R s m args below meth c H locs cells slots Q (F0 m pc ls (v :: .ref (wA B k) :: rest)) := by
  have ht := C0.1.2.2.2.2
  obtain ⟨C, T, N, hc, hj, hin, hlink, hTC⟩ := hF
  obtain ⟨C', T', N', ty0, hc', hty, hnm, hfin, hd⟩ := hp
  cases hc.symm.trans hc'
  have hap := va_apart (own := ow) ht hin ty0 hty hnm w.2.1 hc
  obtain ⟨r, g1, cell, q1, q2, q3, q4⟩ := (show va_at B.1 vwCl (wA B k, .inr (ci, fs)) H from he ▸ w.at h1 h2)
  have hr : r = (C, T, N) := Option.some.inj (g1.symm.trans hc)
  subst hr
  obtain ⟨hS, hfc, kC, hkC, hkind⟩ := w.2.1.1 ci _ hc
  obtain ⟨cf, kf, fi, f, hi, hsl⟩ := hS j hj
  have hlay := ht _ (hin _ (u_in_lay hj))
  unfold u_lay at hlay
  rw [if_neg (by rw [hfin]; decide)] at hlay
  have hst := (u_facts hfc hkC (u_lays ht hin hj) hi).1
  have h6 := u_store hfc hkC hkind hlay hi hd hn hfit
  refine W.putK C0.1.1 C0.1.2.1 (f := f) ⟨C0.1.2.2.2.1, ht _ hlink, ⟨_, _, _, hTC ▸ hi⟩, hst⟩ (by rw [q2]; exact h6) q1 q3 (by rw [hsl]; exact k2_hasslot (q4 j hj)) rfl rfl d fun H' e1 e2 e3 => ?_
  rw [hsl] at e1 ⊢
  exact kk H' _ (w.put h1 h2 e2 e3 ⟨_, hc, t_OB.to (V := updV (vp_V fs) j v) ⟨_, e1, q2, q3, t_set q4 hap hj v⟩ (fun j _ => vp_updV_set hl v j)⟩)
theorem bGet (C0 : Cx p s m args meth c cc nL ow) (w : Bx B b n E s H locs) {k ci j idx : Nat} {fs : List Value} {v : Value} (h1 : b ≤ k) (h2 : k < n) (he : E k = .inr (ci, fs)) (hF : Fok ow idx ci j) (hv : fs[j]? = some v) (d : decode cc pc = .ok (.getfield idx, 3))
    (kk : W p l e R s m args below meth c H locs cells slots Q (F0 m (pc + 3) ls (v :: rest))) : W p l e R s m args below meth c H locs cells slots Q (F0 m pc ls (.ref (wA B k) :: rest)) := by
  have ht := C0.1.2.2.2.2
  obtain ⟨C, T, N, hc, hj, hin, hlink, hTC⟩ := hF
  refine va_get C0.1.1 C0.1.2.1 ht hin C0.1.2.2.2.1 w.2.1 w.1 (k - b) (by rw [Pl_get h1 h2, he]) hc j hj (ht _ hlink) (fun x hx => hTC ▸ hx) hv d kk
/-- what a constructor does: from b's blank object on, the places below n' are there -/
def QI (B : Wb) (b n : Nat) (E : Nat → va_E) : Array Value → State → Outcome → State → Prop := fun _ st oc t => (oc = .returned none ∧ va_P B.1 vwCl (Pl B b n E) t.heap ∧ t.heap.size = wA B n) ∧ va_F (AP B b) st t
abbrev MetI (l : Launch) (y : MethodName) (bytes : ByteArray) (maxL : Nat) (rm : Room) (B : Wb) (b n : Nat) (E : Nat → va_E) (n' : Nat) (E' : Nat → va_E) (av : List Value) (mc ms : Nat) : Prop :=
  Met l y (.code y bytes maxL none :: GL) rm (va_Pc av (Bd B b n E)) (QI B b n' E') mc ms (AP B b)
theorem metI_in {y : MethodName} {bytes : ByteArray} {maxL n' mc ms : Nat} {rm : Room} {av : List Value} (hp : plainName y.cls = true) (hy : y.name = "<init>") (hlen : (lg_sl av).length ≤ maxL)
    (body : ∀ p e s m below meth c, Cx p s m av.toArray meth c bytes maxL y.cls → meth.sig.returnType = none → meth.name = "<init>" → Bx B b n E s s.heap [] → ∀ ls, lv_has ls maxL (lv_args 0 av) → W p l e rm s m av.toArray below meth c s.heap [] 0 0 (MQ below (QI B b n' E') av.toArray s mc ms (AP B b)) (F0 m 0 ls [])) : MetI l y bytes maxL rm B b n E n' E' av mc ms := by
  refine Met.ofW (cc := bytes) (maxL := maxL) (ret := none) hp rfl ?_
  intro p e s m args below meth c s₁ B0 hml hv
  obtain ⟨rfl, hw⟩ := hv
  have hts := atoms_spec (ws := .code y bytes maxL none :: GL) B0.pre
  have hown : s.vm.findClass y.cls = some m.cls := findClass_of_methodNamed B0.named
  rw [lg_entry_eq]
  exact body p e s m below meth c ⟨⟨B0.exec, B0.bytes, hml, hown, fun w h => hts w (List.mem_cons_of_mem _ h)⟩, B0.notSynchronized⟩ B0.returns ((name_of_methodNamed B0.named B0.method).1.trans hy) (bx_in hw) _ (lv_entry av hlen)
theorem bRet (C0 : Cx p s m args meth c cc nL ow) (hr : meth.sig.returnType = none) (w : Bx B b n E s H locs) (d : decode cc pc = .ok (.return_, 1)) : W p l e R s m args below meth c H locs cells slots (MQ below (QI B b n E) args s cells slots (AP B b)) (F0 m pc ls []) :=
  W.vret C0.1.1 C0.1.2.1 hr (fun t ht _ => ⟨⟨rfl, by rw [ht]; exact w.1, by rw [ht]; exact w.2.2.2.2.2.1⟩, w.2.2.2.1.F ht⟩) w.2.2.2.1.2.2 d (hlocks := C0.2)
theorem bIn {k : Nat} (w : Bx B b (k + 1) E s H locs) (hb : b ≤ k) {U : State} (hU : U.heap = H) (hW : s.WarmedH U.vm) : Bd B k (k + 1) E U := by
  have w0 := w
  obtain ⟨h1, h2, h3, h4, h5, h6, h7, h8⟩ := w
  refine ⟨fun i q hq => ?_, va_K.moved hW.alike h2, h3, h5.moved hW, by rw [hU]; exact h6, by omega⟩
  obtain ⟨hi, rfl⟩ := Pl_inv hq
  rw [hU]
  exact w0.at (by omega) hi
theorem bGo {k n' mc ms : Nat} {E2 : Nat → va_E} {a : Array Value} (hr : va_Run p l e R s m args below meth c H locs cells slots mc ms (F0 m pc ls st0) rest (QI B k n' E2 a) (AP B k)) (w : Bx B b (k + 1) E s H locs) (hb : b ≤ k) (hk : k < n')
    (kk : ∀ H locs, Bx B b n' (fun j => if j < k then E j else E2 j) s H locs → W p l e R s m args below meth c H locs (cells + mc) (slots + ms) Q (F0 m (pc + 3) ls rest)) : W p l e R s m args below meth c H locs cells slots Q (F0 m pc ls st0) := by
  have w0 := w
  intro T hT X
  obtain ⟨v', st₀, t, T', L, h0, X', hL, e1, e2, ⟨⟨hv, hp, hz2⟩, hz, hkp⟩, st⟩ := hr T hT X
  cases hv
  rw [h0] at hz hkp
  obtain ⟨h1, h2, h3, h4, h5, h6, h7, h8⟩ := w
  have hsub : ∀ q, AP B k q → AP B b q := fun q hq => by
    show wA B b ≤ q
    have hq' : wA B k ≤ q := hq
    have e1 := h3 b
    have e2 := h3 k
    omega
  obtain ⟨t2, a1, b1⟩ := kk T'.heap (locs ++ L) ⟨fun i q hq => by
      obtain ⟨hi, rfl⟩ := Pl_inv hq
      rw [e1]
      by_cases hlt : b + i < k
      · have g := w0.at (k := b + i) (by omega) (by omega)
        show va_at B.1 vwCl (wA B (b + i), if b + i < k then E (b + i) else E2 (b + i)) t.heap
        rw [if_pos hlt]
        exact g.kept (hkp _ g.lt (fun z => by
          have z' : wA B k ≤ wA B (b + i) := z
          rw [h3 k, h3 (b + i)] at z'
          omega))
      · show va_at B.1 vwCl (wA B (b + i), if b + i < k then E (b + i) else E2 (b + i)) t.heap
        rw [if_neg hlt]
        exact hp _ _ (Pl_get (by omega) hi), h2, h3, ⟨Nat.le_trans h4.1 (by rw [e1]; exact hz), fun q g1 g2 => by
      rw [e1, hkp q (Nat.lt_of_lt_of_le g1 h4.1) (fun z => g2 (hsub q z))]; exact h4.2.1 q g1 g2, fun q hq => by
      rcases List.mem_append.mp hq with h | h
      · exact h4.2.2 q h
      · exact hsub _ (hL q h)⟩, h5, by rw [e1]; exact hz2, h7, by omega⟩ T' rfl X'
  exact ⟨t2, st t2 a1, b1⟩
theorem Bd_blind {av : List Value} : FrameBlind (va_Pc av (Bd B b n E)) := fun _ U g mk q => ⟨q.1, Bd.moved (u := U) rfl (State.WarmedH.refl U) q.2⟩
theorem bCall (C0 : Cx p s m args meth c cc nL ow) {k n' mc ms nn maxL idx : Nat} {E2 : Nat → va_E} {y : MethodName} {bytes : ByteArray} {rm : Room} {As : List Value} (w : Bx B b (k + 1) E s H locs) (hb : b ≤ k) (hk : k < n') (hM : MetI l y bytes maxL rm B k (k + 1) E n' E2 (.ref (wA B k) :: As) mc ms) (hy : Ky y bytes maxL none nn) (hrm : rm.cells = mc ∧ rm.slots = ms) (hin : y.name = "<init>") (hi : Cond.instanceMethod y ∈ GL) (hl : Cond.methodLink ow idx y ∈ GL)
    (hR : rm.frames + 1 ≤ R.frames ∧ 8 + (maxL + 11) + rm.locals ≤ R.locals) (hf : cells + mc ≤ R.cells ∧ slots + ms ≤ R.slots) (hn : As.length = nn) (hst : st0 = As.reverse ++ .ref (wA B k) :: rest) (hW : (rest.map fun v => v.category).sum ≤ 8) (hls : ls.size = nL) (d : decode cc pc = .ok (.invokespecial idx, 3))
    (kk : ∀ H locs, Bx B b n' (fun j => if j < k then E j else E2 j) s H locs → W p l e R s m args below meth c H locs (cells + mc) (slots + ms) Q (F0 m (pc + 3) ls rest)) : W p l e R s m args below meth c H locs cells slots Q (F0 m pc ls st0) := by
  have ht := C0.1.2.2.2.2
  exact bGo (va_runI (As := As) (rest := rest) C0.1 hM (cwI nn ht (by intro z hz; rcases List.mem_cons.mp hz with rfl | h; exact ⟨hy.1, good_of_word (List.mem_filter.mp hy.1).2⟩; exact ⟨h, good_of_word (List.mem_filter.mp h).2⟩) rfl hrm.1 hrm.2 (ht _ hy.2.1) (ht _ hl) (ht _ hi) hin hy.2.2 hR) ⟨Bd_blind, fun U hU hW => ⟨rfl, bIn w hb hU hW⟩⟩ rfl hn hls hst (lv_room hW) d hf) w hb hk kk
theorem bCallN (C0 : Cx p s m args meth c cc nL ow) {k n' mc ms nn maxL idx : Nat} {host : String} {E2 : Nat → va_E} {y : MethodName} {bytes : ByteArray} {rm : Room} {As : List Value} (w : Bx B b (k + 1) E s H locs) (hb : b ≤ k) (hk : k < n') (hM : MetI l y bytes maxL rm B k (k + 1) E n' E2 (.ref (wA B k) :: As) mc ms) (hy : Ky y bytes maxL none nn) (hrm : rm.cells = mc ∧ rm.slots = ms) (hin : y.name = "<init>") (hi : Cond.instanceMethod y ∈ GL) (hl : (ow, idx, y, host) ∈ nestM)
    (hR : rm.frames + 1 ≤ R.frames ∧ 8 + (maxL + 11) + rm.locals ≤ R.locals) (hf : cells + mc ≤ R.cells ∧ slots + ms ≤ R.slots) (hn : As.length = nn) (hst : st0 = As.reverse ++ .ref (wA B k) :: rest) (hW : (rest.map fun v => v.category).sum ≤ 8) (hls : ls.size = nL) (d : decode cc pc = .ok (.invokespecial idx, 3))
    (kk : ∀ H locs, Bx B b n' (fun j => if j < k then E j else E2 j) s H locs → W p l e R s m args below meth c H locs (cells + mc) (slots + ms) Q (F0 m (pc + 3) ls rest)) : W p l e R s m args below meth c H locs cells slots Q (F0 m pc ls st0) := by
  have ht := C0.1.2.2.2.2
  exact bGo (va_runIN (As := As) (rest := rest) (host := host) C0.1 hM ⟨va_cnB nn ht (by intro z hz; rcases List.mem_cons.mp hz with rfl | h; exact ⟨hy.1, good_of_word (List.mem_filter.mp hy.1).2⟩; exact ⟨h, good_of_word (List.mem_filter.mp h).2⟩) rfl hrm.1 hrm.2 (w.2.2.2.2.1.1 _ hl) (ht _ hy.2.1) hy.2.2 hR, hin, ht _ hi⟩ ⟨Bd_blind, fun U hU hW => ⟨rfl, bIn w hb hU hW⟩⟩ rfl hn hls hst (lv_room hW) d hf) w hb hk kk
/-- new C[n] -/
theorem bRef (C0 : Cx p s m args meth c cc nL ow) (w : Bx B b n E s H locs) {C : String} {idx t0 : Nat} {cA : ClassId} (hcl : Cond.classLink ow idx C ∈ GL) (hov : va_AO C s) (ht0 : (tysB B)[t0]? = some (cA, .object C)) {i : Int32} {N : Nat} (hn : ¬ i < 0) (hN : i.toNatClampNeg = N) (hby : N * 4 ≤ 536870912) (hcells : cells + 1 ≤ R.cells) (hslots : slots + N ≤ R.slots) (d : decode cc pc = .ok (.anewarray idx, 3))
    (kk : ∀ H, Bx B b (n + 1) (updE E n (.inl (cA, N, .inr (.inr (.inr (.inr (fun _ => none))))))) s H locs → W p l e R s m args below meth c H locs (cells + 1) (slots + N) Q (F0 m (pc + 3) ls (.ref (wA B n) :: rest))) : W p l e R s m args below meth c H locs cells slots Q (F0 m pc ls (.int i :: rest)) := by
  subst hN
  have ht := C0.1.2.2.2.2
  have hh : H.size = wA B n := w.2.2.2.2.2.1
  refine W.anew C0.1.1 C0.1.2.1 C0.1.2.2.2.1 (ht _ hcl) (va_AO.use hov) rfl d rfl hn hby hcells hslots fun cA' kA comp f1 f2 f3 f4 => ?_
  obtain ⟨kA2, comp2, -, -, -, r4⟩ := (w.2.1.2 t0 _ ht0).2
  have hcc : cA' = cA := Option.some.inj (f1.symm.trans r4)
  subst hcc
  rw [hh]
  refine kk _ (w.grow (k := 1) (by rw [Array.size_push, hh, w.2.2.1 (n + 1), w.2.2.1 n]; omega) (fun q hq => by rw [Array.getElem?_push, if_neg (Nat.ne_of_lt hq)]) (fun j _ hj => updE_ne (by omega)) (fun j h1 h2 => ?_))
  rw [show j = n by omega, updE_eq]
  show _ = some (vp_cell cA' _)
  rw [vp_cell_q, ← hh, Array.getElem?_push_size]
  show some _ = some (arrV cA' i.toNatClampNeg (fun _ => .null))
  rw [← arrV_new]
end BORN
def EX (B : Wb) (σ : Mem) (b ci : Nat) (fs : List Value) : Nat → va_E := fun j => if j = b then .inr (ci, fs) else fin B σ j
theorem EX_at {B : Wb} {σ : Mem} {b ci : Nat} {fs : List Value} : EX B σ b ci fs b = .inr (ci, fs) := if_pos rfl
theorem EX_put {B : Wb} {σ : Mem} {b ci : Nat} {fs fs' : List Value} : updE (EX B σ b ci fs) b (.inr (ci, fs')) = EX B σ b ci fs' := by
  funext j
  unfold updE EX
  by_cases h : j = b
  · rw [if_pos h, if_pos h]
  · rw [if_neg h, if_neg h, if_neg h]
theorem EX_arr {B : Wb} {σ : Mem} {b ci n : Nat} {fs : List Value} {e : va_E} (hn : n ≠ b) (he : e = fin B σ n) : updE (EX B σ b ci fs) n e = EX B σ b ci fs := by
  funext j
  unfold updE EX
  by_cases h : j = n
  · rw [if_pos h, if_neg (by omega), he, h]
  · rw [if_neg h]
theorem EX_sub {B : Wb} {σ : Mem} {b ci k : Nat} {fs : List Value} {e : va_E} (hk : b < k) : (fun j => if j < k then updE (EX B σ b ci fs) k e j else fin B σ j) = EX B σ b ci fs := by
  funext j
  show (if j < k then updE (EX B σ b ci fs) k e j else fin B σ j) = EX B σ b ci fs j
  by_cases h : j < k
  · rw [if_pos h, updE_ne (by omega)]
  · rw [if_neg h]
    unfold EX
    rw [if_neg (by omega)]
theorem EX_fin {B : Wb} {σ : Mem} {b ci : Nat} {fs : List Value} (h : .inr (ci, fs) = fin B σ b) : EX B σ b ci fs = fin B σ := by
  funext j
  unfold EX
  by_cases hj : j = b
  · rw [if_pos hj, h, hj]
  · rw [if_neg hj]
