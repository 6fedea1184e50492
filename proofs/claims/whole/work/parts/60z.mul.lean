/-! ===== new int[n][m], out of the machine's own words ===== -/
def mOut (cA : ClassId) (N h i : Nat) : Cell := arrV cA N (fun j => va_rf (if j < i then some (h + 1 + j) else none))
def mRow (cI : ClassId) (M : Nat) : Cell := arrV cI M (fun _ => .int 0)
/-- the outer array made, and its first i rows -/
def mSt (s : State) (cA cI : ClassId) (N M : Nat) : Nat → State
  | 0 => s.pushCell (mOut cA N s.heap.size 0)
  | i + 1 => ((mSt s cA cI N M i).pushCell (mRow cI M)).setCell s.heap.size (mOut cA N s.heap.size (i + 1))
theorem mOut_0 (cA : ClassId) (N h : Nat) : ({ cls := cA, slots := Array.replicate N .null } : Cell) = mOut cA N h 0 := by
  show ({ cls := cA, slots := Array.replicate N .null, vm := .none } : Cell) = _
  rw [arrV_new]
  exact arrV_congr (fun j _ => by rw [if_neg (Nat.not_lt_zero j)]; rfl)
theorem mRow_0 (cI : ClassId) (M : Nat) : ({ cls := cI, slots := Array.replicate M (.int 0) } : Cell) = mRow cI M := arrV_new cI M (.int 0)
theorem mOut_s (cA : ClassId) (N h i : Nat) : (mOut cA N h i).setSlot i (.ref (h + 1 + i)) = mOut cA N h (i + 1) := by
  unfold mOut
  rw [arrV_store]
  refine arrV_congr (fun j _ => ?_)
  unfold updV
  by_cases e : j = i
  · subst e
    rw [if_pos rfl, if_pos (Nat.lt_succ_self j)]
    rfl
  · rw [if_neg e]
    show va_rf (if j < i then some (h + 1 + j) else none) = va_rf (if j < i + 1 then some (h + 1 + j) else none)
    by_cases hj : j < i
    · rw [if_pos hj, if_pos (show j < i + 1 by omega)]
    · rw [if_neg hj, if_neg (show ¬ j < i + 1 by omega)]
theorem mOut_z (cA : ClassId) (N h i : Nat) : (mOut cA N h i).slots.size = N := arrV_size cA N _
theorem mRow_z (cI : ClassId) (M : Nat) : (mRow cI M).slots.size = M := arrV_size cI M _
theorem mSt_ok (s : State) (cA cI : ClassId) (N M : Nat) : ∀ i, (mSt s cA cI N M i).heap.size = s.heap.size + 1 + i ∧ (mSt s cA cI N M i).heap[s.heap.size]? = some (mOut cA N s.heap.size i) ∧ (mSt s cA cI N M i).vm = s.vm ∧ (mSt s cA cI N M i).slotsUsed = s.slotsUsed + N + i * M
  | 0 => ⟨by simp [mSt], by simp [mSt], rfl, by simp [mSt, mOut_z]⟩
  | i + 1 => by
    obtain ⟨a, b, c, u⟩ := mSt_ok s cA cI N M i
    have hlt : s.heap.size < (mSt s cA cI N M i).heap.size := by omega
    refine ⟨by simp [mSt, State.setCell, a]; omega, ?_, by simp [mSt, c], by simp [mSt, mRow_z, u, Nat.succ_mul]; omega⟩
    exact State.heap_setCell_self (c := mOut cA N s.heap.size i) (by rw [State.heap_pushCell_of_lt (h := hlt)]; exact b)
theorem mSt_old (s : State) (cA cI : ClassId) (N M : Nat) {a : Nat} (ha : a < s.heap.size) : ∀ i, (mSt s cA cI N M i).heap[a]? = s.heap[a]?
  | 0 => State.heap_pushCell_of_lt _ _ ha
  | i + 1 => by
    have hlt : a < (mSt s cA cI N M i).heap.size := by rw [(mSt_ok s cA cI N M i).1]; omega
    show (((mSt s cA cI N M i).pushCell (mRow cI M)).setCell s.heap.size _).heap[a]? = _
    rw [State.heap_setCell_other (show s.heap.size ≠ a by omega), State.heap_pushCell_of_lt (h := hlt)]
    exact mSt_old s cA cI N M ha i
theorem mSt_row (s : State) (cA cI : ClassId) (N M : Nat) {j : Nat} : ∀ i, j < i → (mSt s cA cI N M i).heap[s.heap.size + 1 + j]? = some (mRow cI M)
  | 0, h => absurd h (Nat.not_lt_zero j)
  | i + 1, h => by
    have hz := (mSt_ok s cA cI N M i).1
    show (((mSt s cA cI N M i).pushCell (mRow cI M)).setCell s.heap.size _).heap[s.heap.size + 1 + j]? = _
    rw [State.heap_setCell_other (show s.heap.size ≠ s.heap.size + 1 + j by omega)]
    by_cases hj : j = i
    · rw [hj, ← hz]
      exact State.heap_pushCell_size _ _
    · have hlt : s.heap.size + 1 + j < (mSt s cA cI N M i).heap.size := by rw [hz]; omega
      rw [State.heap_pushCell_of_lt (h := hlt)]
      exact mSt_row s cA cI N M i (by omega)
theorem mSt_top (s : State) (f : JFrame) (cA cI : ClassId) (N M : Nat) : ∀ i, mSt (s.setTop f) cA cI N M i = (mSt s cA cI N M i).setTop f
  | 0 => rfl
  | i + 1 => by simp only [mSt, mSt_top s f cA cI N M i, State.heap_setTop, State.pushCell_setTop, State.setCell_setTop]
section MULWP
variable {E : CtlPost} {e : Env} {d : Bool} {acts : List Action} {s : State} {cA cI cE : ClassId} {kA kI : Class} {n k : Int32} {N M : Nat}
theorem mul_row (hk0 : ¬ k < 0) (hM : k.toNatClampNeg = M) (h1 : s.vm.classes[cI]? = some kI) (h2 : kI.kind = .array cE .int) (hl : ¬ M > e.platform.arrayLengthLimit) (hh : ¬ M * componentBytes .int > e.platform.maxHeapBytes) (hc : s.heap.size < e.platform.maxCells) (hs : s.slotsUsed + M ≤ e.platform.maxSlots) {Q : Addr → Pre} (hq : ∀ acts', Q s.heap.size d acts' (s.pushCell (mRow cI M))) : wp (multianewarray.make cI [k]) Q E e d acts s := by
  subst hM
  rw [multianewarray.make]
  simp only [wp_bind', W.ite, hk0, if_false, wp_pure', W.theClass, h1, h2, Option.some.injEq, exists_eq_left']
  exact W.newArray_of h1 h2 hl hh hc hs rfl (fun acts' => by rw [show ({ cls := cI, slots := Array.replicate k.toNatClampNeg (defaultValue .int) } : Cell) = mRow cI k.toNatClampNeg from mRow_0 cI _]; exact hq acts')
theorem mul_all (hn0 : ¬ n < 0) (hk0 : ¬ k < 0) (hN : n.toNatClampNeg = N) (hM : k.toNatClampNeg = M) (hA : s.vm.classes[cA]? = some kA) (hkA : kA.kind = .array cI (.array .int)) (hI : s.vm.classes[cI]? = some kI) (hkI : kI.kind = .array cE .int) (hl : ¬ N > e.platform.arrayLengthLimit) (hh : ¬ N * componentBytes (.array .int) > e.platform.maxHeapBytes) (hl2 : ¬ M > e.platform.arrayLengthLimit) (hh2 : ¬ M * componentBytes .int > e.platform.maxHeapBytes)
    (hc : s.heap.size + 1 + N ≤ e.platform.maxCells) (hs : s.slotsUsed + N + N * M ≤ e.platform.maxSlots) {Q : Addr → Pre} (hq : ∀ d' acts', Q s.heap.size d' acts' (mSt s cA cI N M N)) : wp (multianewarray.make cA [n, k]) Q E e d acts s := by
  subst hN
  have hbad : ([k].find? (· < 0)) = none := by simp [hk0]
  rw [multianewarray.make]
  simp only [wp_bind', W.ite, hn0, if_false, wp_pure', W.theClass, hA, hkA, Option.some.injEq, exists_eq_left']
  have hNM := Nat.zero_le (n.toNatClampNeg * M)
  refine W.newArray_of hA hkA hl hh (by omega) (by omega) rfl (fun acts1 => ?_)
  rw [mOut_0 cA _ s.heap.size]
  simp only [hbad]
  rw [ite_self, wp_bind', Std.Legacy.Range.forIn_eq_forIn_range']
  rw [show ([:n.toNatClampNeg] : Std.Legacy.Range).size = n.toNatClampNeg by simp [Std.Legacy.Range.size]]
  show wp (forIn (List.range' 0 n.toNatClampNeg 1) PUnit.unit _) _ E e d acts1 (mSt s cA cI n.toNatClampNeg M 0)
  refine wp_forIn_inv (fun todo t => ∃ i, i + todo.length = n.toNatClampNeg ∧ todo = List.range' i todo.length ∧ t = mSt s cA cI n.toNatClampNeg M i) _ _ ⟨0, by simp, by simp, rfl⟩ ?_ ?_
  · rintro x todo t d2 acts2 Q2 ⟨i, hi, hr, rfl⟩ hnext
    rw [List.length_cons] at hi
    rw [List.length_cons, List.range'_succ] at hr
    obtain ⟨rfl, hr2⟩ := List.cons.inj hr
    obtain ⟨f1, f2, f3, f4⟩ := mSt_ok s cA cI n.toNatClampNeg M x
    have hlt : s.heap.size < (mSt s cA cI n.toNatClampNeg M x).heap.size := by rw [f1]; omega
    have hmul : x * M + M ≤ n.toNatClampNeg * M := by
      have := Nat.mul_le_mul_right M (show x + 1 ≤ n.toNatClampNeg by omega)
      rw [Nat.succ_mul] at this
      exact this
    simp only [wp_bind']
    refine mul_row hk0 hM (by rw [f3]; exact hI) hkI hl2 hh2 (by rw [f1]; omega) (by rw [f4]; omega) (fun acts3 => ?_)
    simp only [wp_bind', W.writeLoc, wp_pure']
    refine ⟨mOut cA n.toNatClampNeg s.heap.size x, by rw [State.heap_pushCell_of_lt (h := hlt)]; exact f2, by simp [mOut, arrV], by rw [mOut_z]; omega, ?_, hnext _ _ _ ⟨x + 1, by omega, hr2, ?_⟩⟩
    · show State.fitsSlot _ cA .none x (.ref _) = true
      have hf : ∀ a : Nat, fits (.array .int) (.ref a) = true := fun _ => rfl
      simp [State.fitsSlot, State.slotType?, f3, hA, hkA, hf]
    · rw [f1, mOut_s]
      rfl
  · rintro t d2 acts2 ⟨i, hi, -, rfl⟩
    simp only [wp_pure']
    have hi' : i = n.toNatClampNeg := by simpa using hi
    rw [hi']
    exact hq _ _
end MULWP
theorem mul_stand {p : Program} {l : Launch} {e : Env} {R : Room} {s : State} {m : MethodId} {args : Array Value} {below : List Frame} {meth : Method} {c : Code} {T : State} {locs : List Loc} {cells slots : Nat} (X : Stand p l e R s m args below meth c T locs cells slots) (cA cI : ClassId) (N M : Nat) : ∀ i, Stand p l e R s m args below meth c (mSt T cA cI N M i) locs (cells + 1 + i) (slots + N + i * M)
  | 0 => by
    have h := X.pushed (mOut cA N T.heap.size 0)
    rw [mOut_z] at h
    rw [show slots + N + 0 * M = slots + N by omega]
    exact h
  | i + 1 => by
    obtain ⟨f1, f2, f3, f4⟩ := mSt_ok T cA cI N M i
    have hcell : ((mSt T cA cI N M i).pushCell (mRow cI M)).heap[T.heap.size]? = some (mOut cA N T.heap.size i) := by
      have hlt : T.heap.size < (mSt T cA cI N M i).heap.size := by rw [f1]; omega
      rw [State.heap_pushCell_of_lt (h := hlt)]
      exact f2
    have h := ((mul_stand X cA cI N M i).pushed (mRow cI M)).stored hcell i (.ref (T.heap.size + 1 + i))
    rw [mOut_s, mRow_z] at h
    rw [show slots + N + (i + 1) * M = slots + N + i * M + M by rw [Nat.succ_mul]; omega]
    exact h.dropFresh (fun x hx => by rw [List.mem_singleton.mp hx]; exact X.heapGrown)
section BORNM
variable {p : Program} {l : Launch} {e : Env} {R : Room} {s : State} {m : MethodId} {args : Array Value} {below : List Frame} {meth : Method} {c : Code} {H : Heap} {locs : List Loc} {cells slots : Nat} {Q : State → Prop}
variable {cc : ByteArray} {nL pc : Nat} {ow : String} {ls : Array Slot} {rest st0 : List Value} {B : Wb} {b n : Nat} {E E' : Nat → va_E}
/-- new int[n][m] -/
theorem bMul (C0 : Cx p s m args meth c cc nL ow) (w : Bx B b n E s H locs) {idx : Nat} (hcl : Cond.classLink ow idx ("[" ++ (FieldType.array .int).toString) ∈ GL) (harr : Cond.arrayClass .int ∈ GL) {i j : Int32} {N M : Nat} (hn : ¬ i < 0) (hm : ¬ j < 0) (hN : i.toNatClampNeg = N) (hM : j.toNatClampNeg = M) (hb1 : N * 4 ≤ 536870912) (hb2 : M * componentBytes .int ≤ 536870912) (hb3 : M ≤ 536870912) (hcells : cells + (1 + N) ≤ R.cells) (hslots : slots + (N + N * M) ≤ R.slots) (d : decode cc pc = .ok (.multianewarray idx 2, 4))
    (kk : ∀ H, Bx B b (n + (1 + N)) (fun q => if q < n then E q else if q = n then .inl (wC B 4, N, .inr (.inr (.inr (.inr (fun r => some (wA B (n + 1 + r))))))) else .inl (wC B 0, M, .inl (fun _ => 0))) s H locs → W p l e R s m args below meth c H locs (cells + 1 + N) (slots + N + N * M) Q (F0 m (pc + 4) ls (.ref (wA B n) :: rest))) : W p l e R s m args below meth c H locs cells slots Q (F0 m pc ls (.int j :: .int i :: rest)) := by
  have ht := C0.1.2.2.2.2
  have hx := C0.1.1
  have hcode := C0.1.2.1
  have hh : H.size = wA B n := w.2.2.2.2.2.1
  intro T hT X
  have hTs : T.heap.size = wA B n := by rw [hT, hh]
  have hpl : e.platform.magicAccessors = ({} : Platform).magicAccessors := by rw [X.admits.platform]
  obtain ⟨cI, cA, kA, hI, -, hkA, hkindA, hA⟩ := arrayOverA_spec w.2.2.2.2.1.2.2.2
  obtain ⟨cI2, kI, cE, hI2, hkI, hkindI⟩ := Cond.arrayClass_spec (ht _ harr)
  have eI : cI2 = cI := Option.some.inj (hI2.symm.trans hI)
  subst eI
  obtain ⟨c0, hf0, hlk⟩ := Cond.classLink_spec C0.1.2.2.2.1 (ht _ hcl) e.platform hpl
  cases hA.symm.trans hf0
  obtain ⟨hg₁, hwarm₁, -⟩ := State.classEntry (e := e) X.warmed hlk
  generalize T.vm.noted m.cls idx (.cls cA) = vm₁ at hg₁ hwarm₁
  obtain ⟨kA1, hkA1, eA⟩ := hwarm₁.alike.2.2 _ _ hkA
  obtain ⟨kI1, hkI1, eI1⟩ := hwarm₁.alike.2.2 _ _ hkI
  have hkindA1 : kA1.kind = .array cI2 (.array .int) := by rw [eA]; exact hkindA
  have hkindI1 : kI1.kind = .array cE .int := by rw [eI1]; exact hkindI
  have e0 : s.vm.findClass ("[" ++ (FieldType.int).toString) = some (wC B 0) := (w.2.1.2 0 _ rfl).2
  have e4 : s.vm.findClass ("[" ++ (FieldType.array .int).toString) = some (wC B 4) := (w.2.1.2 4 _ rfl).2
  have ec : cI2 = wC B 0 := Option.some.inj (hI2.symm.trans e0)
  have ea : cA = wC B 4 := Option.some.inj (hA.symm.trans e4)
  have X1 := X.noted hwarm₁
  have XF := mul_stand X1 cA cI2 N M N
  obtain ⟨hr1, hr2⟩ := X.roomAbove hcells hslots
  obtain ⟨f1, f2, f3, f4⟩ := mSt_ok (T.setVm vm₁) cA cI2 N M N
  have hTh : (T.setVm vm₁).heap = H := hT
  have hold : ∀ x : Nat, x < H.size → (mSt (T.setVm vm₁) cA cI2 N M N).heap[x]? = H[x]? := fun x hx => by
    have := mSt_old (T.setVm vm₁) cA cI2 N M (a := x) (by rw [hTh]; exact hx) N
    rw [hTh] at this
    exact this
  have hrow : ∀ r : Nat, r < N → (mSt (T.setVm vm₁) cA cI2 N M N).heap[H.size + 1 + r]? = some (vp_cell (wC B 0) (M, .inl (fun _ => 0))) := fun r hr => by
    have := mSt_row (T.setVm vm₁) cA cI2 N M (j := r) N hr
    rw [hTh, ec] at this
    rw [ec]
    exact this
  have hout : (mSt (T.setVm vm₁) cA cI2 N M N).heap[H.size]? = some (vp_cell (wC B 4) (N, .inr (.inr (.inr (.inr (fun r => some (wA B (n + 1 + r)))))))) := by
    rw [hTh] at f2
    rw [f2, vp_cell_q, ea]
    refine congrArg some (arrV_congr (fun r hr => ?_))
    rw [if_pos hr, hh, w.2.2.1 n, w.2.2.1 (n + 1 + r), show wA B 0 + n + 1 + r = wA B 0 + (n + 1 + r) by omega]
  have hbx := w.grow (k := 1 + N) (H' := (mSt (T.setVm vm₁) cA cI2 N M N).heap) (E' := fun q => if q < n then E q else if q = n then .inl (wC B 4, N, .inr (.inr (.inr (.inr (fun r => some (wA B (n + 1 + r))))))) else .inl (wC B 0, M, .inl (fun _ => 0))) (by rw [f1, hTh, hh, w.2.2.1 n, w.2.2.1 (n + (1 + N))]; omega) hold (fun q _ hq => if_pos hq) (fun q h1 h2 => by
    show va_at B.1 vwCl (wA B q, if q < n then E q else if q = n then _ else _) (mSt (T.setVm vm₁) cA cI2 N M N).heap
    rw [if_neg (by omega)]
    by_cases hq : q = n
    · subst hq
      rw [if_pos rfl]
      show (mSt (T.setVm vm₁) cA cI2 N M N).heap[wA B q]? = _
      rw [← hh]
      exact hout
    · rw [if_neg hq]
      have g := hrow (q - (n + 1)) (by omega)
      have hadr : H.size + 1 + (q - (n + 1)) = wA B q := by rw [hh, w.2.2.1 n, w.2.2.1 q]; omega
      rw [hadr] at g
      exact g)
  obtain ⟨t, a1, b1⟩ := kk _ hbx _ rfl XF
  refine ⟨t, ?_, b1⟩
  have hl1 : ¬ N > e.platform.arrayLengthLimit := by rw [Launch.admits_arrayLengthLimit X.admits]; omega
  have hh1 : ¬ N * componentBytes (.array .int) > e.platform.maxHeapBytes := by
    rw [Launch.admits_maxHeapBytes X.admits]
    show ¬ N * 4 > 536870912
    omega
  have hl2 : ¬ M > e.platform.arrayLengthLimit := by rw [Launch.admits_arrayLengthLimit X.admits]; omega
  have hh2 : ¬ M * componentBytes .int > e.platform.maxHeapBytes := by rw [Launch.admits_maxHeapBytes X.admits]; omega
  have hd : decode c.code pc = .ok (.multianewarray idx 2, 4) := by rw [hcode]; exact d
  jvm_step X.here [hx, hd]
  simp only [multianewarray.sem, wp_bind', W.resolveClassAt_links (State.method?_setTop (F0 m pc ls (.int j :: .int i :: rest)) X.here.top) hg₁]
  rw [W.popN, if_neg (by decide)]
  refine ⟨F0 m pc ls (.int j :: .int i :: rest), State.topJava?_setTop' (s := T.setVm vm₁) (F0 m pc ls (.int j :: .int i :: rest)) X.here.top, [.int i, .int j], rest, rfl, rfl, ?_⟩
  simp only [List.mapM_cons, List.mapM_nil, wp_bind', wp_pure']
  refine mul_all (kA := kA1) (kI := kI1) (cI := cI2) (cE := cE) hn hm hN hM hkA1 hkindA1 hkI1 hkindI1 hl1 hh1 hl2 hh2 (by show T.heap.size + 1 + N ≤ _; omega) (by show T.slotsUsed + N + N * M ≤ _; omega) (fun d' acts' => ?_)
  have eS : ∀ g1 g2 : JFrame, ((T.setTop g1).setVm vm₁).setTop g2 = (T.setVm vm₁).setTop g2 := fun g1 g2 => by
    show ((T.setVm vm₁).setTop g1).setTop g2 = _
    rw [State.setTop_setTop]
  rw [eS, mSt_top]
  simp only [wp_bind', W.mark, W.pushRef, State.topJava?_setTop' _ XF.here.top, Option.some.injEq, exists_eq_left', State.setTop_setTop, State.heap_setTop]
  intro acts2
  simp [jvm, XF.here.top]
  have hadr : (T.setVm vm₁).heap.size = wA B n := by rw [hTh, hh]
  rw [← hadr] at a1
  exact a1
end BORNM
