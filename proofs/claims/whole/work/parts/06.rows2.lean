/-! ===== more rows: compares of longs with their branch; words of the translation into functions ===== -/
def gd {α : Type} (b : Bool) (x : Option α) : Option α := if b = true then x else none
theorem gdE {α : Type} {b : Bool} {x : Option α} {y : α} (h : gd b x = some y) : b = true ∧ x = some y := by
  unfold gd at h
  split at h
  · exact ⟨by assumption, h⟩
  · cases h
def bd {α β : Type} (x : Option α) (f : α → Option β) : Option β := match x with
  | none => none
  | some a => f a
theorem bdE {α β : Type} {x : Option α} {f : α → Option β} {y : β} (h : bd x f = some y) : ∃ a, x = some a ∧ f a = some y := by
  cases x with
  | none => cases h
  | some a => exact ⟨a, rfl, h⟩
def inb (i : Int32) (n : Nat) : Bool := !(decide (i < 0)) && decide (i.toNatClampNeg < n)
theorem inbE {i : Int32} {n : Nat} (h : inb i n = true) : vp_in i n := by
  simp only [inb, Bool.and_eq_true, Bool.not_eq_true', decide_eq_false_iff_not, decide_eq_true_eq] at h
  rintro (q | q)
  · exact h.1 q
  · omega
def nz4 (y : Int32) : Bool := !(decide (y = 0))
theorem nz4E {y : Int32} (h : nz4 y = true) : ¬ y = 0 := by simpa [nz4] using h
def nz8 (y : Int64) : Bool := !(decide (y = 0))
theorem nz8E {y : Int64} (h : nz8 y = true) : ¬ y = 0 := by simpa [nz8] using h
def bz (x : Int32) : Bool := decide (x = 0) || decide (x = 1)
theorem bzE {x : Int32} (h : bz x = true) : narrow .boolean (.int x) = .int x := by
  simp only [bz, Bool.or_eq_true, decide_eq_true_eq] at h
  rcases h with rfl | rfl <;> decide
theorem bzV {x : Int32} (h : bz x = true) : vp_nar .boolean x = x := by
  unfold vp_nar
  rw [bzE h]
def byt (x : Int32) : Bool := decide (x.toInt8.toInt32 = x)
theorem bytE {x : Int32} (h : byt x = true) : vp_nar .byte x = x := by
  rw [vp_nar_byte]
  simpa [byt] using h
/-- the place that a field of a place names; the length of an array's place -/
def fR (k j : Nat) : Nat := (shp k).2.2.getD j 0 - 2
def aln (k : Nat) : Nat := (shp k).2.1
section ROWS2
variable {p : Program} {l : Launch} {e : Env} {R : Room} {s : State} {m : MethodId} {args : Array Value} {below : List Frame} {meth : Method} {c : Code} {H : Heap} {locs : List Loc} {cells slots : Nat} {Q : State → Prop}
variable {cc : ByteArray} {nL pc : Nat} {ow : String} {ls : Array Slot} {rest st0 : List Value} {B : Wb} {σ σ' : Mem}
theorem kLg (C0 : Cx p s m args meth c cc nL ow) {idx : Nat} (v : Int64) (h : Cond.constantLong ow idx v ∈ GL) (d : decode cc pc = .ok (.ldc2_w idx, 3)) (kk : W p l e R s m args below meth c H locs cells slots Q (F0 m (pc + 3) ls (.long v :: rest))) : W p l e R s m args below meth c H locs cells slots Q (F0 m pc ls rest) :=
  lv_ldc2 C0.1.1 C0.1.2.1 C0.1.2.2.2.1 (C0.1.2.2.2.2 _ h) d kk
theorem kIn (C0 : Cx p s m args meth c cc nL ow) {idx : Nat} (v : Int32) (h : Cond.constant ow idx v ∈ GL) (d : decode cc pc = .ok (.ldc idx, 2)) (kk : W p l e R s m args below meth c H locs cells slots Q (F0 m (pc + 2) ls (.int v :: rest))) : W p l e R s m args below meth c H locs cells slots Q (F0 m pc ls rest) :=
  lv_ldc C0.1.1 C0.1.2.1 C0.1.2.2.2.1 (C0.1.2.2.2.2 _ h) d kk
theorem lc_ge (C0 : Cx p s m args meth c cc nL ow) {x y : Int64} {off : Int} {tgt : Nat} (d1 : decode cc pc = .ok (.lcmp, 1)) (d2 : decode cc (pc + 1) = .ok (.ifCond .ge off, 3)) (ht : ((pc + 1 : Nat) : Int) + off = (tgt : Int))
    (kt : y ≤ x → W p l e R s m args below meth c H locs cells slots Q (F0 m tgt ls rest)) (kf : ¬ y ≤ x → W p l e R s m args below meth c H locs cells slots Q (F0 m (pc + 1 + 3) ls rest)) : W p l e R s m args below meth c H locs cells slots Q (F0 m pc ls (.long y :: .long x :: rest)) :=
  W.lcmp C0.1.1 C0.1.2.1 d1 (lv_if_ge C0.1.1 C0.1.2.1 d2 ht (fun h => kt ((lg_cmp_ge x y).mp h)) (fun h => kf (fun q => h ((lg_cmp_ge x y).mpr q))))
theorem lc_gt (C0 : Cx p s m args meth c cc nL ow) {x y : Int64} {off : Int} {tgt : Nat} (d1 : decode cc pc = .ok (.lcmp, 1)) (d2 : decode cc (pc + 1) = .ok (.ifCond .gt off, 3)) (ht : ((pc + 1 : Nat) : Int) + off = (tgt : Int))
    (kt : y < x → W p l e R s m args below meth c H locs cells slots Q (F0 m tgt ls rest)) (kf : ¬ y < x → W p l e R s m args below meth c H locs cells slots Q (F0 m (pc + 1 + 3) ls rest)) : W p l e R s m args below meth c H locs cells slots Q (F0 m pc ls (.long y :: .long x :: rest)) :=
  W.lcmp C0.1.1 C0.1.2.1 d1 (lv_if_gt C0.1.1 C0.1.2.1 d2 ht (fun h => kt ((lg_cmp_gt x y).mp h)) (fun h => kf (fun q => h ((lg_cmp_gt x y).mpr q))))
theorem lc_lt (C0 : Cx p s m args meth c cc nL ow) {x y : Int64} {off : Int} {tgt : Nat} (d1 : decode cc pc = .ok (.lcmp, 1)) (d2 : decode cc (pc + 1) = .ok (.ifCond .lt off, 3)) (ht : ((pc + 1 : Nat) : Int) + off = (tgt : Int))
    (kt : x < y → W p l e R s m args below meth c H locs cells slots Q (F0 m tgt ls rest)) (kf : ¬ x < y → W p l e R s m args below meth c H locs cells slots Q (F0 m (pc + 1 + 3) ls rest)) : W p l e R s m args below meth c H locs cells slots Q (F0 m pc ls (.long y :: .long x :: rest)) :=
  W.lcmp C0.1.1 C0.1.2.1 d1 (lv_if_lt C0.1.1 C0.1.2.1 d2 ht (fun h => kt ((lg_cmp_lt x y).mp h)) (fun h => kf (fun q => h ((lg_cmp_lt x y).mpr q))))
theorem lc_le (C0 : Cx p s m args meth c cc nL ow) {x y : Int64} {off : Int} {tgt : Nat} (d1 : decode cc pc = .ok (.lcmp, 1)) (d2 : decode cc (pc + 1) = .ok (.ifCond .le off, 3)) (ht : ((pc + 1 : Nat) : Int) + off = (tgt : Int))
    (kt : x ≤ y → W p l e R s m args below meth c H locs cells slots Q (F0 m tgt ls rest)) (kf : ¬ x ≤ y → W p l e R s m args below meth c H locs cells slots Q (F0 m (pc + 1 + 3) ls rest)) : W p l e R s m args below meth c H locs cells slots Q (F0 m pc ls (.long y :: .long x :: rest)) :=
  W.lcmp C0.1.1 C0.1.2.1 d1 (lv_if_le C0.1.1 C0.1.2.1 d2 ht (fun h => kt ((lg_cmp_le x y).mp h)) (fun h => kf (fun q => h ((lg_cmp_le x y).mpr q))))
theorem lc_eq (C0 : Cx p s m args meth c cc nL ow) {x y : Int64} {off : Int} {tgt : Nat} (d1 : decode cc pc = .ok (.lcmp, 1)) (d2 : decode cc (pc + 1) = .ok (.ifCond .eq off, 3)) (ht : ((pc + 1 : Nat) : Int) + off = (tgt : Int))
    (kt : x = y → W p l e R s m args below meth c H locs cells slots Q (F0 m tgt ls rest)) (kf : ¬ x = y → W p l e R s m args below meth c H locs cells slots Q (F0 m (pc + 1 + 3) ls rest)) : W p l e R s m args below meth c H locs cells slots Q (F0 m pc ls (.long y :: .long x :: rest)) :=
  W.lcmp C0.1.1 C0.1.2.1 d1 (lv_if_eq C0.1.1 C0.1.2.1 d2 ht (fun h => kt ((lg_cmp_eq x y).mp h)) (fun h => kf (fun q => h ((lg_cmp_eq x y).mpr q))))
theorem lc_ne (C0 : Cx p s m args meth c cc nL ow) {x y : Int64} {off : Int} {tgt : Nat} (d1 : decode cc pc = .ok (.lcmp, 1)) (d2 : decode cc (pc + 1) = .ok (.ifCond .ne off, 3)) (ht : ((pc + 1 : Nat) : Int) + off = (tgt : Int))
    (kt : ¬ x = y → W p l e R s m args below meth c H locs cells slots Q (F0 m tgt ls rest)) (kf : x = y → W p l e R s m args below meth c H locs cells slots Q (F0 m (pc + 1 + 3) ls rest)) : W p l e R s m args below meth c H locs cells slots Q (F0 m pc ls (.long y :: .long x :: rest)) :=
  W.lcmp C0.1.1 C0.1.2.1 d1 (lv_if_ne C0.1.1 C0.1.2.1 d2 ht (fun h => kt (fun q => h ((lg_cmp_eq x y).mpr q))) (fun h => kf ((lg_cmp_eq x y).mp h)))
theorem r_lenL (C0 : Cx p s m args meth c cc nL ow) (w : Wx B σ s H locs) {k n : Nat} (hs : shA k 2 n = true) (d : decode cc pc = .ok (.arraylength, 1))
    (kk : W p l e R s m args below meth c H locs cells slots Q (F0 m (pc + 1) ls (.int (Int32.ofNat n) :: rest))) : W p l e R s m args below meth c H locs cells slots Q (F0 m pc ls (.ref (wA B k) :: rest)) :=
  va_alen C0.1.1 C0.1.2.1 w.2.1 w.1 k 1 (wd_getA hs _ rfl) rfl rfl d kk
theorem mMax (C0 : Cx p s m args meth c cc nL ow) {idx : Nat} (hl : Cond.methodLink ow idx Lib.Math.max.name ∈ GL) (h2 : Cond.static Lib.Math.max.name ∈ GL) (h3 : Cond.initialized "java/lang/Math" ∈ GL) (h4 : Cond.code Lib.Math.max.name Lib.Math.max.code 2 (some .int) ∈ GL) (hls : ls.size = nL) (hf : 1 ≤ R.frames) (hlo : (rest.map fun v => v.category).sum + 13 ≤ R.locals) (hc : cells ≤ R.cells) (hs : slots ≤ R.slots) {x y : Int32} (d : decode cc pc = .ok (.invokestatic idx, 3))
    (kk : W p l e R s m args below meth c H locs cells slots Q (F0 m (pc + 3) ls (.int (if x < y then y else x) :: rest))) : W p l e R s m args below meth c H locs cells slots Q (F0 m pc ls (.int y :: .int x :: rest)) :=
  have ht := C0.1.2.2.2.2
  va_mmax C0.1.1 C0.1.2.1 (C0.1.2.2.1.trans hls.symm) C0.1.2.2.2.1 (ht _ hl) (ht _ h2) (ht _ h3) (ht _ h4) hf hlo hc hs d kk
theorem mMin (C0 : Cx p s m args meth c cc nL ow) {idx : Nat} (hl : Cond.methodLink ow idx Lib.Math.min.name ∈ GL) (h2 : Cond.static Lib.Math.min.name ∈ GL) (h3 : Cond.initialized "java/lang/Math" ∈ GL) (h4 : Cond.code Lib.Math.min.name Lib.Math.min.code 2 (some .int) ∈ GL) (hls : ls.size = nL) (hf : 1 ≤ R.frames) (hlo : (rest.map fun v => v.category).sum + 13 ≤ R.locals) (hc : cells ≤ R.cells) (hs : slots ≤ R.slots) {x y : Int32} (d : decode cc pc = .ok (.invokestatic idx, 3))
    (kk : W p l e R s m args below meth c H locs cells slots Q (F0 m (pc + 3) ls (.int (if y < x then y else x) :: rest))) : W p l e R s m args below meth c H locs cells slots Q (F0 m pc ls (.int y :: .int x :: rest)) :=
  have ht := C0.1.2.2.2.2
  va_mmin C0.1.1 C0.1.2.1 (C0.1.2.2.1.trans hls.symm) C0.1.2.2.2.1 (ht _ hl) (ht _ h2) (ht _ h3) (ht _ h4) hf hlo hc hs d kk
theorem mAbs (C0 : Cx p s m args meth c cc nL ow) {idx : Nat} (hl : Cond.methodLink ow idx Lib.Math.abs.name ∈ GL) (h2 : Cond.static Lib.Math.abs.name ∈ GL) (h3 : Cond.initialized "java/lang/Math" ∈ GL) (h4 : Cond.code Lib.Math.abs.name Lib.Math.abs.code 1 (some .int) ∈ GL) (hls : ls.size = nL) (hf : 1 ≤ R.frames) (hlo : (rest.map fun v => v.category).sum + 13 ≤ R.locals) (hc : cells ≤ R.cells) (hs : slots ≤ R.slots) {x : Int32} (d : decode cc pc = .ok (.invokestatic idx, 3))
    (kk : W p l e R s m args below meth c H locs cells slots Q (F0 m (pc + 3) ls (.int (if 0 ≤ x then x else 0 - x) :: rest))) : W p l e R s m args below meth c H locs cells slots Q (F0 m pc ls (.int x :: rest)) :=
  have ht := C0.1.2.2.2.2
  va_mabs C0.1.1 C0.1.2.1 (C0.1.2.2.1.trans hls.symm) C0.1.2.2.2.1 (ht _ hl) (ht _ h2) (ht _ h3) (ht _ h4) hf hlo hc hs d kk
theorem mMaxL (C0 : Cx p s m args meth c cc nL ow) {idx : Nat} (hl : Cond.methodLink ow idx Lib.MathLoose.max_long.x ∈ GL) (h2 : Cond.static Lib.MathLoose.max_long.x ∈ GL) (h3 : Cond.initialized "java/lang/Math" ∈ GL) (h4 : Cond.code Lib.MathLoose.max_long.x Lib.MathLoose.max_long.code 4 (some .long) ∈ GL) (hls : ls.size = nL) (hf : 1 ≤ R.frames) (hlo : (rest.map fun v => v.category).sum + 15 ≤ R.locals) (hc : cells ≤ R.cells) (hs : slots ≤ R.slots) {x y : Int64} (d : decode cc pc = .ok (.invokestatic idx, 3))
    (kk : W p l e R s m args below meth c H locs cells slots Q (F0 m (pc + 3) ls (.long (if y < x then x else y) :: rest))) : W p l e R s m args below meth c H locs cells slots Q (F0 m pc ls (.long y :: .long x :: rest)) :=
  have ht := C0.1.2.2.2.2
  va_mmax_long C0.1.1 C0.1.2.1 (C0.1.2.2.1.trans hls.symm) C0.1.2.2.2.1 (ht _ hl) (ht _ h2) (ht _ h3) (ht _ h4) hf hlo hc hs d kk
theorem mAbsL (C0 : Cx p s m args meth c cc nL ow) {idx : Nat} (hl : Cond.methodLink ow idx Lib.MathLoose.abs_long.x ∈ GL) (h2 : Cond.static Lib.MathLoose.abs_long.x ∈ GL) (h3 : Cond.initialized "java/lang/Math" ∈ GL) (h4 : Cond.code Lib.MathLoose.abs_long.x Lib.MathLoose.abs_long.code 2 (some .long) ∈ GL) (hls : ls.size = nL) (hf : 1 ≤ R.frames) (hlo : (rest.map fun v => v.category).sum + 13 ≤ R.locals) (hc : cells ≤ R.cells) (hs : slots ≤ R.slots) {x : Int64} (d : decode cc pc = .ok (.invokestatic idx, 3))
    (kk : W p l e R s m args below meth c H locs cells slots Q (F0 m (pc + 3) ls (.long (if 0 < x then x else -x) :: rest))) : W p l e R s m args below meth c H locs cells slots Q (F0 m pc ls (.long x :: rest)) :=
  have ht := C0.1.2.2.2.2
  va_mabs_long C0.1.1 C0.1.2.1 (C0.1.2.2.1.trans hls.symm) C0.1.2.2.2.1 (ht _ hl) (ht _ h2) (ht _ h3) (ht _ h4) hf hlo hc hs d kk
/-- System.arraycopy between two different arrays -/
theorem cpI (C0 : Cx p s m args meth c cc nL ow) (w : Wx B σ s H locs) {idx : Nat} (hl : Cond.methodLink ow idx arraycopyName ∈ GL) (h2 : Cond.native arraycopyName ∈ GL) (h3 : Cond.static arraycopyName ∈ GL) (h4 : Cond.initialized "java/lang/System" ∈ GL) (hls : ls.size = nL) (hf : 1 ≤ R.frames) (hlo : (rest.map fun v => v.category).sum + (nativeFrameWords "java/lang/System" "arraycopy" 5 + 11) ≤ R.locals) {k0 k1 n0 n1 : Nat} (hs0 : shA k0 1 n0 = true) (hs1 : shA k1 1 n1 = true)
    {sp dp n : Int32} (g1 : ¬ sp < 0) (g2 : ¬ dp < 0) (g3 : ¬ n < 0) (g4 : sp.toNatClampNeg + n.toNatClampNeg ≤ n0) (g5 : dp.toNatClampNeg + n.toNatClampNeg ≤ n1) (d : decode cc pc = .ok (.invokestatic idx, 3))
    (kk : ∀ H locs, Wx B (repI σ k1 (va_cpy (σ.1 k0) (σ.1 k1) sp.toNatClampNeg dp.toNatClampNeg n.toNatClampNeg)) s H locs → W p l e R s m args below meth c H locs cells slots Q (F0 m (pc + 3) ls rest)) : W p l e R s m args below meth c H locs cells slots Q (F0 m pc ls (.int n :: .int dp :: .ref (wA B k1) :: .int sp :: .ref (wA B k0) :: rest)) := by
  have ht := C0.1.2.2.2.2
  refine va_copyi C0.1.1 C0.1.2.1 (C0.1.2.2.1.trans hls.symm) C0.1.2.2.2.1 (ht _ hl) (ht _ h2) (ht _ h3) (ht _ h4) w.2.1 w.1 (wd_D (σ := σ) w.2.2.1 (A := own B s.heap.size) own_A) w.2.2.2.1 k0 k1 0 0 (wd_getA hs0 _ rfl) (wd_getA hs1 _ rfl) rfl rfl rfl g1 g2 g3 g4 g5 (fun _ _ => rfl) hf hlo d (fun H1 l1 hP _ hS => ?_)
  refine kk H1 l1 ⟨?_, w.2.1, w.2.2.1, hS, w.2.2.2.2⟩
  obtain ⟨q1, q2, q3⟩ := shA_ok hs1
  have e : ∀ f : Nat → Int32, ((.inl (wC B 0, n1, .inl f)) : va_E) = mk B (shp k1) f (σ.2 k1) := fun f => by simp [mk, q2, q3]
  rw [e, wd_repI] at hP
  exact hP
theorem cpL (C0 : Cx p s m args meth c cc nL ow) (w : Wx B σ s H locs) {idx : Nat} (hl : Cond.methodLink ow idx arraycopyName ∈ GL) (h2 : Cond.native arraycopyName ∈ GL) (h3 : Cond.static arraycopyName ∈ GL) (h4 : Cond.initialized "java/lang/System" ∈ GL) (hls : ls.size = nL) (hf : 1 ≤ R.frames) (hlo : (rest.map fun v => v.category).sum + (nativeFrameWords "java/lang/System" "arraycopy" 5 + 11) ≤ R.locals) {k0 k1 n0 n1 : Nat} (hs0 : shA k0 2 n0 = true) (hs1 : shA k1 2 n1 = true)
    {sp dp n : Int32} (g1 : ¬ sp < 0) (g2 : ¬ dp < 0) (g3 : ¬ n < 0) (g4 : sp.toNatClampNeg + n.toNatClampNeg ≤ n0) (g5 : dp.toNatClampNeg + n.toNatClampNeg ≤ n1) (d : decode cc pc = .ok (.invokestatic idx, 3))
    (kk : ∀ H locs, Wx B (repL σ k1 (va_cpy (σ.2 k0) (σ.2 k1) sp.toNatClampNeg dp.toNatClampNeg n.toNatClampNeg)) s H locs → W p l e R s m args below meth c H locs cells slots Q (F0 m (pc + 3) ls rest)) : W p l e R s m args below meth c H locs cells slots Q (F0 m pc ls (.int n :: .int dp :: .ref (wA B k1) :: .int sp :: .ref (wA B k0) :: rest)) := by
  have ht := C0.1.2.2.2.2
  refine va_copyl C0.1.1 C0.1.2.1 (C0.1.2.2.1.trans hls.symm) C0.1.2.2.2.1 (ht _ hl) (ht _ h2) (ht _ h3) (ht _ h4) w.2.1 w.1 (wd_D (σ := σ) w.2.2.1 (A := own B s.heap.size) own_A) w.2.2.2.1 k0 k1 1 1 (wd_getA hs0 _ rfl) (wd_getA hs1 _ rfl) rfl rfl rfl g1 g2 g3 g4 g5 (fun _ _ => rfl) hf hlo d (fun H1 l1 hP _ hS => ?_)
  refine kk H1 l1 ⟨?_, w.2.1, w.2.2.1, hS, w.2.2.2.2⟩
  obtain ⟨q1, q2, q3⟩ := shA_ok hs1
  have e : ∀ f : Nat → Int64, ((.inl (wC B 1, n1, .inr (.inl f))) : va_E) = mk B (shp k1) (σ.1 k1) f := fun f => by simp [mk, q2, q3]
  rw [e, wd_repL] at hP
  exact hP
theorem cpZ (C0 : Cx p s m args meth c cc nL ow) (w : Wx B σ s H locs) {idx : Nat} (hl : Cond.methodLink ow idx arraycopyName ∈ GL) (h2 : Cond.native arraycopyName ∈ GL) (h3 : Cond.static arraycopyName ∈ GL) (h4 : Cond.initialized "java/lang/System" ∈ GL) (hls : ls.size = nL) (hf : 1 ≤ R.frames) (hlo : (rest.map fun v => v.category).sum + (nativeFrameWords "java/lang/System" "arraycopy" 5 + 11) ≤ R.locals) {k0 k1 n0 n1 : Nat} (hs0 : shA k0 3 n0 = true) (hs1 : shA k1 3 n1 = true)
    {sp dp n : Int32} (g1 : ¬ sp < 0) (g2 : ¬ dp < 0) (g3 : ¬ n < 0) (g4 : sp.toNatClampNeg + n.toNatClampNeg ≤ n0) (g5 : dp.toNatClampNeg + n.toNatClampNeg ≤ n1) (hz : ∀ i, i < n0 → bz (σ.1 k0 i) = true) (d : decode cc pc = .ok (.invokestatic idx, 3))
    (kk : ∀ H locs, Wx B (repI σ k1 (va_cpy (σ.1 k0) (σ.1 k1) sp.toNatClampNeg dp.toNatClampNeg n.toNatClampNeg)) s H locs → W p l e R s m args below meth c H locs cells slots Q (F0 m (pc + 3) ls rest)) : W p l e R s m args below meth c H locs cells slots Q (F0 m pc ls (.int n :: .int dp :: .ref (wA B k1) :: .int sp :: .ref (wA B k0) :: rest)) := by
  have ht := C0.1.2.2.2.2
  refine va_copyi C0.1.1 C0.1.2.1 (C0.1.2.2.1.trans hls.symm) C0.1.2.2.2.1 (ht _ hl) (ht _ h2) (ht _ h3) (ht _ h4) w.2.1 w.1 (wd_D (σ := σ) w.2.2.1 (A := own B s.heap.size) own_A) w.2.2.2.1 k0 k1 2 2 (wd_getA hs0 _ rfl) (wd_getA hs1 _ rfl) rfl rfl rfl g1 g2 g3 g4 g5 (fun i hi => ?_) hf hlo d (fun H1 l1 hP _ hS => ?_)
  · have h := hz (sp.toNatClampNeg + i) (by omega)
    simp only [bz, Bool.or_eq_true, decide_eq_true_eq] at h
    rcases h with h | h <;> rw [h] <;> decide
  refine kk H1 l1 ⟨?_, w.2.1, w.2.2.1, hS, w.2.2.2.2⟩
  obtain ⟨q1, q2, q3⟩ := shA_ok hs1
  have e : ∀ f : Nat → Int32, ((.inl (wC B 2, n1, .inl f)) : va_E) = mk B (shp k1) f (σ.2 k1) := fun f => by simp [mk, q2, q3]
  rw [e, wd_repI] at hP
  exact hP
end ROWS2
