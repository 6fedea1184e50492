/-! ===== the world: one picture of all cells, at places with numbers; its changing part is σ = (ints, longs) ===== -/
abbrev Wb : Type := va_G × (Nat → ClassId) × (Nat → Nat) × (Nat → Nat) × Nat × Nat × (Nat → Nat) × (Nat → Nat)
abbrev Mem : Type := (Nat → Nat → Int32) × (Nat → Nat → Int64)
abbrev wA (B : Wb) : Nat → Nat := B.2.2.1
abbrev wC (B : Wb) : Nat → ClassId := B.2.1
abbrev wE (B : Wb) : Nat → Nat := B.2.2.2.1
/-- the row of all words; the switch's row; the words' texts and their bytes -/
abbrev wT (B : Wb) : Nat := B.2.2.2.2.1
abbrev wS (B : Wb) : Nat := B.2.2.2.2.2.1
abbrev wK (B : Wb) : Nat → Nat := B.2.2.2.2.2.2.1
abbrev wV (B : Wb) : Nat → Nat := B.2.2.2.2.2.2.2
def kv (B : Wb) (I : Nat → Int32) (L : Nat → Int64) (j kd : Nat) : Value := if kd = 0 then .int (I j) else if kd = 1 then .long (L j) else .ref (wA B (kd - 2))
def fl (B : Wb) (I : Nat → Int32) (L : Nat → Int64) (ks : List Nat) : List Value := (List.range ks.length).map fun j => kv B I L j (ks.getD j 0)
def mk (B : Wb) (sh : Nat × Nat × List Nat) (I : Nat → Int32) (L : Nat → Int64) : va_E :=
  if sh.1 = 0 then .inr (sh.2.1, fl B I L sh.2.2)
  else if sh.1 = 1 then .inl (wC B 0, sh.2.1, .inl I)
  else if sh.1 = 2 then .inl (wC B 1, sh.2.1, .inr (.inl L))
  else if sh.1 = 3 then .inl (wC B 2, sh.2.1, .inl I)
  else if sh.1 = 4 then .inl (wC B 3, sh.2.1, .inl I)
  else if sh.1 = 5 then .inl (wC B 4, sh.2.1, .inr (.inr (.inr (.inr (fun j => some (wA B (sh.2.2.getD 0 0 + sh.2.2.getD 1 0 * j)))))))
  else if sh.1 = 6 then .inl (wC B 5, sh.2.1, .inr (.inr (.inr (.inr (fun j => some (wA B (sh.2.2.getD 0 0 + sh.2.2.getD 1 0 * j)))))))
  else .inl (wC B 6, sh.2.1, .inr (.inr (.inr (.inr (fun j => if I j < 0 then none else some (wE B (I j).toNatClampNeg))))))
/-- the shapes of the places: (0, class, kinds of its fields: 0 int, 1 long, p + 2 the cell at the place p), (1 int[], 2 long[], 3 boolean[], 4 byte[], 5 int[][], 6 State[], 7 Word[]; length; first place and step) -/
def shT : List (Nat × Nat × List Nat) :=
  [(0, 9, [3, 10, 142, 145, 184, 185, 188, 191, 221]), (0, 6, [0, 0, 0, 0, 0, 0, 1, 0, 4, 5, 6, 7, 8, 9]), (1, 64, []), (1, 64, []), (1, 16, []), (1, 16, []), (2, 16, []), (3, 16, []), (0, 1, [0, 11, 12, 77]), (1, 64, []), (5, 64, [11, 1])] ++
  List.replicate 64 (1, 8, []) ++
  [(5, 64, [76, 1])] ++
  List.replicate 64 (1, 8, []) ++
  [(0, 5, [10, 143, 144, 0]), (2, 64, []), (1, 64, []), (0, 8, [3, 10, 142, 146, 147, 148, 149, 150, 167]), (3, 16, []), (1, 64, []), (2, 16, []), (1, 16, []), (5, 16, [149, 1])] ++
  List.replicate 16 (1, 64, []) ++
  [(5, 16, [166, 1])] ++
  List.replicate 16 (1, 64, []) ++
  [(0, 3, [3, 145]), (0, 0, [3, 10, 142, 145, 184, 186, 187]), (1, 64, []), (1, 64, []), (0, 7, [3, 145, 185, 189, 190]), (1, 16, []), (2, 16, []), (0, 2, [192, 0, 0]), (6, 4, [191, 7]), (0, 6, [0, 0, 0, 0, 0, 0, 1, 0, 194, 195, 196, 197, 198, 199]), (1, 64, []), (1, 64, []), (1, 16, []), (1, 16, []), (2, 16, []), (3, 16, []), (0, 6, [0, 0, 0, 0, 0, 0, 1, 0, 201, 202, 203, 204, 205, 206]), (1, 64, []), (1, 64, []), (1, 16, []), (1, 16, []), (2, 16, []), (3, 16, []), (0, 6, [0, 0, 0, 0, 0, 0, 1, 0, 208, 209, 210, 211, 212, 213]), (1, 64, []), (1, 64, []), (1, 16, []), (1, 16, []), (2, 16, []), (3, 16, []), (0, 6, [0, 0, 0, 0, 0, 0, 1, 0, 215, 216, 217, 218, 219, 220]), (1, 64, []), (1, 64, []), (1, 16, []), (1, 16, []), (2, 16, []), (3, 16, []), (0, 4, [222, 0, 223, 224, 225, 0, 0]), (4, 120, []), (7, 120, []), (1, 120, []), (1, 120, []), (0, 10, [227, 228, 0, 229, 0, 0, 230, 231, 232, 0, 233, 1, 234, 235, 236, 237, 238, 239, 0, 0, 240, 1]), (2, 200, []), (2, 800, []), (1, 120, []), (2, 64, []), (3, 64, []), (1, 64, []), (1, 64, []), (1, 64, []), (1, 64, []), (1, 16, []), (2, 16, []), (1, 16, []), (2, 64, []), (1, 90, []), (2, 1, [])]
def shp (k : Nat) : Nat × Nat × List Nat := shT.getD k (0, 0, [])
theorem shT_len : shT.length = 240 := by decide +kernel
def wd (B : Wb) (σ : Mem) : va_W := (List.range 240).map fun k => (wA B k, mk B (shp k) (σ.1 k) (σ.2 k))
def repI (σ : Mem) (p : Nat) (f : Nat → Int32) : Mem := (fun q => if q = p then f else σ.1 q, σ.2)
def repL (σ : Mem) (p : Nat) (f : Nat → Int64) : Mem := (σ.1, fun q => if q = p then f else σ.2 q)
def setI (σ : Mem) (p j : Nat) (v : Int32) : Mem := repI σ p (upd (σ.1 p) j v)
def setL (σ : Mem) (p j : Nat) (v : Int64) : Mem := repL σ p (vp_updL (σ.2 p) j v)
theorem wd_get {B : Wb} {σ : Mem} {k : Nat} (h : k < 240) : (wd B σ)[k]? = some (wA B k, mk B (shp k) (σ.1 k) (σ.2 k)) := by
  unfold wd
  rw [List.getElem?_map, List.getElem?_range h]
  rfl
theorem wd_set {B : Wb} {σ σ' : Mem} {k : Nat} (h : ∀ q, q ≠ k → σ'.1 q = σ.1 q ∧ σ'.2 q = σ.2 q) : (wd B σ).set k (wA B k, mk B (shp k) (σ'.1 k) (σ'.2 k)) = wd B σ' := by
  apply List.ext_getElem?
  intro i
  by_cases hi : i < 240
  · by_cases hk : i = k
    · subst hk
      rw [List.getElem?_set_self (by simp [wd, hi]), wd_get hi]
    · rw [List.getElem?_set_ne (Ne.symm hk), wd_get hi, wd_get hi, (h i hk).1, (h i hk).2]
  · rw [List.getElem?_eq_none (by simp [wd]; omega), List.getElem?_eq_none (by simp [wd]; omega)]
theorem wd_repI {B : Wb} {σ : Mem} {k : Nat} {f : Nat → Int32} : (wd B σ).set k (wA B k, mk B (shp k) f (σ.2 k)) = wd B (repI σ k f) := by
  have h := wd_set (B := B) (σ := σ) (σ' := repI σ k f) (k := k) (fun q hq => by simp [repI, hq])
  simpa [repI] using h
theorem wd_repL {B : Wb} {σ : Mem} {k : Nat} {f : Nat → Int64} : (wd B σ).set k (wA B k, mk B (shp k) (σ.1 k) f) = wd B (repL σ k f) := by
  have h := wd_set (B := B) (σ := σ) (σ' := repL σ k f) (k := k) (fun q hq => by simp [repL, hq])
  simpa [repL] using h
theorem fl_get {B : Wb} {I : Nat → Int32} {L : Nat → Int64} {ks : List Nat} {j : Nat} (h : j < ks.length) : (fl B I L ks)[j]? = some (kv B I L j (ks.getD j 0)) := by
  unfold fl
  rw [List.getElem?_map, List.getElem?_range h]
  rfl
theorem fl_len {B : Wb} {I : Nat → Int32} {L : Nat → Int64} {ks : List Nat} : (fl B I L ks).length = ks.length := by simp [fl]
theorem fl_setI {B : Wb} {I : Nat → Int32} {L : Nat → Int64} {ks : List Nat} {j : Nat} {x : Int32} (h : j < ks.length) (hk : ks.getD j 0 = 0) : (fl B I L ks).set j (.int x) = fl B (upd I j x) L ks := by
  apply List.ext_getElem?
  intro i
  by_cases hi : i < ks.length
  · by_cases hj : i = j
    · subst hj
      rw [List.getElem?_set_self (by rw [fl_len]; exact hi), fl_get hi, hk]
      simp [kv, upd]
    · rw [List.getElem?_set_ne (Ne.symm hj), fl_get hi, fl_get hi]
      simp [kv, upd, hj]
  · rw [List.getElem?_eq_none (by rw [List.length_set, fl_len]; omega), List.getElem?_eq_none (by rw [fl_len]; omega)]
theorem fl_setL {B : Wb} {I : Nat → Int32} {L : Nat → Int64} {ks : List Nat} {j : Nat} {x : Int64} (h : j < ks.length) (hk : ks.getD j 0 = 1) : (fl B I L ks).set j (.long x) = fl B I (vp_updL L j x) ks := by
  apply List.ext_getElem?
  intro i
  by_cases hi : i < ks.length
  · by_cases hj : i = j
    · subst hj
      rw [List.getElem?_set_self (by rw [fl_len]; exact hi), fl_get hi, hk]
      simp [kv, vp_updL]
    · rw [List.getElem?_set_ne (Ne.symm hj), fl_get hi, fl_get hi]
      simp [kv, vp_updL, hj]
  · rw [List.getElem?_eq_none (by rw [List.length_set, fl_len]; omega), List.getElem?_eq_none (by rw [fl_len]; omega)]
/-! words: one list for all methods -/
def GL : List Cond := lw_tbl.filter goodWord
theorem gl_in {w : Cond} (i : Nat) (h : tables_1[i]? = some w) (g : goodWord w = true) : w ∈ GL := List.mem_filter.mpr ⟨List.mem_append_right _ (List.mem_of_getElem? h), g⟩
theorem gl_sel {w : Cond} (i : Nat) (h : (k2_sels lw_privs)[i]? = some w) (g : goodWord w = true) : w ∈ GL := List.mem_filter.mpr ⟨List.mem_append_left _ (List.mem_of_getElem? h), g⟩
theorem gl_good {a b : Cond} (hb : b ∈ GL) : GoodIn (a :: GL) (b :: GL) := by
  intro w hw
  have h : w ∈ GL := by
    rcases List.mem_cons.mp hw with rfl | h
    · exact hb
    · exact h
  exact ⟨List.mem_cons_of_mem _ h, good_of_word (List.mem_filter.mp h).2⟩
theorem gl_good0 {b : Cond} (hb : b ∈ GL) : GoodIn GL (b :: GL) := by
  intro w hw
  have h : w ∈ GL := by
    rcases List.mem_cons.mp hw with rfl | h
    · exact hb
    · exact h
  exact ⟨h, good_of_word (List.mem_filter.mp h).2⟩
/-! what else a method finds: where the cells lie apart; what never changes -/
def own (B : Wb) (sz : Nat) : Nat → Prop := fun q => (∃ k, k < 240 ∧ q = wA B k) ∨ sz ≤ q
def InjB (B : Wb) : Prop := ∀ i j, i < 240 → j < 240 → wA B i = wA B j → i = j
def tysB (B : Wb) : List (ClassId × FieldType) := [(wC B 0, .int), (wC B 1, .long), (wC B 2, .boolean), (wC B 3, .byte), (wC B 4, .array .int), (wC B 5, .object "SlownessImager$State"), (wC B 6, .object "SlownessImager$Word")]
theorem wd_D {B : Wb} {σ : Mem} (h : InjB B) {A : Nat → Prop} (hA : ∀ k, k < 240 → A (wA B k)) : va_D A (wd B σ) := by
  have key : ∀ (k : Nat) (q : Nat × va_E), (wd B σ)[k]? = some q → k < 240 ∧ q.1 = wA B k := by
    intro k q hq
    have hk : k < 240 := by
      have := (List.getElem?_eq_some_iff.mp hq).1
      simpa [wd] using this
    rw [wd_get hk] at hq
    cases hq
    exact ⟨hk, rfl⟩
  refine ⟨fun i j p q hi hj e => ?_, fun k q hq => ?_⟩
  · obtain ⟨h1, e1⟩ := key i p hi
    obtain ⟨h2, e2⟩ := key j q hj
    exact h i j h1 h2 (e1.symm.trans (e.trans e2))
  · obtain ⟨h1, e1⟩ := key k q hq
    rw [e1]
    exact hA k h1
theorem own_A {B : Wb} {sz : Nat} : ∀ k, k < 240 → own B sz (wA B k) := fun k h => Or.inl ⟨k, h, rfl⟩
theorem own_sz {B : Wb} {sz : Nat} : ∀ q : Nat, sz ≤ q → own B sz q := fun _ h => Or.inr h
theorem own_le {B : Wb} {sz sz' : Nat} (h : sz ≤ sz') : ∀ q, own B sz' q → own B sz q := fun q hq => hq.elim Or.inl (fun z => Or.inr (Nat.le_trans h z))
