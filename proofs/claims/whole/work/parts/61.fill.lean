/-! ===== Arrays.fill over one array of a world being born ===== -/
def Wf (B : Wb) (k N : Nat) (f : Nat → Int32) (s : State) (H : Heap) (locs : List Loc) : Prop := H[wA B k]? = some (vp_cell (wC B 0) (N, .inl f)) ∧ ArrOfT s (wC B 0) .int ∧ va_S (fun q => q = wA B k) s.heap H locs ∧ H.size = s.heap.size
def QF1 (B : Wb) (k N : Nat) (v : Int32) : Array Value → State → Outcome → State → Prop := fun _ st oc t => (oc = .returned none ∧ t.heap[wA B k]? = some (vp_cell (wC B 0) (N, .inl (fun _ => v))) ∧ t.heap.size = st.heap.size) ∧ va_F (fun q => q = wA B k) st t
def PF1 (B : Wb) (k N : Nat) (f : Nat → Int32) : State → Prop := fun U => U.heap[wA B k]? = some (vp_cell (wC B 0) (N, .inl f)) ∧ ArrOfT U (wC B 0) .int
theorem lp_fill {p : Program} {l : Launch} {e : Env} {R : Room} {s : State} {m : MethodId} {args : Array Value} {below : List Frame} {meth : Method} {c : Code} {Q : State → Prop} {B : Wb} (C0 : Cx p s m args meth c cJ7_fill_53178 4 RJ7) {k N : Nat} (hN : N < 2 ^ 31) (v : Int32) : ∀ (d i : Nat) (f : Nat → Int32) (H : Heap) (locs : List Loc) (ls : Array Slot), i + d = N → (∀ j, j < i → f j = v) → Wf B k N f s H locs → lv_has ls 4 [(2, .int (nI i)), (0, .ref (wA B k)), (1, .int v), (3, .int (nI N))] → (∀ (f : Nat → Int32) (H : Heap) (locs : List Loc) (ls : Array Slot), (∀ j, j < N → f j = v) → Wf B k N f s H locs → W p l e R s m args below meth c H locs 0 0 Q (F0 m 20 ls [])) → W p l e R s m args below meth c H locs 0 0 Q (F0 m 5 ls []) := by
  have hx := C0.1.1
  have hb := C0.1.2.1
  intro d
  induction d with
  | zero =>
    intro i f H locs ls hi hf w hl hK
    refine lv_iload_n hx hb dJ7_fill_53178_5 rfl (lv_at hl 0 rfl) ?_
    refine lv_iload_n hx hb dJ7_fill_53178_6 rfl (lv_at hl 3 rfl) ?_
    refine lv_icmp_ge (tgt := 20) hx hb dJ7_fill_53178_7 (by decide) (fun c1 => ?_) (fun c1 => ?_)
    · exact hK f H locs ls (fun j hj => hf j (by omega)) w
    · exact absurd (nI_le (show N ≤ i by omega) (by omega)) c1
  | succ d ih =>
    intro i f H locs ls hi hf w hl hK
    refine lv_iload_n hx hb dJ7_fill_53178_5 rfl (lv_at hl 0 rfl) ?_
    refine lv_iload_n hx hb dJ7_fill_53178_6 rfl (lv_at hl 3 rfl) ?_
    refine lv_icmp_ge (tgt := 20) hx hb dJ7_fill_53178_7 (by decide) (fun c1 => ?_) (fun c1 => ?_)
    · exact absurd c1 (nI_ge (show i < N by omega) hN)
    · refine lv_aload_n hx hb dJ7_fill_53178_10 rfl (lv_at hl 1 rfl) ?_
      refine lv_iload_n hx hb dJ7_fill_53178_11 rfl (lv_at hl 0 rfl) ?_
      refine lv_iload_n hx hb dJ7_fill_53178_12 rfl (lv_at hl 2 rfl) ?_
      obtain ⟨w1, w2, w3, w4⟩ := w
      refine W.iast hx hb w1 (w2 N (fun j => .int (f j))) (fun q => by cases q) (by show ¬ (nI i < 0 ∨ (arrV _ _ _).slots.size ≤ _); rw [arrV_size]; exact nI_in (show i < N by omega) hN) rfl rfl dJ7_fill_53178_13 fun H1 h1 z oq => ?_
      have w1' : H1[wA B k]? = some (vp_cell (wC B 0) (N, .inl (upd f i v))) := by
        rw [h1, vp_cell_i, vp_cell_i, arrV_store, nI_clamp (by omega)]
        congr 2
        funext q
        by_cases hq : q = i
        · subst hq; simp [updV, upd]
        · simp [updV, upd, hq]
      refine W.eq (g2 := F0 m 14 ls []) rfl ?_
      refine lv_iinc (k := 0) (v := nI (i + 1)) (lv' := [(2, .int (nI (i + 1))), (0, .ref (wA B k)), (1, .int v), (3, .int (nI N))]) hx hb dJ7_fill_53178_14 hl rfl (nI_1 i) (by decide) rfl (fun ls hl => ?_)
      refine lv_goto (tgt := 5) hx hb dJ7_fill_53178_17 (by decide) ?_
      exact ih (i + 1) (upd f i v) H1 _ ls (by omega) (fun j hj => by
        by_cases hq : j = i
        · subst hq; simp [upd]
        · simp only [upd, hq, if_false]; exact hf j (by omega)) ⟨w1', w2, w3.put z oq rfl, z.trans w4⟩ hl hK
theorem m_fill1 (l : Launch) (B : Wb) (k N : Nat) (hN : N < 2 ^ 31) (f : Nat → Int32) (v : Int32) : Met l yJ7_fill_53178 (.code yJ7_fill_53178 cJ7_fill_53178 4 none :: GL) { frames := 0, cells := 0, slots := 0, locals := 0 } (va_Pc [.ref (wA B k), .int v] (PF1 B k N f)) (QF1 B k N v) 0 0 (fun q => q = wA B k) := by
  refine Met.ofW (cc := cJ7_fill_53178) (maxL := 4) (ret := none) (by decide +kernel) rfl ?_
  intro p e s m args below meth c s₁ B0 hml hv
  obtain ⟨rfl, h1, h2⟩ := hv
  have hts := atoms_spec (ws := .code yJ7_fill_53178 cJ7_fill_53178 4 none :: GL) B0.pre
  have hown : s.vm.findClass RJ7 = some m.cls := findClass_of_methodNamed B0.named
  have C0 : Cx p s m [Value.ref (wA B k), .int v].toArray meth c cJ7_fill_53178 4 RJ7 := ⟨⟨B0.exec, B0.bytes, hml, hown, fun w h => hts w (List.mem_cons_of_mem _ h)⟩, B0.notSynchronized⟩
  have hr := B0.returns
  have hx := C0.1.1
  have hb := C0.1.2.1
  have hl := lv_entry (n := 4) [Value.ref (wA B k), .int v] (Nat.le_of_ble_eq_true rfl)
  rw [lg_entry_eq]
  generalize (lg_sl ([Value.ref (wA B k), .int v]) ++ List.replicate (4 - (lg_sl ([Value.ref (wA B k), .int v])).length) Slot.unset).toArray = ls at hl ⊢
  refine lv_iconst (v := 0) hx hb dJ7_fill_53178_0 (by decide) ?_
  refine lv_istore_n (lv' := [(2, .int 0), (0, .ref (wA B k)), (1, .int v)]) hx hb dJ7_fill_53178_1 rfl hl (by decide) rfl (fun ls hl => ?_)
  refine lv_aload_n hx hb dJ7_fill_53178_2 rfl (lv_at hl 1 rfl) ?_
  refine W.alen (n := nI N) hx hb h1 (h2 N (fun j => .int (f j))) (by rw [vp_cell_i, arrV_size]; rfl) rfl rfl dJ7_fill_53178_3 ?_
  refine W.eq (g2 := F0 m 4 ls [.int (nI N)]) rfl ?_
  refine lv_istore_n (lv' := [(3, .int (nI N)), (2, .int 0), (0, .ref (wA B k)), (1, .int v)]) hx hb dJ7_fill_53178_4 rfl hl (by decide) rfl (fun ls hl => ?_)
  refine lp_fill C0 hN v N 0 f s.heap [] ls (by omega) (fun j hj => by omega) ⟨h1, h2, va_S.rf, rfl⟩ (lv_sub hl [1, 2, 3, 0] rfl) (fun f2 H locs ls hf w => ?_)
  refine W.vret hx hb hr (fun t ht _ => ⟨⟨rfl, ?_, by rw [ht]; exact w.2.2.2⟩, w.2.2.1.F ht⟩) w.2.2.1.2.2 dJ7_fill_53178_20 (hlocks := C0.2)
  rw [ht, w.1, vp_cell_i, vp_cell_i]
  exact congrArg some (arrV_congr fun j hj => by rw [hf j hj])
theorem PF1_blind {B : Wb} {k N : Nat} {f : Nat → Int32} {av : List Value} : FrameBlind (va_Pc av (PF1 B k N f)) := fun _ U g mk q => ⟨q.1, q.2.1, arrOfT_moved (Vm.Alike.refl U.vm) q.2.2⟩
section FILL
variable {p : Program} {l : Launch} {e : Env} {R : Room} {s : State} {m : MethodId} {args : Array Value} {below : List Frame} {meth : Method} {c : Code} {H : Heap} {locs : List Loc} {cells slots : Nat} {Q : State → Prop}
variable {cc : ByteArray} {nL pc : Nat} {ow : String} {ls : Array Slot} {rest st0 : List Value} {B : Wb} {b n : Nat} {E E' : Nat → va_E}
theorem bFill (C0 : Cx p s m args meth c cc nL ow) (w : Bx B b n E s H locs) {k N idx : Nat} {f : Nat → Int32} {v : Int32} (hN : N < 2 ^ 31) (h1 : b ≤ k) (h2 : k < n) (he : E k = .inl (wC B 0, N, .inl f)) (hy : Ky yJ7_fill_53178 cJ7_fill_53178 4 none 2) (hv : Cond.static yJ7_fill_53178 ∈ GL) (hl : Cond.methodLink ow idx yJ7_fill_53178 ∈ GL) (hR : 1 ≤ R.frames ∧ 23 ≤ R.locals) (hf : cells ≤ R.cells ∧ slots ≤ R.slots) (hW : (rest.map fun v => v.category).sum ≤ 8) (hls : ls.size = nL) (d : decode cc pc = .ok (.invokestatic idx, 3))
    (kk : ∀ H locs, Bx B b n (updE E k (.inl (wC B 0, N, .inl (fun _ => v)))) s H locs → W p l e R s m args below meth c H locs cells slots Q (F0 m (pc + 3) ls rest)) : W p l e R s m args below meth c H locs cells slots Q (F0 m pc ls (.int v :: .ref (wA B k) :: rest)) := by
  have ht := C0.1.2.2.2.2
  have hcell : H[wA B k]? = some (vp_cell (wC B 0) (N, .inl f)) := by
    have g := w.at h1 h2
    rw [he] at g
    exact g
  have hr := va_runS (meth := meth) (c := c) (l := l) (e := e) (R := R) (below := below) (cells := cells) (slots := slots) (locs := locs) (H := H) (As := [.ref (wA B k), .int v]) (rest := rest) (g := F0 m pc ls (.int v :: .ref (wA B k) :: rest)) C0.1 (m_fill1 l B k N hN f v) ⟨callB_of 2 ht (by intro z hz; rcases List.mem_cons.mp hz with rfl | h; exact ⟨hy.1, good_of_word (List.mem_filter.mp hy.1).2⟩; exact ⟨h, good_of_word (List.mem_filter.mp h).2⟩) rfl rfl rfl (ht _ hy.2.1) (ht _ hl) hy.2.2 ⟨hR.1, hR.2⟩, ht _ hv⟩ ⟨PF1_blind, fun U hU hW => ⟨rfl, by rw [hU]; exact hcell, arrOfT_moved hW.alike (w.2.1.2 0 _ rfl).1⟩⟩ rfl rfl hls rfl (lv_room hW) d ⟨hf.1, hf.2⟩
  intro T hT X
  obtain ⟨v', st₀, t, T', L, h0, X', hL, e1, e2, ⟨⟨hv, hp, hz2⟩, hz, hkp⟩, st⟩ := hr T hT X
  cases hv
  rw [h0] at hz hkp hz2
  obtain ⟨g1, g2, g3, g4, g5, g6, g7, g8⟩ := w
  have hAk : AP B b (wA B k) := by show wA B b ≤ wA B k; rw [g3 b, g3 k]; omega
  have hko : ∀ q, q ≠ wA B k → q < H.size → T'.heap[q]? = H[q]? := fun q hq hlt => by rw [e1]; exact hkp q hlt hq
  obtain ⟨t2, a1, b1⟩ := kk T'.heap (locs ++ L) ⟨fun i q hq => by
      obtain ⟨hi, rfl⟩ := Pl_inv hq
      have g := g1 _ _ (Pl_get (B := B) (E := E) (b := b) (k := b + i) (by omega) hi)
      by_cases hk : b + i = k
      · rw [hk, updE_eq, e1]
        exact hp
      · rw [updE_ne hk]
        exact g.kept (hko _ (fun z => hk (by rw [g3 k, g3 (b + i)] at z; omega)) g.lt), g2, g3, ⟨Nat.le_trans g4.1 (by rw [e1]; exact hz), fun q q1 q2 => by
      rw [e1, hkp q (Nat.lt_of_lt_of_le q1 g4.1) (fun z => q2 (by rw [z]; exact hAk))]; exact g4.2.1 q q1 q2, fun q hq => by
      rcases List.mem_append.mp hq with h | h
      · exact g4.2.2 q h
      · have := hL q h
        rw [show q.base = wA B k from this]
        exact hAk⟩, g5, by rw [e1, hz2]; exact g6, g7, g8⟩ T' rfl X'
  exact ⟨t2, st t2 a1, b1⟩
end FILL
