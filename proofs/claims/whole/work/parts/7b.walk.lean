/-! ===== the law's start: both objects, out, the loop ===== -/
section BJ
variable {p : Program} {l : Launch} {e : Env} {R : Room} {s : State} {m : MethodId} {args : Array Value} {below : List Frame} {meth : Method} {c : Code} {H : Heap} {locs : List Loc} {cells slots : Nat} {Q : State → Prop}
variable {cc : ByteArray} {nL pc : Nat} {ow : String} {ls : Array Slot} {rest st0 : List Value} {B : Wb} {b n : Nat} {E E' : Nat → va_E}
theorem bGoJ {n' mc ms : Nat} {E2 : Nat → va_E} {a : Array Value} (hr : va_Run p l e R s m args below meth c H locs cells slots mc ms (F0 m pc ls st0) rest (QI B b n' E2 a) (AP B b)) (w : Bx B b n E s H locs) (hbn : b ≤ n')
    (kk : ∀ H locs, Bx B b n' E2 s H locs → W p l e R s m args below meth c H locs (cells + mc) (slots + ms) Q (F0 m (pc + 3) ls rest)) : W p l e R s m args below meth c H locs cells slots Q (F0 m pc ls st0) := by
  intro T hT X
  obtain ⟨v', st₀, t, T', L, h0, X', hL, e1, e2, ⟨⟨hv, hp, hz2⟩, hz, hkp⟩, st⟩ := hr T hT X
  cases hv
  rw [h0] at hz hkp
  obtain ⟨h1, h2, h3, h4, h5, h6, h7, h8⟩ := w
  obtain ⟨t2, a1, b1⟩ := kk T'.heap (locs ++ L) ⟨by rw [e1]; exact hp, h2, h3, ⟨Nat.le_trans h4.1 (by rw [e1]; exact hz), fun q g1 g2 => by
      rw [e1, hkp q (Nat.lt_of_lt_of_le g1 h4.1) g2]; exact h4.2.1 q g1 g2, fun q hq => by
      rcases List.mem_append.mp hq with h | h
      · exact h4.2.2 q h
      · exact hL q h⟩, h5, by rw [e1]; exact hz2, h7, hbn⟩ T' rfl X'
  exact ⟨t2, st t2 a1, b1⟩
theorem BdJ_blind {av : List Value} : FrameBlind (va_Pc av (fun U => Bd B b n E U ∧ Gst B (AP B b) U U.heap)) := fun _ U g mk q => ⟨q.1, Bd.moved (u := U) rfl (State.WarmedH.refl U) q.2.1, Gst.moved (u := U) (State.WarmedH.refl U) q.2.2⟩
theorem bCallJ (C0 : Cx p s m args meth c cc nL ow) {k n' mc ms nn maxL idx : Nat} {E2 : Nat → va_E} {y : MethodName} {bytes : ByteArray} {rm : Room} {As : List Value} (w : Bx B b n E s H locs) (hG : Gst B (AP B b) s s.heap) (hbn : b ≤ n') (hM : MetJ l y bytes maxL rm B b n E (fun U => Gst B (AP B b) U U.heap) n' E2 (.ref (wA B k) :: As) mc ms) (hy : Ky y bytes maxL none nn) (hrm : rm.cells = mc ∧ rm.slots = ms) (hin : y.name = "<init>") (hi : Cond.instanceMethod y ∈ GL) (hl : Cond.methodLink ow idx y ∈ GL)
    (hR : rm.frames + 1 ≤ R.frames ∧ 8 + (maxL + 11) + rm.locals ≤ R.locals) (hf : cells + mc ≤ R.cells ∧ slots + ms ≤ R.slots) (hn : As.length = nn) (hst : st0 = As.reverse ++ .ref (wA B k) :: rest) (hW : (rest.map fun v => v.category).sum ≤ 8) (hls : ls.size = nL) (d : decode cc pc = .ok (.invokespecial idx, 3))
    (kk : ∀ H locs, Bx B b n' E2 s H locs → W p l e R s m args below meth c H locs (cells + mc) (slots + ms) Q (F0 m (pc + 3) ls rest)) : W p l e R s m args below meth c H locs cells slots Q (F0 m pc ls st0) := by
  have ht := C0.1.2.2.2.2
  refine bGoJ (va_runI (As := As) (rest := rest) C0.1 hM (cwI nn ht (by intro z hz; rcases List.mem_cons.mp hz with rfl | h; exact ⟨hy.1, good_of_word (List.mem_filter.mp hy.1).2⟩; exact ⟨h, good_of_word (List.mem_filter.mp h).2⟩) rfl hrm.1 hrm.2 (ht _ hy.2.1) (ht _ hl) (ht _ hi) hin hy.2.2 hR) ⟨BdJ_blind, fun U hU hW => ⟨rfl, ?_, ?_⟩⟩ rfl hn hls hst (lv_room hW) d hf) w hbn kk
  · obtain ⟨h1, h2, h3, h4, h5, h6, h7, h8⟩ := w
    exact ⟨by rw [hU]; exact h1, va_K.moved hW.alike h2, h3, h5.moved hW, by rw [hU]; exact h6, h8⟩
  · show Gst B (AP B b) U U.heap
    rw [hU]
    exact (hG.kept w.2.2.2.1.2.1).moved hW
end BJ
theorem wx_born {B : Wb} {σ : Mem} {s : State} {H : Heap} {locs : List Loc} (w : Bx B 0 240 (fin B σ) s H locs) (hsz : s.heap.size = wA B 0) (hG : Gst B (AP B 0) s s.heap) : Wx B σ s H locs := by
  obtain ⟨h1, h2, h3, h4, h5, h6, h7, h8⟩ := w
  refine ⟨by rw [← Pl_wd]; exact h1, h2, h3.inj, h4.re (fun q hq => Or.inr ?_), hG.narrow (fun q hq => ?_)⟩
  · have hq' : wA B 0 ≤ q := hq
    omega
  · show wA B 0 ≤ q
    rcases hq with ⟨k, -, rfl⟩ | hq
    · rw [h3 k]; omega
    · omega
/-! the claim out of one walk of the law (from the skeleton) -/
def R_law : String := "SlownessImagerLaw"
def lw_P (b : Addr) (xs : List Int32) (args : Array Value) (s : State) : Prop := args = #[.ref b] ∧ s.IntsAt b xs ∧ xs.length ≤ 2560 ∧ (Jvm.Cond.and given_1 narrow_1).before args s = true
def lw_Q (_ : Array Value) (s : State) (o : Outcome) (t : State) : Prop := o = .returned (some (.int 1)) ∧ Framed s o t [] 601024 7293034
def lw_Z (below : List Frame) (a : Array Value) (s : State) : State → Prop := fun t => ∃ o, t.status = .running ∧ Ended t below o ∧ lw_Q a s o t
/-- the law's own end, with 1 on the stack, nothing written that was there before, its room as the claim has it -/
theorem lw_ret {p : Program} {l : Launch} {e : Env} {s : State} {m : MethodId} {below : List Frame} {meth : Method} {c : Code} {b : Nat} (hx : p.tables.exec = Jvm.exec) (hb : c.code = code) (hr : meth.sig.returnType = ret) (hlocks : meth.locks = false) {pc : Nat} {H : Heap} {ls : Array Slot} (hdg : decode code pc = .ok (.ireturn, 1)) : W p l e room_1 s m #[Value.ref b] below meth c H [] 601024 7293034 (lw_Z below #[Value.ref b] s) (F0 m pc ls [.int 1]) := by
  intro T hT X
  obtain ⟨fs, hret, hrun, hended, hW, hframe⟩ := X.leave (v := some (.int 1)) (hlocks := hlocks) (fun h => by rw [hr] at h; cases h)
  have hmeth' : T.vm.method? m = some meth := X.method'
  refine ⟨T.setFrames fs, ?_, .returned (some (.int 1)), hrun, hended, rfl, ⟨_, rfl⟩, hW, hframe⟩
  jvm_step X.here [X.here.top, hx, hb, hdg, hmeth', hr, ret, narrow_b1]
  (try refine ⟨rfl, ?_⟩); (try refine ⟨rfl, ?_⟩)
  first | (intro acts; rw [hret _ acts rfl rfl rfl]) | rw [hret _ _ rfl rfl rfl]
  exact Steps.refl _
/-- what holds at the law's entry: the machine, the code, the tables' words (any of lw_tbl by 'hts w (by decide +kernel)'), the script of L ints xs at the cell b, what the Statement gives of the start (any of its parts by flat_of_before) -/
def lw_At (p : Program) (s : State) (m : MethodId) (meth : Method) (c : Code) (b L : Nat) (xs : Nat → Int32) : Prop :=
  p.tables.exec = Jvm.exec ∧ c.code = code ∧ meth.sig.returnType = ret ∧ c.maxLocals = 8 ∧ s.vm.findClass R_law = some m.cls ∧ (∀ w ∈ lw_tbl, w.before #[Value.ref b] s = true) ∧ va_X b L xs s s.heap ∧ b < s.heap.size ∧ meth.locks = false ∧ (Jvm.Cond.and given_1 narrow_1).before #[Value.ref b] s = true
set_option maxHeartbeats 4000000 in
set_option maxRecDepth 100000 in
theorem whole_start {p : Program} {e : Env} {s : State} {m : MethodId} {below : List Frame} {meth : Method} {c : Code} (l : Launch) (hflags : l.flags = flags0) {b L : Nat} {xs : Nat → Int32} (hL : L ≤ 2560) (C0 : lw_At p s m meth c b L xs) : W p l e room_1 s m #[Value.ref b] below meth c s.heap [] 0 0 (lw_Z below #[Value.ref b] s) (entryFrame m ([Value.ref b] : List Value).toArray 8) := by
  obtain ⟨hx, hb, hr, hml, hown, hts, hX, hbl, hlocks, hgv⟩ := C0
  have hfl : l.stackTraces = false := by
    unfold Launch.stackTraces
    rw [hflags]
    decide +kernel
  have hG : ∀ w ∈ GL, w.before #[Value.ref b] s = true := fun w h => hts w (List.mem_filter.mp h).1
  have ht : ∀ w ∈ tables_1, w.before #[Value.ref b] s = true := fun w h => hts w (List.mem_append_right _ h)
  have C1 : Cx p s m #[Value.ref b] meth c cL_law 8 RL := ⟨⟨hx, hb, hml, hown, hG⟩, hlocks⟩
  have g4 : (Cond.arrayOver (.array .int)).before #[Value.ref b] s = true := hts _ (tb_in 131 (by decide +kernel))
  have g5 : (Cond.arrayOver (.object RX7)).before #[Value.ref b] s = true := hts _ (tb_in 285 (by decide +kernel))
  have g6 : (Cond.arrayOver (.object RX10)).before #[Value.ref b] s = true := hts _ (tb_in 305 (by decide +kernel))
  obtain ⟨D, fC, hK0⟩ := first_K hG g4 g5 g6
  obtain ⟨fE, tT, tM, fK, fV, hG0⟩ := first_gst hts hgv (A := fun q => s.heap.size ≤ q) (fun a ha => Nat.not_le.mpr ha) D fC (fun k => s.heap.size + k)
  obtain ⟨B, hA, hsz, hK, hGs⟩ : ∃ B : Wb, AdB B ∧ s.heap.size = wA B 0 ∧ va_K B.1 vwCl (tysB B) s ∧ Gst B (AP B 0) s s.heap := ⟨(D, fC, fun k => s.heap.size + k, fE, tT, tM, fK, fV), fun k => rfl, rfl, hK0 _ _ _ _ _ _, hG0⟩
  have hN : Nst s := ⟨fun q hq => va_Nw.of rfl (ht _ (tb_nM q hq)), va_AO.of g5, va_AO.of g6, g4⟩
  have hXL : LX b L xs B s := ⟨hX, hbl, fun h => by
    rcases h with ⟨k, -, h⟩ | h
    · rw [hA k] at h
      omega
    · omega, hL⟩
  obtain ⟨q, ρ, f1, f2, f3, f4, f5, f6⟩ := first_state
  have w : Bx B 0 0 (fin B σ0) s s.heap [] := ⟨fun k q h => by simp [Pl] at h, hK, hA, va_S.rf, hN, hsz, by omega, Nat.le_refl _⟩
  have hl := lv_entry ([.ref b]) (n := 8) (Nat.le_of_ble_eq_true rfl)
  rw [lg_entry_eq]
  generalize (lg_sl ([.ref b]) ++ List.replicate (8 - (lg_sl ([.ref b])).length) Slot.unset).toArray = ls at hl ⊢
  have hl : lv_has ls 8 [(0, .ref b)] := hl
  refine bNew (ci := 9) (fs := [.null, .null, .null, .null, .null, .null, .null, .null, .null]) C1 w rfl in_X11 tyX11 tyX11_ok kl_L_8 ins_X11 ini_X11 (by intro j hj; rcases (show j = 0 ∨ j = 1 ∨ j = 2 ∨ j = 3 ∨ j = 4 ∨ j = 5 ∨ j = 6 ∨ j = 7 ∨ j = 8 by omega) with rfl | rfl | rfl | rfl | rfl | rfl | rfl | rfl | rfl <;> rfl) (Nat.le_of_ble_eq_true rfl) (Nat.le_of_ble_eq_true rfl) dL_law_0 (fun H w => ?_)
  have w : Bx B 0 1 (EX B σ0 0 9 [.null, .null, .null, .null, .null, .null, .null, .null, .null]) s H _ := w
  refine lv_dup hx hb dL_law_3 rfl ?_
  refine bCallJ (k := 0) (As := []) (rest := [.ref (wA B 0)]) C1 w hGs (Nat.zero_le _) (i_X11_0 l B q f1) ky_X11_init ⟨rfl, rfl⟩ rfl in_X11i lk_L_101 ⟨Nat.le_of_ble_eq_true rfl, Nat.le_of_ble_eq_true rfl⟩ ⟨Nat.le_of_ble_eq_true rfl, Nat.le_of_ble_eq_true rfl⟩ rfl (by rfl) (Nat.le_of_ble_eq_true rfl) hl.1 dL_law_4 (fun H locs w => ?_)
  refine lv_astore_n (lv' := [(1, .ref (wA B 0)), (0, .ref b)]) hx hb dL_law_7 rfl hl (by decide) rfl (fun ls hl => ?_)
  refine bNew (ci := 10) (fs := [.null, .null, .int 0, .null, .int 0, .int 0, .null, .null, .null, .int 0, .null, .long 0, .null, .null, .null, .null, .null, .null, .int 0, .int 0, .null, .long 0]) C1 w rfl in_X12 tyX12 tyX12_ok kl_L_102 ins_X12 ini_X12 (by intro j hj; rcases (show j = 0 ∨ j = 1 ∨ j = 2 ∨ j = 3 ∨ j = 4 ∨ j = 5 ∨ j = 6 ∨ j = 7 ∨ j = 8 ∨ j = 9 ∨ j = 10 ∨ j = 11 ∨ j = 12 ∨ j = 13 ∨ j = 14 ∨ j = 15 ∨ j = 16 ∨ j = 17 ∨ j = 18 ∨ j = 19 ∨ j = 20 ∨ j = 21 by omega) with rfl | rfl | rfl | rfl | rfl | rfl | rfl | rfl | rfl | rfl | rfl | rfl | rfl | rfl | rfl | rfl | rfl | rfl | rfl | rfl | rfl | rfl <;> rfl) (Nat.le_of_ble_eq_true rfl) (Nat.le_of_ble_eq_true rfl) dL_law_8 (fun H w => ?_)
  have w : Bx B 0 225 (EX B q 224 10 [.null, .null, .int 0, .null, .int 0, .int 0, .null, .null, .null, .int 0, .null, .long 0, .null, .null, .null, .null, .null, .null, .int 0, .int 0, .null, .long 0]) s H _ := w
  refine lv_dup hx hb dL_law_11 rfl ?_
  refine bCallJ (k := 224) (As := []) (rest := [.ref (wA B 224)]) C1 w hGs (Nat.zero_le _) (i_X12_224 l B q ρ f2 f3) ky_X12_init ⟨rfl, rfl⟩ rfl in_X12i lk_L_104 ⟨Nat.le_of_ble_eq_true rfl, Nat.le_of_ble_eq_true rfl⟩ ⟨Nat.le_of_ble_eq_true rfl, Nat.le_of_ble_eq_true rfl⟩ rfl (by rfl) (Nat.le_of_ble_eq_true rfl) hl.1 dL_law_12 (fun H locs w => ?_)
  refine lv_astore_n (lv' := [(2, .ref (wA B 224)), (1, .ref (wA B 0)), (0, .ref b)]) hx hb dL_law_15 rfl hl (by decide) rfl (fun ls hl => ?_)
  refine lv_iconst (v := 1) hx hb dL_law_16 (by decide) ?_
  refine bArr (at_ := .long) (N := 1) (a0 := (1, .inr (.inl (fun _ => 0)))) C1 w ka_long 1 rfl rfl rfl rfl (by decide) rfl (by decide) (Nat.le_of_ble_eq_true rfl) (Nat.le_of_ble_eq_true rfl) dL_law_17 (fun H w => ?_)
  have w : Bx B 0 240 (fin B ρ) s H _ := w.congr (fun k h1 h2 => by
    by_cases hk : k = 239
    · subst hk
      rw [updE_eq]
      unfold fin
      rw [show shp 239 = (2, 1, []) from by decide +kernel, f5, f6]
      rfl
    · rw [updE_ne hk])
  have w := wx_born w hsz hGs
  refine lv_astore_n (lv' := [(3, .ref (wA B 239)), (2, .ref (wA B 224)), (1, .ref (wA B 0)), (0, .ref b)]) hx hb dL_law_19 rfl hl (by decide) rfl (fun ls hl => ?_)
  refine lv_iconst (v := 0) hx hb dL_law_20 (by decide) ?_
  refine lv_istore (lv' := [(4, .int 0), (3, .ref (wA B 239)), (2, .ref (wA B 224)), (1, .ref (wA B 0)), (0, .ref b)]) hx hb dL_law_21 hl (by decide) rfl (fun ls hl => ?_)
  refine law_loop hfl C1 hXL (fun σ H locs ls cells slots w hc hs => ?_) 512 0 ρ H locs ls _ _ (by omega) (Nat.zero_le L) (Nat.le_of_ble_eq_true rfl) (Nat.le_of_ble_eq_true rfl) w ⟨4, 4, 0, [], [], f4⟩ hl
  refine lv_iconst (v := 1) hx hb dL_law_1953 (by decide) ?_
  refine va_forget (fun z hz => ?_) (W.widen (k := 601024) (n := 7293034) hc hs (lw_ret hx hb hr hlocks dL_law_1954))
  rcases w.2.2.2.1.2.2 z hz with ⟨k, -, h⟩ | h
  · rw [h, hA k]
    omega
  · exact h
