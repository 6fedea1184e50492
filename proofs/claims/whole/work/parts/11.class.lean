def f_X11_turnRound_2 (x0 : Nat) (x1 : Int32) : Nat → Int32 → Mem → Option (Mem)
  | 0, _, _ => none
  | n + 1, x2, σ =>
    if (x1 / 2) ≤ x2 then (
      some σ)
    else (
      gd (shA x0 1 (aln x0)) (
      gd (inb x2 (aln x0)) (
      gd (shA x0 1 (aln x0)) (
      gd (inb ((x1 - 1) - x2) (aln x0)) (
      gd (shA x0 1 (aln x0)) (
      gd (inb x2 (aln x0)) (
      gd (shA x0 1 (aln x0)) (
      gd (inb ((x1 - 1) - x2) (aln x0)) (
      f_X11_turnRound_2 x0 x1 n (x2 + 1) (setI (setI σ x0 x2.toNatClampNeg (σ.1 x0 ((x1 - 1) - x2).toNatClampNeg)) x0 (((x1 - 1) - x2).toNatClampNeg) (σ.1 x0 x2.toNatClampNeg)))))))))))
def f_X11_turnRound (x0 : Nat) (x1 : Int32) (σ : Mem) : Option (Mem) :=
  bd (f_X11_turnRound_2 x0 x1 100000 0 σ) (fun q1 =>
  some q1)
abbrev rm_X11_turnRound : Room := { frames := 0, cells := 0, slots := 0, locals := 0 }
set_option maxHeartbeats 4000000 in
set_option maxRecDepth 100000 in
theorem lp_X11_turnRound_2 {p : Program} {e : Env} {s : State} {m : MethodId} {args : Array Value} {below : List Frame} {meth : Method} {c : Code} {Q : State → Prop} (l : Launch) (B : Wb) (C0 : Cx p s m args meth c cX11_turnRound 5 RX11) (x0 : Nat) (x1 : Int32) : ∀ (n : Nat) (x2 : Int32) (σ : Mem) (o : Mem) (H : Heap) (locs : List Loc) (ls : Array Slot), f_X11_turnRound_2 x0 x1 n x2 σ = some o → Wx B σ s H locs → lv_has ls 5 [(0, .ref (wA B x0)), (1, .int x1), (2, .int x2)] → (∀ (H : Heap) (locs : List Loc) (ls : Array Slot), Wx B o s H locs → lv_has ls 5 [] → W p l e rm_X11_turnRound s m args below meth c H locs 0 0 Q (F0 m 37 ls [])) → W p l e rm_X11_turnRound s m args below meth c H locs 0 0 Q (F0 m 2 ls []) := by
  have hx := C0.1.1
  have hb := C0.1.2.1
  intro n
  induction n with
  | zero =>
    intro x2 σ o H locs ls hf w hl hK
    cases hf
  | succ n ih =>
    intro x2 σ o H locs ls hf w hl hK
    rw [f_X11_turnRound_2] at hf
    refine lv_iload_n hx hb dX11_turnRound_2 rfl (lv_at hl 2 rfl) ?_
    refine lv_iload_n hx hb dX11_turnRound_3 rfl (lv_at hl 1 rfl) ?_
    refine lv_iconst (v := 2) hx hb dX11_turnRound_4 (by decide) ?_
    refine lv_idiv hx hb dX11_turnRound_5 (by decide) ?_
    refine lv_icmp_ge (tgt := 37) hx hb dX11_turnRound_6 (by decide) (fun c1 => ?_) (fun c1 => ?_)
    · rw [if_pos c1] at hf
      obtain rfl := Option.some.inj hf
      exact hK _ _ _ w (lv_sub hl [] rfl)
    · rw [if_neg c1] at hf
      refine lv_iload_n hx hb dX11_turnRound_9 rfl (lv_at hl 1 rfl) ?_
      refine lv_iconst (v := 1) hx hb dX11_turnRound_10 (by decide) ?_
      refine lv_isub hx hb dX11_turnRound_11 ?_
      refine lv_iload_n hx hb dX11_turnRound_12 rfl (lv_at hl 2 rfl) ?_
      refine lv_isub hx hb dX11_turnRound_13 ?_
      refine lv_istore_n (lv' := [(3, .int ((x1 - 1) - x2)), (0, .ref (wA B x0)), (1, .int x1), (2, .int x2)]) hx hb dX11_turnRound_14 rfl hl (by decide) rfl (fun ls hl => ?_)
      refine lv_aload_n hx hb dX11_turnRound_15 rfl (lv_at hl 1 rfl) ?_
      refine lv_iload_n hx hb dX11_turnRound_16 rfl (lv_at hl 3 rfl) ?_
      obtain ⟨g2, hf⟩ := gdE hf
      obtain ⟨g3, hf⟩ := gdE hf
      refine aI C0 w g2 (inbE g3) dX11_turnRound_17 ?_
      refine lv_istore (lv' := [(4, .int (σ.1 x0 x2.toNatClampNeg)), (3, .int ((x1 - 1) - x2)), (0, .ref (wA B x0)), (1, .int x1), (2, .int x2)]) hx hb dX11_turnRound_18 hl (by decide) rfl (fun ls hl => ?_)
      refine lv_aload_n hx hb dX11_turnRound_20 rfl (lv_at hl 2 rfl) ?_
      refine lv_iload_n hx hb dX11_turnRound_21 rfl (lv_at hl 4 rfl) ?_
      refine lv_aload_n hx hb dX11_turnRound_22 rfl (lv_at hl 2 rfl) ?_
      refine lv_iload_n hx hb dX11_turnRound_23 rfl (lv_at hl 1 rfl) ?_
      obtain ⟨g4, hf⟩ := gdE hf
      obtain ⟨g5, hf⟩ := gdE hf
      refine aI C0 w g4 (inbE g5) dX11_turnRound_24 ?_
      obtain ⟨g6, hf⟩ := gdE hf
      obtain ⟨g7, hf⟩ := gdE hf
      refine sI C0 w g6 (inbE g7) dX11_turnRound_25 (fun H locs w => ?_)
      refine lv_aload_n hx hb dX11_turnRound_26 rfl (lv_at hl 2 rfl) ?_
      refine lv_iload_n hx hb dX11_turnRound_27 rfl (lv_at hl 1 rfl) ?_
      refine lv_iload hx hb dX11_turnRound_28 (lv_at hl 0 rfl) ?_
      obtain ⟨g8, hf⟩ := gdE hf
      obtain ⟨g9, hf⟩ := gdE hf
      refine sI C0 w g8 (inbE g9) dX11_turnRound_30 (fun H locs w => ?_)
      refine lv_iinc (k := 4) (v := x2 + 1) (lv' := [(2, .int (x2 + 1)), (4, .int (σ.1 x0 x2.toNatClampNeg)), (3, .int ((x1 - 1) - x2)), (0, .ref (wA B x0)), (1, .int x1)]) hx hb dX11_turnRound_31 hl rfl (by rfl) (by decide) rfl (fun ls hl => ?_)
      refine lv_goto (tgt := 2) hx hb dX11_turnRound_34 (by decide) ?_
      exact ih (x2 + 1) (setI (setI σ x0 x2.toNatClampNeg (σ.1 x0 ((x1 - 1) - x2).toNatClampNeg)) x0 (((x1 - 1) - x2).toNatClampNeg) (σ.1 x0 x2.toNatClampNeg)) _ _ _ _ hf w (lv_sub hl [3, 4, 0] rfl) hK
set_option maxHeartbeats 4000000 in
set_option maxRecDepth 100000 in
theorem m_X11_turnRound (l : Launch) (B : Wb) (sz : Nat) (σ : Mem) (x0 : Nat) (x1 : Int32) (q : Mem) (hf : f_X11_turnRound x0 x1 σ = some q) : MetC l yX11_turnRound cX11_turnRound 5 none rm_X11_turnRound B sz σ q [.ref (wA B x0), .int x1] (none) := by
  refine met_in (by decide +kernel) (Nat.le_of_ble_eq_true rfl) ?_
  intro p e s m below meth c C0 hr w hsz ls hl
  have hx := C0.1.1
  have hb := C0.1.2.1
  unfold f_X11_turnRound at hf
  refine lv_iconst (v := 0) hx hb dX11_turnRound_0 (by decide) ?_
  refine lv_istore_n (lv' := [(2, .int 0), (0, .ref (wA B x0)), (1, .int x1)]) hx hb dX11_turnRound_1 rfl hl (by decide) rfl (fun ls hl => ?_)
  obtain ⟨q1, h2, hf⟩ := bdE hf
  refine lp_X11_turnRound_2 l B C0 x0 x1 100000 0 σ q1 _ _ _ h2 w (lv_sub hl [1, 2, 0] rfl) (fun H locs ls w hl => ?_)
  obtain rfl := Option.some.inj hf
  exact eV C0 hr w dX11_turnRound_37
def f_X9_find (x1 : Int32) (σ : Mem) : Option (Int64 × Mem) :=
  gd (inb x1 16) (
  if (σ.1 144 x1.toNatClampNeg) = 0 then (
    bd (f_X7_sourceCell x1 σ) (fun q4 =>
    bd (f_X7_receiverCell x1 σ) (fun q6 =>
    bd (f_X6_leastTime 2 q4 q6 σ) (fun q8 =>
    gd (inb x1 16) (
    bd (f_X9_traceBack x1 q4 q6 (setL q8.2 146 x1.toNatClampNeg q8.1)) (fun q11 =>
    gd (inb x1 16) (
    gd (inb x1 16) (
    bd (f_X11_turnRound (149 + 1 * x1.toNatClampNeg) (q11.1 147 x1.toNatClampNeg) q11) (fun q15 =>
    gd (inb x1 16) (
    gd (inb x1 16) (
    some (((setI q15 144 x1.toNatClampNeg 1).2 146 x1.toNatClampNeg, setI q15 144 x1.toNatClampNeg 1)))))))))))))
  else (
    gd (inb x1 16) (
    some ((σ.2 146 x1.toNatClampNeg, σ)))))
abbrev rm_X9_find : Room := { frames := 2, cells := 0, slots := 0, locals := 56 }
set_option maxHeartbeats 4000000 in
set_option maxRecDepth 100000 in
theorem m_X9_find (l : Launch) (B : Wb) (sz : Nat) (σ : Mem) (x1 : Int32) (q : Int64 × Mem) (hf : f_X9_find x1 σ = some q) : MetC l yX9_find cX9_find 4 (some .long) rm_X9_find B sz σ q.2 [.ref (wA B 143), .int x1] (some (.long q.1)) := by
  refine met_in (by decide +kernel) (Nat.le_of_ble_eq_true rfl) ?_
  intro p e s m below meth c C0 hr w hsz ls hl
  have hx := C0.1.1
  have hb := C0.1.2.1
  unfold f_X9_find at hf
  refine lv_aload_n hx hb dX9_find_0 rfl (lv_at hl 0 rfl) ?_
  refine gR C0 w 144 fk_X9_9 (by decide +kernel) dX9_find_1 ?_
  refine lv_iload_n hx hb dX9_find_4 rfl (lv_at hl 1 rfl) ?_
  obtain ⟨g1, hf⟩ := gdE hf
  refine aZ C0 w (n := 16) (by decide +kernel) (inbE g1) dX9_find_5 ?_
  refine lv_if_ne (tgt := 78) hx hb dX9_find_6 (by decide) (fun c2 => ?_) (fun c2 => ?_)
  · rw [if_neg c2] at hf
    refine lv_aload_n hx hb dX9_find_78 rfl (lv_at hl 0 rfl) ?_
    refine gR C0 w 146 fk_X9_19 (by decide +kernel) dX9_find_79 ?_
    refine lv_iload_n hx hb dX9_find_82 rfl (lv_at hl 1 rfl) ?_
    obtain ⟨g3, hf⟩ := gdE hf
    refine aL C0 w (n := 16) (by decide +kernel) (inbE g3) dX9_find_83 ?_
    obtain rfl := Option.some.inj hf
    exact eL C0 hr w dX9_find_84
  · rw [if_pos c2] at hf
    refine lv_aload_n hx hb dX9_find_9 rfl (lv_at hl 0 rfl) ?_
    refine gR C0 w 1 fk_X9_34 (by decide +kernel) dX9_find_10 ?_
    refine lv_iload_n hx hb dX9_find_13 rfl (lv_at hl 1 rfl) ?_
    obtain ⟨q4, h5, hf⟩ := bdE hf
    refine cV (As := [.int x1]) (rest := []) (k := 1) (ci := 6) (T := TX7) (N := 14) C0 w (m_X7_sourceCell l B _ σ x1 q4 h5) ky_X7_sourceCell kv_X7_sourceCell lk_X9_46 rfl (by decide +kernel) ⟨Nat.le_of_ble_eq_true rfl, Nat.le_of_ble_eq_true rfl⟩ ⟨Nat.le_of_ble_eq_true rfl, Nat.le_of_ble_eq_true rfl⟩ rfl (by rfl) (Nat.le_of_ble_eq_true rfl) hl.1 dX9_find_14 (fun H locs w => ?_)
    refine lv_istore_n (lv' := [(2, .int q4), (0, .ref (wA B 143)), (1, .int x1)]) hx hb dX9_find_17 rfl hl (by decide) rfl (fun ls hl => ?_)
    refine lv_aload_n hx hb dX9_find_18 rfl (lv_at hl 1 rfl) ?_
    refine gR C0 w 1 fk_X9_34 (by decide +kernel) dX9_find_19 ?_
    refine lv_iload_n hx hb dX9_find_22 rfl (lv_at hl 2 rfl) ?_
    obtain ⟨q6, h7, hf⟩ := bdE hf
    refine cV (As := [.int x1]) (rest := []) (k := 1) (ci := 6) (T := TX7) (N := 14) C0 w (m_X7_receiverCell l B _ σ x1 q6 h7) ky_X7_receiverCell kv_X7_receiverCell lk_X9_52 rfl (by decide +kernel) ⟨Nat.le_of_ble_eq_true rfl, Nat.le_of_ble_eq_true rfl⟩ ⟨Nat.le_of_ble_eq_true rfl, Nat.le_of_ble_eq_true rfl⟩ rfl (by rfl) (Nat.le_of_ble_eq_true rfl) hl.1 dX9_find_23 (fun H locs w => ?_)
    refine lv_istore_n (lv' := [(3, .int q6), (2, .int q4), (0, .ref (wA B 143)), (1, .int x1)]) hx hb dX9_find_26 rfl hl (by decide) rfl (fun ls hl => ?_)
    refine lv_aload_n hx hb dX9_find_27 rfl (lv_at hl 2 rfl) ?_
    refine gR C0 w 146 fk_X9_19 (by decide +kernel) dX9_find_28 ?_
    refine lv_iload_n hx hb dX9_find_31 rfl (lv_at hl 3 rfl) ?_
    refine lv_aload_n hx hb dX9_find_32 rfl (lv_at hl 2 rfl) ?_
    refine gR C0 w 140 fk_X9_42 (by decide +kernel) dX9_find_33 ?_
    refine lv_aload_n hx hb dX9_find_36 rfl (lv_at hl 2 rfl) ?_
    refine gR C0 w 1 fk_X9_34 (by decide +kernel) dX9_find_37 ?_
    refine gR C0 w 2 fk_X9_55 (by decide +kernel) dX9_find_40 ?_
    refine lv_iload_n hx hb dX9_find_43 rfl (lv_at hl 1 rfl) ?_
    refine lv_iload_n hx hb dX9_find_44 rfl (lv_at hl 0 rfl) ?_
    obtain ⟨q8, h9, hf⟩ := bdE hf
    refine cV (As := [.ref (wA B 2), .int q4, .int q6]) (rest := [.int x1, .ref (wA B 146)]) (k := 140) (ci := 5) (T := TX6) (N := 4) C0 w (m_X6_leastTime l B _ σ 2 q4 q6 q8 h9) ky_X6_leastTime kv_X6_leastTime lk_X9_58 rfl (by decide +kernel) ⟨Nat.le_of_ble_eq_true rfl, Nat.le_of_ble_eq_true rfl⟩ ⟨Nat.le_of_ble_eq_true rfl, Nat.le_of_ble_eq_true rfl⟩ rfl (by rfl) (Nat.le_of_ble_eq_true rfl) hl.1 dX9_find_45 (fun H locs w => ?_)
    obtain ⟨g10, hf⟩ := gdE hf
    refine sL C0 w (n := 16) (by decide +kernel) (inbE g10) dX9_find_48 (fun H locs w => ?_)
    refine lv_aload_n hx hb dX9_find_49 rfl (lv_at hl 2 rfl) ?_
    refine lv_iload_n hx hb dX9_find_50 rfl (lv_at hl 3 rfl) ?_
    refine lv_iload_n hx hb dX9_find_51 rfl (lv_at hl 1 rfl) ?_
    refine lv_iload_n hx hb dX9_find_52 rfl (lv_at hl 0 rfl) ?_
    obtain ⟨q11, h12, hf⟩ := bdE hf
    refine cV (As := [.int x1, .int q4, .int q6]) (rest := []) (k := 143) (ci := 8) (T := TX9) (N := 9) C0 w (m_X9_traceBack l B _ (setL q8.2 146 x1.toNatClampNeg q8.1) x1 q4 q6 q11 h12) ky_X9_traceBack kv_X9_traceBack lk_X9_64 rfl (by decide +kernel) ⟨Nat.le_of_ble_eq_true rfl, Nat.le_of_ble_eq_true rfl⟩ ⟨Nat.le_of_ble_eq_true rfl, Nat.le_of_ble_eq_true rfl⟩ rfl (by rfl) (Nat.le_of_ble_eq_true rfl) hl.1 dX9_find_53 (fun H locs w => ?_)
    refine lv_aload_n hx hb dX9_find_56 rfl (lv_at hl 2 rfl) ?_
    refine gR C0 w 148 fk_X9_28 (by decide +kernel) dX9_find_57 ?_
    refine lv_iload_n hx hb dX9_find_60 rfl (lv_at hl 3 rfl) ?_
    obtain ⟨g13, hf⟩ := gdE hf
    refine aG C0 w (n := 16) 149 1 (by decide +kernel) rfl (inbE g13) dX9_find_61 ?_
    refine lv_aload_n hx hb dX9_find_62 rfl (lv_at hl 2 rfl) ?_
    refine gR C0 w 147 fk_X9_23 (by decide +kernel) dX9_find_63 ?_
    refine lv_iload_n hx hb dX9_find_66 rfl (lv_at hl 3 rfl) ?_
    obtain ⟨g14, hf⟩ := gdE hf
    refine aI C0 w (n := 16) (by decide +kernel) (inbE g14) dX9_find_67 ?_
    obtain ⟨q15, h16, hf⟩ := bdE hf
    refine cN (As := [.ref (wA B (149 + 1 * x1.toNatClampNeg)), .int (q11.1 147 x1.toNatClampNeg)]) (rest := []) (host := RX11) (idx := 68) C0 w (m_X11_turnRound l B _ q11 (149 + 1 * x1.toNatClampNeg) (q11.1 147 x1.toNatClampNeg) q15 h16) ky_X11_turnRound ks_X11_turnRound (by decide) ⟨Nat.le_of_ble_eq_true rfl, Nat.le_of_ble_eq_true rfl⟩ ⟨Nat.le_of_ble_eq_true rfl, Nat.le_of_ble_eq_true rfl⟩ rfl (by rfl) (Nat.le_of_ble_eq_true rfl) hl.1 dX9_find_68 (fun H locs w => ?_)
    refine lv_aload_n hx hb dX9_find_71 rfl (lv_at hl 2 rfl) ?_
    refine gR C0 w 144 fk_X9_9 (by decide +kernel) dX9_find_72 ?_
    refine lv_iload_n hx hb dX9_find_75 rfl (lv_at hl 3 rfl) ?_
    refine lv_iconst (v := 1) hx hb dX9_find_76 (by decide) ?_
    obtain ⟨g17, hf⟩ := gdE hf
    refine sZ C0 w (n := 16) (by decide +kernel) (inbE g17) (bzV (by decide)) dX9_find_77 (fun H locs w => ?_)
    refine lv_aload_n hx hb dX9_find_78 rfl (lv_at hl 2 rfl) ?_
    refine gR C0 w 146 fk_X9_19 (by decide +kernel) dX9_find_79 ?_
    refine lv_iload_n hx hb dX9_find_82 rfl (lv_at hl 3 rfl) ?_
    obtain ⟨g18, hf⟩ := gdE hf
    refine aL C0 w (n := 16) (by decide +kernel) (inbE g18) dX9_find_83 ?_
    obtain rfl := Option.some.inj hf
    exact eL C0 hr w dX9_find_84
def f_J9_floorDiv_f86c9 (x0 : Int64) (x2 : Int64) (σ : Mem) : Option (Int64) :=
  gd (nz8 x2) (
  if 0 ≤ (x0 ^^^ x2) then (
    some (x0 / x2))
  else (
    if ((x0 / x2) * x2) = x0 then (
      some (x0 / x2))
    else (
      some ((x0 / x2) - 1))))
abbrev rm_J9_floorDiv_f86c9 : Room := { frames := 0, cells := 0, slots := 0, locals := 0 }
set_option maxHeartbeats 4000000 in
set_option maxRecDepth 100000 in
theorem m_J9_floorDiv_f86c9 (l : Launch) (B : Wb) (sz : Nat) (σ : Mem) (x0 : Int64) (x2 : Int64) (q : Int64) (hf : f_J9_floorDiv_f86c9 x0 x2 σ = some q) : MetC l yJ9_floorDiv_f86c9 cJ9_floorDiv_f86c9 6 (some .long) rm_J9_floorDiv_f86c9 B sz σ σ [.long x0, .long x2] (some (.long q)) := by
  refine met_inF (by decide +kernel) (Nat.le_of_ble_eq_true rfl) ?_
  intro p e s m below meth c C0 hr w hsz ls hl
  have hx := C0.1.1
  have hb := C0.1.2.1
  unfold f_J9_floorDiv_f86c9 at hf
  refine lv_lload_n hx hb dJ9_floorDiv_f86c9_0 rfl (lv_at hl 0 rfl) ?_
  refine lv_lload_n hx hb dJ9_floorDiv_f86c9_1 rfl (lv_at hl 1 rfl) ?_
  obtain ⟨g1, hf⟩ := gdE hf
  refine lv_ldiv hx hb dJ9_floorDiv_f86c9_2 (nz8E g1) ?_
  refine lv_lstore (lv' := [(4, .long (x0 / x2)), (0, .long x0), (2, .long x2)]) hx hb dJ9_floorDiv_f86c9_3 hl (by decide) rfl (fun ls hl => ?_)
  refine lv_lload_n hx hb dJ9_floorDiv_f86c9_5 rfl (lv_at hl 1 rfl) ?_
  refine lv_lload_n hx hb dJ9_floorDiv_f86c9_6 rfl (lv_at hl 2 rfl) ?_
  refine lv_lxor hx hb dJ9_floorDiv_f86c9_7 ?_
  refine lv_lconst (v := 0) hx hb dJ9_floorDiv_f86c9_8 (by decide) ?_
  refine lc_ge (tgt := 27) C0 dJ9_floorDiv_f86c9_9 dJ9_floorDiv_f86c9_10 (by decide) (fun c2 => ?_) (fun c2 => ?_)
  · rw [if_pos c2] at hf
    refine lv_lload hx hb dJ9_floorDiv_f86c9_27 (lv_at hl 0 rfl) ?_
    obtain rfl := Option.some.inj hf
    exact eL C0 hr w dJ9_floorDiv_f86c9_29
  · rw [if_neg c2] at hf
    refine lv_lload hx hb dJ9_floorDiv_f86c9_13 (lv_at hl 0 rfl) ?_
    refine lv_lload_n hx hb dJ9_floorDiv_f86c9_15 rfl (lv_at hl 2 rfl) ?_
    refine lv_lmul hx hb dJ9_floorDiv_f86c9_16 ?_
    refine lv_lload_n hx hb dJ9_floorDiv_f86c9_17 rfl (lv_at hl 1 rfl) ?_
    refine lc_eq (tgt := 27) C0 dJ9_floorDiv_f86c9_18 dJ9_floorDiv_f86c9_19 (by decide) (fun c3 => ?_) (fun c3 => ?_)
    · rw [if_pos c3] at hf
      refine lv_lload hx hb dJ9_floorDiv_f86c9_27 (lv_at hl 0 rfl) ?_
      obtain rfl := Option.some.inj hf
      exact eL C0 hr w dJ9_floorDiv_f86c9_29
    · rw [if_neg c3] at hf
      refine lv_lload hx hb dJ9_floorDiv_f86c9_22 (lv_at hl 0 rfl) ?_
      refine lv_lconst (v := 1) hx hb dJ9_floorDiv_f86c9_24 (by decide) ?_
      refine lv_lsub hx hb dJ9_floorDiv_f86c9_25 ?_
      obtain rfl := Option.some.inj hf
      exact eL C0 hr w dJ9_floorDiv_f86c9_26
def f_X11_roundedQuotient (x0 : Int64) (x2 : Int64) (σ : Mem) : Option (Int64) :=
  if x2 ≤ 0 then (
    some 0)
  else (
    bd (f_J9_floorDiv_f86c9 ((2 * x0) + x2) (2 * x2) σ) (fun q2 =>
    some q2))
abbrev rm_X11_roundedQuotient : Room := { frames := 1, cells := 0, slots := 0, locals := 25 }
set_option maxHeartbeats 4000000 in
set_option maxRecDepth 100000 in
theorem m_X11_roundedQuotient (l : Launch) (B : Wb) (sz : Nat) (σ : Mem) (x0 : Int64) (x2 : Int64) (q : Int64) (hf : f_X11_roundedQuotient x0 x2 σ = some q) : MetC l yX11_roundedQuotient cX11_roundedQuotient 4 (some .long) rm_X11_roundedQuotient B sz σ σ [.long x0, .long x2] (some (.long q)) := by
  refine met_in (by decide +kernel) (Nat.le_of_ble_eq_true rfl) ?_
  intro p e s m below meth c C0 hr w hsz ls hl
  have hx := C0.1.1
  have hb := C0.1.2.1
  unfold f_X11_roundedQuotient at hf
  refine lv_lload_n hx hb dX11_roundedQuotient_0 rfl (lv_at hl 1 rfl) ?_
  refine lv_lconst (v := 0) hx hb dX11_roundedQuotient_1 (by decide) ?_
  refine lc_le (tgt := 24) C0 dX11_roundedQuotient_2 dX11_roundedQuotient_3 (by decide) (fun c1 => ?_) (fun c1 => ?_)
  · rw [if_pos c1] at hf
    refine lv_lconst (v := 0) hx hb dX11_roundedQuotient_24 (by decide) ?_
    obtain rfl := Option.some.inj hf
    exact eL C0 hr w dX11_roundedQuotient_25
  · rw [if_neg c1] at hf
    refine kLg C0 2 kc_X11_377 dX11_roundedQuotient_6 ?_
    refine lv_lload_n hx hb dX11_roundedQuotient_9 rfl (lv_at hl 0 rfl) ?_
    refine lv_lmul hx hb dX11_roundedQuotient_10 ?_
    refine lv_lload_n hx hb dX11_roundedQuotient_11 rfl (lv_at hl 1 rfl) ?_
    refine lv_ladd hx hb dX11_roundedQuotient_12 ?_
    refine kLg C0 2 kc_X11_377 dX11_roundedQuotient_13 ?_
    refine lv_lload_n hx hb dX11_roundedQuotient_16 rfl (lv_at hl 1 rfl) ?_
    refine lv_lmul hx hb dX11_roundedQuotient_17 ?_
    obtain ⟨q2, h3, hf⟩ := bdE hf
    refine cS (As := [.long ((2 * x0) + x2), .long (2 * x2)]) (rest := []) C0 w (m_J9_floorDiv_f86c9 l B _ σ ((2 * x0) + x2) (2 * x2) q2 h3) ky_J9_floorDiv_f86c9 ks_J9_floorDiv_f86c9 lk_X11_379 ⟨Nat.le_of_ble_eq_true rfl, Nat.le_of_ble_eq_true rfl⟩ ⟨Nat.le_of_ble_eq_true rfl, Nat.le_of_ble_eq_true rfl⟩ rfl (by rfl) (Nat.le_of_ble_eq_true rfl) hl.1 dX11_roundedQuotient_18 (fun H locs w => ?_)
    refine lv_goto (tgt := 25) hx hb dX11_roundedQuotient_21 (by decide) ?_
    obtain rfl := Option.some.inj hf
    exact eL C0 hr w dX11_roundedQuotient_25
def f_X1_project_58 (x2 : Int64) (x4 : Nat) (x5 : Nat) (x6 : Int32) (σ : Mem) : Nat → Int64 → Int32 → Option (Int64)
  | 0, _, _ => none
  | n + 1, x7, x9 =>
    if x6 ≤ x9 then (
      some x7)
    else (
      gd (shA x4 1 (aln x4)) (
      gd (inb x9 (aln x4)) (
      gd (shA x5 1 (aln x5)) (
      gd (inb (σ.1 x4 x9.toNatClampNeg) (aln x5)) (
      gd (shA x4 1 (aln x4)) (
      gd (inb x9 (aln x4)) (
      gd (shA x5 1 (aln x5)) (
      gd (inb (σ.1 x4 x9.toNatClampNeg) (aln x5)) (
      f_X1_project_58 x2 x4 x5 x6 σ n (x7 + (((σ.1 x5 (σ.1 x4 x9.toNatClampNeg).toNatClampNeg).toInt64) * ((σ.1 x5 (σ.1 x4 x9.toNatClampNeg).toNatClampNeg).toInt64))) (x9 + 1))))))))))
def f_X1_project_101 (x2 : Int64) (x4 : Nat) (x5 : Nat) (x6 : Int32) (x7 : Int64) : Nat → Int32 → Int32 → Mem → Option (Int32 × Mem)
  | 0, _, _, _ => none
  | n + 1, x9, x10, σ =>
    if x6 ≤ x10 then (
      some ((x9, σ)))
    else (
      gd (shA x4 1 (aln x4)) (
      gd (inb x10 (aln x4)) (
      gd (shA x5 1 (aln x5)) (
      gd (inb (σ.1 x4 x10.toNatClampNeg) (aln x5)) (
      bd (f_X11_roundedQuotient ((((σ.1 1 4).toInt64) * x2) * ((σ.1 x5 (σ.1 x4 x10.toNatClampNeg).toNatClampNeg).toInt64)) (1000 * x7) σ) (fun q6 =>
      gd (inb (σ.1 x4 x10.toNatClampNeg) 64) (
      bd (f_X11_clamped (((σ.1 2 (σ.1 x4 x10.toNatClampNeg).toNatClampNeg).toInt64) + q6) (σ.1 1 2) (σ.1 1 3) σ) (fun q9 =>
      gd (inb (σ.1 x4 x10.toNatClampNeg) 64) (
      if q9 = (σ.1 2 (σ.1 x4 x10.toNatClampNeg).toNatClampNeg) then (
        f_X1_project_101 x2 x4 x5 x6 x7 n x9 (x10 + 1) σ)
      else (
        gd (inb (σ.1 x4 x10.toNatClampNeg) 64) (
        f_X1_project_101 x2 x4 x5 x6 x7 n (x9 + 1) (x10 + 1) (setI σ 2 ((σ.1 x4 x10.toNatClampNeg).toNatClampNeg) q9))))))))))))
def f_X1_project (x1 : Int32) (σ : Mem) : Option (Int32 × Mem) :=
  gd (inb x1 16) (
  bd (f_X9_find x1 σ) (fun q2 =>
  gd (inb x1 16) (
  gd (inb x1 16) (
  gd (inb x1 16) (
  bd (f_X1_project_58 ((σ.2 6 x1.toNatClampNeg) - q2.1) (149 + 1 * x1.toNatClampNeg) (166 + 1 * x1.toNatClampNeg) (q2.2.1 147 x1.toNatClampNeg) q2.2 100000 0 0) (fun q7 =>
  bd (f_X1_project_101 ((σ.2 6 x1.toNatClampNeg) - q2.1) (149 + 1 * x1.toNatClampNeg) (166 + 1 * x1.toNatClampNeg) (q2.2.1 147 x1.toNatClampNeg) q7 100000 0 0 q2.2) (fun q9 =>
  if q9.1 ≤ 0 then (
    some ((q9.1, q9.2)))
  else (
    bd (f_X9_forgetAll q9.2) (fun q12 =>
    some ((q9.1, q12)))))))))))
abbrev rm_X1_project : Room := { frames := 3, cells := 0, slots := 0, locals := 79 }
set_option maxHeartbeats 4000000 in
set_option maxRecDepth 100000 in
theorem lp_X1_project_58 {p : Program} {e : Env} {s : State} {m : MethodId} {args : Array Value} {below : List Frame} {meth : Method} {c : Code} {Q : State → Prop} (l : Launch) (B : Wb) (C0 : Cx p s m args meth c cX1_project 15 RX1) (x2 : Int64) (x4 : Nat) (x5 : Nat) (x6 : Int32) : ∀ (n : Nat) (x7 : Int64) (x9 : Int32) (σ : Mem) (o : Int64) (H : Heap) (locs : List Loc) (ls : Array Slot), f_X1_project_58 x2 x4 x5 x6 σ n x7 x9 = some o → Wx B σ s H locs → lv_has ls 15 [(0, .ref (wA B 183)), (2, .long x2), (4, .ref (wA B x4)), (5, .ref (wA B x5)), (6, .int x6), (7, .long x7), (9, .int x9)] → (∀ (H : Heap) (locs : List Loc) (ls : Array Slot), Wx B σ s H locs → lv_has ls 15 [(0, .ref (wA B 183)), (2, .long x2), (4, .ref (wA B x4)), (5, .ref (wA B x5)), (6, .int x6), (7, .long o)] → W p l e rm_X1_project s m args below meth c H locs 0 0 Q (F0 m 95 ls [])) → W p l e rm_X1_project s m args below meth c H locs 0 0 Q (F0 m 58 ls []) := by
  have hx := C0.1.1
  have hb := C0.1.2.1
  intro n
  induction n with
  | zero =>
    intro x7 x9 σ o H locs ls hf w hl hK
    cases hf
  | succ n ih =>
    intro x7 x9 σ o H locs ls hf w hl hK
    rw [f_X1_project_58] at hf
    refine lv_iload hx hb dX1_project_58 (lv_at hl 6 rfl) ?_
    refine lv_iload hx hb dX1_project_60 (lv_at hl 4 rfl) ?_
    refine lv_icmp_ge (tgt := 95) hx hb dX1_project_62 (by decide) (fun c1 => ?_) (fun c1 => ?_)
    · rw [if_pos c1] at hf
      obtain rfl := Option.some.inj hf
      exact hK _ _ _ w (lv_sub hl [0, 1, 2, 3, 4, 5] rfl)
    · rw [if_neg c1] at hf
      refine lv_lload hx hb dX1_project_65 (lv_at hl 5 rfl) ?_
      refine lv_aload hx hb dX1_project_67 (lv_at hl 3 rfl) ?_
      refine lv_aload hx hb dX1_project_69 (lv_at hl 2 rfl) ?_
      refine lv_iload hx hb dX1_project_71 (lv_at hl 6 rfl) ?_
      obtain ⟨g2, hf⟩ := gdE hf
      obtain ⟨g3, hf⟩ := gdE hf
      refine aI C0 w g2 (inbE g3) dX1_project_73 ?_
      obtain ⟨g4, hf⟩ := gdE hf
      obtain ⟨g5, hf⟩ := gdE hf
      refine aI C0 w g4 (inbE g5) dX1_project_74 ?_
      refine lv_i2l hx hb dX1_project_75 rfl ?_
      refine lv_aload hx hb dX1_project_76 (lv_at hl 3 rfl) ?_
      refine lv_aload hx hb dX1_project_78 (lv_at hl 2 rfl) ?_
      refine lv_iload hx hb dX1_project_80 (lv_at hl 6 rfl) ?_
      obtain ⟨g6, hf⟩ := gdE hf
      obtain ⟨g7, hf⟩ := gdE hf
      refine aI C0 w g6 (inbE g7) dX1_project_82 ?_
      obtain ⟨g8, hf⟩ := gdE hf
      obtain ⟨g9, hf⟩ := gdE hf
      refine aI C0 w g8 (inbE g9) dX1_project_83 ?_
      refine lv_i2l hx hb dX1_project_84 rfl ?_
      refine lv_lmul hx hb dX1_project_85 ?_
      refine lv_ladd hx hb dX1_project_86 ?_
      refine lv_lstore (lv' := [(7, .long (x7 + (((σ.1 x5 (σ.1 x4 x9.toNatClampNeg).toNatClampNeg).toInt64) * ((σ.1 x5 (σ.1 x4 x9.toNatClampNeg).toNatClampNeg).toInt64)))), (0, .ref (wA B 183)), (2, .long x2), (4, .ref (wA B x4)), (5, .ref (wA B x5)), (6, .int x6), (9, .int x9)]) hx hb dX1_project_87 hl (by decide) rfl (fun ls hl => ?_)
      refine lv_iinc (k := 6) (v := x9 + 1) (lv' := [(9, .int (x9 + 1)), (7, .long (x7 + (((σ.1 x5 (σ.1 x4 x9.toNatClampNeg).toNatClampNeg).toInt64) * ((σ.1 x5 (σ.1 x4 x9.toNatClampNeg).toNatClampNeg).toInt64)))), (0, .ref (wA B 183)), (2, .long x2), (4, .ref (wA B x4)), (5, .ref (wA B x5)), (6, .int x6)]) hx hb dX1_project_89 hl rfl (by rfl) (by decide) rfl (fun ls hl => ?_)
      refine lv_goto (tgt := 58) hx hb dX1_project_92 (by decide) ?_
      exact ih (x7 + (((σ.1 x5 (σ.1 x4 x9.toNatClampNeg).toNatClampNeg).toInt64) * ((σ.1 x5 (σ.1 x4 x9.toNatClampNeg).toNatClampNeg).toInt64))) (x9 + 1) σ _ _ _ _ hf w (lv_sub hl [2, 3, 4, 5, 6, 1, 0] rfl) hK
set_option maxHeartbeats 4000000 in
set_option maxRecDepth 100000 in
theorem lp_X1_project_101 {p : Program} {e : Env} {s : State} {m : MethodId} {args : Array Value} {below : List Frame} {meth : Method} {c : Code} {Q : State → Prop} (l : Launch) (B : Wb) (C0 : Cx p s m args meth c cX1_project 15 RX1) (x2 : Int64) (x4 : Nat) (x5 : Nat) (x6 : Int32) (x7 : Int64) : ∀ (n : Nat) (x9 : Int32) (x10 : Int32) (σ : Mem) (o : Int32 × Mem) (H : Heap) (locs : List Loc) (ls : Array Slot), f_X1_project_101 x2 x4 x5 x6 x7 n x9 x10 σ = some o → Wx B σ s H locs → lv_has ls 15 [(0, .ref (wA B 183)), (2, .long x2), (4, .ref (wA B x4)), (5, .ref (wA B x5)), (6, .int x6), (7, .long x7), (9, .int x9), (10, .int x10)] → (∀ (H : Heap) (locs : List Loc) (ls : Array Slot), Wx B o.2 s H locs → lv_has ls 15 [(0, .ref (wA B 183)), (9, .int o.1)] → W p l e rm_X1_project s m args below meth c H locs 0 0 Q (F0 m 212 ls [])) → W p l e rm_X1_project s m args below meth c H locs 0 0 Q (F0 m 101 ls []) := by
  have hx := C0.1.1
  have hb := C0.1.2.1
  intro n
  induction n with
  | zero =>
    intro x9 x10 σ o H locs ls hf w hl hK
    cases hf
  | succ n ih =>
    intro x9 x10 σ o H locs ls hf w hl hK
    rw [f_X1_project_101] at hf
    refine lv_iload hx hb dX1_project_101 (lv_at hl 7 rfl) ?_
    refine lv_iload hx hb dX1_project_103 (lv_at hl 4 rfl) ?_
    refine lv_icmp_ge (tgt := 212) hx hb dX1_project_105 (by decide) (fun c1 => ?_) (fun c1 => ?_)
    · rw [if_pos c1] at hf
      obtain rfl := Option.some.inj hf
      exact hK _ _ _ w (lv_sub hl [0, 6] rfl)
    · rw [if_neg c1] at hf
      refine lv_aload hx hb dX1_project_108 (lv_at hl 2 rfl) ?_
      refine lv_iload hx hb dX1_project_110 (lv_at hl 7 rfl) ?_
      obtain ⟨g2, hf⟩ := gdE hf
      obtain ⟨g3, hf⟩ := gdE hf
      refine aI C0 w g2 (inbE g3) dX1_project_112 ?_
      refine lv_istore (lv' := [(11, .int (σ.1 x4 x10.toNatClampNeg)), (0, .ref (wA B 183)), (2, .long x2), (4, .ref (wA B x4)), (5, .ref (wA B x5)), (6, .int x6), (7, .long x7), (9, .int x9), (10, .int x10)]) hx hb dX1_project_113 hl (by decide) rfl (fun ls hl => ?_)
      refine lv_aload_n hx hb dX1_project_115 rfl (lv_at hl 1 rfl) ?_
      refine gR C0 w 1 fk_X1_18 (by decide +kernel) dX1_project_116 ?_
      refine gI C0 w fk_X1_120 (by decide +kernel) dX1_project_119 ?_
      refine lv_i2l hx hb dX1_project_122 rfl ?_
      refine lv_lload_n hx hb dX1_project_123 rfl (lv_at hl 2 rfl) ?_
      refine lv_lmul hx hb dX1_project_124 ?_
      refine lv_aload hx hb dX1_project_125 (lv_at hl 4 rfl) ?_
      refine lv_iload hx hb dX1_project_127 (lv_at hl 0 rfl) ?_
      obtain ⟨g4, hf⟩ := gdE hf
      obtain ⟨g5, hf⟩ := gdE hf
      refine aI C0 w g4 (inbE g5) dX1_project_129 ?_
      refine lv_i2l hx hb dX1_project_130 rfl ?_
      refine lv_lmul hx hb dX1_project_131 ?_
      refine kLg C0 1000 kc_X1_91 dX1_project_132 ?_
      refine lv_lload hx hb dX1_project_135 (lv_at hl 6 rfl) ?_
      refine lv_lmul hx hb dX1_project_137 ?_
      obtain ⟨q6, h7, hf⟩ := bdE hf
      refine cN (As := [.long ((((σ.1 1 4).toInt64) * x2) * ((σ.1 x5 (σ.1 x4 x10.toNatClampNeg).toNatClampNeg).toInt64)), .long (1000 * x7)]) (rest := []) (host := RX11) (idx := 123) C0 w (m_X11_roundedQuotient l B _ σ ((((σ.1 1 4).toInt64) * x2) * ((σ.1 x5 (σ.1 x4 x10.toNatClampNeg).toNatClampNeg).toInt64)) (1000 * x7) q6 h7) ky_X11_roundedQuotient ks_X11_roundedQuotient (by decide) ⟨Nat.le_of_ble_eq_true rfl, Nat.le_of_ble_eq_true rfl⟩ ⟨Nat.le_of_ble_eq_true rfl, Nat.le_of_ble_eq_true rfl⟩ rfl (by rfl) (Nat.le_of_ble_eq_true rfl) hl.1 dX1_project_138 (fun H locs w => ?_)
      refine lv_lstore (lv' := [(12, .long q6), (11, .int (σ.1 x4 x10.toNatClampNeg)), (0, .ref (wA B 183)), (2, .long x2), (4, .ref (wA B x4)), (5, .ref (wA B x5)), (6, .int x6), (7, .long x7), (9, .int x9), (10, .int x10)]) hx hb dX1_project_141 hl (by decide) rfl (fun ls hl => ?_)
      refine lv_aload_n hx hb dX1_project_143 rfl (lv_at hl 2 rfl) ?_
      refine gR C0 w 1 fk_X1_18 (by decide +kernel) dX1_project_144 ?_
      refine gR C0 w 2 fk_X1_38 (by decide +kernel) dX1_project_147 ?_
      refine lv_iload hx hb dX1_project_150 (lv_at hl 1 rfl) ?_
      obtain ⟨g8, hf⟩ := gdE hf
      refine aI C0 w (n := 64) (by decide +kernel) (inbE g8) dX1_project_152 ?_
      refine lv_i2l hx hb dX1_project_153 rfl ?_
      refine lv_lload hx hb dX1_project_154 (lv_at hl 0 rfl) ?_
      refine lv_ladd hx hb dX1_project_156 ?_
      refine lv_aload_n hx hb dX1_project_157 rfl (lv_at hl 2 rfl) ?_
      refine gR C0 w 1 fk_X1_18 (by decide +kernel) dX1_project_158 ?_
      refine gI C0 w fk_X1_126 (by decide +kernel) dX1_project_161 ?_
      refine lv_aload_n hx hb dX1_project_164 rfl (lv_at hl 2 rfl) ?_
      refine gR C0 w 1 fk_X1_18 (by decide +kernel) dX1_project_165 ?_
      refine gI C0 w fk_X1_129 (by decide +kernel) dX1_project_168 ?_
      obtain ⟨q9, h10, hf⟩ := bdE hf
      refine cN (As := [.long (((σ.1 2 (σ.1 x4 x10.toNatClampNeg).toNatClampNeg).toInt64) + q6), .int (σ.1 1 2), .int (σ.1 1 3)]) (rest := []) (host := RX11) (idx := 56) C0 w (m_X11_clamped l B _ σ (((σ.1 2 (σ.1 x4 x10.toNatClampNeg).toNatClampNeg).toInt64) + q6) (σ.1 1 2) (σ.1 1 3) q9 h10) ky_X11_clamped ks_X11_clamped (by decide) ⟨Nat.le_of_ble_eq_true rfl, Nat.le_of_ble_eq_true rfl⟩ ⟨Nat.le_of_ble_eq_true rfl, Nat.le_of_ble_eq_true rfl⟩ rfl (by rfl) (Nat.le_of_ble_eq_true rfl) hl.1 dX1_project_171 (fun H locs w => ?_)
      refine lv_istore (lv' := [(14, .int q9), (12, .long q6), (11, .int (σ.1 x4 x10.toNatClampNeg)), (0, .ref (wA B 183)), (2, .long x2), (4, .ref (wA B x4)), (5, .ref (wA B x5)), (6, .int x6), (7, .long x7), (9, .int x9), (10, .int x10)]) hx hb dX1_project_174 hl (by decide) rfl (fun ls hl => ?_)
      refine lv_iload hx hb dX1_project_176 (lv_at hl 0 rfl) ?_
      refine lv_aload_n hx hb dX1_project_178 rfl (lv_at hl 3 rfl) ?_
      refine gR C0 w 1 fk_X1_18 (by decide +kernel) dX1_project_179 ?_
      refine gR C0 w 2 fk_X1_38 (by decide +kernel) dX1_project_182 ?_
      refine lv_iload hx hb dX1_project_185 (lv_at hl 2 rfl) ?_
      obtain ⟨g11, hf⟩ := gdE hf
      refine aI C0 w (n := 64) (by decide +kernel) (inbE g11) dX1_project_187 ?_
      refine lv_icmp_eq (tgt := 206) hx hb dX1_project_188 (by decide) (fun c12 => ?_) (fun c12 => ?_)
      · rw [if_pos c12] at hf
        refine lv_iinc (k := 10) (v := x10 + 1) (lv' := [(10, .int (x10 + 1)), (14, .int q9), (12, .long q6), (11, .int (σ.1 x4 x10.toNatClampNeg)), (0, .ref (wA B 183)), (2, .long x2), (4, .ref (wA B x4)), (5, .ref (wA B x5)), (6, .int x6), (7, .long x7), (9, .int x9)]) hx hb dX1_project_206 hl rfl (by rfl) (by decide) rfl (fun ls hl => ?_)
        refine lv_goto (tgt := 101) hx hb dX1_project_209 (by decide) ?_
        exact ih x9 (x10 + 1) σ _ _ _ _ hf w (lv_sub hl [4, 5, 6, 7, 8, 9, 10, 0] rfl) hK
      · rw [if_neg c12] at hf
        refine lv_aload_n hx hb dX1_project_191 rfl (lv_at hl 3 rfl) ?_
        refine gR C0 w 1 fk_X1_18 (by decide +kernel) dX1_project_192 ?_
        refine gR C0 w 2 fk_X1_38 (by decide +kernel) dX1_project_195 ?_
        refine lv_iload hx hb dX1_project_198 (lv_at hl 2 rfl) ?_
        refine lv_iload hx hb dX1_project_200 (lv_at hl 0 rfl) ?_
        obtain ⟨g13, hf⟩ := gdE hf
        refine sI C0 w (n := 64) (by decide +kernel) (inbE g13) dX1_project_202 (fun H locs w => ?_)
        refine lv_iinc (k := 9) (v := x9 + 1) (lv' := [(9, .int (x9 + 1)), (14, .int q9), (12, .long q6), (11, .int (σ.1 x4 x10.toNatClampNeg)), (0, .ref (wA B 183)), (2, .long x2), (4, .ref (wA B x4)), (5, .ref (wA B x5)), (6, .int x6), (7, .long x7), (10, .int x10)]) hx hb dX1_project_203 hl rfl (by rfl) (by decide) rfl (fun ls hl => ?_)
        refine lv_iinc (k := 10) (v := x10 + 1) (lv' := [(10, .int (x10 + 1)), (9, .int (x9 + 1)), (14, .int q9), (12, .long q6), (11, .int (σ.1 x4 x10.toNatClampNeg)), (0, .ref (wA B 183)), (2, .long x2), (4, .ref (wA B x4)), (5, .ref (wA B x5)), (6, .int x6), (7, .long x7)]) hx hb dX1_project_206 hl rfl (by rfl) (by decide) rfl (fun ls hl => ?_)
        refine lv_goto (tgt := 101) hx hb dX1_project_209 (by decide) ?_
        exact ih (x9 + 1) (x10 + 1) (setI σ 2 ((σ.1 x4 x10.toNatClampNeg).toNatClampNeg) q9) _ _ _ _ hf w (lv_sub hl [5, 6, 7, 8, 9, 10, 1, 0] rfl) hK
set_option maxHeartbeats 4000000 in
set_option maxRecDepth 100000 in
theorem m_X1_project (l : Launch) (B : Wb) (sz : Nat) (σ : Mem) (x1 : Int32) (q : Int32 × Mem) (hf : f_X1_project x1 σ = some q) : MetC l yX1_project cX1_project 15 (some .int) rm_X1_project B sz σ q.2 [.ref (wA B 183), .int x1] (some (.int q.1)) := by
  refine met_in (by decide +kernel) (Nat.le_of_ble_eq_true rfl) ?_
  intro p e s m below meth c C0 hr w hsz ls hl
  have hx := C0.1.1
  have hb := C0.1.2.1
  unfold f_X1_project at hf
  refine lv_aload_n hx hb dX1_project_0 rfl (lv_at hl 0 rfl) ?_
  refine gR C0 w 1 fk_X1_18 (by decide +kernel) dX1_project_1 ?_
  refine gR C0 w 6 fk_X1_96 (by decide +kernel) dX1_project_4 ?_
  refine lv_iload_n hx hb dX1_project_7 rfl (lv_at hl 1 rfl) ?_
  obtain ⟨g1, hf⟩ := gdE hf
  refine aL C0 w (n := 16) (by decide +kernel) (inbE g1) dX1_project_8 ?_
  refine lv_aload_n hx hb dX1_project_9 rfl (lv_at hl 0 rfl) ?_
  refine gR C0 w 143 fk_X1_30 (by decide +kernel) dX1_project_10 ?_
  refine lv_iload_n hx hb dX1_project_13 rfl (lv_at hl 1 rfl) ?_
  obtain ⟨q2, h3, hf⟩ := bdE hf
  refine cV (As := [.int x1]) (rest := [.long (σ.2 6 x1.toNatClampNeg)]) (k := 143) (ci := 8) (T := TX9) (N := 9) C0 w (m_X9_find l B _ σ x1 q2 h3) ky_X9_find kv_X9_find lk_X1_106 rfl (by decide +kernel) ⟨Nat.le_of_ble_eq_true rfl, Nat.le_of_ble_eq_true rfl⟩ ⟨Nat.le_of_ble_eq_true rfl, Nat.le_of_ble_eq_true rfl⟩ rfl (by rfl) (Nat.le_of_ble_eq_true rfl) hl.1 dX1_project_14 (fun H locs w => ?_)
  refine lv_lsub hx hb dX1_project_17 ?_
  refine lv_lstore_n (lv' := [(2, .long ((σ.2 6 x1.toNatClampNeg) - q2.1)), (0, .ref (wA B 183)), (1, .int x1)]) hx hb dX1_project_18 rfl hl (by decide) rfl (fun ls hl => ?_)
  refine lv_aload_n hx hb dX1_project_19 rfl (lv_at hl 1 rfl) ?_
  refine gR C0 w 143 fk_X1_30 (by decide +kernel) dX1_project_20 ?_
  refine gR C0 w 148 fk_X1_110 (by decide +kernel) dX1_project_23 ?_
  refine lv_iload_n hx hb dX1_project_26 rfl (lv_at hl 2 rfl) ?_
  obtain ⟨g4, hf⟩ := gdE hf
  refine aG C0 w (n := 16) 149 1 (by decide +kernel) rfl (inbE g4) dX1_project_27 ?_
  refine lv_astore (lv' := [(4, .ref (wA B (149 + 1 * x1.toNatClampNeg))), (2, .long ((σ.2 6 x1.toNatClampNeg) - q2.1)), (0, .ref (wA B 183)), (1, .int x1)]) hx hb dX1_project_28 hl (by decide) rfl (fun ls hl => ?_)
  refine lv_aload_n hx hb dX1_project_30 rfl (lv_at hl 2 rfl) ?_
  refine gR C0 w 143 fk_X1_30 (by decide +kernel) dX1_project_31 ?_
  refine gR C0 w 165 fk_X1_114 (by decide +kernel) dX1_project_34 ?_
  refine lv_iload_n hx hb dX1_project_37 rfl (lv_at hl 3 rfl) ?_
  obtain ⟨g5, hf⟩ := gdE hf
  refine aG C0 w (n := 16) 166 1 (by decide +kernel) rfl (inbE g5) dX1_project_38 ?_
  refine lv_astore (lv' := [(5, .ref (wA B (166 + 1 * x1.toNatClampNeg))), (4, .ref (wA B (149 + 1 * x1.toNatClampNeg))), (2, .long ((σ.2 6 x1.toNatClampNeg) - q2.1)), (0, .ref (wA B 183)), (1, .int x1)]) hx hb dX1_project_39 hl (by decide) rfl (fun ls hl => ?_)
  refine lv_aload_n hx hb dX1_project_41 rfl (lv_at hl 3 rfl) ?_
  refine gR C0 w 143 fk_X1_30 (by decide +kernel) dX1_project_42 ?_
  refine gR C0 w 147 fk_X1_117 (by decide +kernel) dX1_project_45 ?_
  refine lv_iload_n hx hb dX1_project_48 rfl (lv_at hl 4 rfl) ?_
  obtain ⟨g6, hf⟩ := gdE hf
  refine aI C0 w (n := 16) (by decide +kernel) (inbE g6) dX1_project_49 ?_
  refine lv_istore (lv' := [(6, .int (q2.2.1 147 x1.toNatClampNeg)), (5, .ref (wA B (166 + 1 * x1.toNatClampNeg))), (4, .ref (wA B (149 + 1 * x1.toNatClampNeg))), (2, .long ((σ.2 6 x1.toNatClampNeg) - q2.1)), (0, .ref (wA B 183)), (1, .int x1)]) hx hb dX1_project_50 hl (by decide) rfl (fun ls hl => ?_)
  refine lv_lconst (v := 0) hx hb dX1_project_52 (by decide) ?_
  refine lv_lstore (lv' := [(7, .long 0), (6, .int (q2.2.1 147 x1.toNatClampNeg)), (5, .ref (wA B (166 + 1 * x1.toNatClampNeg))), (4, .ref (wA B (149 + 1 * x1.toNatClampNeg))), (2, .long ((σ.2 6 x1.toNatClampNeg) - q2.1)), (0, .ref (wA B 183)), (1, .int x1)]) hx hb dX1_project_53 hl (by decide) rfl (fun ls hl => ?_)
  refine lv_iconst (v := 0) hx hb dX1_project_55 (by decide) ?_
  refine lv_istore (lv' := [(9, .int 0), (7, .long 0), (6, .int (q2.2.1 147 x1.toNatClampNeg)), (5, .ref (wA B (166 + 1 * x1.toNatClampNeg))), (4, .ref (wA B (149 + 1 * x1.toNatClampNeg))), (2, .long ((σ.2 6 x1.toNatClampNeg) - q2.1)), (0, .ref (wA B 183)), (1, .int x1)]) hx hb dX1_project_56 hl (by decide) rfl (fun ls hl => ?_)
  obtain ⟨q7, h8, hf⟩ := bdE hf
  refine lp_X1_project_58 l B C0 ((σ.2 6 x1.toNatClampNeg) - q2.1) (149 + 1 * x1.toNatClampNeg) (166 + 1 * x1.toNatClampNeg) (q2.2.1 147 x1.toNatClampNeg) 100000 0 0 q2.2 q7 _ _ _ h8 w (lv_sub hl [6, 5, 4, 3, 2, 1, 0] rfl) (fun H locs ls w hl => ?_)
  refine lv_iconst (v := 0) hx hb dX1_project_95 (by decide) ?_
  refine lv_istore (lv' := [(9, .int 0), (0, .ref (wA B 183)), (2, .long ((σ.2 6 x1.toNatClampNeg) - q2.1)), (4, .ref (wA B (149 + 1 * x1.toNatClampNeg))), (5, .ref (wA B (166 + 1 * x1.toNatClampNeg))), (6, .int (q2.2.1 147 x1.toNatClampNeg)), (7, .long q7)]) hx hb dX1_project_96 hl (by decide) rfl (fun ls hl => ?_)
  refine lv_iconst (v := 0) hx hb dX1_project_98 (by decide) ?_
  refine lv_istore (lv' := [(10, .int 0), (9, .int 0), (0, .ref (wA B 183)), (2, .long ((σ.2 6 x1.toNatClampNeg) - q2.1)), (4, .ref (wA B (149 + 1 * x1.toNatClampNeg))), (5, .ref (wA B (166 + 1 * x1.toNatClampNeg))), (6, .int (q2.2.1 147 x1.toNatClampNeg)), (7, .long q7)]) hx hb dX1_project_99 hl (by decide) rfl (fun ls hl => ?_)
  obtain ⟨q9, h10, hf⟩ := bdE hf
  refine lp_X1_project_101 l B C0 ((σ.2 6 x1.toNatClampNeg) - q2.1) (149 + 1 * x1.toNatClampNeg) (166 + 1 * x1.toNatClampNeg) (q2.2.1 147 x1.toNatClampNeg) q7 100000 0 0 q2.2 q9 _ _ _ h10 w (lv_sub hl [2, 3, 4, 5, 6, 7, 1, 0] rfl) (fun H locs ls w hl => ?_)
  refine lv_iload hx hb dX1_project_212 (lv_at hl 1 rfl) ?_
  refine lv_if_le (tgt := 224) hx hb dX1_project_214 (by decide) (fun c11 => ?_) (fun c11 => ?_)
  · rw [if_pos c11] at hf
    refine lv_iload hx hb dX1_project_224 (lv_at hl 1 rfl) ?_
    obtain rfl := Option.some.inj hf
    exact eI C0 hr w rfl dX1_project_226
  · rw [if_neg c11] at hf
    refine lv_aload_n hx hb dX1_project_217 rfl (lv_at hl 0 rfl) ?_
    refine gR C0 w 143 fk_X1_30 (by decide +kernel) dX1_project_218 ?_
    obtain ⟨q12, h13, hf⟩ := bdE hf
    refine cV (As := []) (rest := []) (k := 143) (ci := 8) (T := TX9) (N := 9) C0 w (m_X9_forgetAll l B _ q9.2 q12 h13) ky_X9_forgetAll kv_X9_forgetAll lk_X1_43 rfl (by decide +kernel) ⟨Nat.le_of_ble_eq_true rfl, Nat.le_of_ble_eq_true rfl⟩ ⟨Nat.le_of_ble_eq_true rfl, Nat.le_of_ble_eq_true rfl⟩ rfl (by rfl) (Nat.le_of_ble_eq_true rfl) hl.1 dX1_project_221 (fun H locs w => ?_)
    refine lv_iload hx hb dX1_project_224 (lv_at hl 1 rfl) ?_
    obtain rfl := Option.some.inj hf
    exact eI C0 hr w rfl dX1_project_226
def f_X1_smoothOut_33 (x1 : Int32) (x2 : Int32) (σ : Mem) : Nat → Int64 → Int32 → Int32 → Option (Int64 × Int32)
  | 0, _, _, _ => none
  | n + 1, x3, x5, x6 =>
    gd (inb x2 64) (
    if (σ.1 9 x2.toNatClampNeg) ≤ x6 then (
      some ((x3, x5)))
    else (
      gd (inb x2 64) (
      gd (shA (76 + 1 * x2.toNatClampNeg) 1 (aln (76 + 1 * x2.toNatClampNeg))) (
      gd (inb x6 (aln (76 + 1 * x2.toNatClampNeg))) (
      if (σ.1 (76 + 1 * x2.toNatClampNeg) x6.toNatClampNeg) = 1000 then (
        gd (inb x2 64) (
        gd (shA (11 + 1 * x2.toNatClampNeg) 1 (aln (11 + 1 * x2.toNatClampNeg))) (
        gd (inb x6 (aln (11 + 1 * x2.toNatClampNeg))) (
        gd (inb (σ.1 (11 + 1 * x2.toNatClampNeg) x6.toNatClampNeg) 64) (
        f_X1_smoothOut_33 x1 x2 σ n (x3 + ((σ.1 2 (σ.1 (11 + 1 * x2.toNatClampNeg) x6.toNatClampNeg).toNatClampNeg).toInt64)) (x5 + 1) (x6 + 1))))))
      else (
        f_X1_smoothOut_33 x1 x2 σ n x3 x5 (x6 + 1)))))))
def f_X1_smoothOut_2 (x1 : Int32) : Nat → Int32 → Mem → Option (Mem)
  | 0, _, _ => none
  | n + 1, x2, σ =>
    bd (f_X7_cellCount σ) (fun q1 =>
    if q1 ≤ x2 then (
      some σ)
    else (
      gd (inb x2 64) (
      bd (f_X1_smoothOut_33 x1 x2 σ 100000 (x1.toInt64 * ((σ.1 2 x2.toNatClampNeg).toInt64)) x1 0) (fun q5 =>
      bd (f_X11_roundedQuotient q5.1 q5.2.toInt64 σ) (fun q7 =>
      gd (inb x2 64) (
      f_X1_smoothOut_2 x1 n (x2 + 1) (setI σ 184 x2.toNatClampNeg q7.toInt32)))))))
def f_X1_smoothOut (x1 : Int32) (σ : Mem) : Option (Int32 × Mem) :=
  bd (f_X1_smoothOut_2 x1 100000 0 σ) (fun q1 =>
  bd (f_X1_takeOver 2 q1) (fun q3 =>
  some ((q3.1, q3.2))))
abbrev rm_X1_smoothOut : Room := { frames := 2, cells := 0, slots := 0, locals := 48 }
set_option maxHeartbeats 4000000 in
set_option maxRecDepth 100000 in
theorem lp_X1_smoothOut_33 {p : Program} {e : Env} {s : State} {m : MethodId} {args : Array Value} {below : List Frame} {meth : Method} {c : Code} {Q : State → Prop} (l : Launch) (B : Wb) (C0 : Cx p s m args meth c cX1_smoothOut 7 RX1) (x1 : Int32) (x2 : Int32) : ∀ (n : Nat) (x3 : Int64) (x5 : Int32) (x6 : Int32) (σ : Mem) (o : Int64 × Int32) (H : Heap) (locs : List Loc) (ls : Array Slot), f_X1_smoothOut_33 x1 x2 σ n x3 x5 x6 = some o → Wx B σ s H locs → lv_has ls 7 [(0, .ref (wA B 183)), (1, .int x1), (2, .int x2), (3, .long x3), (5, .int x5), (6, .int x6)] → (∀ (H : Heap) (locs : List Loc) (ls : Array Slot), Wx B σ s H locs → lv_has ls 7 [(0, .ref (wA B 183)), (1, .int x1), (2, .int x2), (3, .long o.1), (5, .int o.2)] → W p l e rm_X1_smoothOut s m args below meth c H locs 0 0 Q (F0 m 98 ls [])) → W p l e rm_X1_smoothOut s m args below meth c H locs 0 0 Q (F0 m 33 ls []) := by
  have hx := C0.1.1
  have hb := C0.1.2.1
  intro n
  induction n with
  | zero =>
    intro x3 x5 x6 σ o H locs ls hf w hl hK
    cases hf
  | succ n ih =>
    intro x3 x5 x6 σ o H locs ls hf w hl hK
    rw [f_X1_smoothOut_33] at hf
    refine lv_iload hx hb dX1_smoothOut_33 (lv_at hl 5 rfl) ?_
    refine lv_aload_n hx hb dX1_smoothOut_35 rfl (lv_at hl 0 rfl) ?_
    refine gR C0 w 8 fk_X1_22 (by decide +kernel) dX1_smoothOut_36 ?_
    refine gR C0 w 9 fk_X1_132 (by decide +kernel) dX1_smoothOut_39 ?_
    refine lv_iload_n hx hb dX1_smoothOut_42 rfl (lv_at hl 2 rfl) ?_
    obtain ⟨g1, hf⟩ := gdE hf
    refine aI C0 w (n := 64) (by decide +kernel) (inbE g1) dX1_smoothOut_43 ?_
    refine lv_icmp_ge (tgt := 98) hx hb dX1_smoothOut_44 (by decide) (fun c2 => ?_) (fun c2 => ?_)
    · rw [if_pos c2] at hf
      obtain rfl := Option.some.inj hf
      exact hK _ _ _ w (lv_sub hl [0, 1, 2, 3, 4] rfl)
    · rw [if_neg c2] at hf
      refine lv_aload_n hx hb dX1_smoothOut_47 rfl (lv_at hl 0 rfl) ?_
      refine gR C0 w 8 fk_X1_22 (by decide +kernel) dX1_smoothOut_48 ?_
      refine gR C0 w 75 fk_X1_135 (by decide +kernel) dX1_smoothOut_51 ?_
      refine lv_iload_n hx hb dX1_smoothOut_54 rfl (lv_at hl 2 rfl) ?_
      obtain ⟨g3, hf⟩ := gdE hf
      refine aG C0 w (n := 64) 76 1 (by decide +kernel) rfl (inbE g3) dX1_smoothOut_55 ?_
      refine lv_iload hx hb dX1_smoothOut_56 (lv_at hl 5 rfl) ?_
      obtain ⟨g4, hf⟩ := gdE hf
      obtain ⟨g5, hf⟩ := gdE hf
      refine aI C0 w g4 (inbE g5) dX1_smoothOut_58 ?_
      refine lv_sipush (v := 1000) hx hb dX1_smoothOut_59 (by decide) ?_
      refine lv_icmp_ne (tgt := 92) hx hb dX1_smoothOut_62 (by decide) (fun c6 => ?_) (fun c6 => ?_)
      · rw [if_neg c6] at hf
        refine lv_iinc (k := 5) (v := x6 + 1) (lv' := [(6, .int (x6 + 1)), (0, .ref (wA B 183)), (1, .int x1), (2, .int x2), (3, .long x3), (5, .int x5)]) hx hb dX1_smoothOut_92 hl rfl (by rfl) (by decide) rfl (fun ls hl => ?_)
        refine lv_goto (tgt := 33) hx hb dX1_smoothOut_95 (by decide) ?_
        exact ih x3 x5 (x6 + 1) σ _ _ _ _ hf w (lv_sub hl [1, 2, 3, 4, 5, 0] rfl) hK
      · rw [if_pos c6] at hf
        refine lv_lload_n hx hb dX1_smoothOut_65 rfl (lv_at hl 3 rfl) ?_
        refine lv_aload_n hx hb dX1_smoothOut_66 rfl (lv_at hl 0 rfl) ?_
        refine gR C0 w 1 fk_X1_18 (by decide +kernel) dX1_smoothOut_67 ?_
        refine gR C0 w 2 fk_X1_38 (by decide +kernel) dX1_smoothOut_70 ?_
        refine lv_aload_n hx hb dX1_smoothOut_73 rfl (lv_at hl 0 rfl) ?_
        refine gR C0 w 8 fk_X1_22 (by decide +kernel) dX1_smoothOut_74 ?_
        refine gR C0 w 10 fk_X1_138 (by decide +kernel) dX1_smoothOut_77 ?_
        refine lv_iload_n hx hb dX1_smoothOut_80 rfl (lv_at hl 2 rfl) ?_
        obtain ⟨g7, hf⟩ := gdE hf
        refine aG C0 w (n := 64) 11 1 (by decide +kernel) rfl (inbE g7) dX1_smoothOut_81 ?_
        refine lv_iload hx hb dX1_smoothOut_82 (lv_at hl 5 rfl) ?_
        obtain ⟨g8, hf⟩ := gdE hf
        obtain ⟨g9, hf⟩ := gdE hf
        refine aI C0 w g8 (inbE g9) dX1_smoothOut_84 ?_
        obtain ⟨g10, hf⟩ := gdE hf
        refine aI C0 w (n := 64) (by decide +kernel) (inbE g10) dX1_smoothOut_85 ?_
        refine lv_i2l hx hb dX1_smoothOut_86 rfl ?_
        refine lv_ladd hx hb dX1_smoothOut_87 ?_
        refine lv_lstore_n (lv' := [(3, .long (x3 + ((σ.1 2 (σ.1 (11 + 1 * x2.toNatClampNeg) x6.toNatClampNeg).toNatClampNeg).toInt64))), (0, .ref (wA B 183)), (1, .int x1), (2, .int x2), (5, .int x5), (6, .int x6)]) hx hb dX1_smoothOut_88 rfl hl (by decide) rfl (fun ls hl => ?_)
        refine lv_iinc (k := 4) (v := x5 + 1) (lv' := [(5, .int (x5 + 1)), (3, .long (x3 + ((σ.1 2 (σ.1 (11 + 1 * x2.toNatClampNeg) x6.toNatClampNeg).toNatClampNeg).toInt64))), (0, .ref (wA B 183)), (1, .int x1), (2, .int x2), (6, .int x6)]) hx hb dX1_smoothOut_89 hl rfl (by rfl) (by decide) rfl (fun ls hl => ?_)
        refine lv_iinc (k := 5) (v := x6 + 1) (lv' := [(6, .int (x6 + 1)), (5, .int (x5 + 1)), (3, .long (x3 + ((σ.1 2 (σ.1 (11 + 1 * x2.toNatClampNeg) x6.toNatClampNeg).toNatClampNeg).toInt64))), (0, .ref (wA B 183)), (1, .int x1), (2, .int x2)]) hx hb dX1_smoothOut_92 hl rfl (by rfl) (by decide) rfl (fun ls hl => ?_)
        refine lv_goto (tgt := 33) hx hb dX1_smoothOut_95 (by decide) ?_
        exact ih (x3 + ((σ.1 2 (σ.1 (11 + 1 * x2.toNatClampNeg) x6.toNatClampNeg).toNatClampNeg).toInt64)) (x5 + 1) (x6 + 1) σ _ _ _ _ hf w (lv_sub hl [3, 4, 5, 2, 1, 0] rfl) hK
set_option maxHeartbeats 4000000 in
set_option maxRecDepth 100000 in
theorem lp_X1_smoothOut_2 {p : Program} {e : Env} {s : State} {m : MethodId} {args : Array Value} {below : List Frame} {meth : Method} {c : Code} {Q : State → Prop} (l : Launch) (B : Wb) (C0 : Cx p s m args meth c cX1_smoothOut 7 RX1) (x1 : Int32) : ∀ (n : Nat) (x2 : Int32) (σ : Mem) (o : Mem) (H : Heap) (locs : List Loc) (ls : Array Slot), f_X1_smoothOut_2 x1 n x2 σ = some o → Wx B σ s H locs → lv_has ls 7 [(0, .ref (wA B 183)), (1, .int x1), (2, .int x2)] → (∀ (H : Heap) (locs : List Loc) (ls : Array Slot), Wx B o s H locs → lv_has ls 7 [(0, .ref (wA B 183))] → W p l e rm_X1_smoothOut s m args below meth c H locs 0 0 Q (F0 m 118 ls [])) → W p l e rm_X1_smoothOut s m args below meth c H locs 0 0 Q (F0 m 2 ls []) := by
  have hx := C0.1.1
  have hb := C0.1.2.1
  intro n
  induction n with
  | zero =>
    intro x2 σ o H locs ls hf w hl hK
    cases hf
  | succ n ih =>
    intro x2 σ o H locs ls hf w hl hK
    rw [f_X1_smoothOut_2] at hf
    refine lv_iload_n hx hb dX1_smoothOut_2 rfl (lv_at hl 2 rfl) ?_
    refine lv_aload_n hx hb dX1_smoothOut_3 rfl (lv_at hl 0 rfl) ?_
    refine gR C0 w 1 fk_X1_18 (by decide +kernel) dX1_smoothOut_4 ?_
    obtain ⟨q1, h2, hf⟩ := bdE hf
    refine cV (As := []) (rest := [.int x2]) (k := 1) (ci := 6) (T := TX7) (N := 14) C0 w (m_X7_cellCount l B _ σ q1 h2) ky_X7_cellCount kv_X7_cellCount lk_X1_67 rfl (by decide +kernel) ⟨Nat.le_of_ble_eq_true rfl, Nat.le_of_ble_eq_true rfl⟩ ⟨Nat.le_of_ble_eq_true rfl, Nat.le_of_ble_eq_true rfl⟩ rfl (by rfl) (Nat.le_of_ble_eq_true rfl) hl.1 dX1_smoothOut_7 (fun H locs w => ?_)
    refine lv_icmp_ge (tgt := 118) hx hb dX1_smoothOut_10 (by decide) (fun c3 => ?_) (fun c3 => ?_)
    · rw [if_pos c3] at hf
      obtain rfl := Option.some.inj hf
      exact hK _ _ _ w (lv_sub hl [0] rfl)
    · rw [if_neg c3] at hf
      refine lv_iload_n hx hb dX1_smoothOut_13 rfl (lv_at hl 1 rfl) ?_
      refine lv_i2l hx hb dX1_smoothOut_14 rfl ?_
      refine lv_aload_n hx hb dX1_smoothOut_15 rfl (lv_at hl 0 rfl) ?_
      refine gR C0 w 1 fk_X1_18 (by decide +kernel) dX1_smoothOut_16 ?_
      refine gR C0 w 2 fk_X1_38 (by decide +kernel) dX1_smoothOut_19 ?_
      refine lv_iload_n hx hb dX1_smoothOut_22 rfl (lv_at hl 2 rfl) ?_
      obtain ⟨g4, hf⟩ := gdE hf
      refine aI C0 w (n := 64) (by decide +kernel) (inbE g4) dX1_smoothOut_23 ?_
      refine lv_i2l hx hb dX1_smoothOut_24 rfl ?_
      refine lv_lmul hx hb dX1_smoothOut_25 ?_
      refine lv_lstore_n (lv' := [(3, .long (x1.toInt64 * ((σ.1 2 x2.toNatClampNeg).toInt64))), (0, .ref (wA B 183)), (1, .int x1), (2, .int x2)]) hx hb dX1_smoothOut_26 rfl hl (by decide) rfl (fun ls hl => ?_)
      refine lv_iload_n hx hb dX1_smoothOut_27 rfl (lv_at hl 2 rfl) ?_
      refine lv_istore (lv' := [(5, .int x1), (3, .long (x1.toInt64 * ((σ.1 2 x2.toNatClampNeg).toInt64))), (0, .ref (wA B 183)), (1, .int x1), (2, .int x2)]) hx hb dX1_smoothOut_28 hl (by decide) rfl (fun ls hl => ?_)
      refine lv_iconst (v := 0) hx hb dX1_smoothOut_30 (by decide) ?_
      refine lv_istore (lv' := [(6, .int 0), (5, .int x1), (3, .long (x1.toInt64 * ((σ.1 2 x2.toNatClampNeg).toInt64))), (0, .ref (wA B 183)), (1, .int x1), (2, .int x2)]) hx hb dX1_smoothOut_31 hl (by decide) rfl (fun ls hl => ?_)
      obtain ⟨q5, h6, hf⟩ := bdE hf
      refine lp_X1_smoothOut_33 l B C0 x1 x2 100000 (x1.toInt64 * ((σ.1 2 x2.toNatClampNeg).toInt64)) x1 0 σ q5 _ _ _ h6 w (lv_sub hl [3, 4, 5, 2, 1, 0] rfl) (fun H locs ls w hl => ?_)
      refine lv_aload_n hx hb dX1_smoothOut_98 rfl (lv_at hl 0 rfl) ?_
      refine gR C0 w 184 fk_X1_9 (by decide +kernel) dX1_smoothOut_99 ?_
      refine lv_iload_n hx hb dX1_smoothOut_102 rfl (lv_at hl 2 rfl) ?_
      refine lv_lload_n hx hb dX1_smoothOut_103 rfl (lv_at hl 3 rfl) ?_
      refine lv_iload hx hb dX1_smoothOut_104 (lv_at hl 4 rfl) ?_
      refine lv_i2l hx hb dX1_smoothOut_106 rfl ?_
      obtain ⟨q7, h8, hf⟩ := bdE hf
      refine cN (As := [.long q5.1, .long q5.2.toInt64]) (rest := [.int x2, .ref (wA B 184)]) (host := RX11) (idx := 123) C0 w (m_X11_roundedQuotient l B _ σ q5.1 q5.2.toInt64 q7 h8) ky_X11_roundedQuotient ks_X11_roundedQuotient (by decide) ⟨Nat.le_of_ble_eq_true rfl, Nat.le_of_ble_eq_true rfl⟩ ⟨Nat.le_of_ble_eq_true rfl, Nat.le_of_ble_eq_true rfl⟩ rfl (by rfl) (Nat.le_of_ble_eq_true rfl) hl.1 dX1_smoothOut_107 (fun H locs w => ?_)
      refine lv_l2i hx hb dX1_smoothOut_110 rfl ?_
      obtain ⟨g9, hf⟩ := gdE hf
      refine sI C0 w (n := 64) (by decide +kernel) (inbE g9) dX1_smoothOut_111 (fun H locs w => ?_)
      refine lv_iinc (k := 2) (v := x2 + 1) (lv' := [(2, .int (x2 + 1)), (0, .ref (wA B 183)), (1, .int x1), (3, .long q5.1), (5, .int q5.2)]) hx hb dX1_smoothOut_112 hl rfl (by rfl) (by decide) rfl (fun ls hl => ?_)
      refine lv_goto (tgt := 2) hx hb dX1_smoothOut_115 (by decide) ?_
      exact ih (x2 + 1) (setI σ 184 x2.toNatClampNeg q7.toInt32) _ _ _ _ hf w (lv_sub hl [1, 2, 0] rfl) hK
set_option maxHeartbeats 4000000 in
set_option maxRecDepth 100000 in
theorem m_X1_smoothOut (l : Launch) (B : Wb) (sz : Nat) (σ : Mem) (x1 : Int32) (q : Int32 × Mem) (hf : f_X1_smoothOut x1 σ = some q) : MetC l yX1_smoothOut cX1_smoothOut 7 (some .int) rm_X1_smoothOut B sz σ q.2 [.ref (wA B 183), .int x1] (some (.int q.1)) := by
  refine met_in (by decide +kernel) (Nat.le_of_ble_eq_true rfl) ?_
  intro p e s m below meth c C0 hr w hsz ls hl
  have hx := C0.1.1
  have hb := C0.1.2.1
  unfold f_X1_smoothOut at hf
  refine lv_iconst (v := 0) hx hb dX1_smoothOut_0 (by decide) ?_
  refine lv_istore_n (lv' := [(2, .int 0), (0, .ref (wA B 183)), (1, .int x1)]) hx hb dX1_smoothOut_1 rfl hl (by decide) rfl (fun ls hl => ?_)
  obtain ⟨q1, h2, hf⟩ := bdE hf
  refine lp_X1_smoothOut_2 l B C0 x1 100000 0 σ q1 _ _ _ h2 w (lv_sub hl [1, 2, 0] rfl) (fun H locs ls w hl => ?_)
  refine lv_aload_n hx hb dX1_smoothOut_118 rfl (lv_at hl 0 rfl) ?_
  refine lv_aload_n hx hb dX1_smoothOut_119 rfl (lv_at hl 0 rfl) ?_
  refine gR C0 w 1 fk_X1_18 (by decide +kernel) dX1_smoothOut_120 ?_
  refine gR C0 w 2 fk_X1_38 (by decide +kernel) dX1_smoothOut_123 ?_
  obtain ⟨q3, h4, hf⟩ := bdE hf
  refine cV (As := [.ref (wA B 2)]) (rest := []) (k := 183) (ci := 0) (T := TX1) (N := 7) C0 w (m_X1_takeOver l B _ q1 2 q3 h4) ky_X1_takeOver kv_X1_takeOver lk_X1_63 rfl (by decide +kernel) ⟨Nat.le_of_ble_eq_true rfl, Nat.le_of_ble_eq_true rfl⟩ ⟨Nat.le_of_ble_eq_true rfl, Nat.le_of_ble_eq_true rfl⟩ rfl (by rfl) (Nat.le_of_ble_eq_true rfl) hl.1 dX1_smoothOut_126 (fun H locs w => ?_)
  obtain rfl := Option.some.inj hf
  exact eI C0 hr w rfl dX1_smoothOut_129
def f_X7_isActive (x1 : Int32) (σ : Mem) : Option (Int32) :=
  gd (inb x1 16) (
  if (σ.1 7 x1.toNatClampNeg) = 0 then (
    some 0)
  else (
    gd (inb x1 16) (
    if (σ.2 6 x1.toNatClampNeg) = ((-1 : Int64)) then (
      some 0)
    else (
      some 1))))
abbrev rm_X7_isActive : Room := { frames := 0, cells := 0, slots := 0, locals := 0 }
set_option maxHeartbeats 4000000 in
set_option maxRecDepth 100000 in
theorem m_X7_isActive (l : Launch) (B : Wb) (sz : Nat) (σ : Mem) (x1 : Int32) (q : Int32) (hf : f_X7_isActive x1 σ = some q) : MetC l yX7_isActive cX7_isActive 2 (some .boolean) rm_X7_isActive B sz σ σ [.ref (wA B 1), .int x1] (some (.int q)) := by
  refine met_in (by decide +kernel) (Nat.le_of_ble_eq_true rfl) ?_
  intro p e s m below meth c C0 hr w hsz ls hl
  have hx := C0.1.1
  have hb := C0.1.2.1
  unfold f_X7_isActive at hf
  refine lv_aload_n hx hb dX7_isActive_0 rfl (lv_at hl 0 rfl) ?_
  refine gR C0 w 7 fk_X7_48 (by decide +kernel) dX7_isActive_1 ?_
  refine lv_iload_n hx hb dX7_isActive_4 rfl (lv_at hl 1 rfl) ?_
  obtain ⟨g1, hf⟩ := gdE hf
  refine aZ C0 w (n := 16) (by decide +kernel) (inbE g1) dX7_isActive_5 ?_
  refine lv_if_eq (tgt := 26) hx hb dX7_isActive_6 (by decide) (fun c2 => ?_) (fun c2 => ?_)
  · rw [if_pos c2] at hf
    refine lv_iconst (v := 0) hx hb dX7_isActive_26 (by decide) ?_
    obtain rfl := Option.some.inj hf
    exact eI C0 hr w (bzE (x := 0) (by decide)) dX7_isActive_27
  · rw [if_neg c2] at hf
    refine lv_aload_n hx hb dX7_isActive_9 rfl (lv_at hl 0 rfl) ?_
    refine gR C0 w 6 fk_X7_44 (by decide +kernel) dX7_isActive_10 ?_
    refine lv_iload_n hx hb dX7_isActive_13 rfl (lv_at hl 1 rfl) ?_
    obtain ⟨g3, hf⟩ := gdE hf
    refine aL C0 w (n := 16) (by decide +kernel) (inbE g3) dX7_isActive_14 ?_
    refine kLg C0 (-1) kc_X7_58 dX7_isActive_15 ?_
    refine lc_eq (tgt := 26) C0 dX7_isActive_18 dX7_isActive_19 (by decide) (fun c4 => ?_) (fun c4 => ?_)
    · rw [if_pos c4] at hf
      refine lv_iconst (v := 0) hx hb dX7_isActive_26 (by decide) ?_
      obtain rfl := Option.some.inj hf
      exact eI C0 hr w (bzE (x := 0) (by decide)) dX7_isActive_27
    · rw [if_neg c4] at hf
      refine lv_iconst (v := 1) hx hb dX7_isActive_22 (by decide) ?_
      refine lv_goto (tgt := 27) hx hb dX7_isActive_23 (by decide) ?_
      obtain rfl := Option.some.inj hf
      exact eI C0 hr w (bzE (x := 1) (by decide)) dX7_isActive_27
def f_X4_coverage_4 (x1 : Int32) : Nat → Int32 → Int32 → Mem → Option (Int32 × Mem)
  | 0, _, _, _ => none
  | n + 1, x2, x3, σ =>
    if (σ.1 1 7) ≤ x3 then (
      some ((x2, σ)))
    else (
      bd (f_X7_isActive x3 σ) (fun q2 =>
      if q2 = 0 then (
        f_X4_coverage_4 x1 n x2 (x3 + 1) σ)
      else (
        bd (f_X9_find x3 σ) (fun q5 =>
        gd (inb x3 16) (
        gd (shA (166 + 1 * x3.toNatClampNeg) 1 (aln (166 + 1 * x3.toNatClampNeg))) (
        gd (inb x1 (aln (166 + 1 * x3.toNatClampNeg))) (
        if (q5.2.1 (166 + 1 * x3.toNatClampNeg) x1.toNatClampNeg) ≤ 0 then (
          f_X4_coverage_4 x1 n x2 (x3 + 1) q5.2)
        else (
          f_X4_coverage_4 x1 n (x2 + 1) (x3 + 1) q5.2))))))))
def f_X4_coverage (x1 : Int32) (σ : Mem) : Option (Int32 × Mem) :=
  bd (f_X4_coverage_4 x1 100000 0 0 σ) (fun q1 =>
  some ((q1.1, q1.2)))
abbrev rm_X4_coverage : Room := { frames := 3, cells := 0, slots := 0, locals := 79 }
set_option maxHeartbeats 4000000 in
set_option maxRecDepth 100000 in
theorem lp_X4_coverage_4 {p : Program} {e : Env} {s : State} {m : MethodId} {args : Array Value} {below : List Frame} {meth : Method} {c : Code} {Q : State → Prop} (l : Launch) (B : Wb) (C0 : Cx p s m args meth c cX4_coverage 4 RX4) (x1 : Int32) : ∀ (n : Nat) (x2 : Int32) (x3 : Int32) (σ : Mem) (o : Int32 × Mem) (H : Heap) (locs : List Loc) (ls : Array Slot), f_X4_coverage_4 x1 n x2 x3 σ = some o → Wx B σ s H locs → lv_has ls 4 [(0, .ref (wA B 182)), (1, .int x1), (2, .int x2), (3, .int x3)] → (∀ (H : Heap) (locs : List Loc) (ls : Array Slot), Wx B o.2 s H locs → lv_has ls 4 [(2, .int o.1)] → W p l e rm_X4_coverage s m args below meth c H locs 0 0 Q (F0 m 58 ls [])) → W p l e rm_X4_coverage s m args below meth c H locs 0 0 Q (F0 m 4 ls []) := by
  have hx := C0.1.1
  have hb := C0.1.2.1
  intro n
  induction n with
  | zero =>
    intro x2 x3 σ o H locs ls hf w hl hK
    cases hf
  | succ n ih =>
    intro x2 x3 σ o H locs ls hf w hl hK
    rw [f_X4_coverage_4] at hf
    refine lv_iload_n hx hb dX4_coverage_4 rfl (lv_at hl 3 rfl) ?_
    refine lv_aload_n hx hb dX4_coverage_5 rfl (lv_at hl 0 rfl) ?_
    refine gR C0 w 1 fk_X4_9 (by decide +kernel) dX4_coverage_6 ?_
    refine gI C0 w fk_X4_19 (by decide +kernel) dX4_coverage_9 ?_
    refine lv_icmp_ge (tgt := 58) hx hb dX4_coverage_12 (by decide) (fun c1 => ?_) (fun c1 => ?_)
    · rw [if_pos c1] at hf
      obtain rfl := Option.some.inj hf
      exact hK _ _ _ w (lv_sub hl [2] rfl)
    · rw [if_neg c1] at hf
      refine lv_aload_n hx hb dX4_coverage_15 rfl (lv_at hl 0 rfl) ?_
      refine gR C0 w 1 fk_X4_9 (by decide +kernel) dX4_coverage_16 ?_
      refine lv_iload_n hx hb dX4_coverage_19 rfl (lv_at hl 3 rfl) ?_
      obtain ⟨q2, h3, hf⟩ := bdE hf
      refine cV (As := [.int x3]) (rest := []) (k := 1) (ci := 6) (T := TX7) (N := 14) C0 w (m_X7_isActive l B _ σ x3 q2 h3) ky_X7_isActive kv_X7_isActive lk_X4_25 rfl (by decide +kernel) ⟨Nat.le_of_ble_eq_true rfl, Nat.le_of_ble_eq_true rfl⟩ ⟨Nat.le_of_ble_eq_true rfl, Nat.le_of_ble_eq_true rfl⟩ rfl (by rfl) (Nat.le_of_ble_eq_true rfl) hl.1 dX4_coverage_20 (fun H locs w => ?_)
      refine lv_if_eq (tgt := 52) hx hb dX4_coverage_23 (by decide) (fun c4 => ?_) (fun c4 => ?_)
      · rw [if_pos c4] at hf
        refine lv_iinc (k := 3) (v := x3 + 1) (lv' := [(3, .int (x3 + 1)), (0, .ref (wA B 182)), (1, .int x1), (2, .int x2)]) hx hb dX4_coverage_52 hl rfl (by rfl) (by decide) rfl (fun ls hl => ?_)
        refine lv_goto (tgt := 4) hx hb dX4_coverage_55 (by decide) ?_
        exact ih x2 (x3 + 1) σ _ _ _ _ hf w (lv_sub hl [1, 2, 3, 0] rfl) hK
      · rw [if_neg c4] at hf
        refine lv_aload_n hx hb dX4_coverage_26 rfl (lv_at hl 0 rfl) ?_
        refine gR C0 w 143 fk_X4_15 (by decide +kernel) dX4_coverage_27 ?_
        refine lv_iload_n hx hb dX4_coverage_30 rfl (lv_at hl 3 rfl) ?_
        obtain ⟨q5, h6, hf⟩ := bdE hf
        refine cV (As := [.int x3]) (rest := []) (k := 143) (ci := 8) (T := TX9) (N := 9) C0 w (m_X9_find l B _ σ x3 q5 h6) ky_X9_find kv_X9_find lk_X4_29 rfl (by decide +kernel) ⟨Nat.le_of_ble_eq_true rfl, Nat.le_of_ble_eq_true rfl⟩ ⟨Nat.le_of_ble_eq_true rfl, Nat.le_of_ble_eq_true rfl⟩ rfl (by rfl) (Nat.le_of_ble_eq_true rfl) hl.1 dX4_coverage_31 (fun H locs w => ?_)
        refine lv_pop2_2 hx hb dX4_coverage_34 rfl ?_
        refine lv_aload_n hx hb dX4_coverage_35 rfl (lv_at hl 0 rfl) ?_
        refine gR C0 w 143 fk_X4_15 (by decide +kernel) dX4_coverage_36 ?_
        refine gR C0 w 165 fk_X4_35 (by decide +kernel) dX4_coverage_39 ?_
        refine lv_iload_n hx hb dX4_coverage_42 rfl (lv_at hl 3 rfl) ?_
        obtain ⟨g7, hf⟩ := gdE hf
        refine aG C0 w (n := 16) 166 1 (by decide +kernel) rfl (inbE g7) dX4_coverage_43 ?_
        refine lv_iload_n hx hb dX4_coverage_44 rfl (lv_at hl 1 rfl) ?_
        obtain ⟨g8, hf⟩ := gdE hf
        obtain ⟨g9, hf⟩ := gdE hf
        refine aI C0 w g8 (inbE g9) dX4_coverage_45 ?_
        refine lv_if_le (tgt := 52) hx hb dX4_coverage_46 (by decide) (fun c10 => ?_) (fun c10 => ?_)
        · rw [if_pos c10] at hf
          refine lv_iinc (k := 3) (v := x3 + 1) (lv' := [(3, .int (x3 + 1)), (0, .ref (wA B 182)), (1, .int x1), (2, .int x2)]) hx hb dX4_coverage_52 hl rfl (by rfl) (by decide) rfl (fun ls hl => ?_)
          refine lv_goto (tgt := 4) hx hb dX4_coverage_55 (by decide) ?_
          exact ih x2 (x3 + 1) q5.2 _ _ _ _ hf w (lv_sub hl [1, 2, 3, 0] rfl) hK
        · rw [if_neg c10] at hf
          refine lv_iinc (k := 2) (v := x2 + 1) (lv' := [(2, .int (x2 + 1)), (0, .ref (wA B 182)), (1, .int x1), (3, .int x3)]) hx hb dX4_coverage_49 hl rfl (by rfl) (by decide) rfl (fun ls hl => ?_)
          refine lv_iinc (k := 3) (v := x3 + 1) (lv' := [(3, .int (x3 + 1)), (2, .int (x2 + 1)), (0, .ref (wA B 182)), (1, .int x1)]) hx hb dX4_coverage_52 hl rfl (by rfl) (by decide) rfl (fun ls hl => ?_)
          refine lv_goto (tgt := 4) hx hb dX4_coverage_55 (by decide) ?_
          exact ih (x2 + 1) (x3 + 1) q5.2 _ _ _ _ hf w (lv_sub hl [2, 3, 1, 0] rfl) hK
set_option maxHeartbeats 4000000 in
set_option maxRecDepth 100000 in
theorem m_X4_coverage (l : Launch) (B : Wb) (sz : Nat) (σ : Mem) (x1 : Int32) (q : Int32 × Mem) (hf : f_X4_coverage x1 σ = some q) : MetC l yX4_coverage cX4_coverage 4 (some .int) rm_X4_coverage B sz σ q.2 [.ref (wA B 182), .int x1] (some (.int q.1)) := by
  refine met_in (by decide +kernel) (Nat.le_of_ble_eq_true rfl) ?_
  intro p e s m below meth c C0 hr w hsz ls hl
  have hx := C0.1.1
  have hb := C0.1.2.1
  unfold f_X4_coverage at hf
  refine lv_iconst (v := 0) hx hb dX4_coverage_0 (by decide) ?_
  refine lv_istore_n (lv' := [(2, .int 0), (0, .ref (wA B 182)), (1, .int x1)]) hx hb dX4_coverage_1 rfl hl (by decide) rfl (fun ls hl => ?_)
  refine lv_iconst (v := 0) hx hb dX4_coverage_2 (by decide) ?_
  refine lv_istore_n (lv' := [(3, .int 0), (2, .int 0), (0, .ref (wA B 182)), (1, .int x1)]) hx hb dX4_coverage_3 rfl hl (by decide) rfl (fun ls hl => ?_)
  obtain ⟨q1, h2, hf⟩ := bdE hf
  refine lp_X4_coverage_4 l B C0 x1 100000 0 0 σ q1 _ _ _ h2 w (lv_sub hl [2, 3, 1, 0] rfl) (fun H locs ls w hl => ?_)
  refine lv_iload_n hx hb dX4_coverage_58 rfl (lv_at hl 0 rfl) ?_
  obtain rfl := Option.some.inj hf
  exact eI C0 hr w rfl dX4_coverage_59
def f_X1_meanAround_8 (x1 : Int32) (σ : Mem) : Nat → Int64 → Int32 → Int32 → Option (Int64 × Int32)
  | 0, _, _, _ => none
  | n + 1, x2, x4, x5 =>
    gd (inb x1 64) (
    if (σ.1 9 x1.toNatClampNeg) ≤ x5 then (
      some ((x2, x4)))
    else (
      gd (inb x1 64) (
      gd (shA (11 + 1 * x1.toNatClampNeg) 1 (aln (11 + 1 * x1.toNatClampNeg))) (
      gd (inb x5 (aln (11 + 1 * x1.toNatClampNeg))) (
      gd (inb (σ.1 (11 + 1 * x1.toNatClampNeg) x5.toNatClampNeg) 64) (
      if (σ.1 185 (σ.1 (11 + 1 * x1.toNatClampNeg) x5.toNatClampNeg).toNatClampNeg) ≤ 0 then (
        f_X1_meanAround_8 x1 σ n x2 x4 (x5 + 1))
      else (
        gd (inb (σ.1 (11 + 1 * x1.toNatClampNeg) x5.toNatClampNeg) 64) (
        f_X1_meanAround_8 x1 σ n (x2 + ((σ.1 2 (σ.1 (11 + 1 * x1.toNatClampNeg) x5.toNatClampNeg).toNatClampNeg).toInt64)) (x4 + 1) (x5 + 1)))))))))
def f_X1_meanAround (x1 : Int32) (σ : Mem) : Option (Int32) :=
  bd (f_X1_meanAround_8 x1 σ 100000 0 0 0) (fun q1 =>
  if q1.2 = 0 then (
    gd (inb x1 64) (
    some (σ.1 2 x1.toNatClampNeg)))
  else (
    bd (f_X11_roundedQuotient q1.1 q1.2.toInt64 σ) (fun q4 =>
    some q4.toInt32)))
abbrev rm_X1_meanAround : Room := { frames := 2, cells := 0, slots := 0, locals := 48 }
set_option maxHeartbeats 4000000 in
set_option maxRecDepth 100000 in
theorem lp_X1_meanAround_8 {p : Program} {e : Env} {s : State} {m : MethodId} {args : Array Value} {below : List Frame} {meth : Method} {c : Code} {Q : State → Prop} (l : Launch) (B : Wb) (C0 : Cx p s m args meth c cX1_meanAround 7 RX1) (x1 : Int32) : ∀ (n : Nat) (x2 : Int64) (x4 : Int32) (x5 : Int32) (σ : Mem) (o : Int64 × Int32) (H : Heap) (locs : List Loc) (ls : Array Slot), f_X1_meanAround_8 x1 σ n x2 x4 x5 = some o → Wx B σ s H locs → lv_has ls 7 [(0, .ref (wA B 183)), (1, .int x1), (2, .long x2), (4, .int x4), (5, .int x5)] → (∀ (H : Heap) (locs : List Loc) (ls : Array Slot), Wx B σ s H locs → lv_has ls 7 [(0, .ref (wA B 183)), (1, .int x1), (2, .long o.1), (4, .int o.2)] → W p l e rm_X1_meanAround s m args below meth c H locs 0 0 Q (F0 m 69 ls [])) → W p l e rm_X1_meanAround s m args below meth c H locs 0 0 Q (F0 m 8 ls []) := by
  have hx := C0.1.1
  have hb := C0.1.2.1
  intro n
  induction n with
  | zero =>
    intro x2 x4 x5 σ o H locs ls hf w hl hK
    cases hf
  | succ n ih =>
    intro x2 x4 x5 σ o H locs ls hf w hl hK
    rw [f_X1_meanAround_8] at hf
    refine lv_iload hx hb dX1_meanAround_8 (lv_at hl 4 rfl) ?_
    refine lv_aload_n hx hb dX1_meanAround_10 rfl (lv_at hl 0 rfl) ?_
    refine gR C0 w 8 fk_X1_22 (by decide +kernel) dX1_meanAround_11 ?_
    refine gR C0 w 9 fk_X1_132 (by decide +kernel) dX1_meanAround_14 ?_
    refine lv_iload_n hx hb dX1_meanAround_17 rfl (lv_at hl 1 rfl) ?_
    obtain ⟨g1, hf⟩ := gdE hf
    refine aI C0 w (n := 64) (by decide +kernel) (inbE g1) dX1_meanAround_18 ?_
    refine lv_icmp_ge (tgt := 69) hx hb dX1_meanAround_19 (by decide) (fun c2 => ?_) (fun c2 => ?_)
    · rw [if_pos c2] at hf
      obtain rfl := Option.some.inj hf
      exact hK _ _ _ w (lv_sub hl [0, 1, 2, 3] rfl)
    · rw [if_neg c2] at hf
      refine lv_aload_n hx hb dX1_meanAround_22 rfl (lv_at hl 0 rfl) ?_
      refine gR C0 w 8 fk_X1_22 (by decide +kernel) dX1_meanAround_23 ?_
      refine gR C0 w 10 fk_X1_138 (by decide +kernel) dX1_meanAround_26 ?_
      refine lv_iload_n hx hb dX1_meanAround_29 rfl (lv_at hl 1 rfl) ?_
      obtain ⟨g3, hf⟩ := gdE hf
      refine aG C0 w (n := 64) 11 1 (by decide +kernel) rfl (inbE g3) dX1_meanAround_30 ?_
      refine lv_iload hx hb dX1_meanAround_31 (lv_at hl 4 rfl) ?_
      obtain ⟨g4, hf⟩ := gdE hf
      obtain ⟨g5, hf⟩ := gdE hf
      refine aI C0 w g4 (inbE g5) dX1_meanAround_33 ?_
      refine lv_istore (lv' := [(6, .int (σ.1 (11 + 1 * x1.toNatClampNeg) x5.toNatClampNeg)), (0, .ref (wA B 183)), (1, .int x1), (2, .long x2), (4, .int x4), (5, .int x5)]) hx hb dX1_meanAround_34 hl (by decide) rfl (fun ls hl => ?_)
      refine lv_aload_n hx hb dX1_meanAround_36 rfl (lv_at hl 1 rfl) ?_
      refine gR C0 w 185 fk_X1_15 (by decide +kernel) dX1_meanAround_37 ?_
      refine lv_iload hx hb dX1_meanAround_40 (lv_at hl 0 rfl) ?_
      obtain ⟨g6, hf⟩ := gdE hf
      refine aI C0 w (n := 64) (by decide +kernel) (inbE g6) dX1_meanAround_42 ?_
      refine lv_if_le (tgt := 63) hx hb dX1_meanAround_43 (by decide) (fun c7 => ?_) (fun c7 => ?_)
      · rw [if_pos c7] at hf
        refine lv_iinc (k := 5) (v := x5 + 1) (lv' := [(5, .int (x5 + 1)), (6, .int (σ.1 (11 + 1 * x1.toNatClampNeg) x5.toNatClampNeg)), (0, .ref (wA B 183)), (1, .int x1), (2, .long x2), (4, .int x4)]) hx hb dX1_meanAround_63 hl rfl (by rfl) (by decide) rfl (fun ls hl => ?_)
        refine lv_goto (tgt := 8) hx hb dX1_meanAround_66 (by decide) ?_
        exact ih x2 x4 (x5 + 1) σ _ _ _ _ hf w (lv_sub hl [2, 3, 4, 5, 0] rfl) hK
      · rw [if_neg c7] at hf
        refine lv_lload_n hx hb dX1_meanAround_46 rfl (lv_at hl 3 rfl) ?_
        refine lv_aload_n hx hb dX1_meanAround_47 rfl (lv_at hl 1 rfl) ?_
        refine gR C0 w 1 fk_X1_18 (by decide +kernel) dX1_meanAround_48 ?_
        refine gR C0 w 2 fk_X1_38 (by decide +kernel) dX1_meanAround_51 ?_
        refine lv_iload hx hb dX1_meanAround_54 (lv_at hl 0 rfl) ?_
        obtain ⟨g8, hf⟩ := gdE hf
        refine aI C0 w (n := 64) (by decide +kernel) (inbE g8) dX1_meanAround_56 ?_
        refine lv_i2l hx hb dX1_meanAround_57 rfl ?_
        refine lv_ladd hx hb dX1_meanAround_58 ?_
        refine lv_lstore_n (lv' := [(2, .long (x2 + ((σ.1 2 (σ.1 (11 + 1 * x1.toNatClampNeg) x5.toNatClampNeg).toNatClampNeg).toInt64))), (6, .int (σ.1 (11 + 1 * x1.toNatClampNeg) x5.toNatClampNeg)), (0, .ref (wA B 183)), (1, .int x1), (4, .int x4), (5, .int x5)]) hx hb dX1_meanAround_59 rfl hl (by decide) rfl (fun ls hl => ?_)
        refine lv_iinc (k := 4) (v := x4 + 1) (lv' := [(4, .int (x4 + 1)), (2, .long (x2 + ((σ.1 2 (σ.1 (11 + 1 * x1.toNatClampNeg) x5.toNatClampNeg).toNatClampNeg).toInt64))), (6, .int (σ.1 (11 + 1 * x1.toNatClampNeg) x5.toNatClampNeg)), (0, .ref (wA B 183)), (1, .int x1), (5, .int x5)]) hx hb dX1_meanAround_60 hl rfl (by rfl) (by decide) rfl (fun ls hl => ?_)
        refine lv_iinc (k := 5) (v := x5 + 1) (lv' := [(5, .int (x5 + 1)), (4, .int (x4 + 1)), (2, .long (x2 + ((σ.1 2 (σ.1 (11 + 1 * x1.toNatClampNeg) x5.toNatClampNeg).toNatClampNeg).toInt64))), (6, .int (σ.1 (11 + 1 * x1.toNatClampNeg) x5.toNatClampNeg)), (0, .ref (wA B 183)), (1, .int x1)]) hx hb dX1_meanAround_63 hl rfl (by rfl) (by decide) rfl (fun ls hl => ?_)
        refine lv_goto (tgt := 8) hx hb dX1_meanAround_66 (by decide) ?_
        exact ih (x2 + ((σ.1 2 (σ.1 (11 + 1 * x1.toNatClampNeg) x5.toNatClampNeg).toNatClampNeg).toInt64)) (x4 + 1) (x5 + 1) σ _ _ _ _ hf w (lv_sub hl [4, 5, 2, 1, 0] rfl) hK
set_option maxHeartbeats 4000000 in
set_option maxRecDepth 100000 in
theorem m_X1_meanAround (l : Launch) (B : Wb) (sz : Nat) (σ : Mem) (x1 : Int32) (q : Int32) (hf : f_X1_meanAround x1 σ = some q) : MetC l yX1_meanAround cX1_meanAround 7 (some .int) rm_X1_meanAround B sz σ σ [.ref (wA B 183), .int x1] (some (.int q)) := by
  refine met_in (by decide +kernel) (Nat.le_of_ble_eq_true rfl) ?_
  intro p e s m below meth c C0 hr w hsz ls hl
  have hx := C0.1.1
  have hb := C0.1.2.1
  unfold f_X1_meanAround at hf
  refine lv_lconst (v := 0) hx hb dX1_meanAround_0 (by decide) ?_
  refine lv_lstore_n (lv' := [(2, .long 0), (0, .ref (wA B 183)), (1, .int x1)]) hx hb dX1_meanAround_1 rfl hl (by decide) rfl (fun ls hl => ?_)
  refine lv_iconst (v := 0) hx hb dX1_meanAround_2 (by decide) ?_
  refine lv_istore (lv' := [(4, .int 0), (2, .long 0), (0, .ref (wA B 183)), (1, .int x1)]) hx hb dX1_meanAround_3 hl (by decide) rfl (fun ls hl => ?_)
  refine lv_iconst (v := 0) hx hb dX1_meanAround_5 (by decide) ?_
  refine lv_istore (lv' := [(5, .int 0), (4, .int 0), (2, .long 0), (0, .ref (wA B 183)), (1, .int x1)]) hx hb dX1_meanAround_6 hl (by decide) rfl (fun ls hl => ?_)
  obtain ⟨q1, h2, hf⟩ := bdE hf
  refine lp_X1_meanAround_8 l B C0 x1 100000 0 0 0 σ q1 _ _ _ h2 w (lv_sub hl [3, 4, 2, 1, 0] rfl) (fun H locs ls w hl => ?_)
  refine lv_iload hx hb dX1_meanAround_69 (lv_at hl 3 rfl) ?_
  refine lv_if_ne (tgt := 86) hx hb dX1_meanAround_71 (by decide) (fun c3 => ?_) (fun c3 => ?_)
  · rw [if_neg c3] at hf
    refine lv_lload_n hx hb dX1_meanAround_86 rfl (lv_at hl 2 rfl) ?_
    refine lv_iload hx hb dX1_meanAround_87 (lv_at hl 3 rfl) ?_
    refine lv_i2l hx hb dX1_meanAround_89 rfl ?_
    obtain ⟨q4, h5, hf⟩ := bdE hf
    refine cN (As := [.long q1.1, .long q1.2.toInt64]) (rest := []) (host := RX11) (idx := 123) C0 w (m_X11_roundedQuotient l B _ σ q1.1 q1.2.toInt64 q4 h5) ky_X11_roundedQuotient ks_X11_roundedQuotient (by decide) ⟨Nat.le_of_ble_eq_true rfl, Nat.le_of_ble_eq_true rfl⟩ ⟨Nat.le_of_ble_eq_true rfl, Nat.le_of_ble_eq_true rfl⟩ rfl (by rfl) (Nat.le_of_ble_eq_true rfl) hl.1 dX1_meanAround_90 (fun H locs w => ?_)
    refine lv_l2i hx hb dX1_meanAround_93 rfl ?_
    obtain rfl := Option.some.inj hf
    exact eI C0 hr w rfl dX1_meanAround_94
  · rw [if_pos c3] at hf
    refine lv_aload_n hx hb dX1_meanAround_74 rfl (lv_at hl 0 rfl) ?_
    refine gR C0 w 1 fk_X1_18 (by decide +kernel) dX1_meanAround_75 ?_
    refine gR C0 w 2 fk_X1_38 (by decide +kernel) dX1_meanAround_78 ?_
    refine lv_iload_n hx hb dX1_meanAround_81 rfl (lv_at hl 1 rfl) ?_
    obtain ⟨g6, hf⟩ := gdE hf
    refine aI C0 w (n := 64) (by decide +kernel) (inbE g6) dX1_meanAround_82 ?_
    refine lv_goto (tgt := 94) hx hb dX1_meanAround_83 (by decide) ?_
    obtain rfl := Option.some.inj hf
    exact eI C0 hr w rfl dX1_meanAround_94
def f_X1_fillGaps_2 : Nat → Int32 → Mem → Option (Mem)
  | 0, _, _ => none
  | n + 1, x1, σ =>
    bd (f_X7_cellCount σ) (fun q1 =>
    if q1 ≤ x1 then (
      some σ)
    else (
      bd (f_X4_coverage x1 σ) (fun q4 =>
      gd (inb x1 64) (
      f_X1_fillGaps_2 n (x1 + 1) (setI q4.2 185 x1.toNatClampNeg q4.1)))))
def f_X1_fillGaps_35 : Nat → Int32 → Mem → Option (Mem)
  | 0, _, _ => none
  | n + 1, x1, σ =>
    bd (f_X7_cellCount σ) (fun q1 =>
    if q1 ≤ x1 then (
      some σ)
    else (
      gd (inb x1 64) (
      if (σ.1 185 x1.toNatClampNeg) = 0 then (
        bd (f_X1_meanAround x1 σ) (fun q8 =>
        gd (inb x1 64) (
        f_X1_fillGaps_35 n (x1 + 1) (setI σ 184 x1.toNatClampNeg q8))))
      else (
        gd (inb x1 64) (
        gd (inb x1 64) (
        f_X1_fillGaps_35 n (x1 + 1) (setI σ 184 x1.toNatClampNeg (σ.1 2 x1.toNatClampNeg))))))))
def f_X1_fillGaps (σ : Mem) : Option (Int32 × Mem) :=
  bd (f_X1_fillGaps_2 100000 0 σ) (fun q1 =>
  bd (f_X1_fillGaps_35 100000 0 q1) (fun q3 =>
  bd (f_X1_takeOver 2 q3) (fun q5 =>
  some ((q5.1, q5.2)))))
abbrev rm_X1_fillGaps : Room := { frames := 4, cells := 0, slots := 0, locals := 102 }
set_option maxHeartbeats 4000000 in
set_option maxRecDepth 100000 in
theorem lp_X1_fillGaps_2 {p : Program} {e : Env} {s : State} {m : MethodId} {args : Array Value} {below : List Frame} {meth : Method} {c : Code} {Q : State → Prop} (l : Launch) (B : Wb) (C0 : Cx p s m args meth c cX1_fillGaps 2 RX1) : ∀ (n : Nat) (x1 : Int32) (σ : Mem) (o : Mem) (H : Heap) (locs : List Loc) (ls : Array Slot), f_X1_fillGaps_2 n x1 σ = some o → Wx B σ s H locs → lv_has ls 2 [(0, .ref (wA B 183)), (1, .int x1)] → (∀ (H : Heap) (locs : List Loc) (ls : Array Slot), Wx B o s H locs → lv_has ls 2 [(0, .ref (wA B 183))] → W p l e rm_X1_fillGaps s m args below meth c H locs 0 0 Q (F0 m 33 ls [])) → W p l e rm_X1_fillGaps s m args below meth c H locs 0 0 Q (F0 m 2 ls []) := by
  have hx := C0.1.1
  have hb := C0.1.2.1
  intro n
  induction n with
  | zero =>
    intro x1 σ o H locs ls hf w hl hK
    cases hf
  | succ n ih =>
    intro x1 σ o H locs ls hf w hl hK
    rw [f_X1_fillGaps_2] at hf
    refine lv_iload_n hx hb dX1_fillGaps_2 rfl (lv_at hl 1 rfl) ?_
    refine lv_aload_n hx hb dX1_fillGaps_3 rfl (lv_at hl 0 rfl) ?_
    refine gR C0 w 1 fk_X1_18 (by decide +kernel) dX1_fillGaps_4 ?_
    obtain ⟨q1, h2, hf⟩ := bdE hf
    refine cV (As := []) (rest := [.int x1]) (k := 1) (ci := 6) (T := TX7) (N := 14) C0 w (m_X7_cellCount l B _ σ q1 h2) ky_X7_cellCount kv_X7_cellCount lk_X1_67 rfl (by decide +kernel) ⟨Nat.le_of_ble_eq_true rfl, Nat.le_of_ble_eq_true rfl⟩ ⟨Nat.le_of_ble_eq_true rfl, Nat.le_of_ble_eq_true rfl⟩ rfl (by rfl) (Nat.le_of_ble_eq_true rfl) hl.1 dX1_fillGaps_7 (fun H locs w => ?_)
    refine lv_icmp_ge (tgt := 33) hx hb dX1_fillGaps_10 (by decide) (fun c3 => ?_) (fun c3 => ?_)
    · rw [if_pos c3] at hf
      obtain rfl := Option.some.inj hf
      exact hK _ _ _ w (lv_sub hl [0] rfl)
    · rw [if_neg c3] at hf
      refine lv_aload_n hx hb dX1_fillGaps_13 rfl (lv_at hl 0 rfl) ?_
      refine gR C0 w 185 fk_X1_15 (by decide +kernel) dX1_fillGaps_14 ?_
      refine lv_iload_n hx hb dX1_fillGaps_17 rfl (lv_at hl 1 rfl) ?_
      refine lv_aload_n hx hb dX1_fillGaps_18 rfl (lv_at hl 0 rfl) ?_
      refine gR C0 w 182 fk_X1_34 (by decide +kernel) dX1_fillGaps_19 ?_
      refine lv_iload_n hx hb dX1_fillGaps_22 rfl (lv_at hl 1 rfl) ?_
      obtain ⟨q4, h5, hf⟩ := bdE hf
      refine cV (As := [.int x1]) (rest := [.int x1, .ref (wA B 185)]) (k := 182) (ci := 3) (T := TX4) (N := 2) C0 w (m_X4_coverage l B _ σ x1 q4 h5) ky_X4_coverage kv_X4_coverage lk_X1_141 rfl (by decide +kernel) ⟨Nat.le_of_ble_eq_true rfl, Nat.le_of_ble_eq_true rfl⟩ ⟨Nat.le_of_ble_eq_true rfl, Nat.le_of_ble_eq_true rfl⟩ rfl (by rfl) (Nat.le_of_ble_eq_true rfl) hl.1 dX1_fillGaps_23 (fun H locs w => ?_)
      obtain ⟨g6, hf⟩ := gdE hf
      refine sI C0 w (n := 64) (by decide +kernel) (inbE g6) dX1_fillGaps_26 (fun H locs w => ?_)
      refine lv_iinc (k := 1) (v := x1 + 1) (lv' := [(1, .int (x1 + 1)), (0, .ref (wA B 183))]) hx hb dX1_fillGaps_27 hl rfl (by rfl) (by decide) rfl (fun ls hl => ?_)
      refine lv_goto (tgt := 2) hx hb dX1_fillGaps_30 (by decide) ?_
      exact ih (x1 + 1) (setI q4.2 185 x1.toNatClampNeg q4.1) _ _ _ _ hf w (lv_sub hl [1, 0] rfl) hK
set_option maxHeartbeats 4000000 in
set_option maxRecDepth 100000 in
theorem lp_X1_fillGaps_35 {p : Program} {e : Env} {s : State} {m : MethodId} {args : Array Value} {below : List Frame} {meth : Method} {c : Code} {Q : State → Prop} (l : Launch) (B : Wb) (C0 : Cx p s m args meth c cX1_fillGaps 2 RX1) : ∀ (n : Nat) (x1 : Int32) (σ : Mem) (o : Mem) (H : Heap) (locs : List Loc) (ls : Array Slot), f_X1_fillGaps_35 n x1 σ = some o → Wx B σ s H locs → lv_has ls 2 [(0, .ref (wA B 183)), (1, .int x1)] → (∀ (H : Heap) (locs : List Loc) (ls : Array Slot), Wx B o s H locs → lv_has ls 2 [(0, .ref (wA B 183))] → W p l e rm_X1_fillGaps s m args below meth c H locs 0 0 Q (F0 m 84 ls [])) → W p l e rm_X1_fillGaps s m args below meth c H locs 0 0 Q (F0 m 35 ls []) := by
  have hx := C0.1.1
  have hb := C0.1.2.1
  intro n
  induction n with
  | zero =>
    intro x1 σ o H locs ls hf w hl hK
    cases hf
  | succ n ih =>
    intro x1 σ o H locs ls hf w hl hK
    rw [f_X1_fillGaps_35] at hf
    refine lv_iload_n hx hb dX1_fillGaps_35 rfl (lv_at hl 1 rfl) ?_
    refine lv_aload_n hx hb dX1_fillGaps_36 rfl (lv_at hl 0 rfl) ?_
    refine gR C0 w 1 fk_X1_18 (by decide +kernel) dX1_fillGaps_37 ?_
    obtain ⟨q1, h2, hf⟩ := bdE hf
    refine cV (As := []) (rest := [.int x1]) (k := 1) (ci := 6) (T := TX7) (N := 14) C0 w (m_X7_cellCount l B _ σ q1 h2) ky_X7_cellCount kv_X7_cellCount lk_X1_67 rfl (by decide +kernel) ⟨Nat.le_of_ble_eq_true rfl, Nat.le_of_ble_eq_true rfl⟩ ⟨Nat.le_of_ble_eq_true rfl, Nat.le_of_ble_eq_true rfl⟩ rfl (by rfl) (Nat.le_of_ble_eq_true rfl) hl.1 dX1_fillGaps_40 (fun H locs w => ?_)
    refine lv_icmp_ge (tgt := 84) hx hb dX1_fillGaps_43 (by decide) (fun c3 => ?_) (fun c3 => ?_)
    · rw [if_pos c3] at hf
      obtain rfl := Option.some.inj hf
      exact hK _ _ _ w (lv_sub hl [0] rfl)
    · rw [if_neg c3] at hf
      refine lv_aload_n hx hb dX1_fillGaps_46 rfl (lv_at hl 0 rfl) ?_
      refine gR C0 w 184 fk_X1_9 (by decide +kernel) dX1_fillGaps_47 ?_
      refine lv_iload_n hx hb dX1_fillGaps_50 rfl (lv_at hl 1 rfl) ?_
      refine lv_aload_n hx hb dX1_fillGaps_51 rfl (lv_at hl 0 rfl) ?_
      refine gR C0 w 185 fk_X1_15 (by decide +kernel) dX1_fillGaps_52 ?_
      refine lv_iload_n hx hb dX1_fillGaps_55 rfl (lv_at hl 1 rfl) ?_
      obtain ⟨g4, hf⟩ := gdE hf
      refine aI C0 w (n := 64) (by decide +kernel) (inbE g4) dX1_fillGaps_56 ?_
      refine lv_if_ne (tgt := 68) hx hb dX1_fillGaps_57 (by decide) (fun c5 => ?_) (fun c5 => ?_)
      · rw [if_neg c5] at hf
        refine lv_aload_n hx hb dX1_fillGaps_68 rfl (lv_at hl 0 rfl) ?_
        refine gR C0 w 1 fk_X1_18 (by decide +kernel) dX1_fillGaps_69 ?_
        refine gR C0 w 2 fk_X1_38 (by decide +kernel) dX1_fillGaps_72 ?_
        refine lv_iload_n hx hb dX1_fillGaps_75 rfl (lv_at hl 1 rfl) ?_
        obtain ⟨g6, hf⟩ := gdE hf
        refine aI C0 w (n := 64) (by decide +kernel) (inbE g6) dX1_fillGaps_76 ?_
        obtain ⟨g7, hf⟩ := gdE hf
        refine sI C0 w (n := 64) (by decide +kernel) (inbE g7) dX1_fillGaps_77 (fun H locs w => ?_)
        refine lv_iinc (k := 1) (v := x1 + 1) (lv' := [(1, .int (x1 + 1)), (0, .ref (wA B 183))]) hx hb dX1_fillGaps_78 hl rfl (by rfl) (by decide) rfl (fun ls hl => ?_)
        refine lv_goto (tgt := 35) hx hb dX1_fillGaps_81 (by decide) ?_
        exact ih (x1 + 1) (setI σ 184 x1.toNatClampNeg (σ.1 2 x1.toNatClampNeg)) _ _ _ _ hf w (lv_sub hl [1, 0] rfl) hK
      · rw [if_pos c5] at hf
        refine lv_aload_n hx hb dX1_fillGaps_60 rfl (lv_at hl 0 rfl) ?_
        refine lv_iload_n hx hb dX1_fillGaps_61 rfl (lv_at hl 1 rfl) ?_
        obtain ⟨q8, h9, hf⟩ := bdE hf
        refine cV (As := [.int x1]) (rest := [.int x1, .ref (wA B 184)]) (k := 183) (ci := 0) (T := TX1) (N := 7) C0 w (m_X1_meanAround l B _ σ x1 q8 h9) ky_X1_meanAround kv_X1_meanAround lk_X1_146 rfl (by decide +kernel) ⟨Nat.le_of_ble_eq_true rfl, Nat.le_of_ble_eq_true rfl⟩ ⟨Nat.le_of_ble_eq_true rfl, Nat.le_of_ble_eq_true rfl⟩ rfl (by rfl) (Nat.le_of_ble_eq_true rfl) hl.1 dX1_fillGaps_62 (fun H locs w => ?_)
        refine lv_goto (tgt := 77) hx hb dX1_fillGaps_65 (by decide) ?_
        obtain ⟨g10, hf⟩ := gdE hf
        refine sI C0 w (n := 64) (by decide +kernel) (inbE g10) dX1_fillGaps_77 (fun H locs w => ?_)
        refine lv_iinc (k := 1) (v := x1 + 1) (lv' := [(1, .int (x1 + 1)), (0, .ref (wA B 183))]) hx hb dX1_fillGaps_78 hl rfl (by rfl) (by decide) rfl (fun ls hl => ?_)
        refine lv_goto (tgt := 35) hx hb dX1_fillGaps_81 (by decide) ?_
        exact ih (x1 + 1) (setI σ 184 x1.toNatClampNeg q8) _ _ _ _ hf w (lv_sub hl [1, 0] rfl) hK
set_option maxHeartbeats 4000000 in
set_option maxRecDepth 100000 in
theorem m_X1_fillGaps (l : Launch) (B : Wb) (sz : Nat) (σ : Mem) (q : Int32 × Mem) (hf : f_X1_fillGaps σ = some q) : MetC l yX1_fillGaps cX1_fillGaps 2 (some .int) rm_X1_fillGaps B sz σ q.2 [.ref (wA B 183)] (some (.int q.1)) := by
  refine met_in (by decide +kernel) (Nat.le_of_ble_eq_true rfl) ?_
  intro p e s m below meth c C0 hr w hsz ls hl
  have hx := C0.1.1
  have hb := C0.1.2.1
  unfold f_X1_fillGaps at hf
  refine lv_iconst (v := 0) hx hb dX1_fillGaps_0 (by decide) ?_
  refine lv_istore_n (lv' := [(1, .int 0), (0, .ref (wA B 183))]) hx hb dX1_fillGaps_1 rfl hl (by decide) rfl (fun ls hl => ?_)
  obtain ⟨q1, h2, hf⟩ := bdE hf
  refine lp_X1_fillGaps_2 l B C0 100000 0 σ q1 _ _ _ h2 w (lv_sub hl [1, 0] rfl) (fun H locs ls w hl => ?_)
  refine lv_iconst (v := 0) hx hb dX1_fillGaps_33 (by decide) ?_
  refine lv_istore_n (lv' := [(1, .int 0), (0, .ref (wA B 183))]) hx hb dX1_fillGaps_34 rfl hl (by decide) rfl (fun ls hl => ?_)
  obtain ⟨q3, h4, hf⟩ := bdE hf
  refine lp_X1_fillGaps_35 l B C0 100000 0 q1 q3 _ _ _ h4 w (lv_sub hl [1, 0] rfl) (fun H locs ls w hl => ?_)
  refine lv_aload_n hx hb dX1_fillGaps_84 rfl (lv_at hl 0 rfl) ?_
  refine lv_aload_n hx hb dX1_fillGaps_85 rfl (lv_at hl 0 rfl) ?_
  refine gR C0 w 1 fk_X1_18 (by decide +kernel) dX1_fillGaps_86 ?_
  refine gR C0 w 2 fk_X1_38 (by decide +kernel) dX1_fillGaps_89 ?_
  obtain ⟨q5, h6, hf⟩ := bdE hf
  refine cV (As := [.ref (wA B 2)]) (rest := []) (k := 183) (ci := 0) (T := TX1) (N := 7) C0 w (m_X1_takeOver l B _ q3 2 q5 h6) ky_X1_takeOver kv_X1_takeOver lk_X1_63 rfl (by decide +kernel) ⟨Nat.le_of_ble_eq_true rfl, Nat.le_of_ble_eq_true rfl⟩ ⟨Nat.le_of_ble_eq_true rfl, Nat.le_of_ble_eq_true rfl⟩ rfl (by rfl) (Nat.le_of_ble_eq_true rfl) hl.1 dX1_fillGaps_92 (fun H locs w => ?_)
  obtain rfl := Option.some.inj hf
  exact eI C0 hr w rfl dX1_fillGaps_95
def f_X2_layCell_43 (x1 : Int32) (x2 : Int32) (x3 : Int32) (x4 : Int32) (x5 : Int32) (x7 : Int32) : Nat → Int32 → Int32 → Mem → Option (Int32 × Mem)
  | 0, _, _, _ => none
  | n + 1, x6, x8, σ =>
    if ((if (x3 - 1) < (x1 + 1) then (x3 - 1) else (x1 + 1))) < x8 then (
      some ((x6, σ)))
    else (
      if x8 = x1 then (
        if x7 = x2 then (
          f_X2_layCell_43 x1 x2 x3 x4 x5 x7 n x6 (x8 + 1) σ)
        else (
          gd (inb x5 64) (
          gd (shA (11 + 1 * x5.toNatClampNeg) 1 (aln (11 + 1 * x5.toNatClampNeg))) (
          gd (inb x6 (aln (11 + 1 * x5.toNatClampNeg))) (
          gd (inb x5 64) (
          if x8 = x1 then (
            gd (shA (76 + 1 * x5.toNatClampNeg) 1 (aln (76 + 1 * x5.toNatClampNeg))) (
            gd (inb x6 (aln (76 + 1 * x5.toNatClampNeg))) (
            f_X2_layCell_43 x1 x2 x3 x4 x5 x7 n (x6 + 1) (x8 + 1) (setI (setI σ (11 + 1 * x5.toNatClampNeg) x6.toNatClampNeg ((x3 * x7) + x8)) (76 + 1 * x5.toNatClampNeg) x6.toNatClampNeg 1000))))
          else (
            if x7 = x2 then (
              gd (shA (76 + 1 * x5.toNatClampNeg) 1 (aln (76 + 1 * x5.toNatClampNeg))) (
              gd (inb x6 (aln (76 + 1 * x5.toNatClampNeg))) (
              f_X2_layCell_43 x1 x2 x3 x4 x5 x7 n (x6 + 1) (x8 + 1) (setI (setI σ (11 + 1 * x5.toNatClampNeg) x6.toNatClampNeg ((x3 * x7) + x8)) (76 + 1 * x5.toNatClampNeg) x6.toNatClampNeg 1000))))
            else (
              gd (shA (76 + 1 * x5.toNatClampNeg) 1 (aln (76 + 1 * x5.toNatClampNeg))) (
              gd (inb x6 (aln (76 + 1 * x5.toNatClampNeg))) (
              f_X2_layCell_43 x1 x2 x3 x4 x5 x7 n (x6 + 1) (x8 + 1) (setI (setI σ (11 + 1 * x5.toNatClampNeg) x6.toNatClampNeg ((x3 * x7) + x8)) (76 + 1 * x5.toNatClampNeg) x6.toNatClampNeg 1414)))))))))))
      else (
        gd (inb x5 64) (
        gd (shA (11 + 1 * x5.toNatClampNeg) 1 (aln (11 + 1 * x5.toNatClampNeg))) (
        gd (inb x6 (aln (11 + 1 * x5.toNatClampNeg))) (
        gd (inb x5 64) (
        if x8 = x1 then (
          gd (shA (76 + 1 * x5.toNatClampNeg) 1 (aln (76 + 1 * x5.toNatClampNeg))) (
          gd (inb x6 (aln (76 + 1 * x5.toNatClampNeg))) (
          f_X2_layCell_43 x1 x2 x3 x4 x5 x7 n (x6 + 1) (x8 + 1) (setI (setI σ (11 + 1 * x5.toNatClampNeg) x6.toNatClampNeg ((x3 * x7) + x8)) (76 + 1 * x5.toNatClampNeg) x6.toNatClampNeg 1000))))
        else (
          if x7 = x2 then (
            gd (shA (76 + 1 * x5.toNatClampNeg) 1 (aln (76 + 1 * x5.toNatClampNeg))) (
            gd (inb x6 (aln (76 + 1 * x5.toNatClampNeg))) (
            f_X2_layCell_43 x1 x2 x3 x4 x5 x7 n (x6 + 1) (x8 + 1) (setI (setI σ (11 + 1 * x5.toNatClampNeg) x6.toNatClampNeg ((x3 * x7) + x8)) (76 + 1 * x5.toNatClampNeg) x6.toNatClampNeg 1000))))
          else (
            gd (shA (76 + 1 * x5.toNatClampNeg) 1 (aln (76 + 1 * x5.toNatClampNeg))) (
            gd (inb x6 (aln (76 + 1 * x5.toNatClampNeg))) (
            f_X2_layCell_43 x1 x2 x3 x4 x5 x7 n (x6 + 1) (x8 + 1) (setI (setI σ (11 + 1 * x5.toNatClampNeg) x6.toNatClampNeg ((x3 * x7) + x8)) (76 + 1 * x5.toNatClampNeg) x6.toNatClampNeg 1414)))))))))))
def f_X2_layCell_19 (x1 : Int32) (x2 : Int32) (x3 : Int32) (x4 : Int32) (x5 : Int32) : Nat → Int32 → Int32 → Mem → Option (Int32 × Mem)
  | 0, _, _, _ => none
  | n + 1, x6, x7, σ =>
    if ((if (x4 - 1) < (x2 + 1) then (x4 - 1) else (x2 + 1))) < x7 then (
      some ((x6, σ)))
    else (
      bd (f_X2_layCell_43 x1 x2 x3 x4 x5 x7 100000 x6 ((if (x1 - 1) < 0 then 0 else (x1 - 1))) σ) (fun q2 =>
      f_X2_layCell_19 x1 x2 x3 x4 x5 n q2.1 (x7 + 1) q2.2))
def f_X2_layCell (x1 : Int32) (x2 : Int32) (x3 : Int32) (x4 : Int32) (σ : Mem) : Option (Mem) :=
  bd (f_X2_layCell_19 x1 x2 x3 x4 ((x3 * x2) + x1) 100000 0 ((if (x2 - 1) < 0 then 0 else (x2 - 1))) σ) (fun q1 =>
  gd (inb ((x3 * x2) + x1) 64) (
  some (setI q1.2 9 (((x3 * x2) + x1).toNatClampNeg) q1.1)))
abbrev rm_X2_layCell : Room := { frames := 1, cells := 0, slots := 0, locals := 23 }
set_option maxHeartbeats 4000000 in
set_option maxRecDepth 100000 in
theorem lp_X2_layCell_43 {p : Program} {e : Env} {s : State} {m : MethodId} {args : Array Value} {below : List Frame} {meth : Method} {c : Code} {Q : State → Prop} (l : Launch) (B : Wb) (C0 : Cx p s m args meth c cX2_layCell 9 RX2) (x1 : Int32) (x2 : Int32) (x3 : Int32) (x4 : Int32) (x5 : Int32) (x7 : Int32) : ∀ (n : Nat) (x6 : Int32) (x8 : Int32) (σ : Mem) (o : Int32 × Mem) (H : Heap) (locs : List Loc) (ls : Array Slot), f_X2_layCell_43 x1 x2 x3 x4 x5 x7 n x6 x8 σ = some o → Wx B σ s H locs → lv_has ls 9 [(0, .ref (wA B 8)), (1, .int x1), (2, .int x2), (3, .int x3), (4, .int x4), (5, .int x5), (6, .int x6), (7, .int x7), (8, .int x8)] → (∀ (H : Heap) (locs : List Loc) (ls : Array Slot), Wx B o.2 s H locs → lv_has ls 9 [(0, .ref (wA B 8)), (1, .int x1), (2, .int x2), (3, .int x3), (4, .int x4), (5, .int x5), (6, .int o.1), (7, .int x7)] → W p l e rm_X2_layCell s m args below meth c H locs 0 0 Q (F0 m 126 ls [])) → W p l e rm_X2_layCell s m args below meth c H locs 0 0 Q (F0 m 43 ls []) := by
  have hx := C0.1.1
  have hb := C0.1.2.1
  intro n
  induction n with
  | zero =>
    intro x6 x8 σ o H locs ls hf w hl hK
    cases hf
  | succ n ih =>
    intro x6 x8 σ o H locs ls hf w hl hK
    rw [f_X2_layCell_43] at hf
    refine lv_iload hx hb dX2_layCell_43 (lv_at hl 8 rfl) ?_
    refine lv_iload_n hx hb dX2_layCell_45 rfl (lv_at hl 1 rfl) ?_
    refine lv_iconst (v := 1) hx hb dX2_layCell_46 (by decide) ?_
    refine lv_iadd hx hb dX2_layCell_47 ?_
    refine lv_iload_n hx hb dX2_layCell_48 rfl (lv_at hl 3 rfl) ?_
    refine lv_iconst (v := 1) hx hb dX2_layCell_49 (by decide) ?_
    refine lv_isub hx hb dX2_layCell_50 ?_
    refine mMin C0 lk_X2_37 ms_min mi_Math mc_min hl.1 (Nat.le_of_ble_eq_true rfl) (Nat.le_of_ble_eq_true rfl) (Nat.zero_le _) (Nat.zero_le _) dX2_layCell_51 ?_
    refine lv_icmp_gt (tgt := 126) hx hb dX2_layCell_54 (by decide) (fun c1 => ?_) (fun c1 => ?_)
    · rw [if_pos c1] at hf
      obtain rfl := Option.some.inj hf
      exact hK _ _ _ w (lv_sub hl [0, 1, 2, 3, 4, 5, 6, 7] rfl)
    · rw [if_neg c1] at hf
      refine lv_iload hx hb dX2_layCell_57 (lv_at hl 8 rfl) ?_
      refine lv_iload_n hx hb dX2_layCell_59 rfl (lv_at hl 1 rfl) ?_
      refine lv_icmp_ne (tgt := 69) hx hb dX2_layCell_60 (by decide) (fun c2 => ?_) (fun c2 => ?_)
      · rw [if_neg c2] at hf
        refine lv_aload_n hx hb dX2_layCell_69 rfl (lv_at hl 0 rfl) ?_
        refine gR C0 w 10 fk_X2_17 (by decide +kernel) dX2_layCell_70 ?_
        refine lv_iload hx hb dX2_layCell_73 (lv_at hl 5 rfl) ?_
        obtain ⟨g3, hf⟩ := gdE hf
        refine aG C0 w (n := 64) 11 1 (by decide +kernel) rfl (inbE g3) dX2_layCell_75 ?_
        refine lv_iload hx hb dX2_layCell_76 (lv_at hl 6 rfl) ?_
        refine lv_iload_n hx hb dX2_layCell_78 rfl (lv_at hl 3 rfl) ?_
        refine lv_iload hx hb dX2_layCell_79 (lv_at hl 7 rfl) ?_
        refine lv_imul hx hb dX2_layCell_81 ?_
        refine lv_iload hx hb dX2_layCell_82 (lv_at hl 8 rfl) ?_
        refine lv_iadd hx hb dX2_layCell_84 ?_
        obtain ⟨g4, hf⟩ := gdE hf
        obtain ⟨g5, hf⟩ := gdE hf
        refine sI C0 w g4 (inbE g5) dX2_layCell_85 (fun H locs w => ?_)
        refine lv_aload_n hx hb dX2_layCell_86 rfl (lv_at hl 0 rfl) ?_
        refine gR C0 w 75 fk_X2_20 (by decide +kernel) dX2_layCell_87 ?_
        refine lv_iload hx hb dX2_layCell_90 (lv_at hl 5 rfl) ?_
        obtain ⟨g6, hf⟩ := gdE hf
        refine aG C0 w (n := 64) 76 1 (by decide +kernel) rfl (inbE g6) dX2_layCell_92 ?_
        refine lv_iload hx hb dX2_layCell_93 (lv_at hl 6 rfl) ?_
        refine lv_iload hx hb dX2_layCell_95 (lv_at hl 8 rfl) ?_
        refine lv_iload_n hx hb dX2_layCell_97 rfl (lv_at hl 1 rfl) ?_
        refine lv_icmp_eq (tgt := 107) hx hb dX2_layCell_98 (by decide) (fun c7 => ?_) (fun c7 => ?_)
        · rw [if_pos c7] at hf
          refine lv_sipush (v := 1000) hx hb dX2_layCell_107 (by decide) ?_
          refine lv_goto (tgt := 116) hx hb dX2_layCell_110 (by decide) ?_
          obtain ⟨g8, hf⟩ := gdE hf
          obtain ⟨g9, hf⟩ := gdE hf
          refine sI C0 w g8 (inbE g9) dX2_layCell_116 (fun H locs w => ?_)
          refine lv_iinc (k := 6) (v := x6 + 1) (lv' := [(6, .int (x6 + 1)), (0, .ref (wA B 8)), (1, .int x1), (2, .int x2), (3, .int x3), (4, .int x4), (5, .int x5), (7, .int x7), (8, .int x8)]) hx hb dX2_layCell_117 hl rfl (by rfl) (by decide) rfl (fun ls hl => ?_)
          refine lv_iinc (k := 8) (v := x8 + 1) (lv' := [(8, .int (x8 + 1)), (6, .int (x6 + 1)), (0, .ref (wA B 8)), (1, .int x1), (2, .int x2), (3, .int x3), (4, .int x4), (5, .int x5), (7, .int x7)]) hx hb dX2_layCell_120 hl rfl (by rfl) (by decide) rfl (fun ls hl => ?_)
          refine lv_goto (tgt := 43) hx hb dX2_layCell_123 (by decide) ?_
          exact ih (x6 + 1) (x8 + 1) (setI (setI σ (11 + 1 * x5.toNatClampNeg) x6.toNatClampNeg ((x3 * x7) + x8)) (76 + 1 * x5.toNatClampNeg) x6.toNatClampNeg 1000) _ _ _ _ hf w (lv_sub hl [2, 3, 4, 5, 6, 7, 1, 8, 0] rfl) hK
        · rw [if_neg c7] at hf
          refine lv_iload hx hb dX2_layCell_101 (lv_at hl 7 rfl) ?_
          refine lv_iload_n hx hb dX2_layCell_103 rfl (lv_at hl 2 rfl) ?_
          refine lv_icmp_ne (tgt := 113) hx hb dX2_layCell_104 (by decide) (fun c10 => ?_) (fun c10 => ?_)
          · rw [if_neg c10] at hf
            refine lv_sipush (v := 1414) hx hb dX2_layCell_113 (by decide) ?_
            obtain ⟨g11, hf⟩ := gdE hf
            obtain ⟨g12, hf⟩ := gdE hf
            refine sI C0 w g11 (inbE g12) dX2_layCell_116 (fun H locs w => ?_)
            refine lv_iinc (k := 6) (v := x6 + 1) (lv' := [(6, .int (x6 + 1)), (0, .ref (wA B 8)), (1, .int x1), (2, .int x2), (3, .int x3), (4, .int x4), (5, .int x5), (7, .int x7), (8, .int x8)]) hx hb dX2_layCell_117 hl rfl (by rfl) (by decide) rfl (fun ls hl => ?_)
            refine lv_iinc (k := 8) (v := x8 + 1) (lv' := [(8, .int (x8 + 1)), (6, .int (x6 + 1)), (0, .ref (wA B 8)), (1, .int x1), (2, .int x2), (3, .int x3), (4, .int x4), (5, .int x5), (7, .int x7)]) hx hb dX2_layCell_120 hl rfl (by rfl) (by decide) rfl (fun ls hl => ?_)
            refine lv_goto (tgt := 43) hx hb dX2_layCell_123 (by decide) ?_
            exact ih (x6 + 1) (x8 + 1) (setI (setI σ (11 + 1 * x5.toNatClampNeg) x6.toNatClampNeg ((x3 * x7) + x8)) (76 + 1 * x5.toNatClampNeg) x6.toNatClampNeg 1414) _ _ _ _ hf w (lv_sub hl [2, 3, 4, 5, 6, 7, 1, 8, 0] rfl) hK
          · rw [if_pos c10] at hf
            refine lv_sipush (v := 1000) hx hb dX2_layCell_107 (by decide) ?_
            refine lv_goto (tgt := 116) hx hb dX2_layCell_110 (by decide) ?_
            obtain ⟨g13, hf⟩ := gdE hf
            obtain ⟨g14, hf⟩ := gdE hf
            refine sI C0 w g13 (inbE g14) dX2_layCell_116 (fun H locs w => ?_)
            refine lv_iinc (k := 6) (v := x6 + 1) (lv' := [(6, .int (x6 + 1)), (0, .ref (wA B 8)), (1, .int x1), (2, .int x2), (3, .int x3), (4, .int x4), (5, .int x5), (7, .int x7), (8, .int x8)]) hx hb dX2_layCell_117 hl rfl (by rfl) (by decide) rfl (fun ls hl => ?_)
            refine lv_iinc (k := 8) (v := x8 + 1) (lv' := [(8, .int (x8 + 1)), (6, .int (x6 + 1)), (0, .ref (wA B 8)), (1, .int x1), (2, .int x2), (3, .int x3), (4, .int x4), (5, .int x5), (7, .int x7)]) hx hb dX2_layCell_120 hl rfl (by rfl) (by decide) rfl (fun ls hl => ?_)
            refine lv_goto (tgt := 43) hx hb dX2_layCell_123 (by decide) ?_
            exact ih (x6 + 1) (x8 + 1) (setI (setI σ (11 + 1 * x5.toNatClampNeg) x6.toNatClampNeg ((x3 * x7) + x8)) (76 + 1 * x5.toNatClampNeg) x6.toNatClampNeg 1000) _ _ _ _ hf w (lv_sub hl [2, 3, 4, 5, 6, 7, 1, 8, 0] rfl) hK
      · rw [if_pos c2] at hf
        refine lv_iload hx hb dX2_layCell_63 (lv_at hl 7 rfl) ?_
        refine lv_iload_n hx hb dX2_layCell_65 rfl (lv_at hl 2 rfl) ?_
        refine lv_icmp_eq (tgt := 120) hx hb dX2_layCell_66 (by decide) (fun c15 => ?_) (fun c15 => ?_)
        · rw [if_pos c15] at hf
          refine lv_iinc (k := 8) (v := x8 + 1) (lv' := [(8, .int (x8 + 1)), (0, .ref (wA B 8)), (1, .int x1), (2, .int x2), (3, .int x3), (4, .int x4), (5, .int x5), (6, .int x6), (7, .int x7)]) hx hb dX2_layCell_120 hl rfl (by rfl) (by decide) rfl (fun ls hl => ?_)
          refine lv_goto (tgt := 43) hx hb dX2_layCell_123 (by decide) ?_
          exact ih x6 (x8 + 1) σ _ _ _ _ hf w (lv_sub hl [1, 2, 3, 4, 5, 6, 7, 8, 0] rfl) hK
        · rw [if_neg c15] at hf
          refine lv_aload_n hx hb dX2_layCell_69 rfl (lv_at hl 0 rfl) ?_
          refine gR C0 w 10 fk_X2_17 (by decide +kernel) dX2_layCell_70 ?_
          refine lv_iload hx hb dX2_layCell_73 (lv_at hl 5 rfl) ?_
          obtain ⟨g16, hf⟩ := gdE hf
          refine aG C0 w (n := 64) 11 1 (by decide +kernel) rfl (inbE g16) dX2_layCell_75 ?_
          refine lv_iload hx hb dX2_layCell_76 (lv_at hl 6 rfl) ?_
          refine lv_iload_n hx hb dX2_layCell_78 rfl (lv_at hl 3 rfl) ?_
          refine lv_iload hx hb dX2_layCell_79 (lv_at hl 7 rfl) ?_
          refine lv_imul hx hb dX2_layCell_81 ?_
          refine lv_iload hx hb dX2_layCell_82 (lv_at hl 8 rfl) ?_
          refine lv_iadd hx hb dX2_layCell_84 ?_
          obtain ⟨g17, hf⟩ := gdE hf
          obtain ⟨g18, hf⟩ := gdE hf
          refine sI C0 w g17 (inbE g18) dX2_layCell_85 (fun H locs w => ?_)
          refine lv_aload_n hx hb dX2_layCell_86 rfl (lv_at hl 0 rfl) ?_
          refine gR C0 w 75 fk_X2_20 (by decide +kernel) dX2_layCell_87 ?_
          refine lv_iload hx hb dX2_layCell_90 (lv_at hl 5 rfl) ?_
          obtain ⟨g19, hf⟩ := gdE hf
          refine aG C0 w (n := 64) 76 1 (by decide +kernel) rfl (inbE g19) dX2_layCell_92 ?_
          refine lv_iload hx hb dX2_layCell_93 (lv_at hl 6 rfl) ?_
          refine lv_iload hx hb dX2_layCell_95 (lv_at hl 8 rfl) ?_
          refine lv_iload_n hx hb dX2_layCell_97 rfl (lv_at hl 1 rfl) ?_
          refine lv_icmp_eq (tgt := 107) hx hb dX2_layCell_98 (by decide) (fun c20 => ?_) (fun c20 => ?_)
          · rw [if_pos c20] at hf
            refine lv_sipush (v := 1000) hx hb dX2_layCell_107 (by decide) ?_
            refine lv_goto (tgt := 116) hx hb dX2_layCell_110 (by decide) ?_
            obtain ⟨g21, hf⟩ := gdE hf
            obtain ⟨g22, hf⟩ := gdE hf
            refine sI C0 w g21 (inbE g22) dX2_layCell_116 (fun H locs w => ?_)
            refine lv_iinc (k := 6) (v := x6 + 1) (lv' := [(6, .int (x6 + 1)), (0, .ref (wA B 8)), (1, .int x1), (2, .int x2), (3, .int x3), (4, .int x4), (5, .int x5), (7, .int x7), (8, .int x8)]) hx hb dX2_layCell_117 hl rfl (by rfl) (by decide) rfl (fun ls hl => ?_)
            refine lv_iinc (k := 8) (v := x8 + 1) (lv' := [(8, .int (x8 + 1)), (6, .int (x6 + 1)), (0, .ref (wA B 8)), (1, .int x1), (2, .int x2), (3, .int x3), (4, .int x4), (5, .int x5), (7, .int x7)]) hx hb dX2_layCell_120 hl rfl (by rfl) (by decide) rfl (fun ls hl => ?_)
            refine lv_goto (tgt := 43) hx hb dX2_layCell_123 (by decide) ?_
            exact ih (x6 + 1) (x8 + 1) (setI (setI σ (11 + 1 * x5.toNatClampNeg) x6.toNatClampNeg ((x3 * x7) + x8)) (76 + 1 * x5.toNatClampNeg) x6.toNatClampNeg 1000) _ _ _ _ hf w (lv_sub hl [2, 3, 4, 5, 6, 7, 1, 8, 0] rfl) hK
          · rw [if_neg c20] at hf
            refine lv_iload hx hb dX2_layCell_101 (lv_at hl 7 rfl) ?_
            refine lv_iload_n hx hb dX2_layCell_103 rfl (lv_at hl 2 rfl) ?_
            refine lv_icmp_ne (tgt := 113) hx hb dX2_layCell_104 (by decide) (fun c23 => ?_) (fun c23 => ?_)
            · rw [if_neg c23] at hf
              refine lv_sipush (v := 1414) hx hb dX2_layCell_113 (by decide) ?_
              obtain ⟨g24, hf⟩ := gdE hf
              obtain ⟨g25, hf⟩ := gdE hf
              refine sI C0 w g24 (inbE g25) dX2_layCell_116 (fun H locs w => ?_)
              refine lv_iinc (k := 6) (v := x6 + 1) (lv' := [(6, .int (x6 + 1)), (0, .ref (wA B 8)), (1, .int x1), (2, .int x2), (3, .int x3), (4, .int x4), (5, .int x5), (7, .int x7), (8, .int x8)]) hx hb dX2_layCell_117 hl rfl (by rfl) (by decide) rfl (fun ls hl => ?_)
              refine lv_iinc (k := 8) (v := x8 + 1) (lv' := [(8, .int (x8 + 1)), (6, .int (x6 + 1)), (0, .ref (wA B 8)), (1, .int x1), (2, .int x2), (3, .int x3), (4, .int x4), (5, .int x5), (7, .int x7)]) hx hb dX2_layCell_120 hl rfl (by rfl) (by decide) rfl (fun ls hl => ?_)
              refine lv_goto (tgt := 43) hx hb dX2_layCell_123 (by decide) ?_
              exact ih (x6 + 1) (x8 + 1) (setI (setI σ (11 + 1 * x5.toNatClampNeg) x6.toNatClampNeg ((x3 * x7) + x8)) (76 + 1 * x5.toNatClampNeg) x6.toNatClampNeg 1414) _ _ _ _ hf w (lv_sub hl [2, 3, 4, 5, 6, 7, 1, 8, 0] rfl) hK
            · rw [if_pos c23] at hf
              refine lv_sipush (v := 1000) hx hb dX2_layCell_107 (by decide) ?_
              refine lv_goto (tgt := 116) hx hb dX2_layCell_110 (by decide) ?_
              obtain ⟨g26, hf⟩ := gdE hf
              obtain ⟨g27, hf⟩ := gdE hf
              refine sI C0 w g26 (inbE g27) dX2_layCell_116 (fun H locs w => ?_)
              refine lv_iinc (k := 6) (v := x6 + 1) (lv' := [(6, .int (x6 + 1)), (0, .ref (wA B 8)), (1, .int x1), (2, .int x2), (3, .int x3), (4, .int x4), (5, .int x5), (7, .int x7), (8, .int x8)]) hx hb dX2_layCell_117 hl rfl (by rfl) (by decide) rfl (fun ls hl => ?_)
              refine lv_iinc (k := 8) (v := x8 + 1) (lv' := [(8, .int (x8 + 1)), (6, .int (x6 + 1)), (0, .ref (wA B 8)), (1, .int x1), (2, .int x2), (3, .int x3), (4, .int x4), (5, .int x5), (7, .int x7)]) hx hb dX2_layCell_120 hl rfl (by rfl) (by decide) rfl (fun ls hl => ?_)
              refine lv_goto (tgt := 43) hx hb dX2_layCell_123 (by decide) ?_
              exact ih (x6 + 1) (x8 + 1) (setI (setI σ (11 + 1 * x5.toNatClampNeg) x6.toNatClampNeg ((x3 * x7) + x8)) (76 + 1 * x5.toNatClampNeg) x6.toNatClampNeg 1000) _ _ _ _ hf w (lv_sub hl [2, 3, 4, 5, 6, 7, 1, 8, 0] rfl) hK
set_option maxHeartbeats 4000000 in
set_option maxRecDepth 100000 in
theorem lp_X2_layCell_19 {p : Program} {e : Env} {s : State} {m : MethodId} {args : Array Value} {below : List Frame} {meth : Method} {c : Code} {Q : State → Prop} (l : Launch) (B : Wb) (C0 : Cx p s m args meth c cX2_layCell 9 RX2) (x1 : Int32) (x2 : Int32) (x3 : Int32) (x4 : Int32) (x5 : Int32) : ∀ (n : Nat) (x6 : Int32) (x7 : Int32) (σ : Mem) (o : Int32 × Mem) (H : Heap) (locs : List Loc) (ls : Array Slot), f_X2_layCell_19 x1 x2 x3 x4 x5 n x6 x7 σ = some o → Wx B σ s H locs → lv_has ls 9 [(0, .ref (wA B 8)), (1, .int x1), (2, .int x2), (3, .int x3), (4, .int x4), (5, .int x5), (6, .int x6), (7, .int x7)] → (∀ (H : Heap) (locs : List Loc) (ls : Array Slot), Wx B o.2 s H locs → lv_has ls 9 [(0, .ref (wA B 8)), (5, .int x5), (6, .int o.1)] → W p l e rm_X2_layCell s m args below meth c H locs 0 0 Q (F0 m 132 ls [])) → W p l e rm_X2_layCell s m args below meth c H locs 0 0 Q (F0 m 19 ls []) := by
  have hx := C0.1.1
  have hb := C0.1.2.1
  intro n
  induction n with
  | zero =>
    intro x6 x7 σ o H locs ls hf w hl hK
    cases hf
  | succ n ih =>
    intro x6 x7 σ o H locs ls hf w hl hK
    rw [f_X2_layCell_19] at hf
    refine lv_iload hx hb dX2_layCell_19 (lv_at hl 7 rfl) ?_
    refine lv_iload_n hx hb dX2_layCell_21 rfl (lv_at hl 2 rfl) ?_
    refine lv_iconst (v := 1) hx hb dX2_layCell_22 (by decide) ?_
    refine lv_iadd hx hb dX2_layCell_23 ?_
    refine lv_iload hx hb dX2_layCell_24 (lv_at hl 4 rfl) ?_
    refine lv_iconst (v := 1) hx hb dX2_layCell_26 (by decide) ?_
    refine lv_isub hx hb dX2_layCell_27 ?_
    refine mMin C0 lk_X2_37 ms_min mi_Math mc_min hl.1 (Nat.le_of_ble_eq_true rfl) (Nat.le_of_ble_eq_true rfl) (Nat.zero_le _) (Nat.zero_le _) dX2_layCell_28 ?_
    refine lv_icmp_gt (tgt := 132) hx hb dX2_layCell_31 (by decide) (fun c1 => ?_) (fun c1 => ?_)
    · rw [if_pos c1] at hf
      obtain rfl := Option.some.inj hf
      exact hK _ _ _ w (lv_sub hl [0, 5, 6] rfl)
    · rw [if_neg c1] at hf
      refine lv_iload_n hx hb dX2_layCell_34 rfl (lv_at hl 1 rfl) ?_
      refine lv_iconst (v := 1) hx hb dX2_layCell_35 (by decide) ?_
      refine lv_isub hx hb dX2_layCell_36 ?_
      refine lv_iconst (v := 0) hx hb dX2_layCell_37 (by decide) ?_
      refine mMax C0 lk_X2_31 ms_max mi_Math mc_max hl.1 (Nat.le_of_ble_eq_true rfl) (Nat.le_of_ble_eq_true rfl) (Nat.zero_le _) (Nat.zero_le _) dX2_layCell_38 ?_
      refine lv_istore (lv' := [(8, .int ((if (x1 - 1) < 0 then 0 else (x1 - 1)))), (0, .ref (wA B 8)), (1, .int x1), (2, .int x2), (3, .int x3), (4, .int x4), (5, .int x5), (6, .int x6), (7, .int x7)]) hx hb dX2_layCell_41 hl (by decide) rfl (fun ls hl => ?_)
      obtain ⟨q2, h3, hf⟩ := bdE hf
      refine lp_X2_layCell_43 l B C0 x1 x2 x3 x4 x5 x7 100000 x6 ((if (x1 - 1) < 0 then 0 else (x1 - 1))) σ q2 _ _ _ h3 w (lv_sub hl [1, 2, 3, 4, 5, 6, 7, 8, 0] rfl) (fun H locs ls w hl => ?_)
      refine lv_iinc (k := 7) (v := x7 + 1) (lv' := [(7, .int (x7 + 1)), (0, .ref (wA B 8)), (1, .int x1), (2, .int x2), (3, .int x3), (4, .int x4), (5, .int x5), (6, .int q2.1)]) hx hb dX2_layCell_126 hl rfl (by rfl) (by decide) rfl (fun ls hl => ?_)
      refine lv_goto (tgt := 19) hx hb dX2_layCell_129 (by decide) ?_
      exact ih q2.1 (x7 + 1) q2.2 _ _ _ _ hf w (lv_sub hl [1, 2, 3, 4, 5, 6, 7, 0] rfl) hK
set_option maxHeartbeats 4000000 in
set_option maxRecDepth 100000 in
theorem m_X2_layCell (l : Launch) (B : Wb) (sz : Nat) (σ : Mem) (x1 : Int32) (x2 : Int32) (x3 : Int32) (x4 : Int32) (q : Mem) (hf : f_X2_layCell x1 x2 x3 x4 σ = some q) : MetC l yX2_layCell cX2_layCell 9 none rm_X2_layCell B sz σ q [.ref (wA B 8), .int x1, .int x2, .int x3, .int x4] (none) := by
  refine met_in (by decide +kernel) (Nat.le_of_ble_eq_true rfl) ?_
  intro p e s m below meth c C0 hr w hsz ls hl
  have hx := C0.1.1
  have hb := C0.1.2.1
  unfold f_X2_layCell at hf
  refine lv_iload_n hx hb dX2_layCell_0 rfl (lv_at hl 3 rfl) ?_
  refine lv_iload_n hx hb dX2_layCell_1 rfl (lv_at hl 2 rfl) ?_
  refine lv_imul hx hb dX2_layCell_2 ?_
  refine lv_iload_n hx hb dX2_layCell_3 rfl (lv_at hl 1 rfl) ?_
  refine lv_iadd hx hb dX2_layCell_4 ?_
  refine lv_istore (lv' := [(5, .int ((x3 * x2) + x1)), (0, .ref (wA B 8)), (1, .int x1), (2, .int x2), (3, .int x3), (4, .int x4)]) hx hb dX2_layCell_5 hl (by decide) rfl (fun ls hl => ?_)
  refine lv_iconst (v := 0) hx hb dX2_layCell_7 (by decide) ?_
  refine lv_istore (lv' := [(6, .int 0), (5, .int ((x3 * x2) + x1)), (0, .ref (wA B 8)), (1, .int x1), (2, .int x2), (3, .int x3), (4, .int x4)]) hx hb dX2_layCell_8 hl (by decide) rfl (fun ls hl => ?_)
  refine lv_iload_n hx hb dX2_layCell_10 rfl (lv_at hl 4 rfl) ?_
  refine lv_iconst (v := 1) hx hb dX2_layCell_11 (by decide) ?_
  refine lv_isub hx hb dX2_layCell_12 ?_
  refine lv_iconst (v := 0) hx hb dX2_layCell_13 (by decide) ?_
  refine mMax C0 lk_X2_31 ms_max mi_Math mc_max hl.1 (Nat.le_of_ble_eq_true rfl) (Nat.le_of_ble_eq_true rfl) (Nat.zero_le _) (Nat.zero_le _) dX2_layCell_14 ?_
  refine lv_istore (lv' := [(7, .int ((if (x2 - 1) < 0 then 0 else (x2 - 1)))), (6, .int 0), (5, .int ((x3 * x2) + x1)), (0, .ref (wA B 8)), (1, .int x1), (2, .int x2), (3, .int x3), (4, .int x4)]) hx hb dX2_layCell_17 hl (by decide) rfl (fun ls hl => ?_)
  obtain ⟨q1, h2, hf⟩ := bdE hf
  refine lp_X2_layCell_19 l B C0 x1 x2 x3 x4 ((x3 * x2) + x1) 100000 0 ((if (x2 - 1) < 0 then 0 else (x2 - 1))) σ q1 _ _ _ h2 w (lv_sub hl [3, 4, 5, 6, 7, 2, 1, 0] rfl) (fun H locs ls w hl => ?_)
  refine lv_aload_n hx hb dX2_layCell_132 rfl (lv_at hl 0 rfl) ?_
  refine gR C0 w 9 fk_X2_9 (by decide +kernel) dX2_layCell_133 ?_
  refine lv_iload hx hb dX2_layCell_136 (lv_at hl 1 rfl) ?_
  refine lv_iload hx hb dX2_layCell_138 (lv_at hl 2 rfl) ?_
  obtain ⟨g3, hf⟩ := gdE hf
  refine sI C0 w (n := 64) (by decide +kernel) (inbE g3) dX2_layCell_140 (fun H locs w => ?_)
  obtain rfl := Option.some.inj hf
  exact eV C0 hr w dX2_layCell_141
def f_X2_lay_17 (x1 : Int32) (x2 : Int32) (x3 : Int32) : Nat → Int32 → Mem → Option (Mem)
  | 0, _, _ => none
  | n + 1, x4, σ =>
    if x1 ≤ x4 then (
      some σ)
    else (
      bd (f_X2_layCell x4 x3 x1 x2 σ) (fun q2 =>
      f_X2_lay_17 x1 x2 x3 n (x4 + 1) q2))
def f_X2_lay_9 (x1 : Int32) (x2 : Int32) : Nat → Int32 → Mem → Option (Mem)
  | 0, _, _ => none
  | n + 1, x3, σ =>
    if x2 ≤ x3 then (
      some σ)
    else (
      bd (f_X2_lay_17 x1 x2 x3 100000 0 σ) (fun q2 =>
      f_X2_lay_9 x1 x2 n (x3 + 1) q2))
def f_X2_lay (x1 : Int32) (x2 : Int32) (σ : Mem) : Option (Mem) :=
  bd (f_X2_lay_9 x1 x2 100000 0 (setI σ 8 0 (x1 * x2))) (fun q1 =>
  some q1)
abbrev rm_X2_lay : Room := { frames := 2, cells := 0, slots := 0, locals := 51 }
set_option maxHeartbeats 4000000 in
set_option maxRecDepth 100000 in
theorem lp_X2_lay_17 {p : Program} {e : Env} {s : State} {m : MethodId} {args : Array Value} {below : List Frame} {meth : Method} {c : Code} {Q : State → Prop} (l : Launch) (B : Wb) (C0 : Cx p s m args meth c cX2_lay 5 RX2) (x1 : Int32) (x2 : Int32) (x3 : Int32) : ∀ (n : Nat) (x4 : Int32) (σ : Mem) (o : Mem) (H : Heap) (locs : List Loc) (ls : Array Slot), f_X2_lay_17 x1 x2 x3 n x4 σ = some o → Wx B σ s H locs → lv_has ls 5 [(0, .ref (wA B 8)), (1, .int x1), (2, .int x2), (3, .int x3), (4, .int x4)] → (∀ (H : Heap) (locs : List Loc) (ls : Array Slot), Wx B o s H locs → lv_has ls 5 [(0, .ref (wA B 8)), (1, .int x1), (2, .int x2), (3, .int x3)] → W p l e rm_X2_lay s m args below meth c H locs 0 0 Q (F0 m 38 ls [])) → W p l e rm_X2_lay s m args below meth c H locs 0 0 Q (F0 m 17 ls []) := by
  have hx := C0.1.1
  have hb := C0.1.2.1
  intro n
  induction n with
  | zero =>
    intro x4 σ o H locs ls hf w hl hK
    cases hf
  | succ n ih =>
    intro x4 σ o H locs ls hf w hl hK
    rw [f_X2_lay_17] at hf
    refine lv_iload hx hb dX2_lay_17 (lv_at hl 4 rfl) ?_
    refine lv_iload_n hx hb dX2_lay_19 rfl (lv_at hl 1 rfl) ?_
    refine lv_icmp_ge (tgt := 38) hx hb dX2_lay_20 (by decide) (fun c1 => ?_) (fun c1 => ?_)
    · rw [if_pos c1] at hf
      obtain rfl := Option.some.inj hf
      exact hK _ _ _ w (lv_sub hl [0, 1, 2, 3] rfl)
    · rw [if_neg c1] at hf
      refine lv_aload_n hx hb dX2_lay_23 rfl (lv_at hl 0 rfl) ?_
      refine lv_iload hx hb dX2_lay_24 (lv_at hl 4 rfl) ?_
      refine lv_iload_n hx hb dX2_lay_26 rfl (lv_at hl 3 rfl) ?_
      refine lv_iload_n hx hb dX2_lay_27 rfl (lv_at hl 1 rfl) ?_
      refine lv_iload_n hx hb dX2_lay_28 rfl (lv_at hl 2 rfl) ?_
      obtain ⟨q2, h3, hf⟩ := bdE hf
      refine cV (As := [.int x4, .int x3, .int x1, .int x2]) (rest := []) (k := 8) (ci := 1) (T := TX2) (N := 4) C0 w (m_X2_layCell l B _ σ x4 x3 x1 x2 q2 h3) ky_X2_layCell kv_X2_layCell lk_X2_27 rfl (by decide +kernel) ⟨Nat.le_of_ble_eq_true rfl, Nat.le_of_ble_eq_true rfl⟩ ⟨Nat.le_of_ble_eq_true rfl, Nat.le_of_ble_eq_true rfl⟩ rfl (by rfl) (Nat.le_of_ble_eq_true rfl) hl.1 dX2_lay_29 (fun H locs w => ?_)
      refine lv_iinc (k := 4) (v := x4 + 1) (lv' := [(4, .int (x4 + 1)), (0, .ref (wA B 8)), (1, .int x1), (2, .int x2), (3, .int x3)]) hx hb dX2_lay_32 hl rfl (by rfl) (by decide) rfl (fun ls hl => ?_)
      refine lv_goto (tgt := 17) hx hb dX2_lay_35 (by decide) ?_
      exact ih (x4 + 1) q2 _ _ _ _ hf w (lv_sub hl [1, 2, 3, 4, 0] rfl) hK
set_option maxHeartbeats 4000000 in
set_option maxRecDepth 100000 in
theorem lp_X2_lay_9 {p : Program} {e : Env} {s : State} {m : MethodId} {args : Array Value} {below : List Frame} {meth : Method} {c : Code} {Q : State → Prop} (l : Launch) (B : Wb) (C0 : Cx p s m args meth c cX2_lay 5 RX2) (x1 : Int32) (x2 : Int32) : ∀ (n : Nat) (x3 : Int32) (σ : Mem) (o : Mem) (H : Heap) (locs : List Loc) (ls : Array Slot), f_X2_lay_9 x1 x2 n x3 σ = some o → Wx B σ s H locs → lv_has ls 5 [(0, .ref (wA B 8)), (1, .int x1), (2, .int x2), (3, .int x3)] → (∀ (H : Heap) (locs : List Loc) (ls : Array Slot), Wx B o s H locs → lv_has ls 5 [] → W p l e rm_X2_lay s m args below meth c H locs 0 0 Q (F0 m 44 ls [])) → W p l e rm_X2_lay s m args below meth c H locs 0 0 Q (F0 m 9 ls []) := by
  have hx := C0.1.1
  have hb := C0.1.2.1
  intro n
  induction n with
  | zero =>
    intro x3 σ o H locs ls hf w hl hK
    cases hf
  | succ n ih =>
    intro x3 σ o H locs ls hf w hl hK
    rw [f_X2_lay_9] at hf
    refine lv_iload_n hx hb dX2_lay_9 rfl (lv_at hl 3 rfl) ?_
    refine lv_iload_n hx hb dX2_lay_10 rfl (lv_at hl 2 rfl) ?_
    refine lv_icmp_ge (tgt := 44) hx hb dX2_lay_11 (by decide) (fun c1 => ?_) (fun c1 => ?_)
    · rw [if_pos c1] at hf
      obtain rfl := Option.some.inj hf
      exact hK _ _ _ w (lv_sub hl [] rfl)
    · rw [if_neg c1] at hf
      refine lv_iconst (v := 0) hx hb dX2_lay_14 (by decide) ?_
      refine lv_istore (lv' := [(4, .int 0), (0, .ref (wA B 8)), (1, .int x1), (2, .int x2), (3, .int x3)]) hx hb dX2_lay_15 hl (by decide) rfl (fun ls hl => ?_)
      obtain ⟨q2, h3, hf⟩ := bdE hf
      refine lp_X2_lay_17 l B C0 x1 x2 x3 100000 0 σ q2 _ _ _ h3 w (lv_sub hl [1, 2, 3, 4, 0] rfl) (fun H locs ls w hl => ?_)
      refine lv_iinc (k := 3) (v := x3 + 1) (lv' := [(3, .int (x3 + 1)), (0, .ref (wA B 8)), (1, .int x1), (2, .int x2)]) hx hb dX2_lay_38 hl rfl (by rfl) (by decide) rfl (fun ls hl => ?_)
      refine lv_goto (tgt := 9) hx hb dX2_lay_41 (by decide) ?_
      exact ih (x3 + 1) q2 _ _ _ _ hf w (lv_sub hl [1, 2, 3, 0] rfl) hK
set_option maxHeartbeats 4000000 in
set_option maxRecDepth 100000 in
theorem m_X2_lay (l : Launch) (B : Wb) (sz : Nat) (σ : Mem) (x1 : Int32) (x2 : Int32) (q : Mem) (hf : f_X2_lay x1 x2 σ = some q) : MetC l yX2_lay cX2_lay 5 none rm_X2_lay B sz σ q [.ref (wA B 8), .int x1, .int x2] (none) := by
  refine met_in (by decide +kernel) (Nat.le_of_ble_eq_true rfl) ?_
  intro p e s m below meth c C0 hr w hsz ls hl
  have hx := C0.1.1
  have hb := C0.1.2.1
  unfold f_X2_lay at hf
  refine lv_aload_n hx hb dX2_lay_0 rfl (lv_at hl 0 rfl) ?_
  refine lv_iload_n hx hb dX2_lay_1 rfl (lv_at hl 1 rfl) ?_
  refine lv_iload_n hx hb dX2_lay_2 rfl (lv_at hl 2 rfl) ?_
  refine lv_imul hx hb dX2_lay_3 ?_
  refine pI C0 w fk_X2_23 fp_X2_0 (by decide +kernel) dX2_lay_4 (fun H locs w => ?_)
  refine lv_iconst (v := 0) hx hb dX2_lay_7 (by decide) ?_
  refine lv_istore_n (lv' := [(3, .int 0), (0, .ref (wA B 8)), (1, .int x1), (2, .int x2)]) hx hb dX2_lay_8 rfl hl (by decide) rfl (fun ls hl => ?_)
  obtain ⟨q1, h2, hf⟩ := bdE hf
  refine lp_X2_lay_9 l B C0 x1 x2 100000 0 (setI σ 8 0 (x1 * x2)) q1 _ _ _ h2 w (lv_sub hl [1, 2, 3, 0] rfl) (fun H locs ls w hl => ?_)
  obtain rfl := Option.some.inj hf
  exact eV C0 hr w dX2_lay_44
def f_X7_copyFrom (x0 : Nat) (x1 : Nat) (σ : Mem) : Option (Mem) :=
  gd (shO x1 6 0 0) (
  gd (shO x0 6 0 0) (
  gd (shO x1 6 1 0) (
  gd (shO x0 6 1 0) (
  gd (shO x1 6 2 0) (
  gd (shO x0 6 2 0) (
  bd (some (setI (setI (setI σ x0 0 (σ.1 x1 0)) x0 1 ((setI σ x0 0 (σ.1 x1 0)).1 x1 1)) x0 2 ((setI (setI σ x0 0 (σ.1 x1 0)) x0 1 ((setI σ x0 0 (σ.1 x1 0)).1 x1 1)).1 x1 2))) (fun q7 =>
  gd (shO x1 6 3 0) (
  gd (shO x0 6 3 0) (
  gd (shO x1 6 4 0) (
  gd (shO x0 6 4 0) (
  gd (shO x1 6 5 0) (
  gd (shO x0 6 5 0) (
  bd (some (setI (setI (setI q7 x0 3 (q7.1 x1 3)) x0 4 ((setI q7 x0 3 (q7.1 x1 3)).1 x1 4)) x0 5 ((setI (setI q7 x0 3 (q7.1 x1 3)) x0 4 ((setI q7 x0 3 (q7.1 x1 3)).1 x1 4)).1 x1 5))) (fun q15 =>
  gd (shO x1 6 6 1) (
  gd (shO x0 6 6 1) (
  gd (shO x1 6 7 0) (
  gd (shO x0 6 7 0) (
  gd (shO x1 6 8 (fR x1 8 + 2)) (
  gd (shO x0 6 8 (fR x0 8 + 2)) (
  gd (shA (fR x1 8) 1 64) (
  gd (shA (fR x0 8) 1 64) (
  bd (some (repI (setI (setL q15 x0 6 (q15.2 x1 6)) x0 7 ((setL q15 x0 6 (q15.2 x1 6)).1 x1 7)) (fR x0 8) (va_cpy ((setI (setL q15 x0 6 (q15.2 x1 6)) x0 7 ((setL q15 x0 6 (q15.2 x1 6)).1 x1 7)).1 (fR x1 8)) ((setI (setL q15 x0 6 (q15.2 x1 6)) x0 7 ((setL q15 x0 6 (q15.2 x1 6)).1 x1 7)).1 (fR x0 8)) (0 : Int32).toNatClampNeg (0 : Int32).toNatClampNeg (64 : Int32).toNatClampNeg))) (fun q25 =>
  gd (shO x1 6 9 (fR x1 9 + 2)) (
  gd (shO x0 6 9 (fR x0 9 + 2)) (
  gd (shA (fR x1 9) 1 64) (
  gd (shA (fR x0 9) 1 64) (
  bd (some (repI q25 (fR x0 9) (va_cpy (q25.1 (fR x1 9)) (q25.1 (fR x0 9)) (0 : Int32).toNatClampNeg (0 : Int32).toNatClampNeg (64 : Int32).toNatClampNeg))) (fun q31 =>
  gd (shO x1 6 10 (fR x1 10 + 2)) (
  gd (shO x0 6 10 (fR x0 10 + 2)) (
  gd (shA (fR x1 10) 1 16) (
  gd (shA (fR x0 10) 1 16) (
  bd (some (repI q31 (fR x0 10) (va_cpy (q31.1 (fR x1 10)) (q31.1 (fR x0 10)) (0 : Int32).toNatClampNeg (0 : Int32).toNatClampNeg (16 : Int32).toNatClampNeg))) (fun q37 =>
  gd (shO x1 6 11 (fR x1 11 + 2)) (
  gd (shO x0 6 11 (fR x0 11 + 2)) (
  gd (shA (fR x1 11) 1 16) (
  gd (shA (fR x0 11) 1 16) (
  bd (some (repI q37 (fR x0 11) (va_cpy (q37.1 (fR x1 11)) (q37.1 (fR x0 11)) (0 : Int32).toNatClampNeg (0 : Int32).toNatClampNeg (16 : Int32).toNatClampNeg))) (fun q43 =>
  gd (shO x1 6 12 (fR x1 12 + 2)) (
  gd (shO x0 6 12 (fR x0 12 + 2)) (
  gd (shA (fR x1 12) 2 16) (
  gd (shA (fR x0 12) 2 16) (
  bd (some (repL q43 (fR x0 12) (va_cpy (q43.2 (fR x1 12)) (q43.2 (fR x0 12)) (0 : Int32).toNatClampNeg (0 : Int32).toNatClampNeg (16 : Int32).toNatClampNeg))) (fun q49 =>
  gd (shO x1 6 13 (fR x1 13 + 2)) (
  gd (shO x0 6 13 (fR x0 13 + 2)) (
  gd (shA (fR x1 13) 3 16) (
  gd (shA (fR x0 13) 3 16) (
  gd ((List.range 16).all fun i => bz (q49.1 (fR x1 13) i)) (
  bd (some (repI q49 (fR x0 13) (va_cpy (q49.1 (fR x1 13)) (q49.1 (fR x0 13)) (0 : Int32).toNatClampNeg (0 : Int32).toNatClampNeg (16 : Int32).toNatClampNeg))) (fun q56 =>
  some q56)))))))))))))))))))))))))))))))))))))))))))))))))
abbrev rm_X7_copyFrom : Room := { frames := 1, cells := 0, slots := 0, locals := 48 }
set_option maxHeartbeats 4000000 in
set_option maxRecDepth 100000 in
theorem m_X7_copyFrom (l : Launch) (B : Wb) (sz : Nat) (σ : Mem) (x0 : Nat) (x1 : Nat) (q : Mem) (hf : f_X7_copyFrom x0 x1 σ = some q) : MetC l yX7_copyFrom cX7_copyFrom 2 none rm_X7_copyFrom B sz σ q [.ref (wA B x0), .ref (wA B x1)] (none) := by
  refine met_in (by decide +kernel) (Nat.le_of_ble_eq_true rfl) ?_
  intro p e s m below meth c C0 hr w hsz ls hl
  have hx := C0.1.1
  have hb := C0.1.2.1
  unfold f_X7_copyFrom at hf
  refine lv_aload_n hx hb dX7_copyFrom_0 rfl (lv_at hl 0 rfl) ?_
  refine lv_aload_n hx hb dX7_copyFrom_1 rfl (lv_at hl 1 rfl) ?_
  obtain ⟨g1, hf⟩ := gdE hf
  refine gI C0 w fk_X7_9 g1 dX7_copyFrom_2 ?_
  obtain ⟨g2, hf⟩ := gdE hf
  refine pI C0 w fk_X7_9 fp_X7_0 g2 dX7_copyFrom_5 (fun H locs w => ?_)
  refine lv_aload_n hx hb dX7_copyFrom_8 rfl (lv_at hl 0 rfl) ?_
  refine lv_aload_n hx hb dX7_copyFrom_9 rfl (lv_at hl 1 rfl) ?_
  obtain ⟨g3, hf⟩ := gdE hf
  refine gI C0 w fk_X7_15 g3 dX7_copyFrom_10 ?_
  obtain ⟨g4, hf⟩ := gdE hf
  refine pI C0 w fk_X7_15 fp_X7_1 g4 dX7_copyFrom_13 (fun H locs w => ?_)
  refine lv_aload_n hx hb dX7_copyFrom_16 rfl (lv_at hl 0 rfl) ?_
  refine lv_aload_n hx hb dX7_copyFrom_17 rfl (lv_at hl 1 rfl) ?_
  obtain ⟨g5, hf⟩ := gdE hf
  refine gI C0 w fk_X7_18 g5 dX7_copyFrom_18 ?_
  obtain ⟨g6, hf⟩ := gdE hf
  refine pI C0 w fk_X7_18 fp_X7_2 g6 dX7_copyFrom_21 (fun H locs w => ?_)
  obtain ⟨q7, h8, hf⟩ := bdE hf
  have w : Wx B q7 s H locs := by rw [← Option.some.inj h8]; exact w
  refine lv_aload_n hx hb dX7_copyFrom_24 rfl (lv_at hl 0 rfl) ?_
  refine lv_aload_n hx hb dX7_copyFrom_25 rfl (lv_at hl 1 rfl) ?_
  obtain ⟨g9, hf⟩ := gdE hf
  refine gI C0 w fk_X7_22 g9 dX7_copyFrom_26 ?_
  obtain ⟨g10, hf⟩ := gdE hf
  refine pI C0 w fk_X7_22 fp_X7_3 g10 dX7_copyFrom_29 (fun H locs w => ?_)
  refine lv_aload_n hx hb dX7_copyFrom_32 rfl (lv_at hl 0 rfl) ?_
  refine lv_aload_n hx hb dX7_copyFrom_33 rfl (lv_at hl 1 rfl) ?_
  obtain ⟨g11, hf⟩ := gdE hf
  refine gI C0 w fk_X7_25 g11 dX7_copyFrom_34 ?_
  obtain ⟨g12, hf⟩ := gdE hf
  refine pI C0 w fk_X7_25 fp_X7_4 g12 dX7_copyFrom_37 (fun H locs w => ?_)
  refine lv_aload_n hx hb dX7_copyFrom_40 rfl (lv_at hl 0 rfl) ?_
  refine lv_aload_n hx hb dX7_copyFrom_41 rfl (lv_at hl 1 rfl) ?_
  obtain ⟨g13, hf⟩ := gdE hf
  refine gI C0 w fk_X7_28 g13 dX7_copyFrom_42 ?_
  obtain ⟨g14, hf⟩ := gdE hf
  refine pI C0 w fk_X7_28 fp_X7_5 g14 dX7_copyFrom_45 (fun H locs w => ?_)
  obtain ⟨q15, h16, hf⟩ := bdE hf
  have w : Wx B q15 s H locs := by rw [← Option.some.inj h16]; exact w
  refine lv_aload_n hx hb dX7_copyFrom_48 rfl (lv_at hl 0 rfl) ?_
  refine lv_aload_n hx hb dX7_copyFrom_49 rfl (lv_at hl 1 rfl) ?_
  obtain ⟨g17, hf⟩ := gdE hf
  refine gL C0 w fk_X7_63 g17 dX7_copyFrom_50 ?_
  obtain ⟨g18, hf⟩ := gdE hf
  refine pL C0 w fk_X7_63 fp_X7_6 g18 dX7_copyFrom_53 (fun H locs w => ?_)
  refine lv_aload_n hx hb dX7_copyFrom_56 rfl (lv_at hl 0 rfl) ?_
  refine lv_aload_n hx hb dX7_copyFrom_57 rfl (lv_at hl 1 rfl) ?_
  obtain ⟨g19, hf⟩ := gdE hf
  refine gI C0 w fk_X7_60 g19 dX7_copyFrom_58 ?_
  obtain ⟨g20, hf⟩ := gdE hf
  refine pI C0 w fk_X7_60 fp_X7_7 g20 dX7_copyFrom_61 (fun H locs w => ?_)
  refine lv_aload_n hx hb dX7_copyFrom_64 rfl (lv_at hl 1 rfl) ?_
  obtain ⟨g21, hf⟩ := gdE hf
  refine gR C0 w (fR x1 8) fk_X7_31 g21 dX7_copyFrom_65 ?_
  refine lv_iconst (v := 0) hx hb dX7_copyFrom_68 (by decide) ?_
  refine lv_aload_n hx hb dX7_copyFrom_69 rfl (lv_at hl 0 rfl) ?_
  obtain ⟨g22, hf⟩ := gdE hf
  refine gR C0 w (fR x0 8) fk_X7_31 g22 dX7_copyFrom_70 ?_
  refine lv_iconst (v := 0) hx hb dX7_copyFrom_73 (by decide) ?_
  refine lv_bipush (v := 64) hx hb dX7_copyFrom_74 (by decide) ?_
  obtain ⟨g23, hf⟩ := gdE hf
  obtain ⟨g24, hf⟩ := gdE hf
  refine cpI C0 w lk_X7_67 ms_ac ms_acs mi_System (rest := []) hl.1 (Nat.le_of_ble_eq_true rfl) (by decide +kernel) g23 g24 (by decide) (by decide) (by decide) (by decide) (by decide) dX7_copyFrom_76 (fun H locs w => ?_)
  obtain ⟨q25, h26, hf⟩ := bdE hf
  have w : Wx B q25 s H locs := by rw [← Option.some.inj h26]; exact w
  refine lv_aload_n hx hb dX7_copyFrom_79 rfl (lv_at hl 1 rfl) ?_
  obtain ⟨g27, hf⟩ := gdE hf
  refine gR C0 w (fR x1 9) fk_X7_35 g27 dX7_copyFrom_80 ?_
  refine lv_iconst (v := 0) hx hb dX7_copyFrom_83 (by decide) ?_
  refine lv_aload_n hx hb dX7_copyFrom_84 rfl (lv_at hl 0 rfl) ?_
  obtain ⟨g28, hf⟩ := gdE hf
  refine gR C0 w (fR x0 9) fk_X7_35 g28 dX7_copyFrom_85 ?_
  refine lv_iconst (v := 0) hx hb dX7_copyFrom_88 (by decide) ?_
  refine lv_bipush (v := 64) hx hb dX7_copyFrom_89 (by decide) ?_
  obtain ⟨g29, hf⟩ := gdE hf
  obtain ⟨g30, hf⟩ := gdE hf
  refine cpI C0 w lk_X7_67 ms_ac ms_acs mi_System (rest := []) hl.1 (Nat.le_of_ble_eq_true rfl) (by decide +kernel) g29 g30 (by decide) (by decide) (by decide) (by decide) (by decide) dX7_copyFrom_91 (fun H locs w => ?_)
  obtain ⟨q31, h32, hf⟩ := bdE hf
  have w : Wx B q31 s H locs := by rw [← Option.some.inj h32]; exact w
  refine lv_aload_n hx hb dX7_copyFrom_94 rfl (lv_at hl 1 rfl) ?_
  obtain ⟨g33, hf⟩ := gdE hf
  refine gR C0 w (fR x1 10) fk_X7_38 g33 dX7_copyFrom_95 ?_
  refine lv_iconst (v := 0) hx hb dX7_copyFrom_98 (by decide) ?_
  refine lv_aload_n hx hb dX7_copyFrom_99 rfl (lv_at hl 0 rfl) ?_
  obtain ⟨g34, hf⟩ := gdE hf
  refine gR C0 w (fR x0 10) fk_X7_38 g34 dX7_copyFrom_100 ?_
  refine lv_iconst (v := 0) hx hb dX7_copyFrom_103 (by decide) ?_
  refine lv_bipush (v := 16) hx hb dX7_copyFrom_104 (by decide) ?_
  obtain ⟨g35, hf⟩ := gdE hf
  obtain ⟨g36, hf⟩ := gdE hf
  refine cpI C0 w lk_X7_67 ms_ac ms_acs mi_System (rest := []) hl.1 (Nat.le_of_ble_eq_true rfl) (by decide +kernel) g35 g36 (by decide) (by decide) (by decide) (by decide) (by decide) dX7_copyFrom_106 (fun H locs w => ?_)
  obtain ⟨q37, h38, hf⟩ := bdE hf
  have w : Wx B q37 s H locs := by rw [← Option.some.inj h38]; exact w
  refine lv_aload_n hx hb dX7_copyFrom_109 rfl (lv_at hl 1 rfl) ?_
  obtain ⟨g39, hf⟩ := gdE hf
  refine gR C0 w (fR x1 11) fk_X7_41 g39 dX7_copyFrom_110 ?_
  refine lv_iconst (v := 0) hx hb dX7_copyFrom_113 (by decide) ?_
  refine lv_aload_n hx hb dX7_copyFrom_114 rfl (lv_at hl 0 rfl) ?_
  obtain ⟨g40, hf⟩ := gdE hf
  refine gR C0 w (fR x0 11) fk_X7_41 g40 dX7_copyFrom_115 ?_
  refine lv_iconst (v := 0) hx hb dX7_copyFrom_118 (by decide) ?_
  refine lv_bipush (v := 16) hx hb dX7_copyFrom_119 (by decide) ?_
  obtain ⟨g41, hf⟩ := gdE hf
  obtain ⟨g42, hf⟩ := gdE hf
  refine cpI C0 w lk_X7_67 ms_ac ms_acs mi_System (rest := []) hl.1 (Nat.le_of_ble_eq_true rfl) (by decide +kernel) g41 g42 (by decide) (by decide) (by decide) (by decide) (by decide) dX7_copyFrom_121 (fun H locs w => ?_)
  obtain ⟨q43, h44, hf⟩ := bdE hf
  have w : Wx B q43 s H locs := by rw [← Option.some.inj h44]; exact w
  refine lv_aload_n hx hb dX7_copyFrom_124 rfl (lv_at hl 1 rfl) ?_
  obtain ⟨g45, hf⟩ := gdE hf
  refine gR C0 w (fR x1 12) fk_X7_44 g45 dX7_copyFrom_125 ?_
  refine lv_iconst (v := 0) hx hb dX7_copyFrom_128 (by decide) ?_
  refine lv_aload_n hx hb dX7_copyFrom_129 rfl (lv_at hl 0 rfl) ?_
  obtain ⟨g46, hf⟩ := gdE hf
  refine gR C0 w (fR x0 12) fk_X7_44 g46 dX7_copyFrom_130 ?_
  refine lv_iconst (v := 0) hx hb dX7_copyFrom_133 (by decide) ?_
  refine lv_bipush (v := 16) hx hb dX7_copyFrom_134 (by decide) ?_
  obtain ⟨g47, hf⟩ := gdE hf
  obtain ⟨g48, hf⟩ := gdE hf
  refine cpL C0 w lk_X7_67 ms_ac ms_acs mi_System (rest := []) hl.1 (Nat.le_of_ble_eq_true rfl) (by decide +kernel) g47 g48 (by decide) (by decide) (by decide) (by decide) (by decide) dX7_copyFrom_136 (fun H locs w => ?_)
  obtain ⟨q49, h50, hf⟩ := bdE hf
  have w : Wx B q49 s H locs := by rw [← Option.some.inj h50]; exact w
  refine lv_aload_n hx hb dX7_copyFrom_139 rfl (lv_at hl 1 rfl) ?_
  obtain ⟨g51, hf⟩ := gdE hf
  refine gR C0 w (fR x1 13) fk_X7_48 g51 dX7_copyFrom_140 ?_
  refine lv_iconst (v := 0) hx hb dX7_copyFrom_143 (by decide) ?_
  refine lv_aload_n hx hb dX7_copyFrom_144 rfl (lv_at hl 0 rfl) ?_
  obtain ⟨g52, hf⟩ := gdE hf
  refine gR C0 w (fR x0 13) fk_X7_48 g52 dX7_copyFrom_145 ?_
  refine lv_iconst (v := 0) hx hb dX7_copyFrom_148 (by decide) ?_
  refine lv_bipush (v := 16) hx hb dX7_copyFrom_149 (by decide) ?_
  obtain ⟨g53, hf⟩ := gdE hf
  obtain ⟨g54, hf⟩ := gdE hf
  obtain ⟨g55, hf⟩ := gdE hf
  refine cpZ C0 w lk_X7_67 ms_ac ms_acs mi_System (rest := []) hl.1 (Nat.le_of_ble_eq_true rfl) (by decide +kernel) g53 g54 (by decide) (by decide) (by decide) (by decide) (by decide) (fun i hi => List.all_eq_true.mp g55 i (List.mem_range.mpr hi)) dX7_copyFrom_151 (fun H locs w => ?_)
  obtain ⟨q56, h57, hf⟩ := bdE hf
  have w : Wx B q56 s H locs := by rw [← Option.some.inj h57]; exact w
  obtain rfl := Option.some.inj hf
  exact eV C0 hr w dX7_copyFrom_154
def f_X3_save (x1 : Nat) (σ : Mem) : Option (Mem) :=
  gd (inb (((σ.1 189 1) + (σ.1 189 2)) - ((σ.1 189 1) + (σ.1 189 2)) / 4 * 4) 4) (
  gd (shO (191 + 7 * (((σ.1 189 1) + (σ.1 189 2)) - ((σ.1 189 1) + (σ.1 189 2)) / 4 * 4).toNatClampNeg) 6 0 ((shp (191 + 7 * (((σ.1 189 1) + (σ.1 189 2)) - ((σ.1 189 1) + (σ.1 189 2)) / 4 * 4).toNatClampNeg)).2.2.getD 0 0)) (
  bd (f_X7_copyFrom (191 + 7 * (((σ.1 189 1) + (σ.1 189 2)) - ((σ.1 189 1) + (σ.1 189 2)) / 4 * 4).toNatClampNeg) x1 σ) (fun q2 =>
  if 4 ≤ (q2.1 189 2) then (
    some (setI q2 189 1 (((q2.1 189 1) + 1) - ((q2.1 189 1) + 1) / 4 * 4)))
  else (
    some (setI q2 189 2 ((q2.1 189 2) + 1))))))
abbrev rm_X3_save : Room := { frames := 2, cells := 0, slots := 0, locals := 69 }
set_option maxHeartbeats 4000000 in
set_option maxRecDepth 100000 in
theorem m_X3_save (l : Launch) (B : Wb) (sz : Nat) (σ : Mem) (x1 : Nat) (q : Mem) (hf : f_X3_save x1 σ = some q) : MetC l yX3_save cX3_save 3 none rm_X3_save B sz σ q [.ref (wA B 189), .ref (wA B x1)] (none) := by
  refine met_in (by decide +kernel) (Nat.le_of_ble_eq_true rfl) ?_
  intro p e s m below meth c C0 hr w hsz ls hl
  have hx := C0.1.1
  have hb := C0.1.2.1
  unfold f_X3_save at hf
  refine lv_aload_n hx hb dX3_save_0 rfl (lv_at hl 0 rfl) ?_
  refine gR C0 w 190 fk_X3_11 (by decide +kernel) dX3_save_1 ?_
  refine lv_aload_n hx hb dX3_save_4 rfl (lv_at hl 0 rfl) ?_
  refine gI C0 w fk_X3_18 (by decide +kernel) dX3_save_5 ?_
  refine lv_aload_n hx hb dX3_save_8 rfl (lv_at hl 0 rfl) ?_
  refine gI C0 w fk_X3_22 (by decide +kernel) dX3_save_9 ?_
  refine lv_iadd hx hb dX3_save_12 ?_
  refine lv_iconst (v := 4) hx hb dX3_save_13 (by decide) ?_
  refine lv_irem hx hb dX3_save_14 (by decide) ?_
  obtain ⟨g1, hf⟩ := gdE hf
  refine aO C0 w (n := 4) 191 7 (by decide +kernel) rfl (inbE g1) dX3_save_15 ?_
  refine lv_astore_n (lv' := [(2, .ref (wA B (191 + 7 * (((σ.1 189 1) + (σ.1 189 2)) - ((σ.1 189 1) + (σ.1 189 2)) / 4 * 4).toNatClampNeg))), (0, .ref (wA B 189)), (1, .ref (wA B x1))]) hx hb dX3_save_16 rfl hl (by decide) rfl (fun ls hl => ?_)
  refine lv_aload_n hx hb dX3_save_17 rfl (lv_at hl 0 rfl) ?_
  refine lv_ifnonnull (tgt := 22) hx hb dX3_save_18 (by decide) ?_
  refine lv_aload_n hx hb dX3_save_22 rfl (lv_at hl 0 rfl) ?_
  refine lv_aload_n hx hb dX3_save_23 rfl (lv_at hl 2 rfl) ?_
  obtain ⟨g4, hf⟩ := gdE hf
  obtain ⟨q2, h3, hf⟩ := bdE hf
  refine cV (As := [.ref (wA B x1)]) (rest := []) (k := (191 + 7 * (((σ.1 189 1) + (σ.1 189 2)) - ((σ.1 189 1) + (σ.1 189 2)) / 4 * 4).toNatClampNeg)) (ci := 6) (T := TX7) (N := 14) C0 w (m_X7_copyFrom l B _ σ (191 + 7 * (((σ.1 189 1) + (σ.1 189 2)) - ((σ.1 189 1) + (σ.1 189 2)) / 4 * 4).toNatClampNeg) x1 q2 h3) ky_X7_copyFrom kv_X7_copyFrom lk_X3_25 rfl g4 ⟨Nat.le_of_ble_eq_true rfl, Nat.le_of_ble_eq_true rfl⟩ ⟨Nat.le_of_ble_eq_true rfl, Nat.le_of_ble_eq_true rfl⟩ rfl (by rfl) (Nat.le_of_ble_eq_true rfl) hl.1 dX3_save_24 (fun H locs w => ?_)
  refine lv_aload_n hx hb dX3_save_27 rfl (lv_at hl 1 rfl) ?_
  refine gI C0 w fk_X3_22 (by decide +kernel) dX3_save_28 ?_
  refine lv_iconst (v := 4) hx hb dX3_save_31 (by decide) ?_
  refine lv_icmp_ge (tgt := 48) hx hb dX3_save_32 (by decide) (fun c5 => ?_) (fun c5 => ?_)
  · rw [if_pos c5] at hf
    refine lv_aload_n hx hb dX3_save_48 rfl (lv_at hl 1 rfl) ?_
    refine lv_aload_n hx hb dX3_save_49 rfl (lv_at hl 1 rfl) ?_
    refine gI C0 w fk_X3_18 (by decide +kernel) dX3_save_50 ?_
    refine lv_iconst (v := 1) hx hb dX3_save_53 (by decide) ?_
    refine lv_iadd hx hb dX3_save_54 ?_
    refine lv_iconst (v := 4) hx hb dX3_save_55 (by decide) ?_
    refine lv_irem hx hb dX3_save_56 (by decide) ?_
    refine pI C0 w fk_X3_18 fp_X3_1 (by decide +kernel) dX3_save_57 (fun H locs w => ?_)
    obtain rfl := Option.some.inj hf
    exact eV C0 hr w dX3_save_60
  · rw [if_neg c5] at hf
    refine lv_aload_n hx hb dX3_save_35 rfl (lv_at hl 1 rfl) ?_
    refine lv_dup hx hb dX3_save_36 rfl ?_
    refine gI C0 w fk_X3_22 (by decide +kernel) dX3_save_37 ?_
    refine lv_iconst (v := 1) hx hb dX3_save_40 (by decide) ?_
    refine lv_iadd hx hb dX3_save_41 ?_
    refine pI C0 w fk_X3_22 fp_X3_2 (by decide +kernel) dX3_save_42 (fun H locs w => ?_)
    refine lv_goto (tgt := 60) hx hb dX3_save_45 (by decide) ?_
    obtain rfl := Option.some.inj hf
    exact eV C0 hr w dX3_save_60
def f_X3_restore (x1 : Nat) (σ : Mem) : Option (Mem) :=
  if (σ.1 189 2) = 0 then (
    some σ)
  else (
    gd (inb ((((setI σ 189 2 ((σ.1 189 2) - 1)).1 189 1) + ((setI σ 189 2 ((σ.1 189 2) - 1)).1 189 2)) - (((setI σ 189 2 ((σ.1 189 2) - 1)).1 189 1) + ((setI σ 189 2 ((σ.1 189 2) - 1)).1 189 2)) / 4 * 4) 4) (
    gd (shO x1 6 0 ((shp x1).2.2.getD 0 0)) (
    bd (f_X7_copyFrom x1 (191 + 7 * ((((setI σ 189 2 ((σ.1 189 2) - 1)).1 189 1) + ((setI σ 189 2 ((σ.1 189 2) - 1)).1 189 2)) - (((setI σ 189 2 ((σ.1 189 2) - 1)).1 189 1) + ((setI σ 189 2 ((σ.1 189 2) - 1)).1 189 2)) / 4 * 4).toNatClampNeg) (setI σ 189 2 ((σ.1 189 2) - 1))) (fun q3 =>
    some q3))))
abbrev rm_X3_restore : Room := { frames := 2, cells := 0, slots := 0, locals := 69 }
set_option maxHeartbeats 4000000 in
set_option maxRecDepth 100000 in
theorem m_X3_restore (l : Launch) (B : Wb) (sz : Nat) (σ : Mem) (x1 : Nat) (q : Mem) (hf : f_X3_restore x1 σ = some q) : MetC l yX3_restore cX3_restore 3 none rm_X3_restore B sz σ q [.ref (wA B 189), .ref (wA B x1)] (none) := by
  refine met_in (by decide +kernel) (Nat.le_of_ble_eq_true rfl) ?_
  intro p e s m below meth c C0 hr w hsz ls hl
  have hx := C0.1.1
  have hb := C0.1.2.1
  unfold f_X3_restore at hf
  refine lv_aload_n hx hb dX3_restore_0 rfl (lv_at hl 0 rfl) ?_
  refine gI C0 w fk_X3_22 (by decide +kernel) dX3_restore_1 ?_
  refine lv_if_ne (tgt := 8) hx hb dX3_restore_4 (by decide) (fun c1 => ?_) (fun c1 => ?_)
  · rw [if_neg c1] at hf
    refine lv_aload_n hx hb dX3_restore_8 rfl (lv_at hl 0 rfl) ?_
    refine lv_dup hx hb dX3_restore_9 rfl ?_
    refine gI C0 w fk_X3_22 (by decide +kernel) dX3_restore_10 ?_
    refine lv_iconst (v := 1) hx hb dX3_restore_13 (by decide) ?_
    refine lv_isub hx hb dX3_restore_14 ?_
    refine pI C0 w fk_X3_22 fp_X3_2 (by decide +kernel) dX3_restore_15 (fun H locs w => ?_)
    refine lv_aload_n hx hb dX3_restore_18 rfl (lv_at hl 0 rfl) ?_
    refine gR C0 w 190 fk_X3_11 (by decide +kernel) dX3_restore_19 ?_
    refine lv_aload_n hx hb dX3_restore_22 rfl (lv_at hl 0 rfl) ?_
    refine gI C0 w fk_X3_18 (by decide +kernel) dX3_restore_23 ?_
    refine lv_aload_n hx hb dX3_restore_26 rfl (lv_at hl 0 rfl) ?_
    refine gI C0 w fk_X3_22 (by decide +kernel) dX3_restore_27 ?_
    refine lv_iadd hx hb dX3_restore_30 ?_
    refine lv_iconst (v := 4) hx hb dX3_restore_31 (by decide) ?_
    refine lv_irem hx hb dX3_restore_32 (by decide) ?_
    obtain ⟨g2, hf⟩ := gdE hf
    refine aO C0 w (n := 4) 191 7 (by decide +kernel) rfl (inbE g2) dX3_restore_33 ?_
    refine lv_astore_n (lv' := [(2, .ref (wA B (191 + 7 * ((((setI σ 189 2 ((σ.1 189 2) - 1)).1 189 1) + ((setI σ 189 2 ((σ.1 189 2) - 1)).1 189 2)) - (((setI σ 189 2 ((σ.1 189 2) - 1)).1 189 1) + ((setI σ 189 2 ((σ.1 189 2) - 1)).1 189 2)) / 4 * 4).toNatClampNeg))), (0, .ref (wA B 189)), (1, .ref (wA B x1))]) hx hb dX3_restore_34 rfl hl (by decide) rfl (fun ls hl => ?_)
    refine lv_aload_n hx hb dX3_restore_35 rfl (lv_at hl 0 rfl) ?_
    refine lv_ifnull hx hb dX3_restore_36 ?_
    refine lv_aload_n hx hb dX3_restore_39 rfl (lv_at hl 2 rfl) ?_
    refine lv_aload_n hx hb dX3_restore_40 rfl (lv_at hl 0 rfl) ?_
    obtain ⟨g5, hf⟩ := gdE hf
    obtain ⟨q3, h4, hf⟩ := bdE hf
    refine cV (As := [.ref (wA B (191 + 7 * ((((setI σ 189 2 ((σ.1 189 2) - 1)).1 189 1) + ((setI σ 189 2 ((σ.1 189 2) - 1)).1 189 2)) - (((setI σ 189 2 ((σ.1 189 2) - 1)).1 189 1) + ((setI σ 189 2 ((σ.1 189 2) - 1)).1 189 2)) / 4 * 4).toNatClampNeg))]) (rest := []) (k := x1) (ci := 6) (T := TX7) (N := 14) C0 w (m_X7_copyFrom l B _ (setI σ 189 2 ((σ.1 189 2) - 1)) x1 (191 + 7 * ((((setI σ 189 2 ((σ.1 189 2) - 1)).1 189 1) + ((setI σ 189 2 ((σ.1 189 2) - 1)).1 189 2)) - (((setI σ 189 2 ((σ.1 189 2) - 1)).1 189 1) + ((setI σ 189 2 ((σ.1 189 2) - 1)).1 189 2)) / 4 * 4).toNatClampNeg) q3 h4) ky_X7_copyFrom kv_X7_copyFrom lk_X3_25 rfl g5 ⟨Nat.le_of_ble_eq_true rfl, Nat.le_of_ble_eq_true rfl⟩ ⟨Nat.le_of_ble_eq_true rfl, Nat.le_of_ble_eq_true rfl⟩ rfl (by rfl) (Nat.le_of_ble_eq_true rfl) hl.1 dX3_restore_41 (fun H locs w => ?_)
    obtain rfl := Option.some.inj hf
    exact eV C0 hr w dX3_restore_44
  · rw [if_pos c1] at hf
    obtain rfl := Option.some.inj hf
    exact eV C0 hr w dX3_restore_7
def f_X4_activeRays_4 (σ : Mem) : Nat → Int32 → Int32 → Option (Int32)
  | 0, _, _ => none
  | n + 1, x1, x2 =>
    if (σ.1 1 7) ≤ x2 then (
      some x1)
    else (
      bd (f_X7_isActive x2 σ) (fun q2 =>
      if q2 = 0 then (
        f_X4_activeRays_4 σ n x1 (x2 + 1))
      else (
        f_X4_activeRays_4 σ n (x1 + 1) (x2 + 1))))
def f_X4_activeRays (σ : Mem) : Option (Int32) :=
  bd (f_X4_activeRays_4 σ 100000 0 0) (fun q1 =>
  some q1)
abbrev rm_X4_activeRays : Room := { frames := 1, cells := 0, slots := 0, locals := 21 }
set_option maxHeartbeats 4000000 in
set_option maxRecDepth 100000 in
theorem lp_X4_activeRays_4 {p : Program} {e : Env} {s : State} {m : MethodId} {args : Array Value} {below : List Frame} {meth : Method} {c : Code} {Q : State → Prop} (l : Launch) (B : Wb) (C0 : Cx p s m args meth c cX4_activeRays 3 RX4) : ∀ (n : Nat) (x1 : Int32) (x2 : Int32) (σ : Mem) (o : Int32) (H : Heap) (locs : List Loc) (ls : Array Slot), f_X4_activeRays_4 σ n x1 x2 = some o → Wx B σ s H locs → lv_has ls 3 [(0, .ref (wA B 182)), (1, .int x1), (2, .int x2)] → (∀ (H : Heap) (locs : List Loc) (ls : Array Slot), Wx B σ s H locs → lv_has ls 3 [(1, .int o)] → W p l e rm_X4_activeRays s m args below meth c H locs 0 0 Q (F0 m 35 ls [])) → W p l e rm_X4_activeRays s m args below meth c H locs 0 0 Q (F0 m 4 ls []) := by
  have hx := C0.1.1
  have hb := C0.1.2.1
  intro n
  induction n with
  | zero =>
    intro x1 x2 σ o H locs ls hf w hl hK
    cases hf
  | succ n ih =>
    intro x1 x2 σ o H locs ls hf w hl hK
    rw [f_X4_activeRays_4] at hf
    refine lv_iload_n hx hb dX4_activeRays_4 rfl (lv_at hl 2 rfl) ?_
    refine lv_aload_n hx hb dX4_activeRays_5 rfl (lv_at hl 0 rfl) ?_
    refine gR C0 w 1 fk_X4_9 (by decide +kernel) dX4_activeRays_6 ?_
    refine gI C0 w fk_X4_19 (by decide +kernel) dX4_activeRays_9 ?_
    refine lv_icmp_ge (tgt := 35) hx hb dX4_activeRays_12 (by decide) (fun c1 => ?_) (fun c1 => ?_)
    · rw [if_pos c1] at hf
      obtain rfl := Option.some.inj hf
      exact hK _ _ _ w (lv_sub hl [1] rfl)
    · rw [if_neg c1] at hf
      refine lv_aload_n hx hb dX4_activeRays_15 rfl (lv_at hl 0 rfl) ?_
      refine gR C0 w 1 fk_X4_9 (by decide +kernel) dX4_activeRays_16 ?_
      refine lv_iload_n hx hb dX4_activeRays_19 rfl (lv_at hl 2 rfl) ?_
      obtain ⟨q2, h3, hf⟩ := bdE hf
      refine cV (As := [.int x2]) (rest := []) (k := 1) (ci := 6) (T := TX7) (N := 14) C0 w (m_X7_isActive l B _ σ x2 q2 h3) ky_X7_isActive kv_X7_isActive lk_X4_25 rfl (by decide +kernel) ⟨Nat.le_of_ble_eq_true rfl, Nat.le_of_ble_eq_true rfl⟩ ⟨Nat.le_of_ble_eq_true rfl, Nat.le_of_ble_eq_true rfl⟩ rfl (by rfl) (Nat.le_of_ble_eq_true rfl) hl.1 dX4_activeRays_20 (fun H locs w => ?_)
      refine lv_if_eq (tgt := 29) hx hb dX4_activeRays_23 (by decide) (fun c4 => ?_) (fun c4 => ?_)
      · rw [if_pos c4] at hf
        refine lv_iinc (k := 2) (v := x2 + 1) (lv' := [(2, .int (x2 + 1)), (0, .ref (wA B 182)), (1, .int x1)]) hx hb dX4_activeRays_29 hl rfl (by rfl) (by decide) rfl (fun ls hl => ?_)
        refine lv_goto (tgt := 4) hx hb dX4_activeRays_32 (by decide) ?_
        exact ih x1 (x2 + 1) σ _ _ _ _ hf w (lv_sub hl [1, 2, 0] rfl) hK
      · rw [if_neg c4] at hf
        refine lv_iinc (k := 1) (v := x1 + 1) (lv' := [(1, .int (x1 + 1)), (0, .ref (wA B 182)), (2, .int x2)]) hx hb dX4_activeRays_26 hl rfl (by rfl) (by decide) rfl (fun ls hl => ?_)
        refine lv_iinc (k := 2) (v := x2 + 1) (lv' := [(2, .int (x2 + 1)), (1, .int (x1 + 1)), (0, .ref (wA B 182))]) hx hb dX4_activeRays_29 hl rfl (by rfl) (by decide) rfl (fun ls hl => ?_)
        refine lv_goto (tgt := 4) hx hb dX4_activeRays_32 (by decide) ?_
        exact ih (x1 + 1) (x2 + 1) σ _ _ _ _ hf w (lv_sub hl [2, 1, 0] rfl) hK
set_option maxHeartbeats 4000000 in
set_option maxRecDepth 100000 in
theorem m_X4_activeRays (l : Launch) (B : Wb) (sz : Nat) (σ : Mem) (q : Int32) (hf : f_X4_activeRays σ = some q) : MetC l yX4_activeRays cX4_activeRays 3 (some .int) rm_X4_activeRays B sz σ σ [.ref (wA B 182)] (some (.int q)) := by
  refine met_in (by decide +kernel) (Nat.le_of_ble_eq_true rfl) ?_
  intro p e s m below meth c C0 hr w hsz ls hl
  have hx := C0.1.1
  have hb := C0.1.2.1
  unfold f_X4_activeRays at hf
  refine lv_iconst (v := 0) hx hb dX4_activeRays_0 (by decide) ?_
  refine lv_istore_n (lv' := [(1, .int 0), (0, .ref (wA B 182))]) hx hb dX4_activeRays_1 rfl hl (by decide) rfl (fun ls hl => ?_)
  refine lv_iconst (v := 0) hx hb dX4_activeRays_2 (by decide) ?_
  refine lv_istore_n (lv' := [(2, .int 0), (1, .int 0), (0, .ref (wA B 182))]) hx hb dX4_activeRays_3 rfl hl (by decide) rfl (fun ls hl => ?_)
  obtain ⟨q1, h2, hf⟩ := bdE hf
  refine lp_X4_activeRays_4 l B C0 100000 0 0 σ q1 _ _ _ h2 w (lv_sub hl [2, 1, 0] rfl) (fun H locs ls w hl => ?_)
  refine lv_iload_n hx hb dX4_activeRays_35 rfl (lv_at hl 0 rfl) ?_
  obtain rfl := Option.some.inj hf
  exact eI C0 hr w rfl dX4_activeRays_36
def f_X4_lengthSum_4 (x1 : Int32) : Nat → Int32 → Int32 → Mem → Option (Int32 × Mem)
  | 0, _, _, _ => none
  | n + 1, x2, x3, σ =>
    if (σ.1 1 7) ≤ x3 then (
      some ((x2, σ)))
    else (
      bd (f_X7_isActive x3 σ) (fun q2 =>
      if q2 = 0 then (
        f_X4_lengthSum_4 x1 n x2 (x3 + 1) σ)
      else (
        bd (f_X9_find x3 σ) (fun q5 =>
        gd (inb x3 16) (
        gd (shA (166 + 1 * x3.toNatClampNeg) 1 (aln (166 + 1 * x3.toNatClampNeg))) (
        gd (inb x1 (aln (166 + 1 * x3.toNatClampNeg))) (
        f_X4_lengthSum_4 x1 n (x2 + (q5.2.1 (166 + 1 * x3.toNatClampNeg) x1.toNatClampNeg)) (x3 + 1) q5.2)))))))
def f_X4_lengthSum (x1 : Int32) (σ : Mem) : Option (Int32 × Mem) :=
  bd (f_X4_lengthSum_4 x1 100000 0 0 σ) (fun q1 =>
  some ((q1.1, q1.2)))
abbrev rm_X4_lengthSum : Room := { frames := 3, cells := 0, slots := 0, locals := 79 }
set_option maxHeartbeats 4000000 in
set_option maxRecDepth 100000 in
theorem lp_X4_lengthSum_4 {p : Program} {e : Env} {s : State} {m : MethodId} {args : Array Value} {below : List Frame} {meth : Method} {c : Code} {Q : State → Prop} (l : Launch) (B : Wb) (C0 : Cx p s m args meth c cX4_lengthSum 4 RX4) (x1 : Int32) : ∀ (n : Nat) (x2 : Int32) (x3 : Int32) (σ : Mem) (o : Int32 × Mem) (H : Heap) (locs : List Loc) (ls : Array Slot), f_X4_lengthSum_4 x1 n x2 x3 σ = some o → Wx B σ s H locs → lv_has ls 4 [(0, .ref (wA B 182)), (1, .int x1), (2, .int x2), (3, .int x3)] → (∀ (H : Heap) (locs : List Loc) (ls : Array Slot), Wx B o.2 s H locs → lv_has ls 4 [(2, .int o.1)] → W p l e rm_X4_lengthSum s m args below meth c H locs 0 0 Q (F0 m 55 ls [])) → W p l e rm_X4_lengthSum s m args below meth c H locs 0 0 Q (F0 m 4 ls []) := by
  have hx := C0.1.1
  have hb := C0.1.2.1
  intro n
  induction n with
  | zero =>
    intro x2 x3 σ o H locs ls hf w hl hK
    cases hf
  | succ n ih =>
    intro x2 x3 σ o H locs ls hf w hl hK
    rw [f_X4_lengthSum_4] at hf
    refine lv_iload_n hx hb dX4_lengthSum_4 rfl (lv_at hl 3 rfl) ?_
    refine lv_aload_n hx hb dX4_lengthSum_5 rfl (lv_at hl 0 rfl) ?_
    refine gR C0 w 1 fk_X4_9 (by decide +kernel) dX4_lengthSum_6 ?_
    refine gI C0 w fk_X4_19 (by decide +kernel) dX4_lengthSum_9 ?_
    refine lv_icmp_ge (tgt := 55) hx hb dX4_lengthSum_12 (by decide) (fun c1 => ?_) (fun c1 => ?_)
    · rw [if_pos c1] at hf
      obtain rfl := Option.some.inj hf
      exact hK _ _ _ w (lv_sub hl [2] rfl)
    · rw [if_neg c1] at hf
      refine lv_aload_n hx hb dX4_lengthSum_15 rfl (lv_at hl 0 rfl) ?_
      refine gR C0 w 1 fk_X4_9 (by decide +kernel) dX4_lengthSum_16 ?_
      refine lv_iload_n hx hb dX4_lengthSum_19 rfl (lv_at hl 3 rfl) ?_
      obtain ⟨q2, h3, hf⟩ := bdE hf
      refine cV (As := [.int x3]) (rest := []) (k := 1) (ci := 6) (T := TX7) (N := 14) C0 w (m_X7_isActive l B _ σ x3 q2 h3) ky_X7_isActive kv_X7_isActive lk_X4_25 rfl (by decide +kernel) ⟨Nat.le_of_ble_eq_true rfl, Nat.le_of_ble_eq_true rfl⟩ ⟨Nat.le_of_ble_eq_true rfl, Nat.le_of_ble_eq_true rfl⟩ rfl (by rfl) (Nat.le_of_ble_eq_true rfl) hl.1 dX4_lengthSum_20 (fun H locs w => ?_)
      refine lv_if_eq (tgt := 49) hx hb dX4_lengthSum_23 (by decide) (fun c4 => ?_) (fun c4 => ?_)
      · rw [if_pos c4] at hf
        refine lv_iinc (k := 3) (v := x3 + 1) (lv' := [(3, .int (x3 + 1)), (0, .ref (wA B 182)), (1, .int x1), (2, .int x2)]) hx hb dX4_lengthSum_49 hl rfl (by rfl) (by decide) rfl (fun ls hl => ?_)
        refine lv_goto (tgt := 4) hx hb dX4_lengthSum_52 (by decide) ?_
        exact ih x2 (x3 + 1) σ _ _ _ _ hf w (lv_sub hl [1, 2, 3, 0] rfl) hK
      · rw [if_neg c4] at hf
        refine lv_aload_n hx hb dX4_lengthSum_26 rfl (lv_at hl 0 rfl) ?_
        refine gR C0 w 143 fk_X4_15 (by decide +kernel) dX4_lengthSum_27 ?_
        refine lv_iload_n hx hb dX4_lengthSum_30 rfl (lv_at hl 3 rfl) ?_
        obtain ⟨q5, h6, hf⟩ := bdE hf
        refine cV (As := [.int x3]) (rest := []) (k := 143) (ci := 8) (T := TX9) (N := 9) C0 w (m_X9_find l B _ σ x3 q5 h6) ky_X9_find kv_X9_find lk_X4_29 rfl (by decide +kernel) ⟨Nat.le_of_ble_eq_true rfl, Nat.le_of_ble_eq_true rfl⟩ ⟨Nat.le_of_ble_eq_true rfl, Nat.le_of_ble_eq_true rfl⟩ rfl (by rfl) (Nat.le_of_ble_eq_true rfl) hl.1 dX4_lengthSum_31 (fun H locs w => ?_)
        refine lv_pop2_2 hx hb dX4_lengthSum_34 rfl ?_
        refine lv_iload_n hx hb dX4_lengthSum_35 rfl (lv_at hl 2 rfl) ?_
        refine lv_aload_n hx hb dX4_lengthSum_36 rfl (lv_at hl 0 rfl) ?_
        refine gR C0 w 143 fk_X4_15 (by decide +kernel) dX4_lengthSum_37 ?_
        refine gR C0 w 165 fk_X4_35 (by decide +kernel) dX4_lengthSum_40 ?_
        refine lv_iload_n hx hb dX4_lengthSum_43 rfl (lv_at hl 3 rfl) ?_
        obtain ⟨g7, hf⟩ := gdE hf
        refine aG C0 w (n := 16) 166 1 (by decide +kernel) rfl (inbE g7) dX4_lengthSum_44 ?_
        refine lv_iload_n hx hb dX4_lengthSum_45 rfl (lv_at hl 1 rfl) ?_
        obtain ⟨g8, hf⟩ := gdE hf
        obtain ⟨g9, hf⟩ := gdE hf
        refine aI C0 w g8 (inbE g9) dX4_lengthSum_46 ?_
        refine lv_iadd hx hb dX4_lengthSum_47 ?_
        refine lv_istore_n (lv' := [(2, .int (x2 + (q5.2.1 (166 + 1 * x3.toNatClampNeg) x1.toNatClampNeg))), (0, .ref (wA B 182)), (1, .int x1), (3, .int x3)]) hx hb dX4_lengthSum_48 rfl hl (by decide) rfl (fun ls hl => ?_)
        refine lv_iinc (k := 3) (v := x3 + 1) (lv' := [(3, .int (x3 + 1)), (2, .int (x2 + (q5.2.1 (166 + 1 * x3.toNatClampNeg) x1.toNatClampNeg))), (0, .ref (wA B 182)), (1, .int x1)]) hx hb dX4_lengthSum_49 hl rfl (by rfl) (by decide) rfl (fun ls hl => ?_)
        refine lv_goto (tgt := 4) hx hb dX4_lengthSum_52 (by decide) ?_
        exact ih (x2 + (q5.2.1 (166 + 1 * x3.toNatClampNeg) x1.toNatClampNeg)) (x3 + 1) q5.2 _ _ _ _ hf w (lv_sub hl [2, 3, 1, 0] rfl) hK
set_option maxHeartbeats 4000000 in
set_option maxRecDepth 100000 in
theorem m_X4_lengthSum (l : Launch) (B : Wb) (sz : Nat) (σ : Mem) (x1 : Int32) (q : Int32 × Mem) (hf : f_X4_lengthSum x1 σ = some q) : MetC l yX4_lengthSum cX4_lengthSum 4 (some .int) rm_X4_lengthSum B sz σ q.2 [.ref (wA B 182), .int x1] (some (.int q.1)) := by
  refine met_in (by decide +kernel) (Nat.le_of_ble_eq_true rfl) ?_
  intro p e s m below meth c C0 hr w hsz ls hl
  have hx := C0.1.1
  have hb := C0.1.2.1
  unfold f_X4_lengthSum at hf
  refine lv_iconst (v := 0) hx hb dX4_lengthSum_0 (by decide) ?_
  refine lv_istore_n (lv' := [(2, .int 0), (0, .ref (wA B 182)), (1, .int x1)]) hx hb dX4_lengthSum_1 rfl hl (by decide) rfl (fun ls hl => ?_)
  refine lv_iconst (v := 0) hx hb dX4_lengthSum_2 (by decide) ?_
  refine lv_istore_n (lv' := [(3, .int 0), (2, .int 0), (0, .ref (wA B 182)), (1, .int x1)]) hx hb dX4_lengthSum_3 rfl hl (by decide) rfl (fun ls hl => ?_)
  obtain ⟨q1, h2, hf⟩ := bdE hf
  refine lp_X4_lengthSum_4 l B C0 x1 100000 0 0 σ q1 _ _ _ h2 w (lv_sub hl [2, 3, 1, 0] rfl) (fun H locs ls w hl => ?_)
  refine lv_iload_n hx hb dX4_lengthSum_55 rfl (lv_at hl 0 rfl) ?_
  obtain rfl := Option.some.inj hf
  exact eI C0 hr w rfl dX4_lengthSum_56
def f_X4_uncoveredCells_4 : Nat → Int32 → Int32 → Mem → Option (Int32 × Mem)
  | 0, _, _, _ => none
  | n + 1, x1, x2, σ =>
    bd (f_X7_cellCount σ) (fun q1 =>
    if q1 ≤ x2 then (
      some ((x1, σ)))
    else (
      bd (f_X4_coverage x2 σ) (fun q4 =>
      if q4.1 = 0 then (
        f_X4_uncoveredCells_4 n (x1 + 1) (x2 + 1) q4.2)
      else (
        f_X4_uncoveredCells_4 n x1 (x2 + 1) q4.2))))
def f_X4_uncoveredCells (σ : Mem) : Option (Int32 × Mem) :=
  bd (f_X4_uncoveredCells_4 100000 0 0 σ) (fun q1 =>
  some ((q1.1, q1.2)))
abbrev rm_X4_uncoveredCells : Room := { frames := 4, cells := 0, slots := 0, locals := 102 }
set_option maxHeartbeats 4000000 in
set_option maxRecDepth 100000 in
theorem lp_X4_uncoveredCells_4 {p : Program} {e : Env} {s : State} {m : MethodId} {args : Array Value} {below : List Frame} {meth : Method} {c : Code} {Q : State → Prop} (l : Launch) (B : Wb) (C0 : Cx p s m args meth c cX4_uncoveredCells 3 RX4) : ∀ (n : Nat) (x1 : Int32) (x2 : Int32) (σ : Mem) (o : Int32 × Mem) (H : Heap) (locs : List Loc) (ls : Array Slot), f_X4_uncoveredCells_4 n x1 x2 σ = some o → Wx B σ s H locs → lv_has ls 3 [(0, .ref (wA B 182)), (1, .int x1), (2, .int x2)] → (∀ (H : Heap) (locs : List Loc) (ls : Array Slot), Wx B o.2 s H locs → lv_has ls 3 [(1, .int o.1)] → W p l e rm_X4_uncoveredCells s m args below meth c H locs 0 0 Q (F0 m 32 ls [])) → W p l e rm_X4_uncoveredCells s m args below meth c H locs 0 0 Q (F0 m 4 ls []) := by
  have hx := C0.1.1
  have hb := C0.1.2.1
  intro n
  induction n with
  | zero =>
    intro x1 x2 σ o H locs ls hf w hl hK
    cases hf
  | succ n ih =>
    intro x1 x2 σ o H locs ls hf w hl hK
    rw [f_X4_uncoveredCells_4] at hf
    refine lv_iload_n hx hb dX4_uncoveredCells_4 rfl (lv_at hl 2 rfl) ?_
    refine lv_aload_n hx hb dX4_uncoveredCells_5 rfl (lv_at hl 0 rfl) ?_
    refine gR C0 w 1 fk_X4_9 (by decide +kernel) dX4_uncoveredCells_6 ?_
    obtain ⟨q1, h2, hf⟩ := bdE hf
    refine cV (As := []) (rest := [.int x2]) (k := 1) (ci := 6) (T := TX7) (N := 14) C0 w (m_X7_cellCount l B _ σ q1 h2) ky_X7_cellCount kv_X7_cellCount lk_X4_39 rfl (by decide +kernel) ⟨Nat.le_of_ble_eq_true rfl, Nat.le_of_ble_eq_true rfl⟩ ⟨Nat.le_of_ble_eq_true rfl, Nat.le_of_ble_eq_true rfl⟩ rfl (by rfl) (Nat.le_of_ble_eq_true rfl) hl.1 dX4_uncoveredCells_9 (fun H locs w => ?_)
    refine lv_icmp_ge (tgt := 32) hx hb dX4_uncoveredCells_12 (by decide) (fun c3 => ?_) (fun c3 => ?_)
    · rw [if_pos c3] at hf
      obtain rfl := Option.some.inj hf
      exact hK _ _ _ w (lv_sub hl [1] rfl)
    · rw [if_neg c3] at hf
      refine lv_aload_n hx hb dX4_uncoveredCells_15 rfl (lv_at hl 0 rfl) ?_
      refine lv_iload_n hx hb dX4_uncoveredCells_16 rfl (lv_at hl 2 rfl) ?_
      obtain ⟨q4, h5, hf⟩ := bdE hf
      refine cV (As := [.int x2]) (rest := []) (k := 182) (ci := 3) (T := TX4) (N := 2) C0 w (m_X4_coverage l B _ σ x2 q4 h5) ky_X4_coverage kv_X4_coverage lk_X4_43 rfl (by decide +kernel) ⟨Nat.le_of_ble_eq_true rfl, Nat.le_of_ble_eq_true rfl⟩ ⟨Nat.le_of_ble_eq_true rfl, Nat.le_of_ble_eq_true rfl⟩ rfl (by rfl) (Nat.le_of_ble_eq_true rfl) hl.1 dX4_uncoveredCells_17 (fun H locs w => ?_)
      refine lv_if_ne (tgt := 26) hx hb dX4_uncoveredCells_20 (by decide) (fun c6 => ?_) (fun c6 => ?_)
      · rw [if_neg c6] at hf
        refine lv_iinc (k := 2) (v := x2 + 1) (lv' := [(2, .int (x2 + 1)), (0, .ref (wA B 182)), (1, .int x1)]) hx hb dX4_uncoveredCells_26 hl rfl (by rfl) (by decide) rfl (fun ls hl => ?_)
        refine lv_goto (tgt := 4) hx hb dX4_uncoveredCells_29 (by decide) ?_
        exact ih x1 (x2 + 1) q4.2 _ _ _ _ hf w (lv_sub hl [1, 2, 0] rfl) hK
      · rw [if_pos c6] at hf
        refine lv_iinc (k := 1) (v := x1 + 1) (lv' := [(1, .int (x1 + 1)), (0, .ref (wA B 182)), (2, .int x2)]) hx hb dX4_uncoveredCells_23 hl rfl (by rfl) (by decide) rfl (fun ls hl => ?_)
        refine lv_iinc (k := 2) (v := x2 + 1) (lv' := [(2, .int (x2 + 1)), (1, .int (x1 + 1)), (0, .ref (wA B 182))]) hx hb dX4_uncoveredCells_26 hl rfl (by rfl) (by decide) rfl (fun ls hl => ?_)
        refine lv_goto (tgt := 4) hx hb dX4_uncoveredCells_29 (by decide) ?_
        exact ih (x1 + 1) (x2 + 1) q4.2 _ _ _ _ hf w (lv_sub hl [2, 1, 0] rfl) hK
set_option maxHeartbeats 4000000 in
set_option maxRecDepth 100000 in
theorem m_X4_uncoveredCells (l : Launch) (B : Wb) (sz : Nat) (σ : Mem) (q : Int32 × Mem) (hf : f_X4_uncoveredCells σ = some q) : MetC l yX4_uncoveredCells cX4_uncoveredCells 3 (some .int) rm_X4_uncoveredCells B sz σ q.2 [.ref (wA B 182)] (some (.int q.1)) := by
  refine met_in (by decide +kernel) (Nat.le_of_ble_eq_true rfl) ?_
  intro p e s m below meth c C0 hr w hsz ls hl
  have hx := C0.1.1
  have hb := C0.1.2.1
  unfold f_X4_uncoveredCells at hf
  refine lv_iconst (v := 0) hx hb dX4_uncoveredCells_0 (by decide) ?_
  refine lv_istore_n (lv' := [(1, .int 0), (0, .ref (wA B 182))]) hx hb dX4_uncoveredCells_1 rfl hl (by decide) rfl (fun ls hl => ?_)
  refine lv_iconst (v := 0) hx hb dX4_uncoveredCells_2 (by decide) ?_
  refine lv_istore_n (lv' := [(2, .int 0), (1, .int 0), (0, .ref (wA B 182))]) hx hb dX4_uncoveredCells_3 rfl hl (by decide) rfl (fun ls hl => ?_)
  obtain ⟨q1, h2, hf⟩ := bdE hf
  refine lp_X4_uncoveredCells_4 l B C0 100000 0 0 σ q1 _ _ _ h2 w (lv_sub hl [2, 1, 0] rfl) (fun H locs ls w hl => ?_)
  refine lv_iload_n hx hb dX4_uncoveredCells_32 rfl (lv_at hl 0 rfl) ?_
  obtain rfl := Option.some.inj hf
  exact eI C0 hr w rfl dX4_uncoveredCells_33
