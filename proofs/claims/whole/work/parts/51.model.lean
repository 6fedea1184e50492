def f_X12_timeOf (x1 : Int32) (σ : Mem) : Option (Int64 × Mem) :=
  bd (f_X12_first x1 σ) (fun q1 =>
  bd (f_X12_spread q1 8 σ) (fun q3 =>
  bd (f_X12_last x1 q3) (fun q5 =>
  gd (inb q5 64) (
  some ((q3.2 228 q5.toNatClampNeg, q3))))))
abbrev rm_X12_timeOf : Room := { frames := 4, cells := 0, slots := 0, locals := 100 }
set_option maxHeartbeats 4000000 in
set_option maxRecDepth 100000 in
theorem m_X12_timeOf (l : Launch) (B : Wb) (sz : Nat) (σ : Mem) (x1 : Int32) (q : Int64 × Mem) (hf : f_X12_timeOf x1 σ = some q) : MetC l yX12_timeOf cX12_timeOf 2 (some .long) rm_X12_timeOf B sz σ q.2 [.ref (wA B 224), .int x1] (some (.long q.1)) := by
  refine met_in (by decide +kernel) (Nat.le_of_ble_eq_true rfl) ?_
  intro p e s m below meth c C0 hr w hsz ls hl
  have hx := C0.1.1
  have hb := C0.1.2.1
  unfold f_X12_timeOf at hf
  refine lv_aload_n hx hb dX12_timeOf_0 rfl (lv_at hl 0 rfl) ?_
  refine lv_aload_n hx hb dX12_timeOf_1 rfl (lv_at hl 0 rfl) ?_
  refine lv_iload_n hx hb dX12_timeOf_2 rfl (lv_at hl 1 rfl) ?_
  obtain ⟨q1, h2, hf⟩ := bdE hf
  refine cV (As := [.int x1]) (rest := [.ref (wA B 224)]) (k := 224) (ci := 10) (T := TX12) (N := 22) C0 w (m_X12_first l B _ σ x1 q1 h2) ky_X12_first kv_X12_first lk_X12_104 rfl (by decide +kernel) ⟨Nat.le_of_ble_eq_true rfl, Nat.le_of_ble_eq_true rfl⟩ ⟨Nat.le_of_ble_eq_true rfl, Nat.le_of_ble_eq_true rfl⟩ rfl (by rfl) (Nat.le_of_ble_eq_true rfl) hl.1 dX12_timeOf_3 (fun H locs w => ?_)
  refine lv_bipush (v := 8) hx hb dX12_timeOf_6 (by decide) ?_
  obtain ⟨q3, h4, hf⟩ := bdE hf
  refine cV (As := [.int q1, .int 8]) (rest := []) (k := 224) (ci := 10) (T := TX12) (N := 22) C0 w (m_X12_spread l B _ σ q1 8 q3 h4) ky_X12_spread kv_X12_spread lk_X12_108 rfl (by decide +kernel) ⟨Nat.le_of_ble_eq_true rfl, Nat.le_of_ble_eq_true rfl⟩ ⟨Nat.le_of_ble_eq_true rfl, Nat.le_of_ble_eq_true rfl⟩ rfl (by rfl) (Nat.le_of_ble_eq_true rfl) hl.1 dX12_timeOf_8 (fun H locs w => ?_)
  refine lv_aload_n hx hb dX12_timeOf_11 rfl (lv_at hl 0 rfl) ?_
  refine gR C0 w 228 fk_X12_20 (by decide +kernel) dX12_timeOf_12 ?_
  refine lv_aload_n hx hb dX12_timeOf_15 rfl (lv_at hl 0 rfl) ?_
  refine lv_iload_n hx hb dX12_timeOf_16 rfl (lv_at hl 1 rfl) ?_
  obtain ⟨q5, h6, hf⟩ := bdE hf
  refine cV (As := [.int x1]) (rest := [.ref (wA B 228)]) (k := 224) (ci := 10) (T := TX12) (N := 22) C0 w (m_X12_last l B _ q3 x1 q5 h6) ky_X12_last kv_X12_last lk_X12_111 rfl (by decide +kernel) ⟨Nat.le_of_ble_eq_true rfl, Nat.le_of_ble_eq_true rfl⟩ ⟨Nat.le_of_ble_eq_true rfl, Nat.le_of_ble_eq_true rfl⟩ rfl (by rfl) (Nat.le_of_ble_eq_true rfl) hl.1 dX12_timeOf_17 (fun H locs w => ?_)
  obtain ⟨g7, hf⟩ := gdE hf
  refine aL C0 w (n := 64) (by decide +kernel) (inbE g7) dX12_timeOf_20 ?_
  obtain rfl := Option.some.inj hf
  exact eL C0 hr w dX12_timeOf_21
def f_X12_residualOf (x1 : Int32) (σ : Mem) : Option (Int64 × Mem) :=
  bd (f_X12_of x1 3 σ) (fun q1 =>
  bd (f_X12_timeOf x1 σ) (fun q3 =>
  some ((q1 - q3.1, q3.2))))
abbrev rm_X12_residualOf : Room := { frames := 5, cells := 0, slots := 0, locals := 121 }
set_option maxHeartbeats 4000000 in
set_option maxRecDepth 100000 in
theorem m_X12_residualOf (l : Launch) (B : Wb) (sz : Nat) (σ : Mem) (x1 : Int32) (q : Int64 × Mem) (hf : f_X12_residualOf x1 σ = some q) : MetC l yX12_residualOf cX12_residualOf 2 (some .long) rm_X12_residualOf B sz σ q.2 [.ref (wA B 224), .int x1] (some (.long q.1)) := by
  refine met_in (by decide +kernel) (Nat.le_of_ble_eq_true rfl) ?_
  intro p e s m below meth c C0 hr w hsz ls hl
  have hx := C0.1.1
  have hb := C0.1.2.1
  unfold f_X12_residualOf at hf
  refine lv_aload_n hx hb dX12_residualOf_0 rfl (lv_at hl 0 rfl) ?_
  refine lv_iload_n hx hb dX12_residualOf_1 rfl (lv_at hl 1 rfl) ?_
  refine lv_iconst (v := 3) hx hb dX12_residualOf_2 (by decide) ?_
  obtain ⟨q1, h2, hf⟩ := bdE hf
  refine cV (As := [.int x1, .int 3]) (rest := []) (k := 224) (ci := 10) (T := TX12) (N := 22) C0 w (m_X12_of l B _ σ x1 3 q1 h2) ky_X12_of kv_X12_of lk_X12_83 rfl (by decide +kernel) ⟨Nat.le_of_ble_eq_true rfl, Nat.le_of_ble_eq_true rfl⟩ ⟨Nat.le_of_ble_eq_true rfl, Nat.le_of_ble_eq_true rfl⟩ rfl (by rfl) (Nat.le_of_ble_eq_true rfl) hl.1 dX12_residualOf_3 (fun H locs w => ?_)
  refine lv_aload_n hx hb dX12_residualOf_6 rfl (lv_at hl 0 rfl) ?_
  refine lv_iload_n hx hb dX12_residualOf_7 rfl (lv_at hl 1 rfl) ?_
  obtain ⟨q3, h4, hf⟩ := bdE hf
  refine cV (As := [.int x1]) (rest := [.long q1]) (k := 224) (ci := 10) (T := TX12) (N := 22) C0 w (m_X12_timeOf l B _ σ x1 q3 h4) ky_X12_timeOf kv_X12_timeOf lk_X12_121 rfl (by decide +kernel) ⟨Nat.le_of_ble_eq_true rfl, Nat.le_of_ble_eq_true rfl⟩ ⟨Nat.le_of_ble_eq_true rfl, Nat.le_of_ble_eq_true rfl⟩ rfl (by rfl) (Nat.le_of_ble_eq_true rfl) hl.1 dX12_residualOf_8 (fun H locs w => ?_)
  refine lv_lsub hx hb dX12_residualOf_11 ?_
  obtain rfl := Option.some.inj hf
  exact eL C0 hr w dX12_residualOf_12
def f_X12_cover_2 : Nat → Int32 → Mem → Option (Mem)
  | 0, _, _ => none
  | n + 1, x1, σ =>
    if 64 ≤ x1 then (
      some σ)
    else (
      gd (inb x1 64) (
      gd (inb x1 64) (
      f_X12_cover_2 n (x1 + 1) (setI (setI σ 232 x1.toNatClampNeg 0) 233 x1.toNatClampNeg 0))))
def f_X12_cover_58 (x1 : Int32) : Nat → Int32 → Mem → Option (Mem)
  | 0, _, _ => none
  | n + 1, x2, σ =>
    if 64 ≤ x2 then (
      some σ)
    else (
      gd (inb x2 64) (
      gd (inb x2 64) (
      if (σ.1 231 x2.toNatClampNeg) ≤ 0 then (
        gd (inb x2 64) (
        gd (inb x2 64) (
        gd (inb x2 64) (
        gd (inb x2 64) (
        bd (some (setI (setI σ 232 x2.toNatClampNeg ((σ.1 232 x2.toNatClampNeg) + 0)) 233 x2.toNatClampNeg (((setI σ 232 x2.toNatClampNeg ((σ.1 232 x2.toNatClampNeg) + 0)).1 233 x2.toNatClampNeg) + ((setI σ 232 x2.toNatClampNeg ((σ.1 232 x2.toNatClampNeg) + 0)).1 231 x2.toNatClampNeg)))) (fun q9 =>
        f_X12_cover_58 x1 n (x2 + 1) q9))))))
      else (
        gd (inb x2 64) (
        gd (inb x2 64) (
        gd (inb x2 64) (
        gd (inb x2 64) (
        bd (some (setI (setI σ 232 x2.toNatClampNeg ((σ.1 232 x2.toNatClampNeg) + 1)) 233 x2.toNatClampNeg (((setI σ 232 x2.toNatClampNeg ((σ.1 232 x2.toNatClampNeg) + 1)).1 233 x2.toNatClampNeg) + ((setI σ 232 x2.toNatClampNeg ((σ.1 232 x2.toNatClampNeg) + 1)).1 231 x2.toNatClampNeg)))) (fun q15 =>
        f_X12_cover_58 x1 n (x2 + 1) q15)))))))))
def f_X12_cover_30 : Nat → Int32 → Mem → Option (Mem)
  | 0, _, _ => none
  | n + 1, x1, σ =>
    if (σ.2 225 (7 : Int32).toNatClampNeg) ≤ x1.toInt64 then (
      some σ)
    else (
      bd (f_X12_isActive x1 σ) (fun q3 =>
      if q3 = 0 then (
        f_X12_cover_30 n (x1 + 1) σ)
      else (
        bd (f_X12_findWay x1 σ) (fun q6 =>
        bd (f_X12_cover_58 x1 100000 0 q6) (fun q8 =>
        f_X12_cover_30 n (x1 + 1) q8)))))
def f_X12_cover (σ : Mem) : Option (Mem) :=
  bd (f_X12_cover_2 100000 0 σ) (fun q1 =>
  bd (f_X12_cover_30 100000 0 q1) (fun q3 =>
  some q3))
abbrev rm_X12_cover : Room := { frames := 5, cells := 0, slots := 0, locals := 123 }
set_option maxHeartbeats 4000000 in
set_option maxRecDepth 100000 in
theorem lp_X12_cover_2 {p : Program} {e : Env} {s : State} {m : MethodId} {args : Array Value} {below : List Frame} {meth : Method} {c : Code} {Q : State → Prop} (l : Launch) (B : Wb) (C0 : Cx p s m args meth c cX12_cover 3 RX12) : ∀ (n : Nat) (x1 : Int32) (σ : Mem) (o : Mem) (H : Heap) (locs : List Loc) (ls : Array Slot), f_X12_cover_2 n x1 σ = some o → Wx B σ s H locs → lv_has ls 3 [(0, .ref (wA B 224)), (1, .int x1)] → (∀ (H : Heap) (locs : List Loc) (ls : Array Slot), Wx B o s H locs → lv_has ls 3 [(0, .ref (wA B 224))] → W p l e rm_X12_cover s m args below meth c H locs 0 0 Q (F0 m 28 ls [])) → W p l e rm_X12_cover s m args below meth c H locs 0 0 Q (F0 m 2 ls []) := by
  have hx := C0.1.1
  have hb := C0.1.2.1
  intro n
  induction n with
  | zero =>
    intro x1 σ o H locs ls hf w hl hK
    cases hf
  | succ n ih =>
    intro x1 σ o H locs ls hf w hl hK
    rw [f_X12_cover_2] at hf
    refine lv_iload_n hx hb dX12_cover_2 rfl (lv_at hl 1 rfl) ?_
    refine lv_bipush (v := 64) hx hb dX12_cover_3 (by decide) ?_
    refine lv_icmp_ge (tgt := 28) hx hb dX12_cover_5 (by decide) (fun c1 => ?_) (fun c1 => ?_)
    · rw [if_pos c1] at hf
      obtain rfl := Option.some.inj hf
      exact hK _ _ _ w (lv_sub hl [0] rfl)
    · rw [if_neg c1] at hf
      refine lv_aload_n hx hb dX12_cover_8 rfl (lv_at hl 0 rfl) ?_
      refine gR C0 w 232 fk_X12_33 (by decide +kernel) dX12_cover_9 ?_
      refine lv_iload_n hx hb dX12_cover_12 rfl (lv_at hl 1 rfl) ?_
      refine lv_iconst (v := 0) hx hb dX12_cover_13 (by decide) ?_
      obtain ⟨g2, hf⟩ := gdE hf
      refine sI C0 w (n := 64) (by decide +kernel) (inbE g2) dX12_cover_14 (fun H locs w => ?_)
      refine lv_aload_n hx hb dX12_cover_15 rfl (lv_at hl 0 rfl) ?_
      refine gR C0 w 233 fk_X12_36 (by decide +kernel) dX12_cover_16 ?_
      refine lv_iload_n hx hb dX12_cover_19 rfl (lv_at hl 1 rfl) ?_
      refine lv_iconst (v := 0) hx hb dX12_cover_20 (by decide) ?_
      obtain ⟨g3, hf⟩ := gdE hf
      refine sI C0 w (n := 64) (by decide +kernel) (inbE g3) dX12_cover_21 (fun H locs w => ?_)
      refine lv_iinc (k := 1) (v := x1 + 1) (lv' := [(1, .int (x1 + 1)), (0, .ref (wA B 224))]) hx hb dX12_cover_22 hl rfl (by rfl) (by decide) rfl (fun ls hl => ?_)
      refine lv_goto (tgt := 2) hx hb dX12_cover_25 (by decide) ?_
      exact ih (x1 + 1) (setI (setI σ 232 x1.toNatClampNeg 0) 233 x1.toNatClampNeg 0) _ _ _ _ hf w (lv_sub hl [1, 0] rfl) hK
set_option maxHeartbeats 4000000 in
set_option maxRecDepth 100000 in
theorem lp_X12_cover_58 {p : Program} {e : Env} {s : State} {m : MethodId} {args : Array Value} {below : List Frame} {meth : Method} {c : Code} {Q : State → Prop} (l : Launch) (B : Wb) (C0 : Cx p s m args meth c cX12_cover 3 RX12) (x1 : Int32) : ∀ (n : Nat) (x2 : Int32) (σ : Mem) (o : Mem) (H : Heap) (locs : List Loc) (ls : Array Slot), f_X12_cover_58 x1 n x2 σ = some o → Wx B σ s H locs → lv_has ls 3 [(0, .ref (wA B 224)), (1, .int x1), (2, .int x2)] → (∀ (H : Heap) (locs : List Loc) (ls : Array Slot), Wx B o s H locs → lv_has ls 3 [(0, .ref (wA B 224)), (1, .int x1)] → W p l e rm_X12_cover s m args below meth c H locs 0 0 Q (F0 m 108 ls [])) → W p l e rm_X12_cover s m args below meth c H locs 0 0 Q (F0 m 58 ls []) := by
  have hx := C0.1.1
  have hb := C0.1.2.1
  intro n
  induction n with
  | zero =>
    intro x2 σ o H locs ls hf w hl hK
    cases hf
  | succ n ih =>
    intro x2 σ o H locs ls hf w hl hK
    rw [f_X12_cover_58] at hf
    refine lv_iload_n hx hb dX12_cover_58 rfl (lv_at hl 2 rfl) ?_
    refine lv_bipush (v := 64) hx hb dX12_cover_59 (by decide) ?_
    refine lv_icmp_ge (tgt := 108) hx hb dX12_cover_61 (by decide) (fun c1 => ?_) (fun c1 => ?_)
    · rw [if_pos c1] at hf
      obtain rfl := Option.some.inj hf
      exact hK _ _ _ w (lv_sub hl [0, 1] rfl)
    · rw [if_neg c1] at hf
      refine lv_aload_n hx hb dX12_cover_64 rfl (lv_at hl 0 rfl) ?_
      refine gR C0 w 232 fk_X12_33 (by decide +kernel) dX12_cover_65 ?_
      refine lv_iload_n hx hb dX12_cover_68 rfl (lv_at hl 2 rfl) ?_
      refine lv_dup2_11 hx hb dX12_cover_69 rfl rfl ?_
      obtain ⟨g2, hf⟩ := gdE hf
      refine aI C0 w (n := 64) (by decide +kernel) (inbE g2) dX12_cover_70 ?_
      refine lv_aload_n hx hb dX12_cover_71 rfl (lv_at hl 0 rfl) ?_
      refine gR C0 w 231 fk_X12_30 (by decide +kernel) dX12_cover_72 ?_
      refine lv_iload_n hx hb dX12_cover_75 rfl (lv_at hl 2 rfl) ?_
      obtain ⟨g3, hf⟩ := gdE hf
      refine aI C0 w (n := 64) (by decide +kernel) (inbE g3) dX12_cover_76 ?_
      refine lv_if_le (tgt := 84) hx hb dX12_cover_77 (by decide) (fun c4 => ?_) (fun c4 => ?_)
      · rw [if_pos c4] at hf
        refine lv_iconst (v := 0) hx hb dX12_cover_84 (by decide) ?_
        refine lv_iadd hx hb dX12_cover_85 ?_
        obtain ⟨g5, hf⟩ := gdE hf
        refine sI C0 w (n := 64) (by decide +kernel) (inbE g5) dX12_cover_86 (fun H locs w => ?_)
        refine lv_aload_n hx hb dX12_cover_87 rfl (lv_at hl 0 rfl) ?_
        refine gR C0 w 233 fk_X12_36 (by decide +kernel) dX12_cover_88 ?_
        refine lv_iload_n hx hb dX12_cover_91 rfl (lv_at hl 2 rfl) ?_
        refine lv_dup2_11 hx hb dX12_cover_92 rfl rfl ?_
        obtain ⟨g6, hf⟩ := gdE hf
        refine aI C0 w (n := 64) (by decide +kernel) (inbE g6) dX12_cover_93 ?_
        refine lv_aload_n hx hb dX12_cover_94 rfl (lv_at hl 0 rfl) ?_
        refine gR C0 w 231 fk_X12_30 (by decide +kernel) dX12_cover_95 ?_
        refine lv_iload_n hx hb dX12_cover_98 rfl (lv_at hl 2 rfl) ?_
        obtain ⟨g7, hf⟩ := gdE hf
        refine aI C0 w (n := 64) (by decide +kernel) (inbE g7) dX12_cover_99 ?_
        refine lv_iadd hx hb dX12_cover_100 ?_
        obtain ⟨g8, hf⟩ := gdE hf
        refine sI C0 w (n := 64) (by decide +kernel) (inbE g8) dX12_cover_101 (fun H locs w => ?_)
        obtain ⟨q9, h10, hf⟩ := bdE hf
        have w : Wx B q9 s H locs := by rw [← Option.some.inj h10]; exact w
        refine lv_iinc (k := 2) (v := x2 + 1) (lv' := [(2, .int (x2 + 1)), (0, .ref (wA B 224)), (1, .int x1)]) hx hb dX12_cover_102 hl rfl (by rfl) (by decide) rfl (fun ls hl => ?_)
        refine lv_goto (tgt := 58) hx hb dX12_cover_105 (by decide) ?_
        exact ih (x2 + 1) q9 _ _ _ _ hf w (lv_sub hl [1, 2, 0] rfl) hK
      · rw [if_neg c4] at hf
        refine lv_iconst (v := 1) hx hb dX12_cover_80 (by decide) ?_
        refine lv_goto (tgt := 85) hx hb dX12_cover_81 (by decide) ?_
        refine lv_iadd hx hb dX12_cover_85 ?_
        obtain ⟨g11, hf⟩ := gdE hf
        refine sI C0 w (n := 64) (by decide +kernel) (inbE g11) dX12_cover_86 (fun H locs w => ?_)
        refine lv_aload_n hx hb dX12_cover_87 rfl (lv_at hl 0 rfl) ?_
        refine gR C0 w 233 fk_X12_36 (by decide +kernel) dX12_cover_88 ?_
        refine lv_iload_n hx hb dX12_cover_91 rfl (lv_at hl 2 rfl) ?_
        refine lv_dup2_11 hx hb dX12_cover_92 rfl rfl ?_
        obtain ⟨g12, hf⟩ := gdE hf
        refine aI C0 w (n := 64) (by decide +kernel) (inbE g12) dX12_cover_93 ?_
        refine lv_aload_n hx hb dX12_cover_94 rfl (lv_at hl 0 rfl) ?_
        refine gR C0 w 231 fk_X12_30 (by decide +kernel) dX12_cover_95 ?_
        refine lv_iload_n hx hb dX12_cover_98 rfl (lv_at hl 2 rfl) ?_
        obtain ⟨g13, hf⟩ := gdE hf
        refine aI C0 w (n := 64) (by decide +kernel) (inbE g13) dX12_cover_99 ?_
        refine lv_iadd hx hb dX12_cover_100 ?_
        obtain ⟨g14, hf⟩ := gdE hf
        refine sI C0 w (n := 64) (by decide +kernel) (inbE g14) dX12_cover_101 (fun H locs w => ?_)
        obtain ⟨q15, h16, hf⟩ := bdE hf
        have w : Wx B q15 s H locs := by rw [← Option.some.inj h16]; exact w
        refine lv_iinc (k := 2) (v := x2 + 1) (lv' := [(2, .int (x2 + 1)), (0, .ref (wA B 224)), (1, .int x1)]) hx hb dX12_cover_102 hl rfl (by rfl) (by decide) rfl (fun ls hl => ?_)
        refine lv_goto (tgt := 58) hx hb dX12_cover_105 (by decide) ?_
        exact ih (x2 + 1) q15 _ _ _ _ hf w (lv_sub hl [1, 2, 0] rfl) hK
set_option maxHeartbeats 4000000 in
set_option maxRecDepth 100000 in
theorem lp_X12_cover_30 {p : Program} {e : Env} {s : State} {m : MethodId} {args : Array Value} {below : List Frame} {meth : Method} {c : Code} {Q : State → Prop} (l : Launch) (B : Wb) (C0 : Cx p s m args meth c cX12_cover 3 RX12) : ∀ (n : Nat) (x1 : Int32) (σ : Mem) (o : Mem) (H : Heap) (locs : List Loc) (ls : Array Slot), f_X12_cover_30 n x1 σ = some o → Wx B σ s H locs → lv_has ls 3 [(0, .ref (wA B 224)), (1, .int x1)] → (∀ (H : Heap) (locs : List Loc) (ls : Array Slot), Wx B o s H locs → lv_has ls 3 [] → W p l e rm_X12_cover s m args below meth c H locs 0 0 Q (F0 m 114 ls [])) → W p l e rm_X12_cover s m args below meth c H locs 0 0 Q (F0 m 30 ls []) := by
  have hx := C0.1.1
  have hb := C0.1.2.1
  intro n
  induction n with
  | zero =>
    intro x1 σ o H locs ls hf w hl hK
    cases hf
  | succ n ih =>
    intro x1 σ o H locs ls hf w hl hK
    rw [f_X12_cover_30] at hf
    refine lv_iload_n hx hb dX12_cover_30 rfl (lv_at hl 1 rfl) ?_
    refine lv_i2l hx hb dX12_cover_31 rfl ?_
    refine lv_aload_n hx hb dX12_cover_32 rfl (lv_at hl 0 rfl) ?_
    refine gR C0 w 225 fk_X12_7 (by decide +kernel) dX12_cover_33 ?_
    refine lv_bipush (v := 7) hx hb dX12_cover_36 (by decide) ?_
    refine aL C0 w (n := 200) (by decide +kernel) (inbE (by decide)) dX12_cover_38 ?_
    refine lc_ge (tgt := 114) C0 dX12_cover_39 dX12_cover_40 (by decide) (fun c2 => ?_) (fun c2 => ?_)
    · rw [if_pos c2] at hf
      obtain rfl := Option.some.inj hf
      exact hK _ _ _ w (lv_sub hl [] rfl)
    · rw [if_neg c2] at hf
      refine lv_aload_n hx hb dX12_cover_43 rfl (lv_at hl 0 rfl) ?_
      refine lv_iload_n hx hb dX12_cover_44 rfl (lv_at hl 1 rfl) ?_
      obtain ⟨q3, h4, hf⟩ := bdE hf
      refine cV (As := [.int x1]) (rest := []) (k := 224) (ci := 10) (T := TX12) (N := 22) C0 w (m_X12_isActive l B _ σ x1 q3 h4) ky_X12_isActive kv_X12_isActive lk_X12_89 rfl (by decide +kernel) ⟨Nat.le_of_ble_eq_true rfl, Nat.le_of_ble_eq_true rfl⟩ ⟨Nat.le_of_ble_eq_true rfl, Nat.le_of_ble_eq_true rfl⟩ rfl (by rfl) (Nat.le_of_ble_eq_true rfl) hl.1 dX12_cover_45 (fun H locs w => ?_)
      refine lv_if_eq (tgt := 108) hx hb dX12_cover_48 (by decide) (fun c5 => ?_) (fun c5 => ?_)
      · rw [if_pos c5] at hf
        refine lv_iinc (k := 1) (v := x1 + 1) (lv' := [(1, .int (x1 + 1)), (0, .ref (wA B 224))]) hx hb dX12_cover_108 hl rfl (by rfl) (by decide) rfl (fun ls hl => ?_)
        refine lv_goto (tgt := 30) hx hb dX12_cover_111 (by decide) ?_
        exact ih (x1 + 1) σ _ _ _ _ hf w (lv_sub hl [1, 0] rfl) hK
      · rw [if_neg c5] at hf
        refine lv_aload_n hx hb dX12_cover_51 rfl (lv_at hl 0 rfl) ?_
        refine lv_iload_n hx hb dX12_cover_52 rfl (lv_at hl 1 rfl) ?_
        obtain ⟨q6, h7, hf⟩ := bdE hf
        refine cV (As := [.int x1]) (rest := []) (k := 224) (ci := 10) (T := TX12) (N := 22) C0 w (m_X12_findWay l B _ σ x1 q6 h7) ky_X12_findWay kv_X12_findWay lk_X12_125 rfl (by decide +kernel) ⟨Nat.le_of_ble_eq_true rfl, Nat.le_of_ble_eq_true rfl⟩ ⟨Nat.le_of_ble_eq_true rfl, Nat.le_of_ble_eq_true rfl⟩ rfl (by rfl) (Nat.le_of_ble_eq_true rfl) hl.1 dX12_cover_53 (fun H locs w => ?_)
        refine lv_iconst (v := 0) hx hb dX12_cover_56 (by decide) ?_
        refine lv_istore_n (lv' := [(2, .int 0), (0, .ref (wA B 224)), (1, .int x1)]) hx hb dX12_cover_57 rfl hl (by decide) rfl (fun ls hl => ?_)
        obtain ⟨q8, h9, hf⟩ := bdE hf
        refine lp_X12_cover_58 l B C0 x1 100000 0 q6 q8 _ _ _ h9 w (lv_sub hl [1, 2, 0] rfl) (fun H locs ls w hl => ?_)
        refine lv_iinc (k := 1) (v := x1 + 1) (lv' := [(1, .int (x1 + 1)), (0, .ref (wA B 224))]) hx hb dX12_cover_108 hl rfl (by rfl) (by decide) rfl (fun ls hl => ?_)
        refine lv_goto (tgt := 30) hx hb dX12_cover_111 (by decide) ?_
        exact ih (x1 + 1) q8 _ _ _ _ hf w (lv_sub hl [1, 0] rfl) hK
set_option maxHeartbeats 4000000 in
set_option maxRecDepth 100000 in
theorem m_X12_cover (l : Launch) (B : Wb) (sz : Nat) (σ : Mem) (q : Mem) (hf : f_X12_cover σ = some q) : MetC l yX12_cover cX12_cover 3 none rm_X12_cover B sz σ q [.ref (wA B 224)] (none) := by
  refine met_in (by decide +kernel) (Nat.le_of_ble_eq_true rfl) ?_
  intro p e s m below meth c C0 hr w hsz ls hl
  have hx := C0.1.1
  have hb := C0.1.2.1
  unfold f_X12_cover at hf
  refine lv_iconst (v := 0) hx hb dX12_cover_0 (by decide) ?_
  refine lv_istore_n (lv' := [(1, .int 0), (0, .ref (wA B 224))]) hx hb dX12_cover_1 rfl hl (by decide) rfl (fun ls hl => ?_)
  obtain ⟨q1, h2, hf⟩ := bdE hf
  refine lp_X12_cover_2 l B C0 100000 0 σ q1 _ _ _ h2 w (lv_sub hl [1, 0] rfl) (fun H locs ls w hl => ?_)
  refine lv_iconst (v := 0) hx hb dX12_cover_28 (by decide) ?_
  refine lv_istore_n (lv' := [(1, .int 0), (0, .ref (wA B 224))]) hx hb dX12_cover_29 rfl hl (by decide) rfl (fun ls hl => ?_)
  obtain ⟨q3, h4, hf⟩ := bdE hf
  refine lp_X12_cover_30 l B C0 100000 0 q1 q3 _ _ _ h4 w (lv_sub hl [1, 0] rfl) (fun H locs ls w hl => ?_)
  obtain rfl := Option.some.inj hf
  exact eV C0 hr w dX12_cover_114
def f_X12_beginAnew_27 : Nat → Int32 → Mem → Option (Mem)
  | 0, _, _ => none
  | n + 1, x3, σ =>
    if 136 ≤ x3 then (
      some σ)
    else (
      gd (inb x3 200) (
      f_X12_beginAnew_27 n (x3 + 1) (setL σ 225 x3.toNatClampNeg 1000)))
def f_X12_beginAnew (x1 : Int32) (x2 : Int32) (σ : Mem) : Option (Mem) :=
  bd (f_X12_beginAnew_27 100000 8 (setL (setL (setL σ 225 ((0 : Int32).toNatClampNeg) x1.toInt64) 225 ((1 : Int32).toNatClampNeg) x2.toInt64) 225 ((7 : Int32).toNatClampNeg) 0)) (fun q4 =>
  some q4)
abbrev rm_X12_beginAnew : Room := { frames := 0, cells := 0, slots := 0, locals := 0 }
set_option maxHeartbeats 4000000 in
set_option maxRecDepth 100000 in
theorem lp_X12_beginAnew_27 {p : Program} {e : Env} {s : State} {m : MethodId} {args : Array Value} {below : List Frame} {meth : Method} {c : Code} {Q : State → Prop} (l : Launch) (B : Wb) (C0 : Cx p s m args meth c cX12_beginAnew 4 RX12) : ∀ (n : Nat) (x3 : Int32) (σ : Mem) (o : Mem) (H : Heap) (locs : List Loc) (ls : Array Slot), f_X12_beginAnew_27 n x3 σ = some o → Wx B σ s H locs → lv_has ls 4 [(0, .ref (wA B 224)), (3, .int x3)] → (∀ (H : Heap) (locs : List Loc) (ls : Array Slot), Wx B o s H locs → lv_has ls 4 [] → W p l e rm_X12_beginAnew s m args below meth c H locs 0 0 Q (F0 m 49 ls [])) → W p l e rm_X12_beginAnew s m args below meth c H locs 0 0 Q (F0 m 27 ls []) := by
  have hx := C0.1.1
  have hb := C0.1.2.1
  intro n
  induction n with
  | zero =>
    intro x3 σ o H locs ls hf w hl hK
    cases hf
  | succ n ih =>
    intro x3 σ o H locs ls hf w hl hK
    rw [f_X12_beginAnew_27] at hf
    refine lv_iload_n hx hb dX12_beginAnew_27 rfl (lv_at hl 1 rfl) ?_
    refine lv_sipush (v := 136) hx hb dX12_beginAnew_28 (by decide) ?_
    refine lv_icmp_ge (tgt := 49) hx hb dX12_beginAnew_31 (by decide) (fun c1 => ?_) (fun c1 => ?_)
    · rw [if_pos c1] at hf
      obtain rfl := Option.some.inj hf
      exact hK _ _ _ w (lv_sub hl [] rfl)
    · rw [if_neg c1] at hf
      refine lv_aload_n hx hb dX12_beginAnew_34 rfl (lv_at hl 0 rfl) ?_
      refine gR C0 w 225 fk_X12_7 (by decide +kernel) dX12_beginAnew_35 ?_
      refine lv_iload_n hx hb dX12_beginAnew_38 rfl (lv_at hl 1 rfl) ?_
      refine kLg C0 1000 kc_X12_56 dX12_beginAnew_39 ?_
      obtain ⟨g2, hf⟩ := gdE hf
      refine sL C0 w (n := 200) (by decide +kernel) (inbE g2) dX12_beginAnew_42 (fun H locs w => ?_)
      refine lv_iinc (k := 1) (v := x3 + 1) (lv' := [(3, .int (x3 + 1)), (0, .ref (wA B 224))]) hx hb dX12_beginAnew_43 hl rfl (by rfl) (by decide) rfl (fun ls hl => ?_)
      refine lv_goto (tgt := 27) hx hb dX12_beginAnew_46 (by decide) ?_
      exact ih (x3 + 1) (setL σ 225 x3.toNatClampNeg 1000) _ _ _ _ hf w (lv_sub hl [1, 0] rfl) hK
set_option maxHeartbeats 4000000 in
set_option maxRecDepth 100000 in
theorem m_X12_beginAnew (l : Launch) (B : Wb) (sz : Nat) (σ : Mem) (x1 : Int32) (x2 : Int32) (q : Mem) (hf : f_X12_beginAnew x1 x2 σ = some q) : MetC l yX12_beginAnew cX12_beginAnew 4 none rm_X12_beginAnew B sz σ q [.ref (wA B 224), .int x1, .int x2] (none) := by
  refine met_in (by decide +kernel) (Nat.le_of_ble_eq_true rfl) ?_
  intro p e s m below meth c C0 hr w hsz ls hl
  have hx := C0.1.1
  have hb := C0.1.2.1
  unfold f_X12_beginAnew at hf
  refine lv_aload_n hx hb dX12_beginAnew_0 rfl (lv_at hl 0 rfl) ?_
  refine gR C0 w 225 fk_X12_7 (by decide +kernel) dX12_beginAnew_1 ?_
  refine lv_iconst (v := 0) hx hb dX12_beginAnew_4 (by decide) ?_
  refine lv_iload_n hx hb dX12_beginAnew_5 rfl (lv_at hl 1 rfl) ?_
  refine lv_i2l hx hb dX12_beginAnew_6 rfl ?_
  refine sL C0 w (n := 200) (by decide +kernel) (inbE (by decide)) dX12_beginAnew_7 (fun H locs w => ?_)
  refine lv_aload_n hx hb dX12_beginAnew_8 rfl (lv_at hl 0 rfl) ?_
  refine gR C0 w 225 fk_X12_7 (by decide +kernel) dX12_beginAnew_9 ?_
  refine lv_iconst (v := 1) hx hb dX12_beginAnew_12 (by decide) ?_
  refine lv_iload_n hx hb dX12_beginAnew_13 rfl (lv_at hl 2 rfl) ?_
  refine lv_i2l hx hb dX12_beginAnew_14 rfl ?_
  refine sL C0 w (n := 200) (by decide +kernel) (inbE (by decide)) dX12_beginAnew_15 (fun H locs w => ?_)
  refine lv_aload_n hx hb dX12_beginAnew_16 rfl (lv_at hl 0 rfl) ?_
  refine gR C0 w 225 fk_X12_7 (by decide +kernel) dX12_beginAnew_17 ?_
  refine lv_bipush (v := 7) hx hb dX12_beginAnew_20 (by decide) ?_
  refine lv_lconst (v := 0) hx hb dX12_beginAnew_22 (by decide) ?_
  refine sL C0 w (n := 200) (by decide +kernel) (inbE (by decide)) dX12_beginAnew_23 (fun H locs w => ?_)
  refine lv_bipush (v := 8) hx hb dX12_beginAnew_24 (by decide) ?_
  refine lv_istore_n (lv' := [(3, .int 8), (0, .ref (wA B 224)), (1, .int x1), (2, .int x2)]) hx hb dX12_beginAnew_26 rfl hl (by decide) rfl (fun ls hl => ?_)
  obtain ⟨q4, h5, hf⟩ := bdE hf
  refine lp_X12_beginAnew_27 l B C0 100000 8 (setL (setL (setL σ 225 ((0 : Int32).toNatClampNeg) x1.toInt64) 225 ((1 : Int32).toNatClampNeg) x2.toInt64) 225 ((7 : Int32).toNatClampNeg) 0) q4 _ _ _ h5 w (lv_sub hl [1, 0] rfl) (fun H locs ls w hl => ?_)
  obtain rfl := Option.some.inj hf
  exact eV C0 hr w dX12_beginAnew_49
def f_X12_begin (x1 : Int32) (x2 : Int32) (σ : Mem) : Option (Int32 × Mem) :=
  bd (f_X12_in x1.toInt64 2 8 σ) (fun q1 =>
  if q1 = 0 then (
    if ((setI σ 224 5 1).1 224 5) = 0 then (
      bd (f_X12_keep (setI σ 224 5 1)) (fun q5 =>
      bd (f_X12_beginAnew x1 x2 q5) (fun q7 =>
      bd (f_X12_cells q7) (fun q9 =>
      some ((q9, q7))))))
    else (
      some ((0, setI σ 224 5 1))))
  else (
    bd (f_X12_in x2.toInt64 2 8 σ) (fun q11 =>
    if q11 = 0 then (
      if ((setI σ 224 5 1).1 224 5) = 0 then (
        bd (f_X12_keep (setI σ 224 5 1)) (fun q15 =>
        bd (f_X12_beginAnew x1 x2 q15) (fun q17 =>
        bd (f_X12_cells q17) (fun q19 =>
        some ((q19, q17))))))
      else (
        some ((0, setI σ 224 5 1))))
    else (
      if ((setI σ 224 5 0).1 224 5) = 0 then (
        bd (f_X12_keep (setI σ 224 5 0)) (fun q22 =>
        bd (f_X12_beginAnew x1 x2 q22) (fun q24 =>
        bd (f_X12_cells q24) (fun q26 =>
        some ((q26, q24))))))
      else (
        some ((0, setI σ 224 5 0)))))))
abbrev rm_X12_begin : Room := { frames := 2, cells := 0, slots := 0, locals := 40 }
set_option maxHeartbeats 4000000 in
set_option maxRecDepth 100000 in
theorem m_X12_begin (l : Launch) (B : Wb) (sz : Nat) (σ : Mem) (x1 : Int32) (x2 : Int32) (q : Int32 × Mem) (hf : f_X12_begin x1 x2 σ = some q) : MetC l yX12_begin cX12_begin 3 (some .int) rm_X12_begin B sz σ q.2 [.ref (wA B 224), .int x1, .int x2] (some (.int q.1)) := by
  refine met_in (by decide +kernel) (Nat.le_of_ble_eq_true rfl) ?_
  intro p e s m below meth c C0 hr w hsz ls hl
  have hx := C0.1.1
  have hb := C0.1.2.1
  unfold f_X12_begin at hf
  refine lv_aload_n hx hb dX12_begin_0 rfl (lv_at hl 0 rfl) ?_
  refine lv_iload_n hx hb dX12_begin_1 rfl (lv_at hl 1 rfl) ?_
  refine lv_i2l hx hb dX12_begin_2 rfl ?_
  refine kLg C0 2 kc_X12_93 dX12_begin_3 ?_
  refine kLg C0 8 kc_X12_129 dX12_begin_6 ?_
  obtain ⟨q1, h2, hf⟩ := bdE hf
  refine cS (As := [.long x1.toInt64, .long 2, .long 8]) (rest := [.ref (wA B 224)]) C0 w (m_X12_in l B _ σ x1.toInt64 2 8 q1 h2) ky_X12_in ks_X12_in lk_X12_79 ⟨Nat.le_of_ble_eq_true rfl, Nat.le_of_ble_eq_true rfl⟩ ⟨Nat.le_of_ble_eq_true rfl, Nat.le_of_ble_eq_true rfl⟩ rfl (by rfl) (Nat.le_of_ble_eq_true rfl) hl.1 dX12_begin_9 (fun H locs w => ?_)
  refine lv_if_eq (tgt := 33) hx hb dX12_begin_12 (by decide) (fun c3 => ?_) (fun c3 => ?_)
  · rw [if_pos c3] at hf
    refine lv_iconst (v := 1) hx hb dX12_begin_33 (by decide) ?_
    refine pI C0 w fk_X12_62 fp_X12_5 (by decide +kernel) dX12_begin_34 (fun H locs w => ?_)
    refine lv_aload_n hx hb dX12_begin_37 rfl (lv_at hl 0 rfl) ?_
    refine gI C0 w fk_X12_62 (by decide +kernel) dX12_begin_38 ?_
    refine lv_if_eq (tgt := 46) hx hb dX12_begin_41 (by decide) (fun c4 => ?_) (fun c4 => ?_)
    · rw [if_pos c4] at hf
      refine lv_aload_n hx hb dX12_begin_46 rfl (lv_at hl 0 rfl) ?_
      obtain ⟨q5, h6, hf⟩ := bdE hf
      refine cV (As := []) (rest := []) (k := 224) (ci := 10) (T := TX12) (N := 22) C0 w (m_X12_keep l B _ (setI σ 224 5 1) q5 h6) ky_X12_keep kv_X12_keep lk_X12_131 rfl (by decide +kernel) ⟨Nat.le_of_ble_eq_true rfl, Nat.le_of_ble_eq_true rfl⟩ ⟨Nat.le_of_ble_eq_true rfl, Nat.le_of_ble_eq_true rfl⟩ rfl (by rfl) (Nat.le_of_ble_eq_true rfl) hl.1 dX12_begin_47 (fun H locs w => ?_)
      refine lv_aload_n hx hb dX12_begin_50 rfl (lv_at hl 0 rfl) ?_
      refine lv_iload_n hx hb dX12_begin_51 rfl (lv_at hl 1 rfl) ?_
      refine lv_iload_n hx hb dX12_begin_52 rfl (lv_at hl 2 rfl) ?_
      obtain ⟨q7, h8, hf⟩ := bdE hf
      refine cV (As := [.int x1, .int x2]) (rest := []) (k := 224) (ci := 10) (T := TX12) (N := 22) C0 w (m_X12_beginAnew l B _ q5 x1 x2 q7 h8) ky_X12_beginAnew kv_X12_beginAnew lk_X12_58 rfl (by decide +kernel) ⟨Nat.le_of_ble_eq_true rfl, Nat.le_of_ble_eq_true rfl⟩ ⟨Nat.le_of_ble_eq_true rfl, Nat.le_of_ble_eq_true rfl⟩ rfl (by rfl) (Nat.le_of_ble_eq_true rfl) hl.1 dX12_begin_53 (fun H locs w => ?_)
      refine lv_aload_n hx hb dX12_begin_56 rfl (lv_at hl 0 rfl) ?_
      obtain ⟨q9, h10, hf⟩ := bdE hf
      refine cV (As := []) (rest := []) (k := 224) (ci := 10) (T := TX12) (N := 22) C0 w (m_X12_cells l B _ q7 q9 h10) ky_X12_cells kv_X12_cells lk_X12_76 rfl (by decide +kernel) ⟨Nat.le_of_ble_eq_true rfl, Nat.le_of_ble_eq_true rfl⟩ ⟨Nat.le_of_ble_eq_true rfl, Nat.le_of_ble_eq_true rfl⟩ rfl (by rfl) (Nat.le_of_ble_eq_true rfl) hl.1 dX12_begin_57 (fun H locs w => ?_)
      obtain rfl := Option.some.inj hf
      exact eI C0 hr w rfl dX12_begin_60
    · rw [if_neg c4] at hf
      refine lv_iconst (v := 0) hx hb dX12_begin_44 (by decide) ?_
      obtain rfl := Option.some.inj hf
      exact eI C0 hr w rfl dX12_begin_45
  · rw [if_neg c3] at hf
    refine lv_iload_n hx hb dX12_begin_15 rfl (lv_at hl 2 rfl) ?_
    refine lv_i2l hx hb dX12_begin_16 rfl ?_
    refine kLg C0 2 kc_X12_93 dX12_begin_17 ?_
    refine kLg C0 8 kc_X12_129 dX12_begin_20 ?_
    obtain ⟨q11, h12, hf⟩ := bdE hf
    refine cS (As := [.long x2.toInt64, .long 2, .long 8]) (rest := [.ref (wA B 224)]) C0 w (m_X12_in l B _ σ x2.toInt64 2 8 q11 h12) ky_X12_in ks_X12_in lk_X12_79 ⟨Nat.le_of_ble_eq_true rfl, Nat.le_of_ble_eq_true rfl⟩ ⟨Nat.le_of_ble_eq_true rfl, Nat.le_of_ble_eq_true rfl⟩ rfl (by rfl) (Nat.le_of_ble_eq_true rfl) hl.1 dX12_begin_23 (fun H locs w => ?_)
    refine lv_if_eq (tgt := 33) hx hb dX12_begin_26 (by decide) (fun c13 => ?_) (fun c13 => ?_)
    · rw [if_pos c13] at hf
      refine lv_iconst (v := 1) hx hb dX12_begin_33 (by decide) ?_
      refine pI C0 w fk_X12_62 fp_X12_5 (by decide +kernel) dX12_begin_34 (fun H locs w => ?_)
      refine lv_aload_n hx hb dX12_begin_37 rfl (lv_at hl 0 rfl) ?_
      refine gI C0 w fk_X12_62 (by decide +kernel) dX12_begin_38 ?_
      refine lv_if_eq (tgt := 46) hx hb dX12_begin_41 (by decide) (fun c14 => ?_) (fun c14 => ?_)
      · rw [if_pos c14] at hf
        refine lv_aload_n hx hb dX12_begin_46 rfl (lv_at hl 0 rfl) ?_
        obtain ⟨q15, h16, hf⟩ := bdE hf
        refine cV (As := []) (rest := []) (k := 224) (ci := 10) (T := TX12) (N := 22) C0 w (m_X12_keep l B _ (setI σ 224 5 1) q15 h16) ky_X12_keep kv_X12_keep lk_X12_131 rfl (by decide +kernel) ⟨Nat.le_of_ble_eq_true rfl, Nat.le_of_ble_eq_true rfl⟩ ⟨Nat.le_of_ble_eq_true rfl, Nat.le_of_ble_eq_true rfl⟩ rfl (by rfl) (Nat.le_of_ble_eq_true rfl) hl.1 dX12_begin_47 (fun H locs w => ?_)
        refine lv_aload_n hx hb dX12_begin_50 rfl (lv_at hl 0 rfl) ?_
        refine lv_iload_n hx hb dX12_begin_51 rfl (lv_at hl 1 rfl) ?_
        refine lv_iload_n hx hb dX12_begin_52 rfl (lv_at hl 2 rfl) ?_
        obtain ⟨q17, h18, hf⟩ := bdE hf
        refine cV (As := [.int x1, .int x2]) (rest := []) (k := 224) (ci := 10) (T := TX12) (N := 22) C0 w (m_X12_beginAnew l B _ q15 x1 x2 q17 h18) ky_X12_beginAnew kv_X12_beginAnew lk_X12_58 rfl (by decide +kernel) ⟨Nat.le_of_ble_eq_true rfl, Nat.le_of_ble_eq_true rfl⟩ ⟨Nat.le_of_ble_eq_true rfl, Nat.le_of_ble_eq_true rfl⟩ rfl (by rfl) (Nat.le_of_ble_eq_true rfl) hl.1 dX12_begin_53 (fun H locs w => ?_)
        refine lv_aload_n hx hb dX12_begin_56 rfl (lv_at hl 0 rfl) ?_
        obtain ⟨q19, h20, hf⟩ := bdE hf
        refine cV (As := []) (rest := []) (k := 224) (ci := 10) (T := TX12) (N := 22) C0 w (m_X12_cells l B _ q17 q19 h20) ky_X12_cells kv_X12_cells lk_X12_76 rfl (by decide +kernel) ⟨Nat.le_of_ble_eq_true rfl, Nat.le_of_ble_eq_true rfl⟩ ⟨Nat.le_of_ble_eq_true rfl, Nat.le_of_ble_eq_true rfl⟩ rfl (by rfl) (Nat.le_of_ble_eq_true rfl) hl.1 dX12_begin_57 (fun H locs w => ?_)
        obtain rfl := Option.some.inj hf
        exact eI C0 hr w rfl dX12_begin_60
      · rw [if_neg c14] at hf
        refine lv_iconst (v := 0) hx hb dX12_begin_44 (by decide) ?_
        obtain rfl := Option.some.inj hf
        exact eI C0 hr w rfl dX12_begin_45
    · rw [if_neg c13] at hf
      refine lv_iconst (v := 0) hx hb dX12_begin_29 (by decide) ?_
      refine lv_goto (tgt := 34) hx hb dX12_begin_30 (by decide) ?_
      refine pI C0 w fk_X12_62 fp_X12_5 (by decide +kernel) dX12_begin_34 (fun H locs w => ?_)
      refine lv_aload_n hx hb dX12_begin_37 rfl (lv_at hl 0 rfl) ?_
      refine gI C0 w fk_X12_62 (by decide +kernel) dX12_begin_38 ?_
      refine lv_if_eq (tgt := 46) hx hb dX12_begin_41 (by decide) (fun c21 => ?_) (fun c21 => ?_)
      · rw [if_pos c21] at hf
        refine lv_aload_n hx hb dX12_begin_46 rfl (lv_at hl 0 rfl) ?_
        obtain ⟨q22, h23, hf⟩ := bdE hf
        refine cV (As := []) (rest := []) (k := 224) (ci := 10) (T := TX12) (N := 22) C0 w (m_X12_keep l B _ (setI σ 224 5 0) q22 h23) ky_X12_keep kv_X12_keep lk_X12_131 rfl (by decide +kernel) ⟨Nat.le_of_ble_eq_true rfl, Nat.le_of_ble_eq_true rfl⟩ ⟨Nat.le_of_ble_eq_true rfl, Nat.le_of_ble_eq_true rfl⟩ rfl (by rfl) (Nat.le_of_ble_eq_true rfl) hl.1 dX12_begin_47 (fun H locs w => ?_)
        refine lv_aload_n hx hb dX12_begin_50 rfl (lv_at hl 0 rfl) ?_
        refine lv_iload_n hx hb dX12_begin_51 rfl (lv_at hl 1 rfl) ?_
        refine lv_iload_n hx hb dX12_begin_52 rfl (lv_at hl 2 rfl) ?_
        obtain ⟨q24, h25, hf⟩ := bdE hf
        refine cV (As := [.int x1, .int x2]) (rest := []) (k := 224) (ci := 10) (T := TX12) (N := 22) C0 w (m_X12_beginAnew l B _ q22 x1 x2 q24 h25) ky_X12_beginAnew kv_X12_beginAnew lk_X12_58 rfl (by decide +kernel) ⟨Nat.le_of_ble_eq_true rfl, Nat.le_of_ble_eq_true rfl⟩ ⟨Nat.le_of_ble_eq_true rfl, Nat.le_of_ble_eq_true rfl⟩ rfl (by rfl) (Nat.le_of_ble_eq_true rfl) hl.1 dX12_begin_53 (fun H locs w => ?_)
        refine lv_aload_n hx hb dX12_begin_56 rfl (lv_at hl 0 rfl) ?_
        obtain ⟨q26, h27, hf⟩ := bdE hf
        refine cV (As := []) (rest := []) (k := 224) (ci := 10) (T := TX12) (N := 22) C0 w (m_X12_cells l B _ q24 q26 h27) ky_X12_cells kv_X12_cells lk_X12_76 rfl (by decide +kernel) ⟨Nat.le_of_ble_eq_true rfl, Nat.le_of_ble_eq_true rfl⟩ ⟨Nat.le_of_ble_eq_true rfl, Nat.le_of_ble_eq_true rfl⟩ rfl (by rfl) (Nat.le_of_ble_eq_true rfl) hl.1 dX12_begin_57 (fun H locs w => ?_)
        obtain rfl := Option.some.inj hf
        exact eI C0 hr w rfl dX12_begin_60
      · rw [if_neg c21] at hf
        refine lv_iconst (v := 0) hx hb dX12_begin_44 (by decide) ?_
        obtain rfl := Option.some.inj hf
        exact eI C0 hr w rfl dX12_begin_45
def f_X12_lay (x1 : Int32) (x2 : Int32) (x3 : Int32) (σ : Mem) : Option (Int32 × Mem) :=
  bd (f_X12_isCell x2 σ) (fun q1 =>
  if q1 = 0 then (
    if ((setI σ 224 5 1).1 224 5) = 0 then (
      gd (inb (x1 + x2) 200) (
      gd (inb (x1 + x2) 200) (
      some ((((setI σ 224 5 1).2 225 (x1 + x2).toNatClampNeg).toInt32, setL (setI σ 224 5 1) 225 ((x1 + x2).toNatClampNeg) x3.toInt64)))))
    else (
      some ((0, setI σ 224 5 1))))
  else (
    bd (f_X12_isSlowness x3 σ) (fun q4 =>
    if q4 = 0 then (
      if ((setI σ 224 5 2).1 224 5) = 0 then (
        gd (inb (x1 + x2) 200) (
        gd (inb (x1 + x2) 200) (
        some ((((setI σ 224 5 2).2 225 (x1 + x2).toNatClampNeg).toInt32, setL (setI σ 224 5 2) 225 ((x1 + x2).toNatClampNeg) x3.toInt64)))))
      else (
        some ((0, setI σ 224 5 2))))
    else (
      if ((setI σ 224 5 0).1 224 5) = 0 then (
        gd (inb (x1 + x2) 200) (
        gd (inb (x1 + x2) 200) (
        some ((((setI σ 224 5 0).2 225 (x1 + x2).toNatClampNeg).toInt32, setL (setI σ 224 5 0) 225 ((x1 + x2).toNatClampNeg) x3.toInt64)))))
      else (
        some ((0, setI σ 224 5 0)))))))
abbrev rm_X12_lay : Room := { frames := 3, cells := 0, slots := 0, locals := 61 }
set_option maxHeartbeats 4000000 in
set_option maxRecDepth 100000 in
theorem m_X12_lay (l : Launch) (B : Wb) (sz : Nat) (σ : Mem) (x1 : Int32) (x2 : Int32) (x3 : Int32) (q : Int32 × Mem) (hf : f_X12_lay x1 x2 x3 σ = some q) : MetC l yX12_lay cX12_lay 5 (some .int) rm_X12_lay B sz σ q.2 [.ref (wA B 224), .int x1, .int x2, .int x3] (some (.int q.1)) := by
  refine met_in (by decide +kernel) (Nat.le_of_ble_eq_true rfl) ?_
  intro p e s m below meth c C0 hr w hsz ls hl
  have hx := C0.1.1
  have hb := C0.1.2.1
  unfold f_X12_lay at hf
  refine lv_aload_n hx hb dX12_lay_0 rfl (lv_at hl 0 rfl) ?_
  refine lv_aload_n hx hb dX12_lay_1 rfl (lv_at hl 0 rfl) ?_
  refine lv_iload_n hx hb dX12_lay_2 rfl (lv_at hl 2 rfl) ?_
  obtain ⟨q1, h2, hf⟩ := bdE hf
  refine cV (As := [.int x2]) (rest := [.ref (wA B 224)]) (k := 224) (ci := 10) (T := TX12) (N := 22) C0 w (m_X12_isCell l B _ σ x2 q1 h2) ky_X12_isCell kv_X12_isCell lk_X12_134 rfl (by decide +kernel) ⟨Nat.le_of_ble_eq_true rfl, Nat.le_of_ble_eq_true rfl⟩ ⟨Nat.le_of_ble_eq_true rfl, Nat.le_of_ble_eq_true rfl⟩ rfl (by rfl) (Nat.le_of_ble_eq_true rfl) hl.1 dX12_lay_3 (fun H locs w => ?_)
  refine lv_if_ne (tgt := 13) hx hb dX12_lay_6 (by decide) (fun c3 => ?_) (fun c3 => ?_)
  · rw [if_neg c3] at hf
    refine lv_iload_n hx hb dX12_lay_13 rfl (lv_at hl 3 rfl) ?_
    obtain ⟨q4, h5, hf⟩ := bdE hf
    refine cS (As := [.int x3]) (rest := [.ref (wA B 224)]) C0 w (m_X12_isSlowness l B _ σ x3 q4 h5) ky_X12_isSlowness ks_X12_isSlowness lk_X12_137 ⟨Nat.le_of_ble_eq_true rfl, Nat.le_of_ble_eq_true rfl⟩ ⟨Nat.le_of_ble_eq_true rfl, Nat.le_of_ble_eq_true rfl⟩ rfl (by rfl) (Nat.le_of_ble_eq_true rfl) hl.1 dX12_lay_14 (fun H locs w => ?_)
    refine lv_if_eq (tgt := 24) hx hb dX12_lay_17 (by decide) (fun c6 => ?_) (fun c6 => ?_)
    · rw [if_pos c6] at hf
      refine lv_iconst (v := 2) hx hb dX12_lay_24 (by decide) ?_
      refine pI C0 w fk_X12_62 fp_X12_5 (by decide +kernel) dX12_lay_25 (fun H locs w => ?_)
      refine lv_aload_n hx hb dX12_lay_28 rfl (lv_at hl 0 rfl) ?_
      refine gI C0 w fk_X12_62 (by decide +kernel) dX12_lay_29 ?_
      refine lv_if_eq (tgt := 37) hx hb dX12_lay_32 (by decide) (fun c7 => ?_) (fun c7 => ?_)
      · rw [if_pos c7] at hf
        refine lv_aload_n hx hb dX12_lay_37 rfl (lv_at hl 0 rfl) ?_
        refine gR C0 w 225 fk_X12_7 (by decide +kernel) dX12_lay_38 ?_
        refine lv_iload_n hx hb dX12_lay_41 rfl (lv_at hl 1 rfl) ?_
        refine lv_iload_n hx hb dX12_lay_42 rfl (lv_at hl 2 rfl) ?_
        refine lv_iadd hx hb dX12_lay_43 ?_
        obtain ⟨g8, hf⟩ := gdE hf
        refine aL C0 w (n := 200) (by decide +kernel) (inbE g8) dX12_lay_44 ?_
        refine lv_l2i hx hb dX12_lay_45 rfl ?_
        refine lv_istore (lv' := [(4, .int (((setI σ 224 5 2).2 225 (x1 + x2).toNatClampNeg).toInt32)), (0, .ref (wA B 224)), (1, .int x1), (2, .int x2), (3, .int x3)]) hx hb dX12_lay_46 hl (by decide) rfl (fun ls hl => ?_)
        refine lv_aload_n hx hb dX12_lay_48 rfl (lv_at hl 1 rfl) ?_
        refine gR C0 w 225 fk_X12_7 (by decide +kernel) dX12_lay_49 ?_
        refine lv_iload_n hx hb dX12_lay_52 rfl (lv_at hl 2 rfl) ?_
        refine lv_iload_n hx hb dX12_lay_53 rfl (lv_at hl 3 rfl) ?_
        refine lv_iadd hx hb dX12_lay_54 ?_
        refine lv_iload_n hx hb dX12_lay_55 rfl (lv_at hl 4 rfl) ?_
        refine lv_i2l hx hb dX12_lay_56 rfl ?_
        obtain ⟨g9, hf⟩ := gdE hf
        refine sL C0 w (n := 200) (by decide +kernel) (inbE g9) dX12_lay_57 (fun H locs w => ?_)
        refine lv_iload hx hb dX12_lay_58 (lv_at hl 0 rfl) ?_
        obtain rfl := Option.some.inj hf
        exact eI C0 hr w rfl dX12_lay_60
      · rw [if_neg c7] at hf
        refine lv_iconst (v := 0) hx hb dX12_lay_35 (by decide) ?_
        obtain rfl := Option.some.inj hf
        exact eI C0 hr w rfl dX12_lay_36
    · rw [if_neg c6] at hf
      refine lv_iconst (v := 0) hx hb dX12_lay_20 (by decide) ?_
      refine lv_goto (tgt := 25) hx hb dX12_lay_21 (by decide) ?_
      refine pI C0 w fk_X12_62 fp_X12_5 (by decide +kernel) dX12_lay_25 (fun H locs w => ?_)
      refine lv_aload_n hx hb dX12_lay_28 rfl (lv_at hl 0 rfl) ?_
      refine gI C0 w fk_X12_62 (by decide +kernel) dX12_lay_29 ?_
      refine lv_if_eq (tgt := 37) hx hb dX12_lay_32 (by decide) (fun c10 => ?_) (fun c10 => ?_)
      · rw [if_pos c10] at hf
        refine lv_aload_n hx hb dX12_lay_37 rfl (lv_at hl 0 rfl) ?_
        refine gR C0 w 225 fk_X12_7 (by decide +kernel) dX12_lay_38 ?_
        refine lv_iload_n hx hb dX12_lay_41 rfl (lv_at hl 1 rfl) ?_
        refine lv_iload_n hx hb dX12_lay_42 rfl (lv_at hl 2 rfl) ?_
        refine lv_iadd hx hb dX12_lay_43 ?_
        obtain ⟨g11, hf⟩ := gdE hf
        refine aL C0 w (n := 200) (by decide +kernel) (inbE g11) dX12_lay_44 ?_
        refine lv_l2i hx hb dX12_lay_45 rfl ?_
        refine lv_istore (lv' := [(4, .int (((setI σ 224 5 0).2 225 (x1 + x2).toNatClampNeg).toInt32)), (0, .ref (wA B 224)), (1, .int x1), (2, .int x2), (3, .int x3)]) hx hb dX12_lay_46 hl (by decide) rfl (fun ls hl => ?_)
        refine lv_aload_n hx hb dX12_lay_48 rfl (lv_at hl 1 rfl) ?_
        refine gR C0 w 225 fk_X12_7 (by decide +kernel) dX12_lay_49 ?_
        refine lv_iload_n hx hb dX12_lay_52 rfl (lv_at hl 2 rfl) ?_
        refine lv_iload_n hx hb dX12_lay_53 rfl (lv_at hl 3 rfl) ?_
        refine lv_iadd hx hb dX12_lay_54 ?_
        refine lv_iload_n hx hb dX12_lay_55 rfl (lv_at hl 4 rfl) ?_
        refine lv_i2l hx hb dX12_lay_56 rfl ?_
        obtain ⟨g12, hf⟩ := gdE hf
        refine sL C0 w (n := 200) (by decide +kernel) (inbE g12) dX12_lay_57 (fun H locs w => ?_)
        refine lv_iload hx hb dX12_lay_58 (lv_at hl 0 rfl) ?_
        obtain rfl := Option.some.inj hf
        exact eI C0 hr w rfl dX12_lay_60
      · rw [if_neg c10] at hf
        refine lv_iconst (v := 0) hx hb dX12_lay_35 (by decide) ?_
        obtain rfl := Option.some.inj hf
        exact eI C0 hr w rfl dX12_lay_36
  · rw [if_pos c3] at hf
    refine lv_iconst (v := 1) hx hb dX12_lay_9 (by decide) ?_
    refine lv_goto (tgt := 25) hx hb dX12_lay_10 (by decide) ?_
    refine pI C0 w fk_X12_62 fp_X12_5 (by decide +kernel) dX12_lay_25 (fun H locs w => ?_)
    refine lv_aload_n hx hb dX12_lay_28 rfl (lv_at hl 0 rfl) ?_
    refine gI C0 w fk_X12_62 (by decide +kernel) dX12_lay_29 ?_
    refine lv_if_eq (tgt := 37) hx hb dX12_lay_32 (by decide) (fun c13 => ?_) (fun c13 => ?_)
    · rw [if_pos c13] at hf
      refine lv_aload_n hx hb dX12_lay_37 rfl (lv_at hl 0 rfl) ?_
      refine gR C0 w 225 fk_X12_7 (by decide +kernel) dX12_lay_38 ?_
      refine lv_iload_n hx hb dX12_lay_41 rfl (lv_at hl 1 rfl) ?_
      refine lv_iload_n hx hb dX12_lay_42 rfl (lv_at hl 2 rfl) ?_
      refine lv_iadd hx hb dX12_lay_43 ?_
      obtain ⟨g14, hf⟩ := gdE hf
      refine aL C0 w (n := 200) (by decide +kernel) (inbE g14) dX12_lay_44 ?_
      refine lv_l2i hx hb dX12_lay_45 rfl ?_
      refine lv_istore (lv' := [(4, .int (((setI σ 224 5 1).2 225 (x1 + x2).toNatClampNeg).toInt32)), (0, .ref (wA B 224)), (1, .int x1), (2, .int x2), (3, .int x3)]) hx hb dX12_lay_46 hl (by decide) rfl (fun ls hl => ?_)
      refine lv_aload_n hx hb dX12_lay_48 rfl (lv_at hl 1 rfl) ?_
      refine gR C0 w 225 fk_X12_7 (by decide +kernel) dX12_lay_49 ?_
      refine lv_iload_n hx hb dX12_lay_52 rfl (lv_at hl 2 rfl) ?_
      refine lv_iload_n hx hb dX12_lay_53 rfl (lv_at hl 3 rfl) ?_
      refine lv_iadd hx hb dX12_lay_54 ?_
      refine lv_iload_n hx hb dX12_lay_55 rfl (lv_at hl 4 rfl) ?_
      refine lv_i2l hx hb dX12_lay_56 rfl ?_
      obtain ⟨g15, hf⟩ := gdE hf
      refine sL C0 w (n := 200) (by decide +kernel) (inbE g15) dX12_lay_57 (fun H locs w => ?_)
      refine lv_iload hx hb dX12_lay_58 (lv_at hl 0 rfl) ?_
      obtain rfl := Option.some.inj hf
      exact eI C0 hr w rfl dX12_lay_60
    · rw [if_neg c13] at hf
      refine lv_iconst (v := 0) hx hb dX12_lay_35 (by decide) ?_
      obtain rfl := Option.some.inj hf
      exact eI C0 hr w rfl dX12_lay_36
def f_X12_setCell (x1 : Int32) (x2 : Int32) (σ : Mem) : Option (Int32 × Mem) :=
  bd (f_X12_isCell x1 σ) (fun q1 =>
  if q1 = 0 then (
    if ((setI σ 224 5 1).1 224 5) = 0 then (
      bd (f_X12_keep (setI σ 224 5 1)) (fun q18 =>
      bd (f_X12_lay 8 x1 x2 q18) (fun q20 =>
      some ((q20.1, q20.2)))))
    else (
      some ((0, setI σ 224 5 1))))
  else (
    bd (f_X12_isSlowness x2 σ) (fun q4 =>
    if q4 = 0 then (
      if ((setI σ 224 5 2).1 224 5) = 0 then (
        bd (f_X12_keep (setI σ 224 5 2)) (fun q8 =>
        bd (f_X12_lay 8 x1 x2 q8) (fun q10 =>
        some ((q10.1, q10.2)))))
      else (
        some ((0, setI σ 224 5 2))))
    else (
      if ((setI σ 224 5 0).1 224 5) = 0 then (
        bd (f_X12_keep (setI σ 224 5 0)) (fun q13 =>
        bd (f_X12_lay 8 x1 x2 q13) (fun q15 =>
        some ((q15.1, q15.2)))))
      else (
        some ((0, setI σ 224 5 0)))))))
abbrev rm_X12_setCell : Room := { frames := 4, cells := 0, slots := 0, locals := 85 }
set_option maxHeartbeats 4000000 in
set_option maxRecDepth 100000 in
theorem m_X12_setCell (l : Launch) (B : Wb) (sz : Nat) (σ : Mem) (x1 : Int32) (x2 : Int32) (q : Int32 × Mem) (hf : f_X12_setCell x1 x2 σ = some q) : MetC l yX12_setCell cX12_setCell 3 (some .int) rm_X12_setCell B sz σ q.2 [.ref (wA B 224), .int x1, .int x2] (some (.int q.1)) := by
  refine met_in (by decide +kernel) (Nat.le_of_ble_eq_true rfl) ?_
  intro p e s m below meth c C0 hr w hsz ls hl
  have hx := C0.1.1
  have hb := C0.1.2.1
  unfold f_X12_setCell at hf
  refine lv_aload_n hx hb dX12_setCell_0 rfl (lv_at hl 0 rfl) ?_
  refine lv_aload_n hx hb dX12_setCell_1 rfl (lv_at hl 0 rfl) ?_
  refine lv_iload_n hx hb dX12_setCell_2 rfl (lv_at hl 1 rfl) ?_
  obtain ⟨q1, h2, hf⟩ := bdE hf
  refine cV (As := [.int x1]) (rest := [.ref (wA B 224)]) (k := 224) (ci := 10) (T := TX12) (N := 22) C0 w (m_X12_isCell l B _ σ x1 q1 h2) ky_X12_isCell kv_X12_isCell lk_X12_134 rfl (by decide +kernel) ⟨Nat.le_of_ble_eq_true rfl, Nat.le_of_ble_eq_true rfl⟩ ⟨Nat.le_of_ble_eq_true rfl, Nat.le_of_ble_eq_true rfl⟩ rfl (by rfl) (Nat.le_of_ble_eq_true rfl) hl.1 dX12_setCell_3 (fun H locs w => ?_)
  refine lv_if_ne (tgt := 13) hx hb dX12_setCell_6 (by decide) (fun c3 => ?_) (fun c3 => ?_)
  · rw [if_neg c3] at hf
    refine lv_iload_n hx hb dX12_setCell_13 rfl (lv_at hl 2 rfl) ?_
    obtain ⟨q4, h5, hf⟩ := bdE hf
    refine cS (As := [.int x2]) (rest := [.ref (wA B 224)]) C0 w (m_X12_isSlowness l B _ σ x2 q4 h5) ky_X12_isSlowness ks_X12_isSlowness lk_X12_137 ⟨Nat.le_of_ble_eq_true rfl, Nat.le_of_ble_eq_true rfl⟩ ⟨Nat.le_of_ble_eq_true rfl, Nat.le_of_ble_eq_true rfl⟩ rfl (by rfl) (Nat.le_of_ble_eq_true rfl) hl.1 dX12_setCell_14 (fun H locs w => ?_)
    refine lv_if_eq (tgt := 24) hx hb dX12_setCell_17 (by decide) (fun c6 => ?_) (fun c6 => ?_)
    · rw [if_pos c6] at hf
      refine lv_iconst (v := 2) hx hb dX12_setCell_24 (by decide) ?_
      refine pI C0 w fk_X12_62 fp_X12_5 (by decide +kernel) dX12_setCell_25 (fun H locs w => ?_)
      refine lv_aload_n hx hb dX12_setCell_28 rfl (lv_at hl 0 rfl) ?_
      refine gI C0 w fk_X12_62 (by decide +kernel) dX12_setCell_29 ?_
      refine lv_if_eq (tgt := 37) hx hb dX12_setCell_32 (by decide) (fun c7 => ?_) (fun c7 => ?_)
      · rw [if_pos c7] at hf
        refine lv_aload_n hx hb dX12_setCell_37 rfl (lv_at hl 0 rfl) ?_
        obtain ⟨q8, h9, hf⟩ := bdE hf
        refine cV (As := []) (rest := []) (k := 224) (ci := 10) (T := TX12) (N := 22) C0 w (m_X12_keep l B _ (setI σ 224 5 2) q8 h9) ky_X12_keep kv_X12_keep lk_X12_131 rfl (by decide +kernel) ⟨Nat.le_of_ble_eq_true rfl, Nat.le_of_ble_eq_true rfl⟩ ⟨Nat.le_of_ble_eq_true rfl, Nat.le_of_ble_eq_true rfl⟩ rfl (by rfl) (Nat.le_of_ble_eq_true rfl) hl.1 dX12_setCell_38 (fun H locs w => ?_)
        refine lv_aload_n hx hb dX12_setCell_41 rfl (lv_at hl 0 rfl) ?_
        refine lv_bipush (v := 8) hx hb dX12_setCell_42 (by decide) ?_
        refine lv_iload_n hx hb dX12_setCell_44 rfl (lv_at hl 1 rfl) ?_
        refine lv_iload_n hx hb dX12_setCell_45 rfl (lv_at hl 2 rfl) ?_
        obtain ⟨q10, h11, hf⟩ := bdE hf
        refine cV (As := [.int 8, .int x1, .int x2]) (rest := []) (k := 224) (ci := 10) (T := TX12) (N := 22) C0 w (m_X12_lay l B _ q8 8 x1 x2 q10 h11) ky_X12_lay kv_X12_lay lk_X12_140 rfl (by decide +kernel) ⟨Nat.le_of_ble_eq_true rfl, Nat.le_of_ble_eq_true rfl⟩ ⟨Nat.le_of_ble_eq_true rfl, Nat.le_of_ble_eq_true rfl⟩ rfl (by rfl) (Nat.le_of_ble_eq_true rfl) hl.1 dX12_setCell_46 (fun H locs w => ?_)
        obtain rfl := Option.some.inj hf
        exact eI C0 hr w rfl dX12_setCell_49
      · rw [if_neg c7] at hf
        refine lv_iconst (v := 0) hx hb dX12_setCell_35 (by decide) ?_
        obtain rfl := Option.some.inj hf
        exact eI C0 hr w rfl dX12_setCell_36
    · rw [if_neg c6] at hf
      refine lv_iconst (v := 0) hx hb dX12_setCell_20 (by decide) ?_
      refine lv_goto (tgt := 25) hx hb dX12_setCell_21 (by decide) ?_
      refine pI C0 w fk_X12_62 fp_X12_5 (by decide +kernel) dX12_setCell_25 (fun H locs w => ?_)
      refine lv_aload_n hx hb dX12_setCell_28 rfl (lv_at hl 0 rfl) ?_
      refine gI C0 w fk_X12_62 (by decide +kernel) dX12_setCell_29 ?_
      refine lv_if_eq (tgt := 37) hx hb dX12_setCell_32 (by decide) (fun c12 => ?_) (fun c12 => ?_)
      · rw [if_pos c12] at hf
        refine lv_aload_n hx hb dX12_setCell_37 rfl (lv_at hl 0 rfl) ?_
        obtain ⟨q13, h14, hf⟩ := bdE hf
        refine cV (As := []) (rest := []) (k := 224) (ci := 10) (T := TX12) (N := 22) C0 w (m_X12_keep l B _ (setI σ 224 5 0) q13 h14) ky_X12_keep kv_X12_keep lk_X12_131 rfl (by decide +kernel) ⟨Nat.le_of_ble_eq_true rfl, Nat.le_of_ble_eq_true rfl⟩ ⟨Nat.le_of_ble_eq_true rfl, Nat.le_of_ble_eq_true rfl⟩ rfl (by rfl) (Nat.le_of_ble_eq_true rfl) hl.1 dX12_setCell_38 (fun H locs w => ?_)
        refine lv_aload_n hx hb dX12_setCell_41 rfl (lv_at hl 0 rfl) ?_
        refine lv_bipush (v := 8) hx hb dX12_setCell_42 (by decide) ?_
        refine lv_iload_n hx hb dX12_setCell_44 rfl (lv_at hl 1 rfl) ?_
        refine lv_iload_n hx hb dX12_setCell_45 rfl (lv_at hl 2 rfl) ?_
        obtain ⟨q15, h16, hf⟩ := bdE hf
        refine cV (As := [.int 8, .int x1, .int x2]) (rest := []) (k := 224) (ci := 10) (T := TX12) (N := 22) C0 w (m_X12_lay l B _ q13 8 x1 x2 q15 h16) ky_X12_lay kv_X12_lay lk_X12_140 rfl (by decide +kernel) ⟨Nat.le_of_ble_eq_true rfl, Nat.le_of_ble_eq_true rfl⟩ ⟨Nat.le_of_ble_eq_true rfl, Nat.le_of_ble_eq_true rfl⟩ rfl (by rfl) (Nat.le_of_ble_eq_true rfl) hl.1 dX12_setCell_46 (fun H locs w => ?_)
        obtain rfl := Option.some.inj hf
        exact eI C0 hr w rfl dX12_setCell_49
      · rw [if_neg c12] at hf
        refine lv_iconst (v := 0) hx hb dX12_setCell_35 (by decide) ?_
        obtain rfl := Option.some.inj hf
        exact eI C0 hr w rfl dX12_setCell_36
  · rw [if_pos c3] at hf
    refine lv_iconst (v := 1) hx hb dX12_setCell_9 (by decide) ?_
    refine lv_goto (tgt := 25) hx hb dX12_setCell_10 (by decide) ?_
    refine pI C0 w fk_X12_62 fp_X12_5 (by decide +kernel) dX12_setCell_25 (fun H locs w => ?_)
    refine lv_aload_n hx hb dX12_setCell_28 rfl (lv_at hl 0 rfl) ?_
    refine gI C0 w fk_X12_62 (by decide +kernel) dX12_setCell_29 ?_
    refine lv_if_eq (tgt := 37) hx hb dX12_setCell_32 (by decide) (fun c17 => ?_) (fun c17 => ?_)
    · rw [if_pos c17] at hf
      refine lv_aload_n hx hb dX12_setCell_37 rfl (lv_at hl 0 rfl) ?_
      obtain ⟨q18, h19, hf⟩ := bdE hf
      refine cV (As := []) (rest := []) (k := 224) (ci := 10) (T := TX12) (N := 22) C0 w (m_X12_keep l B _ (setI σ 224 5 1) q18 h19) ky_X12_keep kv_X12_keep lk_X12_131 rfl (by decide +kernel) ⟨Nat.le_of_ble_eq_true rfl, Nat.le_of_ble_eq_true rfl⟩ ⟨Nat.le_of_ble_eq_true rfl, Nat.le_of_ble_eq_true rfl⟩ rfl (by rfl) (Nat.le_of_ble_eq_true rfl) hl.1 dX12_setCell_38 (fun H locs w => ?_)
      refine lv_aload_n hx hb dX12_setCell_41 rfl (lv_at hl 0 rfl) ?_
      refine lv_bipush (v := 8) hx hb dX12_setCell_42 (by decide) ?_
      refine lv_iload_n hx hb dX12_setCell_44 rfl (lv_at hl 1 rfl) ?_
      refine lv_iload_n hx hb dX12_setCell_45 rfl (lv_at hl 2 rfl) ?_
      obtain ⟨q20, h21, hf⟩ := bdE hf
      refine cV (As := [.int 8, .int x1, .int x2]) (rest := []) (k := 224) (ci := 10) (T := TX12) (N := 22) C0 w (m_X12_lay l B _ q18 8 x1 x2 q20 h21) ky_X12_lay kv_X12_lay lk_X12_140 rfl (by decide +kernel) ⟨Nat.le_of_ble_eq_true rfl, Nat.le_of_ble_eq_true rfl⟩ ⟨Nat.le_of_ble_eq_true rfl, Nat.le_of_ble_eq_true rfl⟩ rfl (by rfl) (Nat.le_of_ble_eq_true rfl) hl.1 dX12_setCell_46 (fun H locs w => ?_)
      obtain rfl := Option.some.inj hf
      exact eI C0 hr w rfl dX12_setCell_49
    · rw [if_neg c17] at hf
      refine lv_iconst (v := 0) hx hb dX12_setCell_35 (by decide) ?_
      obtain rfl := Option.some.inj hf
      exact eI C0 hr w rfl dX12_setCell_36
def f_X12_setTrue (x1 : Int32) (x2 : Int32) (σ : Mem) : Option (Int32 × Mem) :=
  bd (f_X12_isCell x1 σ) (fun q1 =>
  if q1 = 0 then (
    if ((setI σ 224 5 1).1 224 5) = 0 then (
      bd (f_X12_keep (setI σ 224 5 1)) (fun q18 =>
      bd (f_X12_lay 72 x1 x2 q18) (fun q20 =>
      some ((q20.1, q20.2)))))
    else (
      some ((0, setI σ 224 5 1))))
  else (
    bd (f_X12_isSlowness x2 σ) (fun q4 =>
    if q4 = 0 then (
      if ((setI σ 224 5 2).1 224 5) = 0 then (
        bd (f_X12_keep (setI σ 224 5 2)) (fun q8 =>
        bd (f_X12_lay 72 x1 x2 q8) (fun q10 =>
        some ((q10.1, q10.2)))))
      else (
        some ((0, setI σ 224 5 2))))
    else (
      if ((setI σ 224 5 0).1 224 5) = 0 then (
        bd (f_X12_keep (setI σ 224 5 0)) (fun q13 =>
        bd (f_X12_lay 72 x1 x2 q13) (fun q15 =>
        some ((q15.1, q15.2)))))
      else (
        some ((0, setI σ 224 5 0)))))))
abbrev rm_X12_setTrue : Room := { frames := 4, cells := 0, slots := 0, locals := 85 }
set_option maxHeartbeats 4000000 in
set_option maxRecDepth 100000 in
theorem m_X12_setTrue (l : Launch) (B : Wb) (sz : Nat) (σ : Mem) (x1 : Int32) (x2 : Int32) (q : Int32 × Mem) (hf : f_X12_setTrue x1 x2 σ = some q) : MetC l yX12_setTrue cX12_setTrue 3 (some .int) rm_X12_setTrue B sz σ q.2 [.ref (wA B 224), .int x1, .int x2] (some (.int q.1)) := by
  refine met_in (by decide +kernel) (Nat.le_of_ble_eq_true rfl) ?_
  intro p e s m below meth c C0 hr w hsz ls hl
  have hx := C0.1.1
  have hb := C0.1.2.1
  unfold f_X12_setTrue at hf
  refine lv_aload_n hx hb dX12_setTrue_0 rfl (lv_at hl 0 rfl) ?_
  refine lv_aload_n hx hb dX12_setTrue_1 rfl (lv_at hl 0 rfl) ?_
  refine lv_iload_n hx hb dX12_setTrue_2 rfl (lv_at hl 1 rfl) ?_
  obtain ⟨q1, h2, hf⟩ := bdE hf
  refine cV (As := [.int x1]) (rest := [.ref (wA B 224)]) (k := 224) (ci := 10) (T := TX12) (N := 22) C0 w (m_X12_isCell l B _ σ x1 q1 h2) ky_X12_isCell kv_X12_isCell lk_X12_134 rfl (by decide +kernel) ⟨Nat.le_of_ble_eq_true rfl, Nat.le_of_ble_eq_true rfl⟩ ⟨Nat.le_of_ble_eq_true rfl, Nat.le_of_ble_eq_true rfl⟩ rfl (by rfl) (Nat.le_of_ble_eq_true rfl) hl.1 dX12_setTrue_3 (fun H locs w => ?_)
  refine lv_if_ne (tgt := 13) hx hb dX12_setTrue_6 (by decide) (fun c3 => ?_) (fun c3 => ?_)
  · rw [if_neg c3] at hf
    refine lv_iload_n hx hb dX12_setTrue_13 rfl (lv_at hl 2 rfl) ?_
    obtain ⟨q4, h5, hf⟩ := bdE hf
    refine cS (As := [.int x2]) (rest := [.ref (wA B 224)]) C0 w (m_X12_isSlowness l B _ σ x2 q4 h5) ky_X12_isSlowness ks_X12_isSlowness lk_X12_137 ⟨Nat.le_of_ble_eq_true rfl, Nat.le_of_ble_eq_true rfl⟩ ⟨Nat.le_of_ble_eq_true rfl, Nat.le_of_ble_eq_true rfl⟩ rfl (by rfl) (Nat.le_of_ble_eq_true rfl) hl.1 dX12_setTrue_14 (fun H locs w => ?_)
    refine lv_if_eq (tgt := 24) hx hb dX12_setTrue_17 (by decide) (fun c6 => ?_) (fun c6 => ?_)
    · rw [if_pos c6] at hf
      refine lv_iconst (v := 2) hx hb dX12_setTrue_24 (by decide) ?_
      refine pI C0 w fk_X12_62 fp_X12_5 (by decide +kernel) dX12_setTrue_25 (fun H locs w => ?_)
      refine lv_aload_n hx hb dX12_setTrue_28 rfl (lv_at hl 0 rfl) ?_
      refine gI C0 w fk_X12_62 (by decide +kernel) dX12_setTrue_29 ?_
      refine lv_if_eq (tgt := 37) hx hb dX12_setTrue_32 (by decide) (fun c7 => ?_) (fun c7 => ?_)
      · rw [if_pos c7] at hf
        refine lv_aload_n hx hb dX12_setTrue_37 rfl (lv_at hl 0 rfl) ?_
        obtain ⟨q8, h9, hf⟩ := bdE hf
        refine cV (As := []) (rest := []) (k := 224) (ci := 10) (T := TX12) (N := 22) C0 w (m_X12_keep l B _ (setI σ 224 5 2) q8 h9) ky_X12_keep kv_X12_keep lk_X12_131 rfl (by decide +kernel) ⟨Nat.le_of_ble_eq_true rfl, Nat.le_of_ble_eq_true rfl⟩ ⟨Nat.le_of_ble_eq_true rfl, Nat.le_of_ble_eq_true rfl⟩ rfl (by rfl) (Nat.le_of_ble_eq_true rfl) hl.1 dX12_setTrue_38 (fun H locs w => ?_)
        refine lv_aload_n hx hb dX12_setTrue_41 rfl (lv_at hl 0 rfl) ?_
        refine lv_bipush (v := 72) hx hb dX12_setTrue_42 (by decide) ?_
        refine lv_iload_n hx hb dX12_setTrue_44 rfl (lv_at hl 1 rfl) ?_
        refine lv_iload_n hx hb dX12_setTrue_45 rfl (lv_at hl 2 rfl) ?_
        obtain ⟨q10, h11, hf⟩ := bdE hf
        refine cV (As := [.int 72, .int x1, .int x2]) (rest := []) (k := 224) (ci := 10) (T := TX12) (N := 22) C0 w (m_X12_lay l B _ q8 72 x1 x2 q10 h11) ky_X12_lay kv_X12_lay lk_X12_140 rfl (by decide +kernel) ⟨Nat.le_of_ble_eq_true rfl, Nat.le_of_ble_eq_true rfl⟩ ⟨Nat.le_of_ble_eq_true rfl, Nat.le_of_ble_eq_true rfl⟩ rfl (by rfl) (Nat.le_of_ble_eq_true rfl) hl.1 dX12_setTrue_46 (fun H locs w => ?_)
        obtain rfl := Option.some.inj hf
        exact eI C0 hr w rfl dX12_setTrue_49
      · rw [if_neg c7] at hf
        refine lv_iconst (v := 0) hx hb dX12_setTrue_35 (by decide) ?_
        obtain rfl := Option.some.inj hf
        exact eI C0 hr w rfl dX12_setTrue_36
    · rw [if_neg c6] at hf
      refine lv_iconst (v := 0) hx hb dX12_setTrue_20 (by decide) ?_
      refine lv_goto (tgt := 25) hx hb dX12_setTrue_21 (by decide) ?_
      refine pI C0 w fk_X12_62 fp_X12_5 (by decide +kernel) dX12_setTrue_25 (fun H locs w => ?_)
      refine lv_aload_n hx hb dX12_setTrue_28 rfl (lv_at hl 0 rfl) ?_
      refine gI C0 w fk_X12_62 (by decide +kernel) dX12_setTrue_29 ?_
      refine lv_if_eq (tgt := 37) hx hb dX12_setTrue_32 (by decide) (fun c12 => ?_) (fun c12 => ?_)
      · rw [if_pos c12] at hf
        refine lv_aload_n hx hb dX12_setTrue_37 rfl (lv_at hl 0 rfl) ?_
        obtain ⟨q13, h14, hf⟩ := bdE hf
        refine cV (As := []) (rest := []) (k := 224) (ci := 10) (T := TX12) (N := 22) C0 w (m_X12_keep l B _ (setI σ 224 5 0) q13 h14) ky_X12_keep kv_X12_keep lk_X12_131 rfl (by decide +kernel) ⟨Nat.le_of_ble_eq_true rfl, Nat.le_of_ble_eq_true rfl⟩ ⟨Nat.le_of_ble_eq_true rfl, Nat.le_of_ble_eq_true rfl⟩ rfl (by rfl) (Nat.le_of_ble_eq_true rfl) hl.1 dX12_setTrue_38 (fun H locs w => ?_)
        refine lv_aload_n hx hb dX12_setTrue_41 rfl (lv_at hl 0 rfl) ?_
        refine lv_bipush (v := 72) hx hb dX12_setTrue_42 (by decide) ?_
        refine lv_iload_n hx hb dX12_setTrue_44 rfl (lv_at hl 1 rfl) ?_
        refine lv_iload_n hx hb dX12_setTrue_45 rfl (lv_at hl 2 rfl) ?_
        obtain ⟨q15, h16, hf⟩ := bdE hf
        refine cV (As := [.int 72, .int x1, .int x2]) (rest := []) (k := 224) (ci := 10) (T := TX12) (N := 22) C0 w (m_X12_lay l B _ q13 72 x1 x2 q15 h16) ky_X12_lay kv_X12_lay lk_X12_140 rfl (by decide +kernel) ⟨Nat.le_of_ble_eq_true rfl, Nat.le_of_ble_eq_true rfl⟩ ⟨Nat.le_of_ble_eq_true rfl, Nat.le_of_ble_eq_true rfl⟩ rfl (by rfl) (Nat.le_of_ble_eq_true rfl) hl.1 dX12_setTrue_46 (fun H locs w => ?_)
        obtain rfl := Option.some.inj hf
        exact eI C0 hr w rfl dX12_setTrue_49
      · rw [if_neg c12] at hf
        refine lv_iconst (v := 0) hx hb dX12_setTrue_35 (by decide) ?_
        obtain rfl := Option.some.inj hf
        exact eI C0 hr w rfl dX12_setTrue_36
  · rw [if_pos c3] at hf
    refine lv_iconst (v := 1) hx hb dX12_setTrue_9 (by decide) ?_
    refine lv_goto (tgt := 25) hx hb dX12_setTrue_10 (by decide) ?_
    refine pI C0 w fk_X12_62 fp_X12_5 (by decide +kernel) dX12_setTrue_25 (fun H locs w => ?_)
    refine lv_aload_n hx hb dX12_setTrue_28 rfl (lv_at hl 0 rfl) ?_
    refine gI C0 w fk_X12_62 (by decide +kernel) dX12_setTrue_29 ?_
    refine lv_if_eq (tgt := 37) hx hb dX12_setTrue_32 (by decide) (fun c17 => ?_) (fun c17 => ?_)
    · rw [if_pos c17] at hf
      refine lv_aload_n hx hb dX12_setTrue_37 rfl (lv_at hl 0 rfl) ?_
      obtain ⟨q18, h19, hf⟩ := bdE hf
      refine cV (As := []) (rest := []) (k := 224) (ci := 10) (T := TX12) (N := 22) C0 w (m_X12_keep l B _ (setI σ 224 5 1) q18 h19) ky_X12_keep kv_X12_keep lk_X12_131 rfl (by decide +kernel) ⟨Nat.le_of_ble_eq_true rfl, Nat.le_of_ble_eq_true rfl⟩ ⟨Nat.le_of_ble_eq_true rfl, Nat.le_of_ble_eq_true rfl⟩ rfl (by rfl) (Nat.le_of_ble_eq_true rfl) hl.1 dX12_setTrue_38 (fun H locs w => ?_)
      refine lv_aload_n hx hb dX12_setTrue_41 rfl (lv_at hl 0 rfl) ?_
      refine lv_bipush (v := 72) hx hb dX12_setTrue_42 (by decide) ?_
      refine lv_iload_n hx hb dX12_setTrue_44 rfl (lv_at hl 1 rfl) ?_
      refine lv_iload_n hx hb dX12_setTrue_45 rfl (lv_at hl 2 rfl) ?_
      obtain ⟨q20, h21, hf⟩ := bdE hf
      refine cV (As := [.int 72, .int x1, .int x2]) (rest := []) (k := 224) (ci := 10) (T := TX12) (N := 22) C0 w (m_X12_lay l B _ q18 72 x1 x2 q20 h21) ky_X12_lay kv_X12_lay lk_X12_140 rfl (by decide +kernel) ⟨Nat.le_of_ble_eq_true rfl, Nat.le_of_ble_eq_true rfl⟩ ⟨Nat.le_of_ble_eq_true rfl, Nat.le_of_ble_eq_true rfl⟩ rfl (by rfl) (Nat.le_of_ble_eq_true rfl) hl.1 dX12_setTrue_46 (fun H locs w => ?_)
      obtain rfl := Option.some.inj hf
      exact eI C0 hr w rfl dX12_setTrue_49
    · rw [if_neg c17] at hf
      refine lv_iconst (v := 0) hx hb dX12_setTrue_35 (by decide) ?_
      obtain rfl := Option.some.inj hf
      exact eI C0 hr w rfl dX12_setTrue_36
def f_X12_change (x1 : Int32) (x2 : Int64) (σ : Mem) : Option (Int32 × Mem) :=
  gd (inb x1 200) (
  if (σ.2 225 x1.toNatClampNeg) = x2 then (
    gd (inb x1 200) (
    some ((0, setL σ 225 x1.toNatClampNeg x2))))
  else (
    gd (inb x1 200) (
    some ((1, setL σ 225 x1.toNatClampNeg x2)))))
abbrev rm_X12_change : Room := { frames := 0, cells := 0, slots := 0, locals := 0 }
set_option maxHeartbeats 4000000 in
set_option maxRecDepth 100000 in
theorem m_X12_change (l : Launch) (B : Wb) (sz : Nat) (σ : Mem) (x1 : Int32) (x2 : Int64) (q : Int32 × Mem) (hf : f_X12_change x1 x2 σ = some q) : MetC l yX12_change cX12_change 5 (some .int) rm_X12_change B sz σ q.2 [.ref (wA B 224), .int x1, .long x2] (some (.int q.1)) := by
  refine met_in (by decide +kernel) (Nat.le_of_ble_eq_true rfl) ?_
  intro p e s m below meth c C0 hr w hsz ls hl
  have hx := C0.1.1
  have hb := C0.1.2.1
  unfold f_X12_change at hf
  refine lv_aload_n hx hb dX12_change_0 rfl (lv_at hl 0 rfl) ?_
  refine gR C0 w 225 fk_X12_7 (by decide +kernel) dX12_change_1 ?_
  refine lv_iload_n hx hb dX12_change_4 rfl (lv_at hl 1 rfl) ?_
  obtain ⟨g1, hf⟩ := gdE hf
  refine aL C0 w (n := 200) (by decide +kernel) (inbE g1) dX12_change_5 ?_
  refine lv_lload_n hx hb dX12_change_6 rfl (lv_at hl 2 rfl) ?_
  refine lc_ne (tgt := 15) C0 dX12_change_7 dX12_change_8 (by decide) (fun c2 => ?_) (fun c2 => ?_)
  · rw [if_neg c2] at hf
    refine lv_iconst (v := 1) hx hb dX12_change_15 (by decide) ?_
    refine lv_istore (lv' := [(4, .int 1), (0, .ref (wA B 224)), (1, .int x1), (2, .long x2)]) hx hb dX12_change_16 hl (by decide) rfl (fun ls hl => ?_)
    refine lv_aload_n hx hb dX12_change_18 rfl (lv_at hl 1 rfl) ?_
    refine gR C0 w 225 fk_X12_7 (by decide +kernel) dX12_change_19 ?_
    refine lv_iload_n hx hb dX12_change_22 rfl (lv_at hl 2 rfl) ?_
    refine lv_lload_n hx hb dX12_change_23 rfl (lv_at hl 3 rfl) ?_
    obtain ⟨g3, hf⟩ := gdE hf
    refine sL C0 w (n := 200) (by decide +kernel) (inbE g3) dX12_change_24 (fun H locs w => ?_)
    refine lv_iload hx hb dX12_change_25 (lv_at hl 0 rfl) ?_
    obtain rfl := Option.some.inj hf
    exact eI C0 hr w rfl dX12_change_27
  · rw [if_pos c2] at hf
    refine lv_iconst (v := 0) hx hb dX12_change_11 (by decide) ?_
    refine lv_goto (tgt := 16) hx hb dX12_change_12 (by decide) ?_
    refine lv_istore (lv' := [(4, .int 0), (0, .ref (wA B 224)), (1, .int x1), (2, .long x2)]) hx hb dX12_change_16 hl (by decide) rfl (fun ls hl => ?_)
    refine lv_aload_n hx hb dX12_change_18 rfl (lv_at hl 1 rfl) ?_
    refine gR C0 w 225 fk_X12_7 (by decide +kernel) dX12_change_19 ?_
    refine lv_iload_n hx hb dX12_change_22 rfl (lv_at hl 2 rfl) ?_
    refine lv_lload_n hx hb dX12_change_23 rfl (lv_at hl 3 rfl) ?_
    obtain ⟨g4, hf⟩ := gdE hf
    refine sL C0 w (n := 200) (by decide +kernel) (inbE g4) dX12_change_24 (fun H locs w => ?_)
    refine lv_iload hx hb dX12_change_25 (lv_at hl 0 rfl) ?_
    obtain rfl := Option.some.inj hf
    exact eI C0 hr w rfl dX12_change_27
def f_X12_held (x0 : Int64) (x2 : Int64) (x4 : Int64) (σ : Mem) : Option (Int64) :=
  if x2 ≤ x0 then (
    if x0 ≤ x4 then (
      some x0)
    else (
      some x4))
  else (
    some x2)
abbrev rm_X12_held : Room := { frames := 0, cells := 0, slots := 0, locals := 0 }
set_option maxHeartbeats 4000000 in
set_option maxRecDepth 100000 in
theorem m_X12_held (l : Launch) (B : Wb) (sz : Nat) (σ : Mem) (x0 : Int64) (x2 : Int64) (x4 : Int64) (q : Int64) (hf : f_X12_held x0 x2 x4 σ = some q) : MetC l yX12_held cX12_held 6 (some .long) rm_X12_held B sz σ σ [.long x0, .long x2, .long x4] (some (.long q)) := by
  refine met_in (by decide +kernel) (Nat.le_of_ble_eq_true rfl) ?_
  intro p e s m below meth c C0 hr w hsz ls hl
  have hx := C0.1.1
  have hb := C0.1.2.1
  unfold f_X12_held at hf
  refine lv_lload_n hx hb dX12_held_0 rfl (lv_at hl 0 rfl) ?_
  refine lv_lload_n hx hb dX12_held_1 rfl (lv_at hl 1 rfl) ?_
  refine lc_ge (tgt := 10) C0 dX12_held_2 dX12_held_3 (by decide) (fun c1 => ?_) (fun c1 => ?_)
  · rw [if_pos c1] at hf
    refine lv_lload_n hx hb dX12_held_10 rfl (lv_at hl 0 rfl) ?_
    refine lv_lload hx hb dX12_held_11 (lv_at hl 2 rfl) ?_
    refine lc_le (tgt := 22) C0 dX12_held_13 dX12_held_14 (by decide) (fun c2 => ?_) (fun c2 => ?_)
    · rw [if_pos c2] at hf
      refine lv_lload_n hx hb dX12_held_22 rfl (lv_at hl 0 rfl) ?_
      obtain rfl := Option.some.inj hf
      exact eL C0 hr w dX12_held_23
    · rw [if_neg c2] at hf
      refine lv_lload hx hb dX12_held_17 (lv_at hl 2 rfl) ?_
      refine lv_goto (tgt := 23) hx hb dX12_held_19 (by decide) ?_
      obtain rfl := Option.some.inj hf
      exact eL C0 hr w dX12_held_23
  · rw [if_neg c1] at hf
    refine lv_lload_n hx hb dX12_held_6 rfl (lv_at hl 1 rfl) ?_
    refine lv_goto (tgt := 23) hx hb dX12_held_7 (by decide) ?_
    obtain rfl := Option.some.inj hf
    exact eL C0 hr w dX12_held_23
def f_X12_slope_69 (x1 : Int32) (x2 : Int32) (x3 : Int32) (x4 : Int32) : Nat → Int32 → Int32 → Mem → Option (Int32 × Mem)
  | 0, _, _, _ => none
  | n + 1, x5, x6, σ =>
    bd (f_X12_cells σ) (fun q1 =>
    if q1 ≤ x6 then (
      some ((x5, σ)))
    else (
      bd (f_X12_columns σ) (fun q4 =>
      gd (nz4 q4) (
      bd (f_X12_columns σ) (fun q7 =>
      gd (nz4 q7) (
      if x1 = 0 then (
        bd (f_X12_held ((x2.toInt64 + (x3.toInt64 * ((x6 - x6 / q4 * q4).toInt64))) + (x4.toInt64 * ((x6 / q7).toInt64))) 1 100000 σ) (fun q11 =>
        bd (f_X12_change (8 + x6) q11 σ) (fun q13 =>
        f_X12_slope_69 x1 x2 x3 x4 n (x5 + q13.1) (x6 + 1) q13.2)))
      else (
        bd (f_X12_held ((x2.toInt64 + (x3.toInt64 * ((x6 - x6 / q4 * q4).toInt64))) + (x4.toInt64 * ((x6 / q7).toInt64))) 1 100000 σ) (fun q15 =>
        bd (f_X12_change (72 + x6) q15 σ) (fun q17 =>
        f_X12_slope_69 x1 x2 x3 x4 n (x5 + q17.1) (x6 + 1) q17.2)))))))))
def f_X12_slope (x1 : Int32) (x2 : Int32) (x3 : Int32) (x4 : Int32) (σ : Mem) : Option (Int32 × Mem) :=
  bd (f_X12_in x2.toInt64 1 100000 σ) (fun q1 =>
  if q1 = 0 then (
    if ((setI σ 224 5 1).1 224 5) = 0 then (
      bd (f_X12_keep (setI σ 224 5 1)) (fun q5 =>
      bd (f_X12_slope_69 x1 x2 x3 x4 100000 0 0 q5) (fun q7 =>
      some ((q7.1, q7.2)))))
    else (
      some ((0, setI σ 224 5 1))))
  else (
    bd (f_X12_in x3.toInt64 ((-10000 : Int64)) 10000 σ) (fun q9 =>
    if q9 = 0 then (
      if ((setI σ 224 5 1).1 224 5) = 0 then (
        bd (f_X12_keep (setI σ 224 5 1)) (fun q13 =>
        bd (f_X12_slope_69 x1 x2 x3 x4 100000 0 0 q13) (fun q15 =>
        some ((q15.1, q15.2)))))
      else (
        some ((0, setI σ 224 5 1))))
    else (
      bd (f_X12_in x4.toInt64 ((-10000 : Int64)) 10000 σ) (fun q17 =>
      if q17 = 0 then (
        if ((setI σ 224 5 1).1 224 5) = 0 then (
          bd (f_X12_keep (setI σ 224 5 1)) (fun q21 =>
          bd (f_X12_slope_69 x1 x2 x3 x4 100000 0 0 q21) (fun q23 =>
          some ((q23.1, q23.2)))))
        else (
          some ((0, setI σ 224 5 1))))
      else (
        if ((setI σ 224 5 0).1 224 5) = 0 then (
          bd (f_X12_keep (setI σ 224 5 0)) (fun q26 =>
          bd (f_X12_slope_69 x1 x2 x3 x4 100000 0 0 q26) (fun q28 =>
          some ((q28.1, q28.2)))))
        else (
          some ((0, setI σ 224 5 0)))))))))
abbrev rm_X12_slope : Room := { frames := 2, cells := 0, slots := 0, locals := 40 }
set_option maxHeartbeats 4000000 in
set_option maxRecDepth 100000 in
theorem lp_X12_slope_69 {p : Program} {e : Env} {s : State} {m : MethodId} {args : Array Value} {below : List Frame} {meth : Method} {c : Code} {Q : State → Prop} (l : Launch) (B : Wb) (C0 : Cx p s m args meth c cX12_slope 9 RX12) (x1 : Int32) (x2 : Int32) (x3 : Int32) (x4 : Int32) : ∀ (n : Nat) (x5 : Int32) (x6 : Int32) (σ : Mem) (o : Int32 × Mem) (H : Heap) (locs : List Loc) (ls : Array Slot), f_X12_slope_69 x1 x2 x3 x4 n x5 x6 σ = some o → Wx B σ s H locs → lv_has ls 9 [(0, .ref (wA B 224)), (1, .int x1), (2, .int x2), (3, .int x3), (4, .int x4), (5, .int x5), (6, .int x6)] → (∀ (H : Heap) (locs : List Loc) (ls : Array Slot), Wx B o.2 s H locs → lv_has ls 9 [(5, .int o.1)] → W p l e rm_X12_slope s m args below meth c H locs 0 0 Q (F0 m 145 ls [])) → W p l e rm_X12_slope s m args below meth c H locs 0 0 Q (F0 m 69 ls []) := by
  have hx := C0.1.1
  have hb := C0.1.2.1
  intro n
  induction n with
  | zero =>
    intro x5 x6 σ o H locs ls hf w hl hK
    cases hf
  | succ n ih =>
    intro x5 x6 σ o H locs ls hf w hl hK
    rw [f_X12_slope_69] at hf
    refine lv_iload hx hb dX12_slope_69 (lv_at hl 6 rfl) ?_
    refine lv_aload_n hx hb dX12_slope_71 rfl (lv_at hl 0 rfl) ?_
    obtain ⟨q1, h2, hf⟩ := bdE hf
    refine cV (As := []) (rest := [.int x6]) (k := 224) (ci := 10) (T := TX12) (N := 22) C0 w (m_X12_cells l B _ σ q1 h2) ky_X12_cells kv_X12_cells lk_X12_76 rfl (by decide +kernel) ⟨Nat.le_of_ble_eq_true rfl, Nat.le_of_ble_eq_true rfl⟩ ⟨Nat.le_of_ble_eq_true rfl, Nat.le_of_ble_eq_true rfl⟩ rfl (by rfl) (Nat.le_of_ble_eq_true rfl) hl.1 dX12_slope_72 (fun H locs w => ?_)
    refine lv_icmp_ge (tgt := 145) hx hb dX12_slope_75 (by decide) (fun c3 => ?_) (fun c3 => ?_)
    · rw [if_pos c3] at hf
      obtain rfl := Option.some.inj hf
      exact hK _ _ _ w (lv_sub hl [5] rfl)
    · rw [if_neg c3] at hf
      refine lv_iload_n hx hb dX12_slope_78 rfl (lv_at hl 2 rfl) ?_
      refine lv_i2l hx hb dX12_slope_79 rfl ?_
      refine lv_iload_n hx hb dX12_slope_80 rfl (lv_at hl 3 rfl) ?_
      refine lv_i2l hx hb dX12_slope_81 rfl ?_
      refine lv_iload hx hb dX12_slope_82 (lv_at hl 6 rfl) ?_
      refine lv_aload_n hx hb dX12_slope_84 rfl (lv_at hl 0 rfl) ?_
      obtain ⟨q4, h5, hf⟩ := bdE hf
      refine cV (As := []) (rest := [.int x6, .long x3.toInt64, .long x2.toInt64]) (k := 224) (ci := 10) (T := TX12) (N := 22) C0 w (m_X12_columns l B _ σ q4 h5) ky_X12_columns kv_X12_columns lk_X12_69 rfl (by decide +kernel) ⟨Nat.le_of_ble_eq_true rfl, Nat.le_of_ble_eq_true rfl⟩ ⟨Nat.le_of_ble_eq_true rfl, Nat.le_of_ble_eq_true rfl⟩ rfl (by rfl) (Nat.le_of_ble_eq_true rfl) hl.1 dX12_slope_85 (fun H locs w => ?_)
      obtain ⟨g6, hf⟩ := gdE hf
      refine lv_irem hx hb dX12_slope_88 (nz4E g6) ?_
      refine lv_i2l hx hb dX12_slope_89 rfl ?_
      refine lv_lmul hx hb dX12_slope_90 ?_
      refine lv_ladd hx hb dX12_slope_91 ?_
      refine lv_iload hx hb dX12_slope_92 (lv_at hl 4 rfl) ?_
      refine lv_i2l hx hb dX12_slope_94 rfl ?_
      refine lv_iload hx hb dX12_slope_95 (lv_at hl 6 rfl) ?_
      refine lv_aload_n hx hb dX12_slope_97 rfl (lv_at hl 0 rfl) ?_
      obtain ⟨q7, h8, hf⟩ := bdE hf
      refine cV (As := []) (rest := [.int x6, .long x4.toInt64, .long (x2.toInt64 + (x3.toInt64 * ((x6 - x6 / q4 * q4).toInt64)))]) (k := 224) (ci := 10) (T := TX12) (N := 22) C0 w (m_X12_columns l B _ σ q7 h8) ky_X12_columns kv_X12_columns lk_X12_69 rfl (by decide +kernel) ⟨Nat.le_of_ble_eq_true rfl, Nat.le_of_ble_eq_true rfl⟩ ⟨Nat.le_of_ble_eq_true rfl, Nat.le_of_ble_eq_true rfl⟩ rfl (by rfl) (Nat.le_of_ble_eq_true rfl) hl.1 dX12_slope_98 (fun H locs w => ?_)
      obtain ⟨g9, hf⟩ := gdE hf
      refine lv_idiv hx hb dX12_slope_101 (nz4E g9) ?_
      refine lv_i2l hx hb dX12_slope_102 rfl ?_
      refine lv_lmul hx hb dX12_slope_103 ?_
      refine lv_ladd hx hb dX12_slope_104 ?_
      refine lv_lstore (lv' := [(7, .long ((x2.toInt64 + (x3.toInt64 * ((x6 - x6 / q4 * q4).toInt64))) + (x4.toInt64 * ((x6 / q7).toInt64)))), (0, .ref (wA B 224)), (1, .int x1), (2, .int x2), (3, .int x3), (4, .int x4), (5, .int x5), (6, .int x6)]) hx hb dX12_slope_105 hl (by decide) rfl (fun ls hl => ?_)
      refine lv_iload hx hb dX12_slope_107 (lv_at hl 6 rfl) ?_
      refine lv_aload_n hx hb dX12_slope_109 rfl (lv_at hl 1 rfl) ?_
      refine lv_iload_n hx hb dX12_slope_110 rfl (lv_at hl 2 rfl) ?_
      refine lv_if_eq (tgt := 119) hx hb dX12_slope_111 (by decide) (fun c10 => ?_) (fun c10 => ?_)
      · rw [if_pos c10] at hf
        refine lv_bipush (v := 8) hx hb dX12_slope_119 (by decide) ?_
        refine lv_iload hx hb dX12_slope_121 (lv_at hl 7 rfl) ?_
        refine lv_iadd hx hb dX12_slope_123 ?_
        refine lv_lload hx hb dX12_slope_124 (lv_at hl 0 rfl) ?_
        refine lv_lconst (v := 1) hx hb dX12_slope_126 (by decide) ?_
        refine kLg C0 100000 kc_X12_54 dX12_slope_127 ?_
        obtain ⟨q11, h12, hf⟩ := bdE hf
        refine cS (As := [.long ((x2.toInt64 + (x3.toInt64 * ((x6 - x6 / q4 * q4).toInt64))) + (x4.toInt64 * ((x6 / q7).toInt64))), .long 1, .long 100000]) (rest := [.int (8 + x6), .ref (wA B 224), .int x5]) C0 w (m_X12_held l B _ σ ((x2.toInt64 + (x3.toInt64 * ((x6 - x6 / q4 * q4).toInt64))) + (x4.toInt64 * ((x6 / q7).toInt64))) 1 100000 q11 h12) ky_X12_held ks_X12_held lk_X12_148 ⟨Nat.le_of_ble_eq_true rfl, Nat.le_of_ble_eq_true rfl⟩ ⟨Nat.le_of_ble_eq_true rfl, Nat.le_of_ble_eq_true rfl⟩ rfl (by rfl) (Nat.le_of_ble_eq_true rfl) hl.1 dX12_slope_130 (fun H locs w => ?_)
        obtain ⟨q13, h14, hf⟩ := bdE hf
        refine cV (As := [.int (8 + x6), .long q11]) (rest := [.int x5]) (k := 224) (ci := 10) (T := TX12) (N := 22) C0 w (m_X12_change l B _ σ (8 + x6) q11 q13 h14) ky_X12_change kv_X12_change lk_X12_152 rfl (by decide +kernel) ⟨Nat.le_of_ble_eq_true rfl, Nat.le_of_ble_eq_true rfl⟩ ⟨Nat.le_of_ble_eq_true rfl, Nat.le_of_ble_eq_true rfl⟩ rfl (by rfl) (Nat.le_of_ble_eq_true rfl) hl.1 dX12_slope_133 (fun H locs w => ?_)
        refine lv_iadd hx hb dX12_slope_136 ?_
        refine lv_istore (lv' := [(5, .int (x5 + q13.1)), (7, .long ((x2.toInt64 + (x3.toInt64 * ((x6 - x6 / q4 * q4).toInt64))) + (x4.toInt64 * ((x6 / q7).toInt64)))), (0, .ref (wA B 224)), (1, .int x1), (2, .int x2), (3, .int x3), (4, .int x4), (6, .int x6)]) hx hb dX12_slope_137 hl (by decide) rfl (fun ls hl => ?_)
        refine lv_iinc (k := 7) (v := x6 + 1) (lv' := [(6, .int (x6 + 1)), (5, .int (x5 + q13.1)), (7, .long ((x2.toInt64 + (x3.toInt64 * ((x6 - x6 / q4 * q4).toInt64))) + (x4.toInt64 * ((x6 / q7).toInt64)))), (0, .ref (wA B 224)), (1, .int x1), (2, .int x2), (3, .int x3), (4, .int x4)]) hx hb dX12_slope_139 hl rfl (by rfl) (by decide) rfl (fun ls hl => ?_)
        refine lv_goto (tgt := 69) hx hb dX12_slope_142 (by decide) ?_
        exact ih (x5 + q13.1) (x6 + 1) q13.2 _ _ _ _ hf w (lv_sub hl [3, 4, 5, 6, 7, 1, 0] rfl) hK
      · rw [if_neg c10] at hf
        refine lv_bipush (v := 72) hx hb dX12_slope_114 (by decide) ?_
        refine lv_goto (tgt := 121) hx hb dX12_slope_116 (by decide) ?_
        refine lv_iload hx hb dX12_slope_121 (lv_at hl 7 rfl) ?_
        refine lv_iadd hx hb dX12_slope_123 ?_
        refine lv_lload hx hb dX12_slope_124 (lv_at hl 0 rfl) ?_
        refine lv_lconst (v := 1) hx hb dX12_slope_126 (by decide) ?_
        refine kLg C0 100000 kc_X12_54 dX12_slope_127 ?_
        obtain ⟨q15, h16, hf⟩ := bdE hf
        refine cS (As := [.long ((x2.toInt64 + (x3.toInt64 * ((x6 - x6 / q4 * q4).toInt64))) + (x4.toInt64 * ((x6 / q7).toInt64))), .long 1, .long 100000]) (rest := [.int (72 + x6), .ref (wA B 224), .int x5]) C0 w (m_X12_held l B _ σ ((x2.toInt64 + (x3.toInt64 * ((x6 - x6 / q4 * q4).toInt64))) + (x4.toInt64 * ((x6 / q7).toInt64))) 1 100000 q15 h16) ky_X12_held ks_X12_held lk_X12_148 ⟨Nat.le_of_ble_eq_true rfl, Nat.le_of_ble_eq_true rfl⟩ ⟨Nat.le_of_ble_eq_true rfl, Nat.le_of_ble_eq_true rfl⟩ rfl (by rfl) (Nat.le_of_ble_eq_true rfl) hl.1 dX12_slope_130 (fun H locs w => ?_)
        obtain ⟨q17, h18, hf⟩ := bdE hf
        refine cV (As := [.int (72 + x6), .long q15]) (rest := [.int x5]) (k := 224) (ci := 10) (T := TX12) (N := 22) C0 w (m_X12_change l B _ σ (72 + x6) q15 q17 h18) ky_X12_change kv_X12_change lk_X12_152 rfl (by decide +kernel) ⟨Nat.le_of_ble_eq_true rfl, Nat.le_of_ble_eq_true rfl⟩ ⟨Nat.le_of_ble_eq_true rfl, Nat.le_of_ble_eq_true rfl⟩ rfl (by rfl) (Nat.le_of_ble_eq_true rfl) hl.1 dX12_slope_133 (fun H locs w => ?_)
        refine lv_iadd hx hb dX12_slope_136 ?_
        refine lv_istore (lv' := [(5, .int (x5 + q17.1)), (7, .long ((x2.toInt64 + (x3.toInt64 * ((x6 - x6 / q4 * q4).toInt64))) + (x4.toInt64 * ((x6 / q7).toInt64)))), (0, .ref (wA B 224)), (1, .int x1), (2, .int x2), (3, .int x3), (4, .int x4), (6, .int x6)]) hx hb dX12_slope_137 hl (by decide) rfl (fun ls hl => ?_)
        refine lv_iinc (k := 7) (v := x6 + 1) (lv' := [(6, .int (x6 + 1)), (5, .int (x5 + q17.1)), (7, .long ((x2.toInt64 + (x3.toInt64 * ((x6 - x6 / q4 * q4).toInt64))) + (x4.toInt64 * ((x6 / q7).toInt64)))), (0, .ref (wA B 224)), (1, .int x1), (2, .int x2), (3, .int x3), (4, .int x4)]) hx hb dX12_slope_139 hl rfl (by rfl) (by decide) rfl (fun ls hl => ?_)
        refine lv_goto (tgt := 69) hx hb dX12_slope_142 (by decide) ?_
        exact ih (x5 + q17.1) (x6 + 1) q17.2 _ _ _ _ hf w (lv_sub hl [3, 4, 5, 6, 7, 1, 0] rfl) hK
set_option maxHeartbeats 4000000 in
set_option maxRecDepth 100000 in
theorem m_X12_slope (l : Launch) (B : Wb) (sz : Nat) (σ : Mem) (x1 : Int32) (x2 : Int32) (x3 : Int32) (x4 : Int32) (q : Int32 × Mem) (hf : f_X12_slope x1 x2 x3 x4 σ = some q) : MetC l yX12_slope cX12_slope 9 (some .int) rm_X12_slope B sz σ q.2 [.ref (wA B 224), .int x1, .int x2, .int x3, .int x4] (some (.int q.1)) := by
  refine met_in (by decide +kernel) (Nat.le_of_ble_eq_true rfl) ?_
  intro p e s m below meth c C0 hr w hsz ls hl
  have hx := C0.1.1
  have hb := C0.1.2.1
  unfold f_X12_slope at hf
  refine lv_aload_n hx hb dX12_slope_0 rfl (lv_at hl 0 rfl) ?_
  refine lv_iload_n hx hb dX12_slope_1 rfl (lv_at hl 2 rfl) ?_
  refine lv_i2l hx hb dX12_slope_2 rfl ?_
  refine lv_lconst (v := 1) hx hb dX12_slope_3 (by decide) ?_
  refine kLg C0 100000 kc_X12_54 dX12_slope_4 ?_
  obtain ⟨q1, h2, hf⟩ := bdE hf
  refine cS (As := [.long x2.toInt64, .long 1, .long 100000]) (rest := [.ref (wA B 224)]) C0 w (m_X12_in l B _ σ x2.toInt64 1 100000 q1 h2) ky_X12_in ks_X12_in lk_X12_79 ⟨Nat.le_of_ble_eq_true rfl, Nat.le_of_ble_eq_true rfl⟩ ⟨Nat.le_of_ble_eq_true rfl, Nat.le_of_ble_eq_true rfl⟩ rfl (by rfl) (Nat.le_of_ble_eq_true rfl) hl.1 dX12_slope_7 (fun H locs w => ?_)
  refine lv_if_eq (tgt := 46) hx hb dX12_slope_10 (by decide) (fun c3 => ?_) (fun c3 => ?_)
  · rw [if_pos c3] at hf
    refine lv_iconst (v := 1) hx hb dX12_slope_46 (by decide) ?_
    refine pI C0 w fk_X12_62 fp_X12_5 (by decide +kernel) dX12_slope_47 (fun H locs w => ?_)
    refine lv_aload_n hx hb dX12_slope_50 rfl (lv_at hl 0 rfl) ?_
    refine gI C0 w fk_X12_62 (by decide +kernel) dX12_slope_51 ?_
    refine lv_if_eq (tgt := 59) hx hb dX12_slope_54 (by decide) (fun c4 => ?_) (fun c4 => ?_)
    · rw [if_pos c4] at hf
      refine lv_aload_n hx hb dX12_slope_59 rfl (lv_at hl 0 rfl) ?_
      obtain ⟨q5, h6, hf⟩ := bdE hf
      refine cV (As := []) (rest := []) (k := 224) (ci := 10) (T := TX12) (N := 22) C0 w (m_X12_keep l B _ (setI σ 224 5 1) q5 h6) ky_X12_keep kv_X12_keep lk_X12_131 rfl (by decide +kernel) ⟨Nat.le_of_ble_eq_true rfl, Nat.le_of_ble_eq_true rfl⟩ ⟨Nat.le_of_ble_eq_true rfl, Nat.le_of_ble_eq_true rfl⟩ rfl (by rfl) (Nat.le_of_ble_eq_true rfl) hl.1 dX12_slope_60 (fun H locs w => ?_)
      refine lv_iconst (v := 0) hx hb dX12_slope_63 (by decide) ?_
      refine lv_istore (lv' := [(5, .int 0), (0, .ref (wA B 224)), (1, .int x1), (2, .int x2), (3, .int x3), (4, .int x4)]) hx hb dX12_slope_64 hl (by decide) rfl (fun ls hl => ?_)
      refine lv_iconst (v := 0) hx hb dX12_slope_66 (by decide) ?_
      refine lv_istore (lv' := [(6, .int 0), (5, .int 0), (0, .ref (wA B 224)), (1, .int x1), (2, .int x2), (3, .int x3), (4, .int x4)]) hx hb dX12_slope_67 hl (by decide) rfl (fun ls hl => ?_)
      obtain ⟨q7, h8, hf⟩ := bdE hf
      refine lp_X12_slope_69 l B C0 x1 x2 x3 x4 100000 0 0 q5 q7 _ _ _ h8 w (lv_sub hl [2, 3, 4, 5, 6, 1, 0] rfl) (fun H locs ls w hl => ?_)
      refine lv_iload hx hb dX12_slope_145 (lv_at hl 0 rfl) ?_
      obtain rfl := Option.some.inj hf
      exact eI C0 hr w rfl dX12_slope_147
    · rw [if_neg c4] at hf
      refine lv_iconst (v := 0) hx hb dX12_slope_57 (by decide) ?_
      obtain rfl := Option.some.inj hf
      exact eI C0 hr w rfl dX12_slope_58
  · rw [if_neg c3] at hf
    refine lv_iload_n hx hb dX12_slope_13 rfl (lv_at hl 3 rfl) ?_
    refine lv_i2l hx hb dX12_slope_14 rfl ?_
    refine kLg C0 (-10000) kc_X12_144 dX12_slope_15 ?_
    refine kLg C0 10000 kc_X12_146 dX12_slope_18 ?_
    obtain ⟨q9, h10, hf⟩ := bdE hf
    refine cS (As := [.long x3.toInt64, .long ((-10000 : Int64)), .long 10000]) (rest := [.ref (wA B 224)]) C0 w (m_X12_in l B _ σ x3.toInt64 ((-10000 : Int64)) 10000 q9 h10) ky_X12_in ks_X12_in lk_X12_79 ⟨Nat.le_of_ble_eq_true rfl, Nat.le_of_ble_eq_true rfl⟩ ⟨Nat.le_of_ble_eq_true rfl, Nat.le_of_ble_eq_true rfl⟩ rfl (by rfl) (Nat.le_of_ble_eq_true rfl) hl.1 dX12_slope_21 (fun H locs w => ?_)
    refine lv_if_eq (tgt := 46) hx hb dX12_slope_24 (by decide) (fun c11 => ?_) (fun c11 => ?_)
    · rw [if_pos c11] at hf
      refine lv_iconst (v := 1) hx hb dX12_slope_46 (by decide) ?_
      refine pI C0 w fk_X12_62 fp_X12_5 (by decide +kernel) dX12_slope_47 (fun H locs w => ?_)
      refine lv_aload_n hx hb dX12_slope_50 rfl (lv_at hl 0 rfl) ?_
      refine gI C0 w fk_X12_62 (by decide +kernel) dX12_slope_51 ?_
      refine lv_if_eq (tgt := 59) hx hb dX12_slope_54 (by decide) (fun c12 => ?_) (fun c12 => ?_)
      · rw [if_pos c12] at hf
        refine lv_aload_n hx hb dX12_slope_59 rfl (lv_at hl 0 rfl) ?_
        obtain ⟨q13, h14, hf⟩ := bdE hf
        refine cV (As := []) (rest := []) (k := 224) (ci := 10) (T := TX12) (N := 22) C0 w (m_X12_keep l B _ (setI σ 224 5 1) q13 h14) ky_X12_keep kv_X12_keep lk_X12_131 rfl (by decide +kernel) ⟨Nat.le_of_ble_eq_true rfl, Nat.le_of_ble_eq_true rfl⟩ ⟨Nat.le_of_ble_eq_true rfl, Nat.le_of_ble_eq_true rfl⟩ rfl (by rfl) (Nat.le_of_ble_eq_true rfl) hl.1 dX12_slope_60 (fun H locs w => ?_)
        refine lv_iconst (v := 0) hx hb dX12_slope_63 (by decide) ?_
        refine lv_istore (lv' := [(5, .int 0), (0, .ref (wA B 224)), (1, .int x1), (2, .int x2), (3, .int x3), (4, .int x4)]) hx hb dX12_slope_64 hl (by decide) rfl (fun ls hl => ?_)
        refine lv_iconst (v := 0) hx hb dX12_slope_66 (by decide) ?_
        refine lv_istore (lv' := [(6, .int 0), (5, .int 0), (0, .ref (wA B 224)), (1, .int x1), (2, .int x2), (3, .int x3), (4, .int x4)]) hx hb dX12_slope_67 hl (by decide) rfl (fun ls hl => ?_)
        obtain ⟨q15, h16, hf⟩ := bdE hf
        refine lp_X12_slope_69 l B C0 x1 x2 x3 x4 100000 0 0 q13 q15 _ _ _ h16 w (lv_sub hl [2, 3, 4, 5, 6, 1, 0] rfl) (fun H locs ls w hl => ?_)
        refine lv_iload hx hb dX12_slope_145 (lv_at hl 0 rfl) ?_
        obtain rfl := Option.some.inj hf
        exact eI C0 hr w rfl dX12_slope_147
      · rw [if_neg c12] at hf
        refine lv_iconst (v := 0) hx hb dX12_slope_57 (by decide) ?_
        obtain rfl := Option.some.inj hf
        exact eI C0 hr w rfl dX12_slope_58
    · rw [if_neg c11] at hf
      refine lv_iload hx hb dX12_slope_27 (lv_at hl 4 rfl) ?_
      refine lv_i2l hx hb dX12_slope_29 rfl ?_
      refine kLg C0 (-10000) kc_X12_144 dX12_slope_30 ?_
      refine kLg C0 10000 kc_X12_146 dX12_slope_33 ?_
      obtain ⟨q17, h18, hf⟩ := bdE hf
      refine cS (As := [.long x4.toInt64, .long ((-10000 : Int64)), .long 10000]) (rest := [.ref (wA B 224)]) C0 w (m_X12_in l B _ σ x4.toInt64 ((-10000 : Int64)) 10000 q17 h18) ky_X12_in ks_X12_in lk_X12_79 ⟨Nat.le_of_ble_eq_true rfl, Nat.le_of_ble_eq_true rfl⟩ ⟨Nat.le_of_ble_eq_true rfl, Nat.le_of_ble_eq_true rfl⟩ rfl (by rfl) (Nat.le_of_ble_eq_true rfl) hl.1 dX12_slope_36 (fun H locs w => ?_)
      refine lv_if_eq (tgt := 46) hx hb dX12_slope_39 (by decide) (fun c19 => ?_) (fun c19 => ?_)
      · rw [if_pos c19] at hf
        refine lv_iconst (v := 1) hx hb dX12_slope_46 (by decide) ?_
        refine pI C0 w fk_X12_62 fp_X12_5 (by decide +kernel) dX12_slope_47 (fun H locs w => ?_)
        refine lv_aload_n hx hb dX12_slope_50 rfl (lv_at hl 0 rfl) ?_
        refine gI C0 w fk_X12_62 (by decide +kernel) dX12_slope_51 ?_
        refine lv_if_eq (tgt := 59) hx hb dX12_slope_54 (by decide) (fun c20 => ?_) (fun c20 => ?_)
        · rw [if_pos c20] at hf
          refine lv_aload_n hx hb dX12_slope_59 rfl (lv_at hl 0 rfl) ?_
          obtain ⟨q21, h22, hf⟩ := bdE hf
          refine cV (As := []) (rest := []) (k := 224) (ci := 10) (T := TX12) (N := 22) C0 w (m_X12_keep l B _ (setI σ 224 5 1) q21 h22) ky_X12_keep kv_X12_keep lk_X12_131 rfl (by decide +kernel) ⟨Nat.le_of_ble_eq_true rfl, Nat.le_of_ble_eq_true rfl⟩ ⟨Nat.le_of_ble_eq_true rfl, Nat.le_of_ble_eq_true rfl⟩ rfl (by rfl) (Nat.le_of_ble_eq_true rfl) hl.1 dX12_slope_60 (fun H locs w => ?_)
          refine lv_iconst (v := 0) hx hb dX12_slope_63 (by decide) ?_
          refine lv_istore (lv' := [(5, .int 0), (0, .ref (wA B 224)), (1, .int x1), (2, .int x2), (3, .int x3), (4, .int x4)]) hx hb dX12_slope_64 hl (by decide) rfl (fun ls hl => ?_)
          refine lv_iconst (v := 0) hx hb dX12_slope_66 (by decide) ?_
          refine lv_istore (lv' := [(6, .int 0), (5, .int 0), (0, .ref (wA B 224)), (1, .int x1), (2, .int x2), (3, .int x3), (4, .int x4)]) hx hb dX12_slope_67 hl (by decide) rfl (fun ls hl => ?_)
          obtain ⟨q23, h24, hf⟩ := bdE hf
          refine lp_X12_slope_69 l B C0 x1 x2 x3 x4 100000 0 0 q21 q23 _ _ _ h24 w (lv_sub hl [2, 3, 4, 5, 6, 1, 0] rfl) (fun H locs ls w hl => ?_)
          refine lv_iload hx hb dX12_slope_145 (lv_at hl 0 rfl) ?_
          obtain rfl := Option.some.inj hf
          exact eI C0 hr w rfl dX12_slope_147
        · rw [if_neg c20] at hf
          refine lv_iconst (v := 0) hx hb dX12_slope_57 (by decide) ?_
          obtain rfl := Option.some.inj hf
          exact eI C0 hr w rfl dX12_slope_58
      · rw [if_neg c19] at hf
        refine lv_iconst (v := 0) hx hb dX12_slope_42 (by decide) ?_
        refine lv_goto (tgt := 47) hx hb dX12_slope_43 (by decide) ?_
        refine pI C0 w fk_X12_62 fp_X12_5 (by decide +kernel) dX12_slope_47 (fun H locs w => ?_)
        refine lv_aload_n hx hb dX12_slope_50 rfl (lv_at hl 0 rfl) ?_
        refine gI C0 w fk_X12_62 (by decide +kernel) dX12_slope_51 ?_
        refine lv_if_eq (tgt := 59) hx hb dX12_slope_54 (by decide) (fun c25 => ?_) (fun c25 => ?_)
        · rw [if_pos c25] at hf
          refine lv_aload_n hx hb dX12_slope_59 rfl (lv_at hl 0 rfl) ?_
          obtain ⟨q26, h27, hf⟩ := bdE hf
          refine cV (As := []) (rest := []) (k := 224) (ci := 10) (T := TX12) (N := 22) C0 w (m_X12_keep l B _ (setI σ 224 5 0) q26 h27) ky_X12_keep kv_X12_keep lk_X12_131 rfl (by decide +kernel) ⟨Nat.le_of_ble_eq_true rfl, Nat.le_of_ble_eq_true rfl⟩ ⟨Nat.le_of_ble_eq_true rfl, Nat.le_of_ble_eq_true rfl⟩ rfl (by rfl) (Nat.le_of_ble_eq_true rfl) hl.1 dX12_slope_60 (fun H locs w => ?_)
          refine lv_iconst (v := 0) hx hb dX12_slope_63 (by decide) ?_
          refine lv_istore (lv' := [(5, .int 0), (0, .ref (wA B 224)), (1, .int x1), (2, .int x2), (3, .int x3), (4, .int x4)]) hx hb dX12_slope_64 hl (by decide) rfl (fun ls hl => ?_)
          refine lv_iconst (v := 0) hx hb dX12_slope_66 (by decide) ?_
          refine lv_istore (lv' := [(6, .int 0), (5, .int 0), (0, .ref (wA B 224)), (1, .int x1), (2, .int x2), (3, .int x3), (4, .int x4)]) hx hb dX12_slope_67 hl (by decide) rfl (fun ls hl => ?_)
          obtain ⟨q28, h29, hf⟩ := bdE hf
          refine lp_X12_slope_69 l B C0 x1 x2 x3 x4 100000 0 0 q26 q28 _ _ _ h29 w (lv_sub hl [2, 3, 4, 5, 6, 1, 0] rfl) (fun H locs ls w hl => ?_)
          refine lv_iload hx hb dX12_slope_145 (lv_at hl 0 rfl) ?_
          obtain rfl := Option.some.inj hf
          exact eI C0 hr w rfl dX12_slope_147
        · rw [if_neg c25] at hf
          refine lv_iconst (v := 0) hx hb dX12_slope_57 (by decide) ?_
          obtain rfl := Option.some.inj hf
          exact eI C0 hr w rfl dX12_slope_58
def f_X12_setBounds_66 (x1 : Int32) (x2 : Int32) (σ : Mem) : Nat → Int32 → Int32 → Option (Int32)
  | 0, _, _ => none
  | n + 1, x3, x4 =>
    bd (f_X12_cells σ) (fun q1 =>
    if q1 ≤ x4 then (
      some x3)
    else (
      gd (inb (8 + x4) 200) (
      bd (f_X12_in (σ.2 225 (8 + x4).toNatClampNeg) x1.toInt64 x2.toInt64 σ) (fun q5 =>
      if q5 = 0 then (
        f_X12_setBounds_66 x1 x2 σ n (x3 + 1) (x4 + 1))
      else (
        f_X12_setBounds_66 x1 x2 σ n (x3 + 0) (x4 + 1))))))
def f_X12_setBounds (x1 : Int32) (x2 : Int32) (σ : Mem) : Option (Int32 × Mem) :=
  bd (f_X12_in x1.toInt64 1 x2.toInt64 σ) (fun q1 =>
  if q1 = 0 then (
    if ((setI σ 224 5 1).1 224 5) = 0 then (
      bd (f_X12_keep (setI σ 224 5 1)) (fun q5 =>
      bd (f_X12_setBounds_66 x1 x2 (setL (setL q5 225 ((2 : Int32).toNatClampNeg) x1.toInt64) 225 ((3 : Int32).toNatClampNeg) x2.toInt64) 100000 0 0) (fun q9 =>
      some ((q9, setL (setL q5 225 ((2 : Int32).toNatClampNeg) x1.toInt64) 225 ((3 : Int32).toNatClampNeg) x2.toInt64)))))
    else (
      some ((0, setI σ 224 5 1))))
  else (
    bd (f_X12_in x2.toInt64 1 100000 σ) (fun q11 =>
    if q11 = 0 then (
      if ((setI σ 224 5 1).1 224 5) = 0 then (
        bd (f_X12_keep (setI σ 224 5 1)) (fun q15 =>
        bd (f_X12_setBounds_66 x1 x2 (setL (setL q15 225 ((2 : Int32).toNatClampNeg) x1.toInt64) 225 ((3 : Int32).toNatClampNeg) x2.toInt64) 100000 0 0) (fun q19 =>
        some ((q19, setL (setL q15 225 ((2 : Int32).toNatClampNeg) x1.toInt64) 225 ((3 : Int32).toNatClampNeg) x2.toInt64)))))
      else (
        some ((0, setI σ 224 5 1))))
    else (
      if ((setI σ 224 5 0).1 224 5) = 0 then (
        bd (f_X12_keep (setI σ 224 5 0)) (fun q22 =>
        bd (f_X12_setBounds_66 x1 x2 (setL (setL q22 225 ((2 : Int32).toNatClampNeg) x1.toInt64) 225 ((3 : Int32).toNatClampNeg) x2.toInt64) 100000 0 0) (fun q26 =>
        some ((q26, setL (setL q22 225 ((2 : Int32).toNatClampNeg) x1.toInt64) 225 ((3 : Int32).toNatClampNeg) x2.toInt64)))))
      else (
        some ((0, setI σ 224 5 0)))))))
abbrev rm_X12_setBounds : Room := { frames := 2, cells := 0, slots := 0, locals := 40 }
set_option maxHeartbeats 4000000 in
set_option maxRecDepth 100000 in
theorem lp_X12_setBounds_66 {p : Program} {e : Env} {s : State} {m : MethodId} {args : Array Value} {below : List Frame} {meth : Method} {c : Code} {Q : State → Prop} (l : Launch) (B : Wb) (C0 : Cx p s m args meth c cX12_setBounds 5 RX12) (x1 : Int32) (x2 : Int32) : ∀ (n : Nat) (x3 : Int32) (x4 : Int32) (σ : Mem) (o : Int32) (H : Heap) (locs : List Loc) (ls : Array Slot), f_X12_setBounds_66 x1 x2 σ n x3 x4 = some o → Wx B σ s H locs → lv_has ls 5 [(0, .ref (wA B 224)), (1, .int x1), (2, .int x2), (3, .int x3), (4, .int x4)] → (∀ (H : Heap) (locs : List Loc) (ls : Array Slot), Wx B σ s H locs → lv_has ls 5 [(3, .int o)] → W p l e rm_X12_setBounds s m args below meth c H locs 0 0 Q (F0 m 109 ls [])) → W p l e rm_X12_setBounds s m args below meth c H locs 0 0 Q (F0 m 66 ls []) := by
  have hx := C0.1.1
  have hb := C0.1.2.1
  intro n
  induction n with
  | zero =>
    intro x3 x4 σ o H locs ls hf w hl hK
    cases hf
  | succ n ih =>
    intro x3 x4 σ o H locs ls hf w hl hK
    rw [f_X12_setBounds_66] at hf
    refine lv_iload hx hb dX12_setBounds_66 (lv_at hl 4 rfl) ?_
    refine lv_aload_n hx hb dX12_setBounds_68 rfl (lv_at hl 0 rfl) ?_
    obtain ⟨q1, h2, hf⟩ := bdE hf
    refine cV (As := []) (rest := [.int x4]) (k := 224) (ci := 10) (T := TX12) (N := 22) C0 w (m_X12_cells l B _ σ q1 h2) ky_X12_cells kv_X12_cells lk_X12_76 rfl (by decide +kernel) ⟨Nat.le_of_ble_eq_true rfl, Nat.le_of_ble_eq_true rfl⟩ ⟨Nat.le_of_ble_eq_true rfl, Nat.le_of_ble_eq_true rfl⟩ rfl (by rfl) (Nat.le_of_ble_eq_true rfl) hl.1 dX12_setBounds_69 (fun H locs w => ?_)
    refine lv_icmp_ge (tgt := 109) hx hb dX12_setBounds_72 (by decide) (fun c3 => ?_) (fun c3 => ?_)
    · rw [if_pos c3] at hf
      obtain rfl := Option.some.inj hf
      exact hK _ _ _ w (lv_sub hl [3] rfl)
    · rw [if_neg c3] at hf
      refine lv_iload_n hx hb dX12_setBounds_75 rfl (lv_at hl 3 rfl) ?_
      refine lv_aload_n hx hb dX12_setBounds_76 rfl (lv_at hl 0 rfl) ?_
      refine gR C0 w 225 fk_X12_7 (by decide +kernel) dX12_setBounds_77 ?_
      refine lv_bipush (v := 8) hx hb dX12_setBounds_80 (by decide) ?_
      refine lv_iload hx hb dX12_setBounds_82 (lv_at hl 4 rfl) ?_
      refine lv_iadd hx hb dX12_setBounds_84 ?_
      obtain ⟨g4, hf⟩ := gdE hf
      refine aL C0 w (n := 200) (by decide +kernel) (inbE g4) dX12_setBounds_85 ?_
      refine lv_iload_n hx hb dX12_setBounds_86 rfl (lv_at hl 1 rfl) ?_
      refine lv_i2l hx hb dX12_setBounds_87 rfl ?_
      refine lv_iload_n hx hb dX12_setBounds_88 rfl (lv_at hl 2 rfl) ?_
      refine lv_i2l hx hb dX12_setBounds_89 rfl ?_
      obtain ⟨q5, h6, hf⟩ := bdE hf
      refine cS (As := [.long (σ.2 225 (8 + x4).toNatClampNeg), .long x1.toInt64, .long x2.toInt64]) (rest := [.int x3]) C0 w (m_X12_in l B _ σ (σ.2 225 (8 + x4).toNatClampNeg) x1.toInt64 x2.toInt64 q5 h6) ky_X12_in ks_X12_in lk_X12_79 ⟨Nat.le_of_ble_eq_true rfl, Nat.le_of_ble_eq_true rfl⟩ ⟨Nat.le_of_ble_eq_true rfl, Nat.le_of_ble_eq_true rfl⟩ rfl (by rfl) (Nat.le_of_ble_eq_true rfl) hl.1 dX12_setBounds_90 (fun H locs w => ?_)
      refine lv_if_eq (tgt := 100) hx hb dX12_setBounds_93 (by decide) (fun c7 => ?_) (fun c7 => ?_)
      · rw [if_pos c7] at hf
        refine lv_iconst (v := 1) hx hb dX12_setBounds_100 (by decide) ?_
        refine lv_iadd hx hb dX12_setBounds_101 ?_
        refine lv_istore_n (lv' := [(3, .int (x3 + 1)), (0, .ref (wA B 224)), (1, .int x1), (2, .int x2), (4, .int x4)]) hx hb dX12_setBounds_102 rfl hl (by decide) rfl (fun ls hl => ?_)
        refine lv_iinc (k := 4) (v := x4 + 1) (lv' := [(4, .int (x4 + 1)), (3, .int (x3 + 1)), (0, .ref (wA B 224)), (1, .int x1), (2, .int x2)]) hx hb dX12_setBounds_103 hl rfl (by rfl) (by decide) rfl (fun ls hl => ?_)
        refine lv_goto (tgt := 66) hx hb dX12_setBounds_106 (by decide) ?_
        exact ih (x3 + 1) (x4 + 1) σ _ _ _ _ hf w (lv_sub hl [2, 3, 4, 1, 0] rfl) hK
      · rw [if_neg c7] at hf
        refine lv_iconst (v := 0) hx hb dX12_setBounds_96 (by decide) ?_
        refine lv_goto (tgt := 101) hx hb dX12_setBounds_97 (by decide) ?_
        refine lv_iadd hx hb dX12_setBounds_101 ?_
        refine lv_istore_n (lv' := [(3, .int (x3 + 0)), (0, .ref (wA B 224)), (1, .int x1), (2, .int x2), (4, .int x4)]) hx hb dX12_setBounds_102 rfl hl (by decide) rfl (fun ls hl => ?_)
        refine lv_iinc (k := 4) (v := x4 + 1) (lv' := [(4, .int (x4 + 1)), (3, .int (x3 + 0)), (0, .ref (wA B 224)), (1, .int x1), (2, .int x2)]) hx hb dX12_setBounds_103 hl rfl (by rfl) (by decide) rfl (fun ls hl => ?_)
        refine lv_goto (tgt := 66) hx hb dX12_setBounds_106 (by decide) ?_
        exact ih (x3 + 0) (x4 + 1) σ _ _ _ _ hf w (lv_sub hl [2, 3, 4, 1, 0] rfl) hK
set_option maxHeartbeats 4000000 in
set_option maxRecDepth 100000 in
theorem m_X12_setBounds (l : Launch) (B : Wb) (sz : Nat) (σ : Mem) (x1 : Int32) (x2 : Int32) (q : Int32 × Mem) (hf : f_X12_setBounds x1 x2 σ = some q) : MetC l yX12_setBounds cX12_setBounds 5 (some .int) rm_X12_setBounds B sz σ q.2 [.ref (wA B 224), .int x1, .int x2] (some (.int q.1)) := by
  refine met_in (by decide +kernel) (Nat.le_of_ble_eq_true rfl) ?_
  intro p e s m below meth c C0 hr w hsz ls hl
  have hx := C0.1.1
  have hb := C0.1.2.1
  unfold f_X12_setBounds at hf
  refine lv_aload_n hx hb dX12_setBounds_0 rfl (lv_at hl 0 rfl) ?_
  refine lv_iload_n hx hb dX12_setBounds_1 rfl (lv_at hl 1 rfl) ?_
  refine lv_i2l hx hb dX12_setBounds_2 rfl ?_
  refine lv_lconst (v := 1) hx hb dX12_setBounds_3 (by decide) ?_
  refine lv_iload_n hx hb dX12_setBounds_4 rfl (lv_at hl 2 rfl) ?_
  refine lv_i2l hx hb dX12_setBounds_5 rfl ?_
  obtain ⟨q1, h2, hf⟩ := bdE hf
  refine cS (As := [.long x1.toInt64, .long 1, .long x2.toInt64]) (rest := [.ref (wA B 224)]) C0 w (m_X12_in l B _ σ x1.toInt64 1 x2.toInt64 q1 h2) ky_X12_in ks_X12_in lk_X12_79 ⟨Nat.le_of_ble_eq_true rfl, Nat.le_of_ble_eq_true rfl⟩ ⟨Nat.le_of_ble_eq_true rfl, Nat.le_of_ble_eq_true rfl⟩ rfl (by rfl) (Nat.le_of_ble_eq_true rfl) hl.1 dX12_setBounds_6 (fun H locs w => ?_)
  refine lv_if_eq (tgt := 28) hx hb dX12_setBounds_9 (by decide) (fun c3 => ?_) (fun c3 => ?_)
  · rw [if_pos c3] at hf
    refine lv_iconst (v := 1) hx hb dX12_setBounds_28 (by decide) ?_
    refine pI C0 w fk_X12_62 fp_X12_5 (by decide +kernel) dX12_setBounds_29 (fun H locs w => ?_)
    refine lv_aload_n hx hb dX12_setBounds_32 rfl (lv_at hl 0 rfl) ?_
    refine gI C0 w fk_X12_62 (by decide +kernel) dX12_setBounds_33 ?_
    refine lv_if_eq (tgt := 41) hx hb dX12_setBounds_36 (by decide) (fun c4 => ?_) (fun c4 => ?_)
    · rw [if_pos c4] at hf
      refine lv_aload_n hx hb dX12_setBounds_41 rfl (lv_at hl 0 rfl) ?_
      obtain ⟨q5, h6, hf⟩ := bdE hf
      refine cV (As := []) (rest := []) (k := 224) (ci := 10) (T := TX12) (N := 22) C0 w (m_X12_keep l B _ (setI σ 224 5 1) q5 h6) ky_X12_keep kv_X12_keep lk_X12_131 rfl (by decide +kernel) ⟨Nat.le_of_ble_eq_true rfl, Nat.le_of_ble_eq_true rfl⟩ ⟨Nat.le_of_ble_eq_true rfl, Nat.le_of_ble_eq_true rfl⟩ rfl (by rfl) (Nat.le_of_ble_eq_true rfl) hl.1 dX12_setBounds_42 (fun H locs w => ?_)
      refine lv_aload_n hx hb dX12_setBounds_45 rfl (lv_at hl 0 rfl) ?_
      refine gR C0 w 225 fk_X12_7 (by decide +kernel) dX12_setBounds_46 ?_
      refine lv_iconst (v := 2) hx hb dX12_setBounds_49 (by decide) ?_
      refine lv_iload_n hx hb dX12_setBounds_50 rfl (lv_at hl 1 rfl) ?_
      refine lv_i2l hx hb dX12_setBounds_51 rfl ?_
      refine sL C0 w (n := 200) (by decide +kernel) (inbE (by decide)) dX12_setBounds_52 (fun H locs w => ?_)
      refine lv_aload_n hx hb dX12_setBounds_53 rfl (lv_at hl 0 rfl) ?_
      refine gR C0 w 225 fk_X12_7 (by decide +kernel) dX12_setBounds_54 ?_
      refine lv_iconst (v := 3) hx hb dX12_setBounds_57 (by decide) ?_
      refine lv_iload_n hx hb dX12_setBounds_58 rfl (lv_at hl 2 rfl) ?_
      refine lv_i2l hx hb dX12_setBounds_59 rfl ?_
      refine sL C0 w (n := 200) (by decide +kernel) (inbE (by decide)) dX12_setBounds_60 (fun H locs w => ?_)
      refine lv_iconst (v := 0) hx hb dX12_setBounds_61 (by decide) ?_
      refine lv_istore_n (lv' := [(3, .int 0), (0, .ref (wA B 224)), (1, .int x1), (2, .int x2)]) hx hb dX12_setBounds_62 rfl hl (by decide) rfl (fun ls hl => ?_)
      refine lv_iconst (v := 0) hx hb dX12_setBounds_63 (by decide) ?_
      refine lv_istore (lv' := [(4, .int 0), (3, .int 0), (0, .ref (wA B 224)), (1, .int x1), (2, .int x2)]) hx hb dX12_setBounds_64 hl (by decide) rfl (fun ls hl => ?_)
      obtain ⟨q9, h10, hf⟩ := bdE hf
      refine lp_X12_setBounds_66 l B C0 x1 x2 100000 0 0 (setL (setL q5 225 ((2 : Int32).toNatClampNeg) x1.toInt64) 225 ((3 : Int32).toNatClampNeg) x2.toInt64) q9 _ _ _ h10 w (lv_sub hl [2, 3, 4, 1, 0] rfl) (fun H locs ls w hl => ?_)
      refine lv_iload_n hx hb dX12_setBounds_109 rfl (lv_at hl 0 rfl) ?_
      obtain rfl := Option.some.inj hf
      exact eI C0 hr w rfl dX12_setBounds_110
    · rw [if_neg c4] at hf
      refine lv_iconst (v := 0) hx hb dX12_setBounds_39 (by decide) ?_
      obtain rfl := Option.some.inj hf
      exact eI C0 hr w rfl dX12_setBounds_40
  · rw [if_neg c3] at hf
    refine lv_iload_n hx hb dX12_setBounds_12 rfl (lv_at hl 2 rfl) ?_
    refine lv_i2l hx hb dX12_setBounds_13 rfl ?_
    refine lv_lconst (v := 1) hx hb dX12_setBounds_14 (by decide) ?_
    refine kLg C0 100000 kc_X12_54 dX12_setBounds_15 ?_
    obtain ⟨q11, h12, hf⟩ := bdE hf
    refine cS (As := [.long x2.toInt64, .long 1, .long 100000]) (rest := [.ref (wA B 224)]) C0 w (m_X12_in l B _ σ x2.toInt64 1 100000 q11 h12) ky_X12_in ks_X12_in lk_X12_79 ⟨Nat.le_of_ble_eq_true rfl, Nat.le_of_ble_eq_true rfl⟩ ⟨Nat.le_of_ble_eq_true rfl, Nat.le_of_ble_eq_true rfl⟩ rfl (by rfl) (Nat.le_of_ble_eq_true rfl) hl.1 dX12_setBounds_18 (fun H locs w => ?_)
    refine lv_if_eq (tgt := 28) hx hb dX12_setBounds_21 (by decide) (fun c13 => ?_) (fun c13 => ?_)
    · rw [if_pos c13] at hf
      refine lv_iconst (v := 1) hx hb dX12_setBounds_28 (by decide) ?_
      refine pI C0 w fk_X12_62 fp_X12_5 (by decide +kernel) dX12_setBounds_29 (fun H locs w => ?_)
      refine lv_aload_n hx hb dX12_setBounds_32 rfl (lv_at hl 0 rfl) ?_
      refine gI C0 w fk_X12_62 (by decide +kernel) dX12_setBounds_33 ?_
      refine lv_if_eq (tgt := 41) hx hb dX12_setBounds_36 (by decide) (fun c14 => ?_) (fun c14 => ?_)
      · rw [if_pos c14] at hf
        refine lv_aload_n hx hb dX12_setBounds_41 rfl (lv_at hl 0 rfl) ?_
        obtain ⟨q15, h16, hf⟩ := bdE hf
        refine cV (As := []) (rest := []) (k := 224) (ci := 10) (T := TX12) (N := 22) C0 w (m_X12_keep l B _ (setI σ 224 5 1) q15 h16) ky_X12_keep kv_X12_keep lk_X12_131 rfl (by decide +kernel) ⟨Nat.le_of_ble_eq_true rfl, Nat.le_of_ble_eq_true rfl⟩ ⟨Nat.le_of_ble_eq_true rfl, Nat.le_of_ble_eq_true rfl⟩ rfl (by rfl) (Nat.le_of_ble_eq_true rfl) hl.1 dX12_setBounds_42 (fun H locs w => ?_)
        refine lv_aload_n hx hb dX12_setBounds_45 rfl (lv_at hl 0 rfl) ?_
        refine gR C0 w 225 fk_X12_7 (by decide +kernel) dX12_setBounds_46 ?_
        refine lv_iconst (v := 2) hx hb dX12_setBounds_49 (by decide) ?_
        refine lv_iload_n hx hb dX12_setBounds_50 rfl (lv_at hl 1 rfl) ?_
        refine lv_i2l hx hb dX12_setBounds_51 rfl ?_
        refine sL C0 w (n := 200) (by decide +kernel) (inbE (by decide)) dX12_setBounds_52 (fun H locs w => ?_)
        refine lv_aload_n hx hb dX12_setBounds_53 rfl (lv_at hl 0 rfl) ?_
        refine gR C0 w 225 fk_X12_7 (by decide +kernel) dX12_setBounds_54 ?_
        refine lv_iconst (v := 3) hx hb dX12_setBounds_57 (by decide) ?_
        refine lv_iload_n hx hb dX12_setBounds_58 rfl (lv_at hl 2 rfl) ?_
        refine lv_i2l hx hb dX12_setBounds_59 rfl ?_
        refine sL C0 w (n := 200) (by decide +kernel) (inbE (by decide)) dX12_setBounds_60 (fun H locs w => ?_)
        refine lv_iconst (v := 0) hx hb dX12_setBounds_61 (by decide) ?_
        refine lv_istore_n (lv' := [(3, .int 0), (0, .ref (wA B 224)), (1, .int x1), (2, .int x2)]) hx hb dX12_setBounds_62 rfl hl (by decide) rfl (fun ls hl => ?_)
        refine lv_iconst (v := 0) hx hb dX12_setBounds_63 (by decide) ?_
        refine lv_istore (lv' := [(4, .int 0), (3, .int 0), (0, .ref (wA B 224)), (1, .int x1), (2, .int x2)]) hx hb dX12_setBounds_64 hl (by decide) rfl (fun ls hl => ?_)
        obtain ⟨q19, h20, hf⟩ := bdE hf
        refine lp_X12_setBounds_66 l B C0 x1 x2 100000 0 0 (setL (setL q15 225 ((2 : Int32).toNatClampNeg) x1.toInt64) 225 ((3 : Int32).toNatClampNeg) x2.toInt64) q19 _ _ _ h20 w (lv_sub hl [2, 3, 4, 1, 0] rfl) (fun H locs ls w hl => ?_)
        refine lv_iload_n hx hb dX12_setBounds_109 rfl (lv_at hl 0 rfl) ?_
        obtain rfl := Option.some.inj hf
        exact eI C0 hr w rfl dX12_setBounds_110
      · rw [if_neg c14] at hf
        refine lv_iconst (v := 0) hx hb dX12_setBounds_39 (by decide) ?_
        obtain rfl := Option.some.inj hf
        exact eI C0 hr w rfl dX12_setBounds_40
    · rw [if_neg c13] at hf
      refine lv_iconst (v := 0) hx hb dX12_setBounds_24 (by decide) ?_
      refine lv_goto (tgt := 29) hx hb dX12_setBounds_25 (by decide) ?_
      refine pI C0 w fk_X12_62 fp_X12_5 (by decide +kernel) dX12_setBounds_29 (fun H locs w => ?_)
      refine lv_aload_n hx hb dX12_setBounds_32 rfl (lv_at hl 0 rfl) ?_
      refine gI C0 w fk_X12_62 (by decide +kernel) dX12_setBounds_33 ?_
      refine lv_if_eq (tgt := 41) hx hb dX12_setBounds_36 (by decide) (fun c21 => ?_) (fun c21 => ?_)
      · rw [if_pos c21] at hf
        refine lv_aload_n hx hb dX12_setBounds_41 rfl (lv_at hl 0 rfl) ?_
        obtain ⟨q22, h23, hf⟩ := bdE hf
        refine cV (As := []) (rest := []) (k := 224) (ci := 10) (T := TX12) (N := 22) C0 w (m_X12_keep l B _ (setI σ 224 5 0) q22 h23) ky_X12_keep kv_X12_keep lk_X12_131 rfl (by decide +kernel) ⟨Nat.le_of_ble_eq_true rfl, Nat.le_of_ble_eq_true rfl⟩ ⟨Nat.le_of_ble_eq_true rfl, Nat.le_of_ble_eq_true rfl⟩ rfl (by rfl) (Nat.le_of_ble_eq_true rfl) hl.1 dX12_setBounds_42 (fun H locs w => ?_)
        refine lv_aload_n hx hb dX12_setBounds_45 rfl (lv_at hl 0 rfl) ?_
        refine gR C0 w 225 fk_X12_7 (by decide +kernel) dX12_setBounds_46 ?_
        refine lv_iconst (v := 2) hx hb dX12_setBounds_49 (by decide) ?_
        refine lv_iload_n hx hb dX12_setBounds_50 rfl (lv_at hl 1 rfl) ?_
        refine lv_i2l hx hb dX12_setBounds_51 rfl ?_
        refine sL C0 w (n := 200) (by decide +kernel) (inbE (by decide)) dX12_setBounds_52 (fun H locs w => ?_)
        refine lv_aload_n hx hb dX12_setBounds_53 rfl (lv_at hl 0 rfl) ?_
        refine gR C0 w 225 fk_X12_7 (by decide +kernel) dX12_setBounds_54 ?_
        refine lv_iconst (v := 3) hx hb dX12_setBounds_57 (by decide) ?_
        refine lv_iload_n hx hb dX12_setBounds_58 rfl (lv_at hl 2 rfl) ?_
        refine lv_i2l hx hb dX12_setBounds_59 rfl ?_
        refine sL C0 w (n := 200) (by decide +kernel) (inbE (by decide)) dX12_setBounds_60 (fun H locs w => ?_)
        refine lv_iconst (v := 0) hx hb dX12_setBounds_61 (by decide) ?_
        refine lv_istore_n (lv' := [(3, .int 0), (0, .ref (wA B 224)), (1, .int x1), (2, .int x2)]) hx hb dX12_setBounds_62 rfl hl (by decide) rfl (fun ls hl => ?_)
        refine lv_iconst (v := 0) hx hb dX12_setBounds_63 (by decide) ?_
        refine lv_istore (lv' := [(4, .int 0), (3, .int 0), (0, .ref (wA B 224)), (1, .int x1), (2, .int x2)]) hx hb dX12_setBounds_64 hl (by decide) rfl (fun ls hl => ?_)
        obtain ⟨q26, h27, hf⟩ := bdE hf
        refine lp_X12_setBounds_66 l B C0 x1 x2 100000 0 0 (setL (setL q22 225 ((2 : Int32).toNatClampNeg) x1.toInt64) 225 ((3 : Int32).toNatClampNeg) x2.toInt64) q26 _ _ _ h27 w (lv_sub hl [2, 3, 4, 1, 0] rfl) (fun H locs ls w hl => ?_)
        refine lv_iload_n hx hb dX12_setBounds_109 rfl (lv_at hl 0 rfl) ?_
        obtain rfl := Option.some.inj hf
        exact eI C0 hr w rfl dX12_setBounds_110
      · rw [if_neg c21] at hf
        refine lv_iconst (v := 0) hx hb dX12_setBounds_39 (by decide) ?_
        obtain rfl := Option.some.inj hf
        exact eI C0 hr w rfl dX12_setBounds_40
def f_X12_adds (x1 : Int32) (x2 : Int32) (σ : Mem) : Option (Int32 × Mem) :=
  bd (f_X12_put ((σ.2 225 (7 : Int32).toNatClampNeg).toInt32) 0 x1.toInt64 σ) (fun q2 =>
  bd (f_X12_put ((σ.2 225 (7 : Int32).toNatClampNeg).toInt32) 1 x2.toInt64 q2) (fun q4 =>
  bd (f_X12_put ((σ.2 225 (7 : Int32).toNatClampNeg).toInt32) 2 1 q4) (fun q6 =>
  bd (f_X12_put ((σ.2 225 (7 : Int32).toNatClampNeg).toInt32) 3 ((-1 : Int64)) q6) (fun q8 =>
  some (((σ.2 225 (7 : Int32).toNatClampNeg).toInt32, setL q8 225 ((7 : Int32).toNatClampNeg) ((q8.2 225 (7 : Int32).toNatClampNeg) + 1)))))))
abbrev rm_X12_adds : Room := { frames := 1, cells := 0, slots := 0, locals := 24 }
set_option maxHeartbeats 4000000 in
set_option maxRecDepth 100000 in
theorem m_X12_adds (l : Launch) (B : Wb) (sz : Nat) (σ : Mem) (x1 : Int32) (x2 : Int32) (q : Int32 × Mem) (hf : f_X12_adds x1 x2 σ = some q) : MetC l yX12_adds cX12_adds 4 (some .int) rm_X12_adds B sz σ q.2 [.ref (wA B 224), .int x1, .int x2] (some (.int q.1)) := by
  refine met_in (by decide +kernel) (Nat.le_of_ble_eq_true rfl) ?_
  intro p e s m below meth c C0 hr w hsz ls hl
  have hx := C0.1.1
  have hb := C0.1.2.1
  unfold f_X12_adds at hf
  refine lv_aload_n hx hb dX12_adds_0 rfl (lv_at hl 0 rfl) ?_
  refine gR C0 w 225 fk_X12_7 (by decide +kernel) dX12_adds_1 ?_
  refine lv_bipush (v := 7) hx hb dX12_adds_4 (by decide) ?_
  refine aL C0 w (n := 200) (by decide +kernel) (inbE (by decide)) dX12_adds_6 ?_
  refine lv_l2i hx hb dX12_adds_7 rfl ?_
  refine lv_istore_n (lv' := [(3, .int ((σ.2 225 (7 : Int32).toNatClampNeg).toInt32)), (0, .ref (wA B 224)), (1, .int x1), (2, .int x2)]) hx hb dX12_adds_8 rfl hl (by decide) rfl (fun ls hl => ?_)
  refine lv_aload_n hx hb dX12_adds_9 rfl (lv_at hl 1 rfl) ?_
  refine lv_iload_n hx hb dX12_adds_10 rfl (lv_at hl 0 rfl) ?_
  refine lv_iconst (v := 0) hx hb dX12_adds_11 (by decide) ?_
  refine lv_iload_n hx hb dX12_adds_12 rfl (lv_at hl 2 rfl) ?_
  refine lv_i2l hx hb dX12_adds_13 rfl ?_
  obtain ⟨q2, h3, hf⟩ := bdE hf
  refine cV (As := [.int ((σ.2 225 (7 : Int32).toNatClampNeg).toInt32), .int 0, .long x1.toInt64]) (rest := []) (k := 224) (ci := 10) (T := TX12) (N := 22) C0 w (m_X12_put l B _ σ ((σ.2 225 (7 : Int32).toNatClampNeg).toInt32) 0 x1.toInt64 q2 h3) ky_X12_put kv_X12_put lk_X12_156 rfl (by decide +kernel) ⟨Nat.le_of_ble_eq_true rfl, Nat.le_of_ble_eq_true rfl⟩ ⟨Nat.le_of_ble_eq_true rfl, Nat.le_of_ble_eq_true rfl⟩ rfl (by rfl) (Nat.le_of_ble_eq_true rfl) hl.1 dX12_adds_14 (fun H locs w => ?_)
  refine lv_aload_n hx hb dX12_adds_17 rfl (lv_at hl 1 rfl) ?_
  refine lv_iload_n hx hb dX12_adds_18 rfl (lv_at hl 0 rfl) ?_
  refine lv_iconst (v := 1) hx hb dX12_adds_19 (by decide) ?_
  refine lv_iload_n hx hb dX12_adds_20 rfl (lv_at hl 3 rfl) ?_
  refine lv_i2l hx hb dX12_adds_21 rfl ?_
  obtain ⟨q4, h5, hf⟩ := bdE hf
  refine cV (As := [.int ((σ.2 225 (7 : Int32).toNatClampNeg).toInt32), .int 1, .long x2.toInt64]) (rest := []) (k := 224) (ci := 10) (T := TX12) (N := 22) C0 w (m_X12_put l B _ q2 ((σ.2 225 (7 : Int32).toNatClampNeg).toInt32) 1 x2.toInt64 q4 h5) ky_X12_put kv_X12_put lk_X12_156 rfl (by decide +kernel) ⟨Nat.le_of_ble_eq_true rfl, Nat.le_of_ble_eq_true rfl⟩ ⟨Nat.le_of_ble_eq_true rfl, Nat.le_of_ble_eq_true rfl⟩ rfl (by rfl) (Nat.le_of_ble_eq_true rfl) hl.1 dX12_adds_22 (fun H locs w => ?_)
  refine lv_aload_n hx hb dX12_adds_25 rfl (lv_at hl 1 rfl) ?_
  refine lv_iload_n hx hb dX12_adds_26 rfl (lv_at hl 0 rfl) ?_
  refine lv_iconst (v := 2) hx hb dX12_adds_27 (by decide) ?_
  refine lv_lconst (v := 1) hx hb dX12_adds_28 (by decide) ?_
  obtain ⟨q6, h7, hf⟩ := bdE hf
  refine cV (As := [.int ((σ.2 225 (7 : Int32).toNatClampNeg).toInt32), .int 2, .long 1]) (rest := []) (k := 224) (ci := 10) (T := TX12) (N := 22) C0 w (m_X12_put l B _ q4 ((σ.2 225 (7 : Int32).toNatClampNeg).toInt32) 2 1 q6 h7) ky_X12_put kv_X12_put lk_X12_156 rfl (by decide +kernel) ⟨Nat.le_of_ble_eq_true rfl, Nat.le_of_ble_eq_true rfl⟩ ⟨Nat.le_of_ble_eq_true rfl, Nat.le_of_ble_eq_true rfl⟩ rfl (by rfl) (Nat.le_of_ble_eq_true rfl) hl.1 dX12_adds_29 (fun H locs w => ?_)
  refine lv_aload_n hx hb dX12_adds_32 rfl (lv_at hl 1 rfl) ?_
  refine lv_iload_n hx hb dX12_adds_33 rfl (lv_at hl 0 rfl) ?_
  refine lv_iconst (v := 3) hx hb dX12_adds_34 (by decide) ?_
  refine kLg C0 (-1) kc_X12_87 dX12_adds_35 ?_
  obtain ⟨q8, h9, hf⟩ := bdE hf
  refine cV (As := [.int ((σ.2 225 (7 : Int32).toNatClampNeg).toInt32), .int 3, .long ((-1 : Int64))]) (rest := []) (k := 224) (ci := 10) (T := TX12) (N := 22) C0 w (m_X12_put l B _ q6 ((σ.2 225 (7 : Int32).toNatClampNeg).toInt32) 3 ((-1 : Int64)) q8 h9) ky_X12_put kv_X12_put lk_X12_156 rfl (by decide +kernel) ⟨Nat.le_of_ble_eq_true rfl, Nat.le_of_ble_eq_true rfl⟩ ⟨Nat.le_of_ble_eq_true rfl, Nat.le_of_ble_eq_true rfl⟩ rfl (by rfl) (Nat.le_of_ble_eq_true rfl) hl.1 dX12_adds_38 (fun H locs w => ?_)
  refine lv_aload_n hx hb dX12_adds_41 rfl (lv_at hl 1 rfl) ?_
  refine gR C0 w 225 fk_X12_7 (by decide +kernel) dX12_adds_42 ?_
  refine lv_bipush (v := 7) hx hb dX12_adds_45 (by decide) ?_
  refine lv_dup2_11 hx hb dX12_adds_47 rfl rfl ?_
  refine aL C0 w (n := 200) (by decide +kernel) (inbE (by decide)) dX12_adds_48 ?_
  refine lv_lconst (v := 1) hx hb dX12_adds_49 (by decide) ?_
  refine lv_ladd hx hb dX12_adds_50 ?_
  refine sL C0 w (n := 200) (by decide +kernel) (inbE (by decide)) dX12_adds_51 (fun H locs w => ?_)
  refine lv_iload_n hx hb dX12_adds_52 rfl (lv_at hl 0 rfl) ?_
  obtain rfl := Option.some.inj hf
  exact eI C0 hr w rfl dX12_adds_53
def f_X12_whyNoRay (x1 : Int32) (x2 : Int32) (σ : Mem) : Option (Int32) :=
  bd (f_X12_isRow x1 σ) (fun q1 =>
  if q1 = 0 then (
    some 1)
  else (
    bd (f_X12_isRow x2 σ) (fun q4 =>
    if q4 = 0 then (
      some 1)
    else (
      if (σ.2 225 (7 : Int32).toNatClampNeg) = 16 then (
        some 2)
      else (
        some 0)))))
abbrev rm_X12_whyNoRay : Room := { frames := 2, cells := 0, slots := 0, locals := 46 }
set_option maxHeartbeats 4000000 in
set_option maxRecDepth 100000 in
theorem m_X12_whyNoRay (l : Launch) (B : Wb) (sz : Nat) (σ : Mem) (x1 : Int32) (x2 : Int32) (q : Int32) (hf : f_X12_whyNoRay x1 x2 σ = some q) : MetC l yX12_whyNoRay cX12_whyNoRay 3 (some .int) rm_X12_whyNoRay B sz σ σ [.ref (wA B 224), .int x1, .int x2] (some (.int q)) := by
  refine met_in (by decide +kernel) (Nat.le_of_ble_eq_true rfl) ?_
  intro p e s m below meth c C0 hr w hsz ls hl
  have hx := C0.1.1
  have hb := C0.1.2.1
  unfold f_X12_whyNoRay at hf
  refine lv_aload_n hx hb dX12_whyNoRay_0 rfl (lv_at hl 0 rfl) ?_
  refine lv_iload_n hx hb dX12_whyNoRay_1 rfl (lv_at hl 1 rfl) ?_
  obtain ⟨q1, h2, hf⟩ := bdE hf
  refine cV (As := [.int x1]) (rest := []) (k := 224) (ci := 10) (T := TX12) (N := 22) C0 w (m_X12_isRow l B _ σ x1 q1 h2) ky_X12_isRow kv_X12_isRow lk_X12_160 rfl (by decide +kernel) ⟨Nat.le_of_ble_eq_true rfl, Nat.le_of_ble_eq_true rfl⟩ ⟨Nat.le_of_ble_eq_true rfl, Nat.le_of_ble_eq_true rfl⟩ rfl (by rfl) (Nat.le_of_ble_eq_true rfl) hl.1 dX12_whyNoRay_2 (fun H locs w => ?_)
  refine lv_if_eq (tgt := 16) hx hb dX12_whyNoRay_5 (by decide) (fun c3 => ?_) (fun c3 => ?_)
  · rw [if_pos c3] at hf
    refine lv_iconst (v := 1) hx hb dX12_whyNoRay_16 (by decide) ?_
    refine lv_goto (tgt := 39) hx hb dX12_whyNoRay_17 (by decide) ?_
    obtain rfl := Option.some.inj hf
    exact eI C0 hr w rfl dX12_whyNoRay_39
  · rw [if_neg c3] at hf
    refine lv_aload_n hx hb dX12_whyNoRay_8 rfl (lv_at hl 0 rfl) ?_
    refine lv_iload_n hx hb dX12_whyNoRay_9 rfl (lv_at hl 2 rfl) ?_
    obtain ⟨q4, h5, hf⟩ := bdE hf
    refine cV (As := [.int x2]) (rest := []) (k := 224) (ci := 10) (T := TX12) (N := 22) C0 w (m_X12_isRow l B _ σ x2 q4 h5) ky_X12_isRow kv_X12_isRow lk_X12_160 rfl (by decide +kernel) ⟨Nat.le_of_ble_eq_true rfl, Nat.le_of_ble_eq_true rfl⟩ ⟨Nat.le_of_ble_eq_true rfl, Nat.le_of_ble_eq_true rfl⟩ rfl (by rfl) (Nat.le_of_ble_eq_true rfl) hl.1 dX12_whyNoRay_10 (fun H locs w => ?_)
    refine lv_if_ne (tgt := 20) hx hb dX12_whyNoRay_13 (by decide) (fun c6 => ?_) (fun c6 => ?_)
    · rw [if_neg c6] at hf
      refine lv_aload_n hx hb dX12_whyNoRay_20 rfl (lv_at hl 0 rfl) ?_
      refine gR C0 w 225 fk_X12_7 (by decide +kernel) dX12_whyNoRay_21 ?_
      refine lv_bipush (v := 7) hx hb dX12_whyNoRay_24 (by decide) ?_
      refine aL C0 w (n := 200) (by decide +kernel) (inbE (by decide)) dX12_whyNoRay_26 ?_
      refine kLg C0 16 kc_X12_163 dX12_whyNoRay_27 ?_
      refine lc_ne (tgt := 38) C0 dX12_whyNoRay_30 dX12_whyNoRay_31 (by decide) (fun c8 => ?_) (fun c8 => ?_)
      · rw [if_neg c8] at hf
        refine lv_iconst (v := 0) hx hb dX12_whyNoRay_38 (by decide) ?_
        obtain rfl := Option.some.inj hf
        exact eI C0 hr w rfl dX12_whyNoRay_39
      · rw [if_pos c8] at hf
        refine lv_iconst (v := 2) hx hb dX12_whyNoRay_34 (by decide) ?_
        refine lv_goto (tgt := 39) hx hb dX12_whyNoRay_35 (by decide) ?_
        obtain rfl := Option.some.inj hf
        exact eI C0 hr w rfl dX12_whyNoRay_39
    · rw [if_pos c6] at hf
      refine lv_iconst (v := 1) hx hb dX12_whyNoRay_16 (by decide) ?_
      refine lv_goto (tgt := 39) hx hb dX12_whyNoRay_17 (by decide) ?_
      obtain rfl := Option.some.inj hf
      exact eI C0 hr w rfl dX12_whyNoRay_39
def f_X12_addRay (x1 : Int32) (x2 : Int32) (σ : Mem) : Option (Int32 × Mem) :=
  bd (f_X12_whyNoRay x1 x2 σ) (fun q1 =>
  if ((setI σ 224 5 q1).1 224 5) = 0 then (
    bd (f_X12_keep (setI σ 224 5 q1)) (fun q4 =>
    bd (f_X12_adds x1 x2 q4) (fun q6 =>
    some ((q6.1, q6.2)))))
  else (
    some ((0, setI σ 224 5 q1))))
abbrev rm_X12_addRay : Room := { frames := 3, cells := 0, slots := 0, locals := 68 }
set_option maxHeartbeats 4000000 in
set_option maxRecDepth 100000 in
theorem m_X12_addRay (l : Launch) (B : Wb) (sz : Nat) (σ : Mem) (x1 : Int32) (x2 : Int32) (q : Int32 × Mem) (hf : f_X12_addRay x1 x2 σ = some q) : MetC l yX12_addRay cX12_addRay 3 (some .int) rm_X12_addRay B sz σ q.2 [.ref (wA B 224), .int x1, .int x2] (some (.int q.1)) := by
  refine met_in (by decide +kernel) (Nat.le_of_ble_eq_true rfl) ?_
  intro p e s m below meth c C0 hr w hsz ls hl
  have hx := C0.1.1
  have hb := C0.1.2.1
  unfold f_X12_addRay at hf
  refine lv_aload_n hx hb dX12_addRay_0 rfl (lv_at hl 0 rfl) ?_
  refine lv_aload_n hx hb dX12_addRay_1 rfl (lv_at hl 0 rfl) ?_
  refine lv_iload_n hx hb dX12_addRay_2 rfl (lv_at hl 1 rfl) ?_
  refine lv_iload_n hx hb dX12_addRay_3 rfl (lv_at hl 2 rfl) ?_
  obtain ⟨q1, h2, hf⟩ := bdE hf
  refine cV (As := [.int x1, .int x2]) (rest := [.ref (wA B 224)]) (k := 224) (ci := 10) (T := TX12) (N := 22) C0 w (m_X12_whyNoRay l B _ σ x1 x2 q1 h2) ky_X12_whyNoRay kv_X12_whyNoRay lk_X12_165 rfl (by decide +kernel) ⟨Nat.le_of_ble_eq_true rfl, Nat.le_of_ble_eq_true rfl⟩ ⟨Nat.le_of_ble_eq_true rfl, Nat.le_of_ble_eq_true rfl⟩ rfl (by rfl) (Nat.le_of_ble_eq_true rfl) hl.1 dX12_addRay_4 (fun H locs w => ?_)
  refine pI C0 w fk_X12_62 fp_X12_5 (by decide +kernel) dX12_addRay_7 (fun H locs w => ?_)
  refine lv_aload_n hx hb dX12_addRay_10 rfl (lv_at hl 0 rfl) ?_
  refine gI C0 w fk_X12_62 (by decide +kernel) dX12_addRay_11 ?_
  refine lv_if_eq (tgt := 19) hx hb dX12_addRay_14 (by decide) (fun c3 => ?_) (fun c3 => ?_)
  · rw [if_pos c3] at hf
    refine lv_aload_n hx hb dX12_addRay_19 rfl (lv_at hl 0 rfl) ?_
    obtain ⟨q4, h5, hf⟩ := bdE hf
    refine cV (As := []) (rest := []) (k := 224) (ci := 10) (T := TX12) (N := 22) C0 w (m_X12_keep l B _ (setI σ 224 5 q1) q4 h5) ky_X12_keep kv_X12_keep lk_X12_131 rfl (by decide +kernel) ⟨Nat.le_of_ble_eq_true rfl, Nat.le_of_ble_eq_true rfl⟩ ⟨Nat.le_of_ble_eq_true rfl, Nat.le_of_ble_eq_true rfl⟩ rfl (by rfl) (Nat.le_of_ble_eq_true rfl) hl.1 dX12_addRay_20 (fun H locs w => ?_)
    refine lv_aload_n hx hb dX12_addRay_23 rfl (lv_at hl 0 rfl) ?_
    refine lv_iload_n hx hb dX12_addRay_24 rfl (lv_at hl 1 rfl) ?_
    refine lv_iload_n hx hb dX12_addRay_25 rfl (lv_at hl 2 rfl) ?_
    obtain ⟨q6, h7, hf⟩ := bdE hf
    refine cV (As := [.int x1, .int x2]) (rest := []) (k := 224) (ci := 10) (T := TX12) (N := 22) C0 w (m_X12_adds l B _ q4 x1 x2 q6 h7) ky_X12_adds kv_X12_adds lk_X12_168 rfl (by decide +kernel) ⟨Nat.le_of_ble_eq_true rfl, Nat.le_of_ble_eq_true rfl⟩ ⟨Nat.le_of_ble_eq_true rfl, Nat.le_of_ble_eq_true rfl⟩ rfl (by rfl) (Nat.le_of_ble_eq_true rfl) hl.1 dX12_addRay_26 (fun H locs w => ?_)
    obtain rfl := Option.some.inj hf
    exact eI C0 hr w rfl dX12_addRay_29
  · rw [if_neg c3] at hf
    refine lv_iconst (v := 0) hx hb dX12_addRay_17 (by decide) ?_
    obtain rfl := Option.some.inj hf
    exact eI C0 hr w rfl dX12_addRay_18
def f_X12_setUsed (x1 : Int32) (x2 : Int32) (σ : Mem) : Option (Int32 × Mem) :=
  bd (f_X12_isRay x1 σ) (fun q1 =>
  if q1 = 0 then (
    if ((setI σ 224 5 1).1 224 5) = 0 then (
      bd (f_X12_keep (setI σ 224 5 1)) (fun q5 =>
      if x2 = 0 then (
        bd (f_X12_put x1 2 0 q5) (fun q8 =>
        bd (f_X12_actives q8) (fun q10 =>
        some ((q10, q8)))))
      else (
        bd (f_X12_put x1 2 1 q5) (fun q12 =>
        bd (f_X12_actives q12) (fun q14 =>
        some ((q14, q12)))))))
    else (
      some ((0, setI σ 224 5 1))))
  else (
    if ((setI σ 224 5 0).1 224 5) = 0 then (
      bd (f_X12_keep (setI σ 224 5 0)) (fun q17 =>
      if x2 = 0 then (
        bd (f_X12_put x1 2 0 q17) (fun q20 =>
        bd (f_X12_actives q20) (fun q22 =>
        some ((q22, q20)))))
      else (
        bd (f_X12_put x1 2 1 q17) (fun q24 =>
        bd (f_X12_actives q24) (fun q26 =>
        some ((q26, q24)))))))
    else (
      some ((0, setI σ 224 5 0)))))
abbrev rm_X12_setUsed : Room := { frames := 3, cells := 0, slots := 0, locals := 65 }
set_option maxHeartbeats 4000000 in
set_option maxRecDepth 100000 in
theorem m_X12_setUsed (l : Launch) (B : Wb) (sz : Nat) (σ : Mem) (x1 : Int32) (x2 : Int32) (q : Int32 × Mem) (hf : f_X12_setUsed x1 x2 σ = some q) : MetC l yX12_setUsed cX12_setUsed 3 (some .int) rm_X12_setUsed B sz σ q.2 [.ref (wA B 224), .int x1, .int x2] (some (.int q.1)) := by
  refine met_in (by decide +kernel) (Nat.le_of_ble_eq_true rfl) ?_
  intro p e s m below meth c C0 hr w hsz ls hl
  have hx := C0.1.1
  have hb := C0.1.2.1
  unfold f_X12_setUsed at hf
  refine lv_aload_n hx hb dX12_setUsed_0 rfl (lv_at hl 0 rfl) ?_
  refine lv_aload_n hx hb dX12_setUsed_1 rfl (lv_at hl 0 rfl) ?_
  refine lv_iload_n hx hb dX12_setUsed_2 rfl (lv_at hl 1 rfl) ?_
  obtain ⟨q1, h2, hf⟩ := bdE hf
  refine cV (As := [.int x1]) (rest := [.ref (wA B 224)]) (k := 224) (ci := 10) (T := TX12) (N := 22) C0 w (m_X12_isRay l B _ σ x1 q1 h2) ky_X12_isRay kv_X12_isRay lk_X12_171 rfl (by decide +kernel) ⟨Nat.le_of_ble_eq_true rfl, Nat.le_of_ble_eq_true rfl⟩ ⟨Nat.le_of_ble_eq_true rfl, Nat.le_of_ble_eq_true rfl⟩ rfl (by rfl) (Nat.le_of_ble_eq_true rfl) hl.1 dX12_setUsed_3 (fun H locs w => ?_)
  refine lv_if_eq (tgt := 13) hx hb dX12_setUsed_6 (by decide) (fun c3 => ?_) (fun c3 => ?_)
  · rw [if_pos c3] at hf
    refine lv_iconst (v := 1) hx hb dX12_setUsed_13 (by decide) ?_
    refine pI C0 w fk_X12_62 fp_X12_5 (by decide +kernel) dX12_setUsed_14 (fun H locs w => ?_)
    refine lv_aload_n hx hb dX12_setUsed_17 rfl (lv_at hl 0 rfl) ?_
    refine gI C0 w fk_X12_62 (by decide +kernel) dX12_setUsed_18 ?_
    refine lv_if_eq (tgt := 26) hx hb dX12_setUsed_21 (by decide) (fun c4 => ?_) (fun c4 => ?_)
    · rw [if_pos c4] at hf
      refine lv_aload_n hx hb dX12_setUsed_26 rfl (lv_at hl 0 rfl) ?_
      obtain ⟨q5, h6, hf⟩ := bdE hf
      refine cV (As := []) (rest := []) (k := 224) (ci := 10) (T := TX12) (N := 22) C0 w (m_X12_keep l B _ (setI σ 224 5 1) q5 h6) ky_X12_keep kv_X12_keep lk_X12_131 rfl (by decide +kernel) ⟨Nat.le_of_ble_eq_true rfl, Nat.le_of_ble_eq_true rfl⟩ ⟨Nat.le_of_ble_eq_true rfl, Nat.le_of_ble_eq_true rfl⟩ rfl (by rfl) (Nat.le_of_ble_eq_true rfl) hl.1 dX12_setUsed_27 (fun H locs w => ?_)
      refine lv_aload_n hx hb dX12_setUsed_30 rfl (lv_at hl 0 rfl) ?_
      refine lv_iload_n hx hb dX12_setUsed_31 rfl (lv_at hl 1 rfl) ?_
      refine lv_iconst (v := 2) hx hb dX12_setUsed_32 (by decide) ?_
      refine lv_iload_n hx hb dX12_setUsed_33 rfl (lv_at hl 2 rfl) ?_
      refine lv_if_eq (tgt := 41) hx hb dX12_setUsed_34 (by decide) (fun c7 => ?_) (fun c7 => ?_)
      · rw [if_pos c7] at hf
        refine lv_lconst (v := 0) hx hb dX12_setUsed_41 (by decide) ?_
        obtain ⟨q8, h9, hf⟩ := bdE hf
        refine cV (As := [.int x1, .int 2, .long 0]) (rest := []) (k := 224) (ci := 10) (T := TX12) (N := 22) C0 w (m_X12_put l B _ q5 x1 2 0 q8 h9) ky_X12_put kv_X12_put lk_X12_156 rfl (by decide +kernel) ⟨Nat.le_of_ble_eq_true rfl, Nat.le_of_ble_eq_true rfl⟩ ⟨Nat.le_of_ble_eq_true rfl, Nat.le_of_ble_eq_true rfl⟩ rfl (by rfl) (Nat.le_of_ble_eq_true rfl) hl.1 dX12_setUsed_42 (fun H locs w => ?_)
        refine lv_aload_n hx hb dX12_setUsed_45 rfl (lv_at hl 0 rfl) ?_
        obtain ⟨q10, h11, hf⟩ := bdE hf
        refine cV (As := []) (rest := []) (k := 224) (ci := 10) (T := TX12) (N := 22) C0 w (m_X12_actives l B _ q8 q10 h11) ky_X12_actives kv_X12_actives lk_X12_174 rfl (by decide +kernel) ⟨Nat.le_of_ble_eq_true rfl, Nat.le_of_ble_eq_true rfl⟩ ⟨Nat.le_of_ble_eq_true rfl, Nat.le_of_ble_eq_true rfl⟩ rfl (by rfl) (Nat.le_of_ble_eq_true rfl) hl.1 dX12_setUsed_46 (fun H locs w => ?_)
        obtain rfl := Option.some.inj hf
        exact eI C0 hr w rfl dX12_setUsed_49
      · rw [if_neg c7] at hf
        refine lv_lconst (v := 1) hx hb dX12_setUsed_37 (by decide) ?_
        refine lv_goto (tgt := 42) hx hb dX12_setUsed_38 (by decide) ?_
        obtain ⟨q12, h13, hf⟩ := bdE hf
        refine cV (As := [.int x1, .int 2, .long 1]) (rest := []) (k := 224) (ci := 10) (T := TX12) (N := 22) C0 w (m_X12_put l B _ q5 x1 2 1 q12 h13) ky_X12_put kv_X12_put lk_X12_156 rfl (by decide +kernel) ⟨Nat.le_of_ble_eq_true rfl, Nat.le_of_ble_eq_true rfl⟩ ⟨Nat.le_of_ble_eq_true rfl, Nat.le_of_ble_eq_true rfl⟩ rfl (by rfl) (Nat.le_of_ble_eq_true rfl) hl.1 dX12_setUsed_42 (fun H locs w => ?_)
        refine lv_aload_n hx hb dX12_setUsed_45 rfl (lv_at hl 0 rfl) ?_
        obtain ⟨q14, h15, hf⟩ := bdE hf
        refine cV (As := []) (rest := []) (k := 224) (ci := 10) (T := TX12) (N := 22) C0 w (m_X12_actives l B _ q12 q14 h15) ky_X12_actives kv_X12_actives lk_X12_174 rfl (by decide +kernel) ⟨Nat.le_of_ble_eq_true rfl, Nat.le_of_ble_eq_true rfl⟩ ⟨Nat.le_of_ble_eq_true rfl, Nat.le_of_ble_eq_true rfl⟩ rfl (by rfl) (Nat.le_of_ble_eq_true rfl) hl.1 dX12_setUsed_46 (fun H locs w => ?_)
        obtain rfl := Option.some.inj hf
        exact eI C0 hr w rfl dX12_setUsed_49
    · rw [if_neg c4] at hf
      refine lv_iconst (v := 0) hx hb dX12_setUsed_24 (by decide) ?_
      obtain rfl := Option.some.inj hf
      exact eI C0 hr w rfl dX12_setUsed_25
  · rw [if_neg c3] at hf
    refine lv_iconst (v := 0) hx hb dX12_setUsed_9 (by decide) ?_
    refine lv_goto (tgt := 14) hx hb dX12_setUsed_10 (by decide) ?_
    refine pI C0 w fk_X12_62 fp_X12_5 (by decide +kernel) dX12_setUsed_14 (fun H locs w => ?_)
    refine lv_aload_n hx hb dX12_setUsed_17 rfl (lv_at hl 0 rfl) ?_
    refine gI C0 w fk_X12_62 (by decide +kernel) dX12_setUsed_18 ?_
    refine lv_if_eq (tgt := 26) hx hb dX12_setUsed_21 (by decide) (fun c16 => ?_) (fun c16 => ?_)
    · rw [if_pos c16] at hf
      refine lv_aload_n hx hb dX12_setUsed_26 rfl (lv_at hl 0 rfl) ?_
      obtain ⟨q17, h18, hf⟩ := bdE hf
      refine cV (As := []) (rest := []) (k := 224) (ci := 10) (T := TX12) (N := 22) C0 w (m_X12_keep l B _ (setI σ 224 5 0) q17 h18) ky_X12_keep kv_X12_keep lk_X12_131 rfl (by decide +kernel) ⟨Nat.le_of_ble_eq_true rfl, Nat.le_of_ble_eq_true rfl⟩ ⟨Nat.le_of_ble_eq_true rfl, Nat.le_of_ble_eq_true rfl⟩ rfl (by rfl) (Nat.le_of_ble_eq_true rfl) hl.1 dX12_setUsed_27 (fun H locs w => ?_)
      refine lv_aload_n hx hb dX12_setUsed_30 rfl (lv_at hl 0 rfl) ?_
      refine lv_iload_n hx hb dX12_setUsed_31 rfl (lv_at hl 1 rfl) ?_
      refine lv_iconst (v := 2) hx hb dX12_setUsed_32 (by decide) ?_
      refine lv_iload_n hx hb dX12_setUsed_33 rfl (lv_at hl 2 rfl) ?_
      refine lv_if_eq (tgt := 41) hx hb dX12_setUsed_34 (by decide) (fun c19 => ?_) (fun c19 => ?_)
      · rw [if_pos c19] at hf
        refine lv_lconst (v := 0) hx hb dX12_setUsed_41 (by decide) ?_
        obtain ⟨q20, h21, hf⟩ := bdE hf
        refine cV (As := [.int x1, .int 2, .long 0]) (rest := []) (k := 224) (ci := 10) (T := TX12) (N := 22) C0 w (m_X12_put l B _ q17 x1 2 0 q20 h21) ky_X12_put kv_X12_put lk_X12_156 rfl (by decide +kernel) ⟨Nat.le_of_ble_eq_true rfl, Nat.le_of_ble_eq_true rfl⟩ ⟨Nat.le_of_ble_eq_true rfl, Nat.le_of_ble_eq_true rfl⟩ rfl (by rfl) (Nat.le_of_ble_eq_true rfl) hl.1 dX12_setUsed_42 (fun H locs w => ?_)
        refine lv_aload_n hx hb dX12_setUsed_45 rfl (lv_at hl 0 rfl) ?_
        obtain ⟨q22, h23, hf⟩ := bdE hf
        refine cV (As := []) (rest := []) (k := 224) (ci := 10) (T := TX12) (N := 22) C0 w (m_X12_actives l B _ q20 q22 h23) ky_X12_actives kv_X12_actives lk_X12_174 rfl (by decide +kernel) ⟨Nat.le_of_ble_eq_true rfl, Nat.le_of_ble_eq_true rfl⟩ ⟨Nat.le_of_ble_eq_true rfl, Nat.le_of_ble_eq_true rfl⟩ rfl (by rfl) (Nat.le_of_ble_eq_true rfl) hl.1 dX12_setUsed_46 (fun H locs w => ?_)
        obtain rfl := Option.some.inj hf
        exact eI C0 hr w rfl dX12_setUsed_49
      · rw [if_neg c19] at hf
        refine lv_lconst (v := 1) hx hb dX12_setUsed_37 (by decide) ?_
        refine lv_goto (tgt := 42) hx hb dX12_setUsed_38 (by decide) ?_
        obtain ⟨q24, h25, hf⟩ := bdE hf
        refine cV (As := [.int x1, .int 2, .long 1]) (rest := []) (k := 224) (ci := 10) (T := TX12) (N := 22) C0 w (m_X12_put l B _ q17 x1 2 1 q24 h25) ky_X12_put kv_X12_put lk_X12_156 rfl (by decide +kernel) ⟨Nat.le_of_ble_eq_true rfl, Nat.le_of_ble_eq_true rfl⟩ ⟨Nat.le_of_ble_eq_true rfl, Nat.le_of_ble_eq_true rfl⟩ rfl (by rfl) (Nat.le_of_ble_eq_true rfl) hl.1 dX12_setUsed_42 (fun H locs w => ?_)
        refine lv_aload_n hx hb dX12_setUsed_45 rfl (lv_at hl 0 rfl) ?_
        obtain ⟨q26, h27, hf⟩ := bdE hf
        refine cV (As := []) (rest := []) (k := 224) (ci := 10) (T := TX12) (N := 22) C0 w (m_X12_actives l B _ q24 q26 h27) ky_X12_actives kv_X12_actives lk_X12_174 rfl (by decide +kernel) ⟨Nat.le_of_ble_eq_true rfl, Nat.le_of_ble_eq_true rfl⟩ ⟨Nat.le_of_ble_eq_true rfl, Nat.le_of_ble_eq_true rfl⟩ rfl (by rfl) (Nat.le_of_ble_eq_true rfl) hl.1 dX12_setUsed_46 (fun H locs w => ?_)
        obtain rfl := Option.some.inj hf
        exact eI C0 hr w rfl dX12_setUsed_49
    · rw [if_neg c16] at hf
      refine lv_iconst (v := 0) hx hb dX12_setUsed_24 (by decide) ?_
      obtain rfl := Option.some.inj hf
      exact eI C0 hr w rfl dX12_setUsed_25
def f_X12_setTime (x1 : Int32) (x2 : Int64) (σ : Mem) : Option (Int64 × Mem) :=
  bd (f_X12_isRay x1 σ) (fun q1 =>
  if q1 = 0 then (
    if ((setI σ 224 5 1).1 224 5) = 0 then (
      bd (f_X12_keep (setI σ 224 5 1)) (fun q22 =>
      bd (f_X12_of x1 3 q22) (fun q24 =>
      bd (f_X12_put x1 3 x2 q22) (fun q26 =>
      some ((q24, q26))))))
    else (
      some ((0, setI σ 224 5 1))))
  else (
    bd (f_X12_in x2 ((-1 : Int64)) 100000000000 σ) (fun q4 =>
    if q4 = 0 then (
      if ((setI σ 224 5 2).1 224 5) = 0 then (
        bd (f_X12_keep (setI σ 224 5 2)) (fun q8 =>
        bd (f_X12_of x1 3 q8) (fun q10 =>
        bd (f_X12_put x1 3 x2 q8) (fun q12 =>
        some ((q10, q12))))))
      else (
        some ((0, setI σ 224 5 2))))
    else (
      if ((setI σ 224 5 0).1 224 5) = 0 then (
        bd (f_X12_keep (setI σ 224 5 0)) (fun q15 =>
        bd (f_X12_of x1 3 q15) (fun q17 =>
        bd (f_X12_put x1 3 x2 q15) (fun q19 =>
        some ((q17, q19))))))
      else (
        some ((0, setI σ 224 5 0)))))))
abbrev rm_X12_setTime : Room := { frames := 2, cells := 0, slots := 0, locals := 46 }
set_option maxHeartbeats 4000000 in
set_option maxRecDepth 100000 in
theorem m_X12_setTime (l : Launch) (B : Wb) (sz : Nat) (σ : Mem) (x1 : Int32) (x2 : Int64) (q : Int64 × Mem) (hf : f_X12_setTime x1 x2 σ = some q) : MetC l yX12_setTime cX12_setTime 6 (some .long) rm_X12_setTime B sz σ q.2 [.ref (wA B 224), .int x1, .long x2] (some (.long q.1)) := by
  refine met_in (by decide +kernel) (Nat.le_of_ble_eq_true rfl) ?_
  intro p e s m below meth c C0 hr w hsz ls hl
  have hx := C0.1.1
  have hb := C0.1.2.1
  unfold f_X12_setTime at hf
  refine lv_aload_n hx hb dX12_setTime_0 rfl (lv_at hl 0 rfl) ?_
  refine lv_aload_n hx hb dX12_setTime_1 rfl (lv_at hl 0 rfl) ?_
  refine lv_iload_n hx hb dX12_setTime_2 rfl (lv_at hl 1 rfl) ?_
  obtain ⟨q1, h2, hf⟩ := bdE hf
  refine cV (As := [.int x1]) (rest := [.ref (wA B 224)]) (k := 224) (ci := 10) (T := TX12) (N := 22) C0 w (m_X12_isRay l B _ σ x1 q1 h2) ky_X12_isRay kv_X12_isRay lk_X12_171 rfl (by decide +kernel) ⟨Nat.le_of_ble_eq_true rfl, Nat.le_of_ble_eq_true rfl⟩ ⟨Nat.le_of_ble_eq_true rfl, Nat.le_of_ble_eq_true rfl⟩ rfl (by rfl) (Nat.le_of_ble_eq_true rfl) hl.1 dX12_setTime_3 (fun H locs w => ?_)
  refine lv_if_ne (tgt := 13) hx hb dX12_setTime_6 (by decide) (fun c3 => ?_) (fun c3 => ?_)
  · rw [if_neg c3] at hf
    refine lv_lload_n hx hb dX12_setTime_13 rfl (lv_at hl 2 rfl) ?_
    refine kLg C0 (-1) kc_X12_87 dX12_setTime_14 ?_
    refine kLg C0 100000000000 kc_X12_177 dX12_setTime_17 ?_
    obtain ⟨q4, h5, hf⟩ := bdE hf
    refine cS (As := [.long x2, .long ((-1 : Int64)), .long 100000000000]) (rest := [.ref (wA B 224)]) C0 w (m_X12_in l B _ σ x2 ((-1 : Int64)) 100000000000 q4 h5) ky_X12_in ks_X12_in lk_X12_79 ⟨Nat.le_of_ble_eq_true rfl, Nat.le_of_ble_eq_true rfl⟩ ⟨Nat.le_of_ble_eq_true rfl, Nat.le_of_ble_eq_true rfl⟩ rfl (by rfl) (Nat.le_of_ble_eq_true rfl) hl.1 dX12_setTime_20 (fun H locs w => ?_)
    refine lv_if_eq (tgt := 30) hx hb dX12_setTime_23 (by decide) (fun c6 => ?_) (fun c6 => ?_)
    · rw [if_pos c6] at hf
      refine lv_iconst (v := 2) hx hb dX12_setTime_30 (by decide) ?_
      refine pI C0 w fk_X12_62 fp_X12_5 (by decide +kernel) dX12_setTime_31 (fun H locs w => ?_)
      refine lv_aload_n hx hb dX12_setTime_34 rfl (lv_at hl 0 rfl) ?_
      refine gI C0 w fk_X12_62 (by decide +kernel) dX12_setTime_35 ?_
      refine lv_if_eq (tgt := 43) hx hb dX12_setTime_38 (by decide) (fun c7 => ?_) (fun c7 => ?_)
      · rw [if_pos c7] at hf
        refine lv_aload_n hx hb dX12_setTime_43 rfl (lv_at hl 0 rfl) ?_
        obtain ⟨q8, h9, hf⟩ := bdE hf
        refine cV (As := []) (rest := []) (k := 224) (ci := 10) (T := TX12) (N := 22) C0 w (m_X12_keep l B _ (setI σ 224 5 2) q8 h9) ky_X12_keep kv_X12_keep lk_X12_131 rfl (by decide +kernel) ⟨Nat.le_of_ble_eq_true rfl, Nat.le_of_ble_eq_true rfl⟩ ⟨Nat.le_of_ble_eq_true rfl, Nat.le_of_ble_eq_true rfl⟩ rfl (by rfl) (Nat.le_of_ble_eq_true rfl) hl.1 dX12_setTime_44 (fun H locs w => ?_)
        refine lv_aload_n hx hb dX12_setTime_47 rfl (lv_at hl 0 rfl) ?_
        refine lv_iload_n hx hb dX12_setTime_48 rfl (lv_at hl 1 rfl) ?_
        refine lv_iconst (v := 3) hx hb dX12_setTime_49 (by decide) ?_
        obtain ⟨q10, h11, hf⟩ := bdE hf
        refine cV (As := [.int x1, .int 3]) (rest := []) (k := 224) (ci := 10) (T := TX12) (N := 22) C0 w (m_X12_of l B _ q8 x1 3 q10 h11) ky_X12_of kv_X12_of lk_X12_83 rfl (by decide +kernel) ⟨Nat.le_of_ble_eq_true rfl, Nat.le_of_ble_eq_true rfl⟩ ⟨Nat.le_of_ble_eq_true rfl, Nat.le_of_ble_eq_true rfl⟩ rfl (by rfl) (Nat.le_of_ble_eq_true rfl) hl.1 dX12_setTime_50 (fun H locs w => ?_)
        refine lv_lstore (lv' := [(4, .long q10), (0, .ref (wA B 224)), (1, .int x1), (2, .long x2)]) hx hb dX12_setTime_53 hl (by decide) rfl (fun ls hl => ?_)
        refine lv_aload_n hx hb dX12_setTime_55 rfl (lv_at hl 1 rfl) ?_
        refine lv_iload_n hx hb dX12_setTime_56 rfl (lv_at hl 2 rfl) ?_
        refine lv_iconst (v := 3) hx hb dX12_setTime_57 (by decide) ?_
        refine lv_lload_n hx hb dX12_setTime_58 rfl (lv_at hl 3 rfl) ?_
        obtain ⟨q12, h13, hf⟩ := bdE hf
        refine cV (As := [.int x1, .int 3, .long x2]) (rest := []) (k := 224) (ci := 10) (T := TX12) (N := 22) C0 w (m_X12_put l B _ q8 x1 3 x2 q12 h13) ky_X12_put kv_X12_put lk_X12_156 rfl (by decide +kernel) ⟨Nat.le_of_ble_eq_true rfl, Nat.le_of_ble_eq_true rfl⟩ ⟨Nat.le_of_ble_eq_true rfl, Nat.le_of_ble_eq_true rfl⟩ rfl (by rfl) (Nat.le_of_ble_eq_true rfl) hl.1 dX12_setTime_59 (fun H locs w => ?_)
        refine lv_lload hx hb dX12_setTime_62 (lv_at hl 0 rfl) ?_
        obtain rfl := Option.some.inj hf
        exact eL C0 hr w dX12_setTime_64
      · rw [if_neg c7] at hf
        refine lv_lconst (v := 0) hx hb dX12_setTime_41 (by decide) ?_
        obtain rfl := Option.some.inj hf
        exact eL C0 hr w dX12_setTime_42
    · rw [if_neg c6] at hf
      refine lv_iconst (v := 0) hx hb dX12_setTime_26 (by decide) ?_
      refine lv_goto (tgt := 31) hx hb dX12_setTime_27 (by decide) ?_
      refine pI C0 w fk_X12_62 fp_X12_5 (by decide +kernel) dX12_setTime_31 (fun H locs w => ?_)
      refine lv_aload_n hx hb dX12_setTime_34 rfl (lv_at hl 0 rfl) ?_
      refine gI C0 w fk_X12_62 (by decide +kernel) dX12_setTime_35 ?_
      refine lv_if_eq (tgt := 43) hx hb dX12_setTime_38 (by decide) (fun c14 => ?_) (fun c14 => ?_)
      · rw [if_pos c14] at hf
        refine lv_aload_n hx hb dX12_setTime_43 rfl (lv_at hl 0 rfl) ?_
        obtain ⟨q15, h16, hf⟩ := bdE hf
        refine cV (As := []) (rest := []) (k := 224) (ci := 10) (T := TX12) (N := 22) C0 w (m_X12_keep l B _ (setI σ 224 5 0) q15 h16) ky_X12_keep kv_X12_keep lk_X12_131 rfl (by decide +kernel) ⟨Nat.le_of_ble_eq_true rfl, Nat.le_of_ble_eq_true rfl⟩ ⟨Nat.le_of_ble_eq_true rfl, Nat.le_of_ble_eq_true rfl⟩ rfl (by rfl) (Nat.le_of_ble_eq_true rfl) hl.1 dX12_setTime_44 (fun H locs w => ?_)
        refine lv_aload_n hx hb dX12_setTime_47 rfl (lv_at hl 0 rfl) ?_
        refine lv_iload_n hx hb dX12_setTime_48 rfl (lv_at hl 1 rfl) ?_
        refine lv_iconst (v := 3) hx hb dX12_setTime_49 (by decide) ?_
        obtain ⟨q17, h18, hf⟩ := bdE hf
        refine cV (As := [.int x1, .int 3]) (rest := []) (k := 224) (ci := 10) (T := TX12) (N := 22) C0 w (m_X12_of l B _ q15 x1 3 q17 h18) ky_X12_of kv_X12_of lk_X12_83 rfl (by decide +kernel) ⟨Nat.le_of_ble_eq_true rfl, Nat.le_of_ble_eq_true rfl⟩ ⟨Nat.le_of_ble_eq_true rfl, Nat.le_of_ble_eq_true rfl⟩ rfl (by rfl) (Nat.le_of_ble_eq_true rfl) hl.1 dX12_setTime_50 (fun H locs w => ?_)
        refine lv_lstore (lv' := [(4, .long q17), (0, .ref (wA B 224)), (1, .int x1), (2, .long x2)]) hx hb dX12_setTime_53 hl (by decide) rfl (fun ls hl => ?_)
        refine lv_aload_n hx hb dX12_setTime_55 rfl (lv_at hl 1 rfl) ?_
        refine lv_iload_n hx hb dX12_setTime_56 rfl (lv_at hl 2 rfl) ?_
        refine lv_iconst (v := 3) hx hb dX12_setTime_57 (by decide) ?_
        refine lv_lload_n hx hb dX12_setTime_58 rfl (lv_at hl 3 rfl) ?_
        obtain ⟨q19, h20, hf⟩ := bdE hf
        refine cV (As := [.int x1, .int 3, .long x2]) (rest := []) (k := 224) (ci := 10) (T := TX12) (N := 22) C0 w (m_X12_put l B _ q15 x1 3 x2 q19 h20) ky_X12_put kv_X12_put lk_X12_156 rfl (by decide +kernel) ⟨Nat.le_of_ble_eq_true rfl, Nat.le_of_ble_eq_true rfl⟩ ⟨Nat.le_of_ble_eq_true rfl, Nat.le_of_ble_eq_true rfl⟩ rfl (by rfl) (Nat.le_of_ble_eq_true rfl) hl.1 dX12_setTime_59 (fun H locs w => ?_)
        refine lv_lload hx hb dX12_setTime_62 (lv_at hl 0 rfl) ?_
        obtain rfl := Option.some.inj hf
        exact eL C0 hr w dX12_setTime_64
      · rw [if_neg c14] at hf
        refine lv_lconst (v := 0) hx hb dX12_setTime_41 (by decide) ?_
        obtain rfl := Option.some.inj hf
        exact eL C0 hr w dX12_setTime_42
  · rw [if_pos c3] at hf
    refine lv_iconst (v := 1) hx hb dX12_setTime_9 (by decide) ?_
    refine lv_goto (tgt := 31) hx hb dX12_setTime_10 (by decide) ?_
    refine pI C0 w fk_X12_62 fp_X12_5 (by decide +kernel) dX12_setTime_31 (fun H locs w => ?_)
    refine lv_aload_n hx hb dX12_setTime_34 rfl (lv_at hl 0 rfl) ?_
    refine gI C0 w fk_X12_62 (by decide +kernel) dX12_setTime_35 ?_
    refine lv_if_eq (tgt := 43) hx hb dX12_setTime_38 (by decide) (fun c21 => ?_) (fun c21 => ?_)
    · rw [if_pos c21] at hf
      refine lv_aload_n hx hb dX12_setTime_43 rfl (lv_at hl 0 rfl) ?_
      obtain ⟨q22, h23, hf⟩ := bdE hf
      refine cV (As := []) (rest := []) (k := 224) (ci := 10) (T := TX12) (N := 22) C0 w (m_X12_keep l B _ (setI σ 224 5 1) q22 h23) ky_X12_keep kv_X12_keep lk_X12_131 rfl (by decide +kernel) ⟨Nat.le_of_ble_eq_true rfl, Nat.le_of_ble_eq_true rfl⟩ ⟨Nat.le_of_ble_eq_true rfl, Nat.le_of_ble_eq_true rfl⟩ rfl (by rfl) (Nat.le_of_ble_eq_true rfl) hl.1 dX12_setTime_44 (fun H locs w => ?_)
      refine lv_aload_n hx hb dX12_setTime_47 rfl (lv_at hl 0 rfl) ?_
      refine lv_iload_n hx hb dX12_setTime_48 rfl (lv_at hl 1 rfl) ?_
      refine lv_iconst (v := 3) hx hb dX12_setTime_49 (by decide) ?_
      obtain ⟨q24, h25, hf⟩ := bdE hf
      refine cV (As := [.int x1, .int 3]) (rest := []) (k := 224) (ci := 10) (T := TX12) (N := 22) C0 w (m_X12_of l B _ q22 x1 3 q24 h25) ky_X12_of kv_X12_of lk_X12_83 rfl (by decide +kernel) ⟨Nat.le_of_ble_eq_true rfl, Nat.le_of_ble_eq_true rfl⟩ ⟨Nat.le_of_ble_eq_true rfl, Nat.le_of_ble_eq_true rfl⟩ rfl (by rfl) (Nat.le_of_ble_eq_true rfl) hl.1 dX12_setTime_50 (fun H locs w => ?_)
      refine lv_lstore (lv' := [(4, .long q24), (0, .ref (wA B 224)), (1, .int x1), (2, .long x2)]) hx hb dX12_setTime_53 hl (by decide) rfl (fun ls hl => ?_)
      refine lv_aload_n hx hb dX12_setTime_55 rfl (lv_at hl 1 rfl) ?_
      refine lv_iload_n hx hb dX12_setTime_56 rfl (lv_at hl 2 rfl) ?_
      refine lv_iconst (v := 3) hx hb dX12_setTime_57 (by decide) ?_
      refine lv_lload_n hx hb dX12_setTime_58 rfl (lv_at hl 3 rfl) ?_
      obtain ⟨q26, h27, hf⟩ := bdE hf
      refine cV (As := [.int x1, .int 3, .long x2]) (rest := []) (k := 224) (ci := 10) (T := TX12) (N := 22) C0 w (m_X12_put l B _ q22 x1 3 x2 q26 h27) ky_X12_put kv_X12_put lk_X12_156 rfl (by decide +kernel) ⟨Nat.le_of_ble_eq_true rfl, Nat.le_of_ble_eq_true rfl⟩ ⟨Nat.le_of_ble_eq_true rfl, Nat.le_of_ble_eq_true rfl⟩ rfl (by rfl) (Nat.le_of_ble_eq_true rfl) hl.1 dX12_setTime_59 (fun H locs w => ?_)
      refine lv_lload hx hb dX12_setTime_62 (lv_at hl 0 rfl) ?_
      obtain rfl := Option.some.inj hf
      exact eL C0 hr w dX12_setTime_64
    · rw [if_neg c21] at hf
      refine lv_lconst (v := 0) hx hb dX12_setTime_41 (by decide) ?_
      obtain rfl := Option.some.inj hf
      exact eL C0 hr w dX12_setTime_42
def f_X12_isNoise (x0 : Int32) (x1 : Int32) (σ : Mem) : Option (Int32) :=
  bd (f_X12_in x0.toInt64 0 1000 σ) (fun q1 =>
  if q1 = 0 then (
    some 0)
  else (
    bd (f_X12_in x1.toInt64 0 999999 σ) (fun q4 =>
    if q4 = 0 then (
      some 0)
    else (
      some 1))))
abbrev rm_X12_isNoise : Room := { frames := 1, cells := 0, slots := 0, locals := 25 }
set_option maxHeartbeats 4000000 in
set_option maxRecDepth 100000 in
theorem m_X12_isNoise (l : Launch) (B : Wb) (sz : Nat) (σ : Mem) (x0 : Int32) (x1 : Int32) (q : Int32) (hf : f_X12_isNoise x0 x1 σ = some q) : MetC l yX12_isNoise cX12_isNoise 2 (some .boolean) rm_X12_isNoise B sz σ σ [.int x0, .int x1] (some (.int q)) := by
  refine met_in (by decide +kernel) (Nat.le_of_ble_eq_true rfl) ?_
  intro p e s m below meth c C0 hr w hsz ls hl
  have hx := C0.1.1
  have hb := C0.1.2.1
  unfold f_X12_isNoise at hf
  refine lv_iload_n hx hb dX12_isNoise_0 rfl (lv_at hl 0 rfl) ?_
  refine lv_i2l hx hb dX12_isNoise_1 rfl ?_
  refine lv_lconst (v := 0) hx hb dX12_isNoise_2 (by decide) ?_
  refine kLg C0 1000 kc_X12_56 dX12_isNoise_3 ?_
  obtain ⟨q1, h2, hf⟩ := bdE hf
  refine cS (As := [.long x0.toInt64, .long 0, .long 1000]) (rest := []) C0 w (m_X12_in l B _ σ x0.toInt64 0 1000 q1 h2) ky_X12_in ks_X12_in lk_X12_79 ⟨Nat.le_of_ble_eq_true rfl, Nat.le_of_ble_eq_true rfl⟩ ⟨Nat.le_of_ble_eq_true rfl, Nat.le_of_ble_eq_true rfl⟩ rfl (by rfl) (Nat.le_of_ble_eq_true rfl) hl.1 dX12_isNoise_6 (fun H locs w => ?_)
  refine lv_if_eq (tgt := 28) hx hb dX12_isNoise_9 (by decide) (fun c3 => ?_) (fun c3 => ?_)
  · rw [if_pos c3] at hf
    refine lv_iconst (v := 0) hx hb dX12_isNoise_28 (by decide) ?_
    obtain rfl := Option.some.inj hf
    exact eI C0 hr w (bzE (x := 0) (by decide)) dX12_isNoise_29
  · rw [if_neg c3] at hf
    refine lv_iload_n hx hb dX12_isNoise_12 rfl (lv_at hl 1 rfl) ?_
    refine lv_i2l hx hb dX12_isNoise_13 rfl ?_
    refine lv_lconst (v := 0) hx hb dX12_isNoise_14 (by decide) ?_
    refine kLg C0 999999 kc_X12_179 dX12_isNoise_15 ?_
    obtain ⟨q4, h5, hf⟩ := bdE hf
    refine cS (As := [.long x1.toInt64, .long 0, .long 999999]) (rest := []) C0 w (m_X12_in l B _ σ x1.toInt64 0 999999 q4 h5) ky_X12_in ks_X12_in lk_X12_79 ⟨Nat.le_of_ble_eq_true rfl, Nat.le_of_ble_eq_true rfl⟩ ⟨Nat.le_of_ble_eq_true rfl, Nat.le_of_ble_eq_true rfl⟩ rfl (by rfl) (Nat.le_of_ble_eq_true rfl) hl.1 dX12_isNoise_18 (fun H locs w => ?_)
    refine lv_if_eq (tgt := 28) hx hb dX12_isNoise_21 (by decide) (fun c6 => ?_) (fun c6 => ?_)
    · rw [if_pos c6] at hf
      refine lv_iconst (v := 0) hx hb dX12_isNoise_28 (by decide) ?_
      obtain rfl := Option.some.inj hf
      exact eI C0 hr w (bzE (x := 0) (by decide)) dX12_isNoise_29
    · rw [if_neg c6] at hf
      refine lv_iconst (v := 1) hx hb dX12_isNoise_24 (by decide) ?_
      refine lv_goto (tgt := 29) hx hb dX12_isNoise_25 (by decide) ?_
      obtain rfl := Option.some.inj hf
      exact eI C0 hr w (bzE (x := 1) (by decide)) dX12_isNoise_29
def f_X12_next (x0 : Int64) (σ : Mem) : Option (Int64) :=
  some (((1103515245 * x0) + 12345) - ((1103515245 * x0) + 12345) / 2147483648 * 2147483648)
abbrev rm_X12_next : Room := { frames := 0, cells := 0, slots := 0, locals := 0 }
set_option maxHeartbeats 4000000 in
set_option maxRecDepth 100000 in
theorem m_X12_next (l : Launch) (B : Wb) (sz : Nat) (σ : Mem) (x0 : Int64) (q : Int64) (hf : f_X12_next x0 σ = some q) : MetC l yX12_next cX12_next 2 (some .long) rm_X12_next B sz σ σ [.long x0] (some (.long q)) := by
  refine met_in (by decide +kernel) (Nat.le_of_ble_eq_true rfl) ?_
  intro p e s m below meth c C0 hr w hsz ls hl
  have hx := C0.1.1
  have hb := C0.1.2.1
  unfold f_X12_next at hf
  refine kLg C0 1103515245 kc_X12_181 dX12_next_0 ?_
  refine lv_lload_n hx hb dX12_next_3 rfl (lv_at hl 0 rfl) ?_
  refine lv_lmul hx hb dX12_next_4 ?_
  refine kLg C0 12345 kc_X12_183 dX12_next_5 ?_
  refine lv_ladd hx hb dX12_next_8 ?_
  refine kLg C0 2147483648 kc_X12_185 dX12_next_9 ?_
  refine lv_lrem hx hb dX12_next_12 (by decide) ?_
  obtain rfl := Option.some.inj hf
  exact eL C0 hr w dX12_next_13
def f_X12_takes_6 (x1 : Int32) : Nat → Int64 → Int32 → Mem → Option (Mem)
  | 0, _, _, _ => none
  | n + 1, x3, x5, σ =>
    if (σ.2 225 (7 : Int32).toNatClampNeg) ≤ x5.toInt64 then (
      some σ)
    else (
      bd (f_X12_next x3 σ) (fun q3 =>
      bd (f_X12_first x5 σ) (fun q5 =>
      bd (f_X12_spread q5 72 σ) (fun q7 =>
      gd (nz8 (((2 * x1) + 1).toInt64)) (
      bd (f_X12_last x5 q7) (fun q10 =>
      gd (inb q10 64) (
      bd (f_X12_held ((q7.2 228 q10.toNatClampNeg) + (1000 * (((q3 / 65536) - (q3 / 65536) / (((2 * x1) + 1).toInt64) * (((2 * x1) + 1).toInt64)) - x1.toInt64))) 0 1000000000000000 q7) (fun q13 =>
      bd (f_X12_put x5 3 q13 q7) (fun q15 =>
      f_X12_takes_6 x1 n q3 (x5 + 1) q15)))))))))
def f_X12_takes (x1 : Int32) (x2 : Int32) (σ : Mem) : Option (Int32 × Mem) :=
  bd (f_X12_takes_6 x1 100000 x2.toInt64 0 σ) (fun q1 =>
  some (((q1.2 225 (7 : Int32).toNatClampNeg).toInt32, q1)))
abbrev rm_X12_takes : Room := { frames := 4, cells := 0, slots := 0, locals := 100 }
set_option maxHeartbeats 4000000 in
set_option maxRecDepth 100000 in
theorem lp_X12_takes_6 {p : Program} {e : Env} {s : State} {m : MethodId} {args : Array Value} {below : List Frame} {meth : Method} {c : Code} {Q : State → Prop} (l : Launch) (B : Wb) (C0 : Cx p s m args meth c cX12_takes 8 RX12) (x1 : Int32) : ∀ (n : Nat) (x3 : Int64) (x5 : Int32) (σ : Mem) (o : Mem) (H : Heap) (locs : List Loc) (ls : Array Slot), f_X12_takes_6 x1 n x3 x5 σ = some o → Wx B σ s H locs → lv_has ls 8 [(0, .ref (wA B 224)), (1, .int x1), (3, .long x3), (5, .int x5)] → (∀ (H : Heap) (locs : List Loc) (ls : Array Slot), Wx B o s H locs → lv_has ls 8 [(0, .ref (wA B 224))] → W p l e rm_X12_takes s m args below meth c H locs 0 0 Q (F0 m 92 ls [])) → W p l e rm_X12_takes s m args below meth c H locs 0 0 Q (F0 m 6 ls []) := by
  have hx := C0.1.1
  have hb := C0.1.2.1
  intro n
  induction n with
  | zero =>
    intro x3 x5 σ o H locs ls hf w hl hK
    cases hf
  | succ n ih =>
    intro x3 x5 σ o H locs ls hf w hl hK
    rw [f_X12_takes_6] at hf
    refine lv_iload hx hb dX12_takes_6 (lv_at hl 3 rfl) ?_
    refine lv_i2l hx hb dX12_takes_8 rfl ?_
    refine lv_aload_n hx hb dX12_takes_9 rfl (lv_at hl 0 rfl) ?_
    refine gR C0 w 225 fk_X12_7 (by decide +kernel) dX12_takes_10 ?_
    refine lv_bipush (v := 7) hx hb dX12_takes_13 (by decide) ?_
    refine aL C0 w (n := 200) (by decide +kernel) (inbE (by decide)) dX12_takes_15 ?_
    refine lc_ge (tgt := 92) C0 dX12_takes_16 dX12_takes_17 (by decide) (fun c2 => ?_) (fun c2 => ?_)
    · rw [if_pos c2] at hf
      obtain rfl := Option.some.inj hf
      exact hK _ _ _ w (lv_sub hl [0] rfl)
    · rw [if_neg c2] at hf
      refine lv_lload_n hx hb dX12_takes_20 rfl (lv_at hl 2 rfl) ?_
      obtain ⟨q3, h4, hf⟩ := bdE hf
      refine cS (As := [.long x3]) (rest := []) C0 w (m_X12_next l B _ σ x3 q3 h4) ky_X12_next ks_X12_next lk_X12_187 ⟨Nat.le_of_ble_eq_true rfl, Nat.le_of_ble_eq_true rfl⟩ ⟨Nat.le_of_ble_eq_true rfl, Nat.le_of_ble_eq_true rfl⟩ rfl (by rfl) (Nat.le_of_ble_eq_true rfl) hl.1 dX12_takes_21 (fun H locs w => ?_)
      refine lv_lstore_n (lv' := [(3, .long q3), (0, .ref (wA B 224)), (1, .int x1), (5, .int x5)]) hx hb dX12_takes_24 rfl hl (by decide) rfl (fun ls hl => ?_)
      refine lv_aload_n hx hb dX12_takes_25 rfl (lv_at hl 1 rfl) ?_
      refine lv_aload_n hx hb dX12_takes_26 rfl (lv_at hl 1 rfl) ?_
      refine lv_iload hx hb dX12_takes_27 (lv_at hl 3 rfl) ?_
      obtain ⟨q5, h6, hf⟩ := bdE hf
      refine cV (As := [.int x5]) (rest := [.ref (wA B 224)]) (k := 224) (ci := 10) (T := TX12) (N := 22) C0 w (m_X12_first l B _ σ x5 q5 h6) ky_X12_first kv_X12_first lk_X12_104 rfl (by decide +kernel) ⟨Nat.le_of_ble_eq_true rfl, Nat.le_of_ble_eq_true rfl⟩ ⟨Nat.le_of_ble_eq_true rfl, Nat.le_of_ble_eq_true rfl⟩ rfl (by rfl) (Nat.le_of_ble_eq_true rfl) hl.1 dX12_takes_29 (fun H locs w => ?_)
      refine lv_bipush (v := 72) hx hb dX12_takes_32 (by decide) ?_
      obtain ⟨q7, h8, hf⟩ := bdE hf
      refine cV (As := [.int q5, .int 72]) (rest := []) (k := 224) (ci := 10) (T := TX12) (N := 22) C0 w (m_X12_spread l B _ σ q5 72 q7 h8) ky_X12_spread kv_X12_spread lk_X12_108 rfl (by decide +kernel) ⟨Nat.le_of_ble_eq_true rfl, Nat.le_of_ble_eq_true rfl⟩ ⟨Nat.le_of_ble_eq_true rfl, Nat.le_of_ble_eq_true rfl⟩ rfl (by rfl) (Nat.le_of_ble_eq_true rfl) hl.1 dX12_takes_34 (fun H locs w => ?_)
      refine kLg C0 1000 kc_X12_56 dX12_takes_37 ?_
      refine lv_lload_n hx hb dX12_takes_40 rfl (lv_at hl 0 rfl) ?_
      refine kLg C0 65536 kc_X12_191 dX12_takes_41 ?_
      refine lv_ldiv hx hb dX12_takes_44 (by decide) ?_
      refine lv_iconst (v := 2) hx hb dX12_takes_45 (by decide) ?_
      refine lv_iload_n hx hb dX12_takes_46 rfl (lv_at hl 2 rfl) ?_
      refine lv_imul hx hb dX12_takes_47 ?_
      refine lv_iconst (v := 1) hx hb dX12_takes_48 (by decide) ?_
      refine lv_iadd hx hb dX12_takes_49 ?_
      refine lv_i2l hx hb dX12_takes_50 rfl ?_
      obtain ⟨g9, hf⟩ := gdE hf
      refine lv_lrem hx hb dX12_takes_51 (nz8E g9) ?_
      refine lv_iload_n hx hb dX12_takes_52 rfl (lv_at hl 2 rfl) ?_
      refine lv_i2l hx hb dX12_takes_53 rfl ?_
      refine lv_lsub hx hb dX12_takes_54 ?_
      refine lv_lmul hx hb dX12_takes_55 ?_
      refine lv_lstore (lv' := [(6, .long (1000 * (((q3 / 65536) - (q3 / 65536) / (((2 * x1) + 1).toInt64) * (((2 * x1) + 1).toInt64)) - x1.toInt64))), (3, .long q3), (0, .ref (wA B 224)), (1, .int x1), (5, .int x5)]) hx hb dX12_takes_56 hl (by decide) rfl (fun ls hl => ?_)
      refine lv_aload_n hx hb dX12_takes_58 rfl (lv_at hl 2 rfl) ?_
      refine lv_iload hx hb dX12_takes_59 (lv_at hl 4 rfl) ?_
      refine lv_iconst (v := 3) hx hb dX12_takes_61 (by decide) ?_
      refine lv_aload_n hx hb dX12_takes_62 rfl (lv_at hl 2 rfl) ?_
      refine gR C0 w 228 fk_X12_20 (by decide +kernel) dX12_takes_63 ?_
      refine lv_aload_n hx hb dX12_takes_66 rfl (lv_at hl 2 rfl) ?_
      refine lv_iload hx hb dX12_takes_67 (lv_at hl 4 rfl) ?_
      obtain ⟨q10, h11, hf⟩ := bdE hf
      refine cV (As := [.int x5]) (rest := [.ref (wA B 228), .int 3, .int x5, .ref (wA B 224)]) (k := 224) (ci := 10) (T := TX12) (N := 22) C0 w (m_X12_last l B _ q7 x5 q10 h11) ky_X12_last kv_X12_last lk_X12_111 rfl (by decide +kernel) ⟨Nat.le_of_ble_eq_true rfl, Nat.le_of_ble_eq_true rfl⟩ ⟨Nat.le_of_ble_eq_true rfl, Nat.le_of_ble_eq_true rfl⟩ rfl (by rfl) (Nat.le_of_ble_eq_true rfl) hl.1 dX12_takes_69 (fun H locs w => ?_)
      obtain ⟨g12, hf⟩ := gdE hf
      refine aL C0 w (n := 64) (by decide +kernel) (inbE g12) dX12_takes_72 ?_
      refine lv_lload hx hb dX12_takes_73 (lv_at hl 0 rfl) ?_
      refine lv_ladd hx hb dX12_takes_75 ?_
      refine lv_lconst (v := 0) hx hb dX12_takes_76 (by decide) ?_
      refine kLg C0 1000000000000000 kc_X12_95 dX12_takes_77 ?_
      obtain ⟨q13, h14, hf⟩ := bdE hf
      refine cS (As := [.long ((q7.2 228 q10.toNatClampNeg) + (1000 * (((q3 / 65536) - (q3 / 65536) / (((2 * x1) + 1).toInt64) * (((2 * x1) + 1).toInt64)) - x1.toInt64))), .long 0, .long 1000000000000000]) (rest := [.int 3, .int x5, .ref (wA B 224)]) C0 w (m_X12_held l B _ q7 ((q7.2 228 q10.toNatClampNeg) + (1000 * (((q3 / 65536) - (q3 / 65536) / (((2 * x1) + 1).toInt64) * (((2 * x1) + 1).toInt64)) - x1.toInt64))) 0 1000000000000000 q13 h14) ky_X12_held ks_X12_held lk_X12_148 ⟨Nat.le_of_ble_eq_true rfl, Nat.le_of_ble_eq_true rfl⟩ ⟨Nat.le_of_ble_eq_true rfl, Nat.le_of_ble_eq_true rfl⟩ rfl (by rfl) (Nat.le_of_ble_eq_true rfl) hl.1 dX12_takes_80 (fun H locs w => ?_)
      obtain ⟨q15, h16, hf⟩ := bdE hf
      refine cV (As := [.int x5, .int 3, .long q13]) (rest := []) (k := 224) (ci := 10) (T := TX12) (N := 22) C0 w (m_X12_put l B _ q7 x5 3 q13 q15 h16) ky_X12_put kv_X12_put lk_X12_156 rfl (by decide +kernel) ⟨Nat.le_of_ble_eq_true rfl, Nat.le_of_ble_eq_true rfl⟩ ⟨Nat.le_of_ble_eq_true rfl, Nat.le_of_ble_eq_true rfl⟩ rfl (by rfl) (Nat.le_of_ble_eq_true rfl) hl.1 dX12_takes_83 (fun H locs w => ?_)
      refine lv_iinc (k := 4) (v := x5 + 1) (lv' := [(5, .int (x5 + 1)), (6, .long (1000 * (((q3 / 65536) - (q3 / 65536) / (((2 * x1) + 1).toInt64) * (((2 * x1) + 1).toInt64)) - x1.toInt64))), (3, .long q3), (0, .ref (wA B 224)), (1, .int x1)]) hx hb dX12_takes_86 hl rfl (by rfl) (by decide) rfl (fun ls hl => ?_)
      refine lv_goto (tgt := 6) hx hb dX12_takes_89 (by decide) ?_
      exact ih q3 (x5 + 1) q15 _ _ _ _ hf w (lv_sub hl [3, 4, 2, 0] rfl) hK
set_option maxHeartbeats 4000000 in
set_option maxRecDepth 100000 in
theorem m_X12_takes (l : Launch) (B : Wb) (sz : Nat) (σ : Mem) (x1 : Int32) (x2 : Int32) (q : Int32 × Mem) (hf : f_X12_takes x1 x2 σ = some q) : MetC l yX12_takes cX12_takes 8 (some .int) rm_X12_takes B sz σ q.2 [.ref (wA B 224), .int x1, .int x2] (some (.int q.1)) := by
  refine met_in (by decide +kernel) (Nat.le_of_ble_eq_true rfl) ?_
  intro p e s m below meth c C0 hr w hsz ls hl
  have hx := C0.1.1
  have hb := C0.1.2.1
  unfold f_X12_takes at hf
  refine lv_iload_n hx hb dX12_takes_0 rfl (lv_at hl 2 rfl) ?_
  refine lv_i2l hx hb dX12_takes_1 rfl ?_
  refine lv_lstore_n (lv' := [(3, .long x2.toInt64), (0, .ref (wA B 224)), (1, .int x1), (2, .int x2)]) hx hb dX12_takes_2 rfl hl (by decide) rfl (fun ls hl => ?_)
  refine lv_iconst (v := 0) hx hb dX12_takes_3 (by decide) ?_
  refine lv_istore (lv' := [(5, .int 0), (3, .long x2.toInt64), (0, .ref (wA B 224)), (1, .int x1), (2, .int x2)]) hx hb dX12_takes_4 hl (by decide) rfl (fun ls hl => ?_)
  obtain ⟨q1, h2, hf⟩ := bdE hf
  refine lp_X12_takes_6 l B C0 x1 100000 x2.toInt64 0 σ q1 _ _ _ h2 w (lv_sub hl [2, 3, 1, 0] rfl) (fun H locs ls w hl => ?_)
  refine lv_aload_n hx hb dX12_takes_92 rfl (lv_at hl 0 rfl) ?_
  refine gR C0 w 225 fk_X12_7 (by decide +kernel) dX12_takes_93 ?_
  refine lv_bipush (v := 7) hx hb dX12_takes_96 (by decide) ?_
  refine aL C0 w (n := 200) (by decide +kernel) (inbE (by decide)) dX12_takes_98 ?_
  refine lv_l2i hx hb dX12_takes_99 rfl ?_
  obtain rfl := Option.some.inj hf
  exact eI C0 hr w rfl dX12_takes_100
def f_X12_observe (x1 : Int32) (x2 : Int32) (σ : Mem) : Option (Int32 × Mem) :=
  bd (f_X12_isNoise x1 x2 σ) (fun q1 =>
  if q1 = 0 then (
    if ((setI σ 224 5 1).1 224 5) = 0 then (
      bd (f_X12_keep (setI σ 224 5 1)) (fun q5 =>
      bd (f_X12_takes x1 x2 q5) (fun q7 =>
      some ((q7.1, q7.2)))))
    else (
      some ((0, setI σ 224 5 1))))
  else (
    if ((setI σ 224 5 0).1 224 5) = 0 then (
      bd (f_X12_keep (setI σ 224 5 0)) (fun q10 =>
      bd (f_X12_takes x1 x2 q10) (fun q12 =>
      some ((q12.1, q12.2)))))
    else (
      some ((0, setI σ 224 5 0)))))
abbrev rm_X12_observe : Room := { frames := 5, cells := 0, slots := 0, locals := 127 }
set_option maxHeartbeats 4000000 in
set_option maxRecDepth 100000 in
theorem m_X12_observe (l : Launch) (B : Wb) (sz : Nat) (σ : Mem) (x1 : Int32) (x2 : Int32) (q : Int32 × Mem) (hf : f_X12_observe x1 x2 σ = some q) : MetC l yX12_observe cX12_observe 3 (some .int) rm_X12_observe B sz σ q.2 [.ref (wA B 224), .int x1, .int x2] (some (.int q.1)) := by
  refine met_in (by decide +kernel) (Nat.le_of_ble_eq_true rfl) ?_
  intro p e s m below meth c C0 hr w hsz ls hl
  have hx := C0.1.1
  have hb := C0.1.2.1
  unfold f_X12_observe at hf
  refine lv_aload_n hx hb dX12_observe_0 rfl (lv_at hl 0 rfl) ?_
  refine lv_iload_n hx hb dX12_observe_1 rfl (lv_at hl 1 rfl) ?_
  refine lv_iload_n hx hb dX12_observe_2 rfl (lv_at hl 2 rfl) ?_
  obtain ⟨q1, h2, hf⟩ := bdE hf
  refine cS (As := [.int x1, .int x2]) (rest := [.ref (wA B 224)]) C0 w (m_X12_isNoise l B _ σ x1 x2 q1 h2) ky_X12_isNoise ks_X12_isNoise lk_X12_193 ⟨Nat.le_of_ble_eq_true rfl, Nat.le_of_ble_eq_true rfl⟩ ⟨Nat.le_of_ble_eq_true rfl, Nat.le_of_ble_eq_true rfl⟩ rfl (by rfl) (Nat.le_of_ble_eq_true rfl) hl.1 dX12_observe_3 (fun H locs w => ?_)
  refine lv_if_eq (tgt := 13) hx hb dX12_observe_6 (by decide) (fun c3 => ?_) (fun c3 => ?_)
  · rw [if_pos c3] at hf
    refine lv_iconst (v := 1) hx hb dX12_observe_13 (by decide) ?_
    refine pI C0 w fk_X12_62 fp_X12_5 (by decide +kernel) dX12_observe_14 (fun H locs w => ?_)
    refine lv_aload_n hx hb dX12_observe_17 rfl (lv_at hl 0 rfl) ?_
    refine gI C0 w fk_X12_62 (by decide +kernel) dX12_observe_18 ?_
    refine lv_if_eq (tgt := 26) hx hb dX12_observe_21 (by decide) (fun c4 => ?_) (fun c4 => ?_)
    · rw [if_pos c4] at hf
      refine lv_aload_n hx hb dX12_observe_26 rfl (lv_at hl 0 rfl) ?_
      obtain ⟨q5, h6, hf⟩ := bdE hf
      refine cV (As := []) (rest := []) (k := 224) (ci := 10) (T := TX12) (N := 22) C0 w (m_X12_keep l B _ (setI σ 224 5 1) q5 h6) ky_X12_keep kv_X12_keep lk_X12_131 rfl (by decide +kernel) ⟨Nat.le_of_ble_eq_true rfl, Nat.le_of_ble_eq_true rfl⟩ ⟨Nat.le_of_ble_eq_true rfl, Nat.le_of_ble_eq_true rfl⟩ rfl (by rfl) (Nat.le_of_ble_eq_true rfl) hl.1 dX12_observe_27 (fun H locs w => ?_)
      refine lv_aload_n hx hb dX12_observe_30 rfl (lv_at hl 0 rfl) ?_
      refine lv_iload_n hx hb dX12_observe_31 rfl (lv_at hl 1 rfl) ?_
      refine lv_iload_n hx hb dX12_observe_32 rfl (lv_at hl 2 rfl) ?_
      obtain ⟨q7, h8, hf⟩ := bdE hf
      refine cV (As := [.int x1, .int x2]) (rest := []) (k := 224) (ci := 10) (T := TX12) (N := 22) C0 w (m_X12_takes l B _ q5 x1 x2 q7 h8) ky_X12_takes kv_X12_takes lk_X12_197 rfl (by decide +kernel) ⟨Nat.le_of_ble_eq_true rfl, Nat.le_of_ble_eq_true rfl⟩ ⟨Nat.le_of_ble_eq_true rfl, Nat.le_of_ble_eq_true rfl⟩ rfl (by rfl) (Nat.le_of_ble_eq_true rfl) hl.1 dX12_observe_33 (fun H locs w => ?_)
      obtain rfl := Option.some.inj hf
      exact eI C0 hr w rfl dX12_observe_36
    · rw [if_neg c4] at hf
      refine lv_iconst (v := 0) hx hb dX12_observe_24 (by decide) ?_
      obtain rfl := Option.some.inj hf
      exact eI C0 hr w rfl dX12_observe_25
  · rw [if_neg c3] at hf
    refine lv_iconst (v := 0) hx hb dX12_observe_9 (by decide) ?_
    refine lv_goto (tgt := 14) hx hb dX12_observe_10 (by decide) ?_
    refine pI C0 w fk_X12_62 fp_X12_5 (by decide +kernel) dX12_observe_14 (fun H locs w => ?_)
    refine lv_aload_n hx hb dX12_observe_17 rfl (lv_at hl 0 rfl) ?_
    refine gI C0 w fk_X12_62 (by decide +kernel) dX12_observe_18 ?_
    refine lv_if_eq (tgt := 26) hx hb dX12_observe_21 (by decide) (fun c9 => ?_) (fun c9 => ?_)
    · rw [if_pos c9] at hf
      refine lv_aload_n hx hb dX12_observe_26 rfl (lv_at hl 0 rfl) ?_
      obtain ⟨q10, h11, hf⟩ := bdE hf
      refine cV (As := []) (rest := []) (k := 224) (ci := 10) (T := TX12) (N := 22) C0 w (m_X12_keep l B _ (setI σ 224 5 0) q10 h11) ky_X12_keep kv_X12_keep lk_X12_131 rfl (by decide +kernel) ⟨Nat.le_of_ble_eq_true rfl, Nat.le_of_ble_eq_true rfl⟩ ⟨Nat.le_of_ble_eq_true rfl, Nat.le_of_ble_eq_true rfl⟩ rfl (by rfl) (Nat.le_of_ble_eq_true rfl) hl.1 dX12_observe_27 (fun H locs w => ?_)
      refine lv_aload_n hx hb dX12_observe_30 rfl (lv_at hl 0 rfl) ?_
      refine lv_iload_n hx hb dX12_observe_31 rfl (lv_at hl 1 rfl) ?_
      refine lv_iload_n hx hb dX12_observe_32 rfl (lv_at hl 2 rfl) ?_
      obtain ⟨q12, h13, hf⟩ := bdE hf
      refine cV (As := [.int x1, .int x2]) (rest := []) (k := 224) (ci := 10) (T := TX12) (N := 22) C0 w (m_X12_takes l B _ q10 x1 x2 q12 h13) ky_X12_takes kv_X12_takes lk_X12_197 rfl (by decide +kernel) ⟨Nat.le_of_ble_eq_true rfl, Nat.le_of_ble_eq_true rfl⟩ ⟨Nat.le_of_ble_eq_true rfl, Nat.le_of_ble_eq_true rfl⟩ rfl (by rfl) (Nat.le_of_ble_eq_true rfl) hl.1 dX12_observe_33 (fun H locs w => ?_)
      obtain rfl := Option.some.inj hf
      exact eI C0 hr w rfl dX12_observe_36
    · rw [if_neg c9] at hf
      refine lv_iconst (v := 0) hx hb dX12_observe_24 (by decide) ?_
      obtain rfl := Option.some.inj hf
      exact eI C0 hr w rfl dX12_observe_25
def f_X12_setOrder (x1 : Int32) (x2 : Int32) (x3 : Int32) (σ : Mem) : Option (Int32 × Mem) :=
  bd (f_X12_in x1.toInt64 1 2000 σ) (fun q1 =>
  if q1 = 0 then (
    if ((setI σ 224 5 1).1 224 5) = 0 then (
      bd (f_X12_keep (setI σ 224 5 1)) (fun q5 =>
      bd (some (setL (setL (setL q5 225 ((4 : Int32).toNatClampNeg) x1.toInt64) 225 ((5 : Int32).toNatClampNeg) x2.toInt64) 225 ((6 : Int32).toNatClampNeg) x3.toInt64)) (fun q11 =>
      some (((q5.2 225 (4 : Int32).toNatClampNeg).toInt32, q11)))))
    else (
      some ((0, setI σ 224 5 1))))
  else (
    bd (f_X12_in x2.toInt64 0 3 σ) (fun q13 =>
    if q13 = 0 then (
      if ((setI σ 224 5 1).1 224 5) = 0 then (
        bd (f_X12_keep (setI σ 224 5 1)) (fun q17 =>
        bd (some (setL (setL (setL q17 225 ((4 : Int32).toNatClampNeg) x1.toInt64) 225 ((5 : Int32).toNatClampNeg) x2.toInt64) 225 ((6 : Int32).toNatClampNeg) x3.toInt64)) (fun q23 =>
        some (((q17.2 225 (4 : Int32).toNatClampNeg).toInt32, q23)))))
      else (
        some ((0, setI σ 224 5 1))))
    else (
      bd (f_X12_in x3.toInt64 0 999999 σ) (fun q25 =>
      if q25 = 0 then (
        if ((setI σ 224 5 1).1 224 5) = 0 then (
          bd (f_X12_keep (setI σ 224 5 1)) (fun q29 =>
          bd (some (setL (setL (setL q29 225 ((4 : Int32).toNatClampNeg) x1.toInt64) 225 ((5 : Int32).toNatClampNeg) x2.toInt64) 225 ((6 : Int32).toNatClampNeg) x3.toInt64)) (fun q35 =>
          some (((q29.2 225 (4 : Int32).toNatClampNeg).toInt32, q35)))))
        else (
          some ((0, setI σ 224 5 1))))
      else (
        if ((setI σ 224 5 0).1 224 5) = 0 then (
          bd (f_X12_keep (setI σ 224 5 0)) (fun q38 =>
          bd (some (setL (setL (setL q38 225 ((4 : Int32).toNatClampNeg) x1.toInt64) 225 ((5 : Int32).toNatClampNeg) x2.toInt64) 225 ((6 : Int32).toNatClampNeg) x3.toInt64)) (fun q44 =>
          some (((q38.2 225 (4 : Int32).toNatClampNeg).toInt32, q44)))))
        else (
          some ((0, setI σ 224 5 0)))))))))
abbrev rm_X12_setOrder : Room := { frames := 1, cells := 0, slots := 0, locals := 25 }
set_option maxHeartbeats 4000000 in
set_option maxRecDepth 100000 in
theorem m_X12_setOrder (l : Launch) (B : Wb) (sz : Nat) (σ : Mem) (x1 : Int32) (x2 : Int32) (x3 : Int32) (q : Int32 × Mem) (hf : f_X12_setOrder x1 x2 x3 σ = some q) : MetC l yX12_setOrder cX12_setOrder 5 (some .int) rm_X12_setOrder B sz σ q.2 [.ref (wA B 224), .int x1, .int x2, .int x3] (some (.int q.1)) := by
  refine met_in (by decide +kernel) (Nat.le_of_ble_eq_true rfl) ?_
  intro p e s m below meth c C0 hr w hsz ls hl
  have hx := C0.1.1
  have hb := C0.1.2.1
  unfold f_X12_setOrder at hf
  refine lv_aload_n hx hb dX12_setOrder_0 rfl (lv_at hl 0 rfl) ?_
  refine lv_iload_n hx hb dX12_setOrder_1 rfl (lv_at hl 1 rfl) ?_
  refine lv_i2l hx hb dX12_setOrder_2 rfl ?_
  refine lv_lconst (v := 1) hx hb dX12_setOrder_3 (by decide) ?_
  refine kLg C0 2000 kc_X12_200 dX12_setOrder_4 ?_
  obtain ⟨q1, h2, hf⟩ := bdE hf
  refine cS (As := [.long x1.toInt64, .long 1, .long 2000]) (rest := [.ref (wA B 224)]) C0 w (m_X12_in l B _ σ x1.toInt64 1 2000 q1 h2) ky_X12_in ks_X12_in lk_X12_79 ⟨Nat.le_of_ble_eq_true rfl, Nat.le_of_ble_eq_true rfl⟩ ⟨Nat.le_of_ble_eq_true rfl, Nat.le_of_ble_eq_true rfl⟩ rfl (by rfl) (Nat.le_of_ble_eq_true rfl) hl.1 dX12_setOrder_7 (fun H locs w => ?_)
  refine lv_if_eq (tgt := 41) hx hb dX12_setOrder_10 (by decide) (fun c3 => ?_) (fun c3 => ?_)
  · rw [if_pos c3] at hf
    refine lv_iconst (v := 1) hx hb dX12_setOrder_41 (by decide) ?_
    refine pI C0 w fk_X12_62 fp_X12_5 (by decide +kernel) dX12_setOrder_42 (fun H locs w => ?_)
    refine lv_aload_n hx hb dX12_setOrder_45 rfl (lv_at hl 0 rfl) ?_
    refine gI C0 w fk_X12_62 (by decide +kernel) dX12_setOrder_46 ?_
    refine lv_if_eq (tgt := 54) hx hb dX12_setOrder_49 (by decide) (fun c4 => ?_) (fun c4 => ?_)
    · rw [if_pos c4] at hf
      refine lv_aload_n hx hb dX12_setOrder_54 rfl (lv_at hl 0 rfl) ?_
      obtain ⟨q5, h6, hf⟩ := bdE hf
      refine cV (As := []) (rest := []) (k := 224) (ci := 10) (T := TX12) (N := 22) C0 w (m_X12_keep l B _ (setI σ 224 5 1) q5 h6) ky_X12_keep kv_X12_keep lk_X12_131 rfl (by decide +kernel) ⟨Nat.le_of_ble_eq_true rfl, Nat.le_of_ble_eq_true rfl⟩ ⟨Nat.le_of_ble_eq_true rfl, Nat.le_of_ble_eq_true rfl⟩ rfl (by rfl) (Nat.le_of_ble_eq_true rfl) hl.1 dX12_setOrder_55 (fun H locs w => ?_)
      refine lv_aload_n hx hb dX12_setOrder_58 rfl (lv_at hl 0 rfl) ?_
      refine gR C0 w 225 fk_X12_7 (by decide +kernel) dX12_setOrder_59 ?_
      refine lv_iconst (v := 4) hx hb dX12_setOrder_62 (by decide) ?_
      refine aL C0 w (n := 200) (by decide +kernel) (inbE (by decide)) dX12_setOrder_63 ?_
      refine lv_l2i hx hb dX12_setOrder_64 rfl ?_
      refine lv_istore (lv' := [(4, .int ((q5.2 225 (4 : Int32).toNatClampNeg).toInt32)), (0, .ref (wA B 224)), (1, .int x1), (2, .int x2), (3, .int x3)]) hx hb dX12_setOrder_65 hl (by decide) rfl (fun ls hl => ?_)
      refine lv_aload_n hx hb dX12_setOrder_67 rfl (lv_at hl 1 rfl) ?_
      refine gR C0 w 225 fk_X12_7 (by decide +kernel) dX12_setOrder_68 ?_
      refine lv_iconst (v := 4) hx hb dX12_setOrder_71 (by decide) ?_
      refine lv_iload_n hx hb dX12_setOrder_72 rfl (lv_at hl 2 rfl) ?_
      refine lv_i2l hx hb dX12_setOrder_73 rfl ?_
      refine sL C0 w (n := 200) (by decide +kernel) (inbE (by decide)) dX12_setOrder_74 (fun H locs w => ?_)
      refine lv_aload_n hx hb dX12_setOrder_75 rfl (lv_at hl 1 rfl) ?_
      refine gR C0 w 225 fk_X12_7 (by decide +kernel) dX12_setOrder_76 ?_
      refine lv_iconst (v := 5) hx hb dX12_setOrder_79 (by decide) ?_
      refine lv_iload_n hx hb dX12_setOrder_80 rfl (lv_at hl 3 rfl) ?_
      refine lv_i2l hx hb dX12_setOrder_81 rfl ?_
      refine sL C0 w (n := 200) (by decide +kernel) (inbE (by decide)) dX12_setOrder_82 (fun H locs w => ?_)
      refine lv_aload_n hx hb dX12_setOrder_83 rfl (lv_at hl 1 rfl) ?_
      refine gR C0 w 225 fk_X12_7 (by decide +kernel) dX12_setOrder_84 ?_
      refine lv_bipush (v := 6) hx hb dX12_setOrder_87 (by decide) ?_
      refine lv_iload_n hx hb dX12_setOrder_89 rfl (lv_at hl 4 rfl) ?_
      refine lv_i2l hx hb dX12_setOrder_90 rfl ?_
      refine sL C0 w (n := 200) (by decide +kernel) (inbE (by decide)) dX12_setOrder_91 (fun H locs w => ?_)
      obtain ⟨q11, h12, hf⟩ := bdE hf
      have w : Wx B q11 s H locs := by rw [← Option.some.inj h12]; exact w
      refine lv_iload hx hb dX12_setOrder_92 (lv_at hl 0 rfl) ?_
      obtain rfl := Option.some.inj hf
      exact eI C0 hr w rfl dX12_setOrder_94
    · rw [if_neg c4] at hf
      refine lv_iconst (v := 0) hx hb dX12_setOrder_52 (by decide) ?_
      obtain rfl := Option.some.inj hf
      exact eI C0 hr w rfl dX12_setOrder_53
  · rw [if_neg c3] at hf
    refine lv_iload_n hx hb dX12_setOrder_13 rfl (lv_at hl 2 rfl) ?_
    refine lv_i2l hx hb dX12_setOrder_14 rfl ?_
    refine lv_lconst (v := 0) hx hb dX12_setOrder_15 (by decide) ?_
    refine kLg C0 3 kc_X12_202 dX12_setOrder_16 ?_
    obtain ⟨q13, h14, hf⟩ := bdE hf
    refine cS (As := [.long x2.toInt64, .long 0, .long 3]) (rest := [.ref (wA B 224)]) C0 w (m_X12_in l B _ σ x2.toInt64 0 3 q13 h14) ky_X12_in ks_X12_in lk_X12_79 ⟨Nat.le_of_ble_eq_true rfl, Nat.le_of_ble_eq_true rfl⟩ ⟨Nat.le_of_ble_eq_true rfl, Nat.le_of_ble_eq_true rfl⟩ rfl (by rfl) (Nat.le_of_ble_eq_true rfl) hl.1 dX12_setOrder_19 (fun H locs w => ?_)
    refine lv_if_eq (tgt := 41) hx hb dX12_setOrder_22 (by decide) (fun c15 => ?_) (fun c15 => ?_)
    · rw [if_pos c15] at hf
      refine lv_iconst (v := 1) hx hb dX12_setOrder_41 (by decide) ?_
      refine pI C0 w fk_X12_62 fp_X12_5 (by decide +kernel) dX12_setOrder_42 (fun H locs w => ?_)
      refine lv_aload_n hx hb dX12_setOrder_45 rfl (lv_at hl 0 rfl) ?_
      refine gI C0 w fk_X12_62 (by decide +kernel) dX12_setOrder_46 ?_
      refine lv_if_eq (tgt := 54) hx hb dX12_setOrder_49 (by decide) (fun c16 => ?_) (fun c16 => ?_)
      · rw [if_pos c16] at hf
        refine lv_aload_n hx hb dX12_setOrder_54 rfl (lv_at hl 0 rfl) ?_
        obtain ⟨q17, h18, hf⟩ := bdE hf
        refine cV (As := []) (rest := []) (k := 224) (ci := 10) (T := TX12) (N := 22) C0 w (m_X12_keep l B _ (setI σ 224 5 1) q17 h18) ky_X12_keep kv_X12_keep lk_X12_131 rfl (by decide +kernel) ⟨Nat.le_of_ble_eq_true rfl, Nat.le_of_ble_eq_true rfl⟩ ⟨Nat.le_of_ble_eq_true rfl, Nat.le_of_ble_eq_true rfl⟩ rfl (by rfl) (Nat.le_of_ble_eq_true rfl) hl.1 dX12_setOrder_55 (fun H locs w => ?_)
        refine lv_aload_n hx hb dX12_setOrder_58 rfl (lv_at hl 0 rfl) ?_
        refine gR C0 w 225 fk_X12_7 (by decide +kernel) dX12_setOrder_59 ?_
        refine lv_iconst (v := 4) hx hb dX12_setOrder_62 (by decide) ?_
        refine aL C0 w (n := 200) (by decide +kernel) (inbE (by decide)) dX12_setOrder_63 ?_
        refine lv_l2i hx hb dX12_setOrder_64 rfl ?_
        refine lv_istore (lv' := [(4, .int ((q17.2 225 (4 : Int32).toNatClampNeg).toInt32)), (0, .ref (wA B 224)), (1, .int x1), (2, .int x2), (3, .int x3)]) hx hb dX12_setOrder_65 hl (by decide) rfl (fun ls hl => ?_)
        refine lv_aload_n hx hb dX12_setOrder_67 rfl (lv_at hl 1 rfl) ?_
        refine gR C0 w 225 fk_X12_7 (by decide +kernel) dX12_setOrder_68 ?_
        refine lv_iconst (v := 4) hx hb dX12_setOrder_71 (by decide) ?_
        refine lv_iload_n hx hb dX12_setOrder_72 rfl (lv_at hl 2 rfl) ?_
        refine lv_i2l hx hb dX12_setOrder_73 rfl ?_
        refine sL C0 w (n := 200) (by decide +kernel) (inbE (by decide)) dX12_setOrder_74 (fun H locs w => ?_)
        refine lv_aload_n hx hb dX12_setOrder_75 rfl (lv_at hl 1 rfl) ?_
        refine gR C0 w 225 fk_X12_7 (by decide +kernel) dX12_setOrder_76 ?_
        refine lv_iconst (v := 5) hx hb dX12_setOrder_79 (by decide) ?_
        refine lv_iload_n hx hb dX12_setOrder_80 rfl (lv_at hl 3 rfl) ?_
        refine lv_i2l hx hb dX12_setOrder_81 rfl ?_
        refine sL C0 w (n := 200) (by decide +kernel) (inbE (by decide)) dX12_setOrder_82 (fun H locs w => ?_)
        refine lv_aload_n hx hb dX12_setOrder_83 rfl (lv_at hl 1 rfl) ?_
        refine gR C0 w 225 fk_X12_7 (by decide +kernel) dX12_setOrder_84 ?_
        refine lv_bipush (v := 6) hx hb dX12_setOrder_87 (by decide) ?_
        refine lv_iload_n hx hb dX12_setOrder_89 rfl (lv_at hl 4 rfl) ?_
        refine lv_i2l hx hb dX12_setOrder_90 rfl ?_
        refine sL C0 w (n := 200) (by decide +kernel) (inbE (by decide)) dX12_setOrder_91 (fun H locs w => ?_)
        obtain ⟨q23, h24, hf⟩ := bdE hf
        have w : Wx B q23 s H locs := by rw [← Option.some.inj h24]; exact w
        refine lv_iload hx hb dX12_setOrder_92 (lv_at hl 0 rfl) ?_
        obtain rfl := Option.some.inj hf
        exact eI C0 hr w rfl dX12_setOrder_94
      · rw [if_neg c16] at hf
        refine lv_iconst (v := 0) hx hb dX12_setOrder_52 (by decide) ?_
        obtain rfl := Option.some.inj hf
        exact eI C0 hr w rfl dX12_setOrder_53
    · rw [if_neg c15] at hf
      refine lv_iload_n hx hb dX12_setOrder_25 rfl (lv_at hl 3 rfl) ?_
      refine lv_i2l hx hb dX12_setOrder_26 rfl ?_
      refine lv_lconst (v := 0) hx hb dX12_setOrder_27 (by decide) ?_
      refine kLg C0 999999 kc_X12_179 dX12_setOrder_28 ?_
      obtain ⟨q25, h26, hf⟩ := bdE hf
      refine cS (As := [.long x3.toInt64, .long 0, .long 999999]) (rest := [.ref (wA B 224)]) C0 w (m_X12_in l B _ σ x3.toInt64 0 999999 q25 h26) ky_X12_in ks_X12_in lk_X12_79 ⟨Nat.le_of_ble_eq_true rfl, Nat.le_of_ble_eq_true rfl⟩ ⟨Nat.le_of_ble_eq_true rfl, Nat.le_of_ble_eq_true rfl⟩ rfl (by rfl) (Nat.le_of_ble_eq_true rfl) hl.1 dX12_setOrder_31 (fun H locs w => ?_)
      refine lv_if_eq (tgt := 41) hx hb dX12_setOrder_34 (by decide) (fun c27 => ?_) (fun c27 => ?_)
      · rw [if_pos c27] at hf
        refine lv_iconst (v := 1) hx hb dX12_setOrder_41 (by decide) ?_
        refine pI C0 w fk_X12_62 fp_X12_5 (by decide +kernel) dX12_setOrder_42 (fun H locs w => ?_)
        refine lv_aload_n hx hb dX12_setOrder_45 rfl (lv_at hl 0 rfl) ?_
        refine gI C0 w fk_X12_62 (by decide +kernel) dX12_setOrder_46 ?_
        refine lv_if_eq (tgt := 54) hx hb dX12_setOrder_49 (by decide) (fun c28 => ?_) (fun c28 => ?_)
        · rw [if_pos c28] at hf
          refine lv_aload_n hx hb dX12_setOrder_54 rfl (lv_at hl 0 rfl) ?_
          obtain ⟨q29, h30, hf⟩ := bdE hf
          refine cV (As := []) (rest := []) (k := 224) (ci := 10) (T := TX12) (N := 22) C0 w (m_X12_keep l B _ (setI σ 224 5 1) q29 h30) ky_X12_keep kv_X12_keep lk_X12_131 rfl (by decide +kernel) ⟨Nat.le_of_ble_eq_true rfl, Nat.le_of_ble_eq_true rfl⟩ ⟨Nat.le_of_ble_eq_true rfl, Nat.le_of_ble_eq_true rfl⟩ rfl (by rfl) (Nat.le_of_ble_eq_true rfl) hl.1 dX12_setOrder_55 (fun H locs w => ?_)
          refine lv_aload_n hx hb dX12_setOrder_58 rfl (lv_at hl 0 rfl) ?_
          refine gR C0 w 225 fk_X12_7 (by decide +kernel) dX12_setOrder_59 ?_
          refine lv_iconst (v := 4) hx hb dX12_setOrder_62 (by decide) ?_
          refine aL C0 w (n := 200) (by decide +kernel) (inbE (by decide)) dX12_setOrder_63 ?_
          refine lv_l2i hx hb dX12_setOrder_64 rfl ?_
          refine lv_istore (lv' := [(4, .int ((q29.2 225 (4 : Int32).toNatClampNeg).toInt32)), (0, .ref (wA B 224)), (1, .int x1), (2, .int x2), (3, .int x3)]) hx hb dX12_setOrder_65 hl (by decide) rfl (fun ls hl => ?_)
          refine lv_aload_n hx hb dX12_setOrder_67 rfl (lv_at hl 1 rfl) ?_
          refine gR C0 w 225 fk_X12_7 (by decide +kernel) dX12_setOrder_68 ?_
          refine lv_iconst (v := 4) hx hb dX12_setOrder_71 (by decide) ?_
          refine lv_iload_n hx hb dX12_setOrder_72 rfl (lv_at hl 2 rfl) ?_
          refine lv_i2l hx hb dX12_setOrder_73 rfl ?_
          refine sL C0 w (n := 200) (by decide +kernel) (inbE (by decide)) dX12_setOrder_74 (fun H locs w => ?_)
          refine lv_aload_n hx hb dX12_setOrder_75 rfl (lv_at hl 1 rfl) ?_
          refine gR C0 w 225 fk_X12_7 (by decide +kernel) dX12_setOrder_76 ?_
          refine lv_iconst (v := 5) hx hb dX12_setOrder_79 (by decide) ?_
          refine lv_iload_n hx hb dX12_setOrder_80 rfl (lv_at hl 3 rfl) ?_
          refine lv_i2l hx hb dX12_setOrder_81 rfl ?_
          refine sL C0 w (n := 200) (by decide +kernel) (inbE (by decide)) dX12_setOrder_82 (fun H locs w => ?_)
          refine lv_aload_n hx hb dX12_setOrder_83 rfl (lv_at hl 1 rfl) ?_
          refine gR C0 w 225 fk_X12_7 (by decide +kernel) dX12_setOrder_84 ?_
          refine lv_bipush (v := 6) hx hb dX12_setOrder_87 (by decide) ?_
          refine lv_iload_n hx hb dX12_setOrder_89 rfl (lv_at hl 4 rfl) ?_
          refine lv_i2l hx hb dX12_setOrder_90 rfl ?_
          refine sL C0 w (n := 200) (by decide +kernel) (inbE (by decide)) dX12_setOrder_91 (fun H locs w => ?_)
          obtain ⟨q35, h36, hf⟩ := bdE hf
          have w : Wx B q35 s H locs := by rw [← Option.some.inj h36]; exact w
          refine lv_iload hx hb dX12_setOrder_92 (lv_at hl 0 rfl) ?_
          obtain rfl := Option.some.inj hf
          exact eI C0 hr w rfl dX12_setOrder_94
        · rw [if_neg c28] at hf
          refine lv_iconst (v := 0) hx hb dX12_setOrder_52 (by decide) ?_
          obtain rfl := Option.some.inj hf
          exact eI C0 hr w rfl dX12_setOrder_53
      · rw [if_neg c27] at hf
        refine lv_iconst (v := 0) hx hb dX12_setOrder_37 (by decide) ?_
        refine lv_goto (tgt := 42) hx hb dX12_setOrder_38 (by decide) ?_
        refine pI C0 w fk_X12_62 fp_X12_5 (by decide +kernel) dX12_setOrder_42 (fun H locs w => ?_)
        refine lv_aload_n hx hb dX12_setOrder_45 rfl (lv_at hl 0 rfl) ?_
        refine gI C0 w fk_X12_62 (by decide +kernel) dX12_setOrder_46 ?_
        refine lv_if_eq (tgt := 54) hx hb dX12_setOrder_49 (by decide) (fun c37 => ?_) (fun c37 => ?_)
        · rw [if_pos c37] at hf
          refine lv_aload_n hx hb dX12_setOrder_54 rfl (lv_at hl 0 rfl) ?_
          obtain ⟨q38, h39, hf⟩ := bdE hf
          refine cV (As := []) (rest := []) (k := 224) (ci := 10) (T := TX12) (N := 22) C0 w (m_X12_keep l B _ (setI σ 224 5 0) q38 h39) ky_X12_keep kv_X12_keep lk_X12_131 rfl (by decide +kernel) ⟨Nat.le_of_ble_eq_true rfl, Nat.le_of_ble_eq_true rfl⟩ ⟨Nat.le_of_ble_eq_true rfl, Nat.le_of_ble_eq_true rfl⟩ rfl (by rfl) (Nat.le_of_ble_eq_true rfl) hl.1 dX12_setOrder_55 (fun H locs w => ?_)
          refine lv_aload_n hx hb dX12_setOrder_58 rfl (lv_at hl 0 rfl) ?_
          refine gR C0 w 225 fk_X12_7 (by decide +kernel) dX12_setOrder_59 ?_
          refine lv_iconst (v := 4) hx hb dX12_setOrder_62 (by decide) ?_
          refine aL C0 w (n := 200) (by decide +kernel) (inbE (by decide)) dX12_setOrder_63 ?_
          refine lv_l2i hx hb dX12_setOrder_64 rfl ?_
          refine lv_istore (lv' := [(4, .int ((q38.2 225 (4 : Int32).toNatClampNeg).toInt32)), (0, .ref (wA B 224)), (1, .int x1), (2, .int x2), (3, .int x3)]) hx hb dX12_setOrder_65 hl (by decide) rfl (fun ls hl => ?_)
          refine lv_aload_n hx hb dX12_setOrder_67 rfl (lv_at hl 1 rfl) ?_
          refine gR C0 w 225 fk_X12_7 (by decide +kernel) dX12_setOrder_68 ?_
          refine lv_iconst (v := 4) hx hb dX12_setOrder_71 (by decide) ?_
          refine lv_iload_n hx hb dX12_setOrder_72 rfl (lv_at hl 2 rfl) ?_
          refine lv_i2l hx hb dX12_setOrder_73 rfl ?_
          refine sL C0 w (n := 200) (by decide +kernel) (inbE (by decide)) dX12_setOrder_74 (fun H locs w => ?_)
          refine lv_aload_n hx hb dX12_setOrder_75 rfl (lv_at hl 1 rfl) ?_
          refine gR C0 w 225 fk_X12_7 (by decide +kernel) dX12_setOrder_76 ?_
          refine lv_iconst (v := 5) hx hb dX12_setOrder_79 (by decide) ?_
          refine lv_iload_n hx hb dX12_setOrder_80 rfl (lv_at hl 3 rfl) ?_
          refine lv_i2l hx hb dX12_setOrder_81 rfl ?_
          refine sL C0 w (n := 200) (by decide +kernel) (inbE (by decide)) dX12_setOrder_82 (fun H locs w => ?_)
          refine lv_aload_n hx hb dX12_setOrder_83 rfl (lv_at hl 1 rfl) ?_
          refine gR C0 w 225 fk_X12_7 (by decide +kernel) dX12_setOrder_84 ?_
          refine lv_bipush (v := 6) hx hb dX12_setOrder_87 (by decide) ?_
          refine lv_iload_n hx hb dX12_setOrder_89 rfl (lv_at hl 4 rfl) ?_
          refine lv_i2l hx hb dX12_setOrder_90 rfl ?_
          refine sL C0 w (n := 200) (by decide +kernel) (inbE (by decide)) dX12_setOrder_91 (fun H locs w => ?_)
          obtain ⟨q44, h45, hf⟩ := bdE hf
          have w : Wx B q44 s H locs := by rw [← Option.some.inj h45]; exact w
          refine lv_iload hx hb dX12_setOrder_92 (lv_at hl 0 rfl) ?_
          obtain rfl := Option.some.inj hf
          exact eI C0 hr w rfl dX12_setOrder_94
        · rw [if_neg c37] at hf
          refine lv_iconst (v := 0) hx hb dX12_setOrder_52 (by decide) ?_
          obtain rfl := Option.some.inj hf
          exact eI C0 hr w rfl dX12_setOrder_53
