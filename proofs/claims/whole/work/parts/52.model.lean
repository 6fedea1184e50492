def f_X12_corrects_23 (x2 : Int64) (σ : Mem) : Nat → Int64 → Int32 → Option (Int64)
  | 0, _, _ => none
  | n + 1, x4, x6 =>
    bd (f_X12_cells σ) (fun q1 =>
    if q1 ≤ x6 then (
      some x4)
    else (
      gd (inb x6 64) (
      gd (inb x6 64) (
      f_X12_corrects_23 x2 σ n (x4 + (((σ.1 231 x6.toNatClampNeg).toInt64) * ((σ.1 231 x6.toNatClampNeg).toInt64))) (x6 + 1)))))
def f_X12_corrects_66 (x2 : Int64) (x4 : Int64) : Nat → Int32 → Int32 → Mem → Option (Int32 × Mem)
  | 0, _, _, _ => none
  | n + 1, x6, x7, σ =>
    bd (f_X12_cells σ) (fun q1 =>
    if q1 ≤ x7 then (
      some ((x6, σ)))
    else (
      gd (inb x7 64) (
      if (σ.1 231 x7.toNatClampNeg) ≤ 0 then (
        f_X12_corrects_66 x2 x4 n x6 (x7 + 1) σ)
      else (
        gd (inb x7 64) (
        bd (f_X12_rounded (((σ.2 225 (4 : Int32).toNatClampNeg) * x2) * ((σ.1 231 x7.toNatClampNeg).toInt64)) (1000 * x4) σ) (fun q8 =>
        gd (inb (8 + x7) 200) (
        bd (f_X12_held ((σ.2 225 (8 + x7).toNatClampNeg) + q8) (σ.2 225 (2 : Int32).toNatClampNeg) (σ.2 225 (3 : Int32).toNatClampNeg) σ) (fun q13 =>
        bd (f_X12_change (8 + x7) q13 σ) (fun q15 =>
        f_X12_corrects_66 x2 x4 n (x6 + q15.1) (x7 + 1) q15.2)))))))))
def f_X12_corrects (x1 : Int32) (σ : Mem) : Option (Int32 × Mem) :=
  bd (f_X12_findWay x1 σ) (fun q1 =>
  bd (f_X12_of x1 3 q1) (fun q3 =>
  bd (f_X12_corrects_23 (q3 - (q1.2 224 11)) q1 100000 0 0) (fun q5 =>
  bd (f_X12_corrects_66 (q3 - (q1.2 224 11)) q5 100000 0 0 q1) (fun q7 =>
  some ((q7.1, q7.2))))))
abbrev rm_X12_corrects : Room := { frames := 5, cells := 0, slots := 0, locals := 123 }
set_option maxHeartbeats 4000000 in
set_option maxRecDepth 100000 in
theorem lp_X12_corrects_23 {p : Program} {e : Env} {s : State} {m : MethodId} {args : Array Value} {below : List Frame} {meth : Method} {c : Code} {Q : State → Prop} (l : Launch) (B : Wb) (C0 : Cx p s m args meth c cX12_corrects 10 RX12) (x2 : Int64) : ∀ (n : Nat) (x4 : Int64) (x6 : Int32) (σ : Mem) (o : Int64) (H : Heap) (locs : List Loc) (ls : Array Slot), f_X12_corrects_23 x2 σ n x4 x6 = some o → Wx B σ s H locs → lv_has ls 10 [(0, .ref (wA B 224)), (2, .long x2), (4, .long x4), (6, .int x6)] → (∀ (H : Heap) (locs : List Loc) (ls : Array Slot), Wx B σ s H locs → lv_has ls 10 [(0, .ref (wA B 224)), (2, .long x2), (4, .long o)] → W p l e rm_X12_corrects s m args below meth c H locs 0 0 Q (F0 m 60 ls [])) → W p l e rm_X12_corrects s m args below meth c H locs 0 0 Q (F0 m 23 ls []) := by
  have hx := C0.1.1
  have hb := C0.1.2.1
  intro n
  induction n with
  | zero =>
    intro x4 x6 σ o H locs ls hf w hl hK
    cases hf
  | succ n ih =>
    intro x4 x6 σ o H locs ls hf w hl hK
    rw [f_X12_corrects_23] at hf
    refine lv_iload hx hb dX12_corrects_23 (lv_at hl 3 rfl) ?_
    refine lv_aload_n hx hb dX12_corrects_25 rfl (lv_at hl 0 rfl) ?_
    obtain ⟨q1, h2, hf⟩ := bdE hf
    refine cV (As := []) (rest := [.int x6]) (k := 224) (ci := 10) (T := TX12) (N := 22) C0 w (m_X12_cells l B _ σ q1 h2) ky_X12_cells kv_X12_cells lk_X12_76 rfl (by decide +kernel) ⟨Nat.le_of_ble_eq_true rfl, Nat.le_of_ble_eq_true rfl⟩ ⟨Nat.le_of_ble_eq_true rfl, Nat.le_of_ble_eq_true rfl⟩ rfl (by rfl) (Nat.le_of_ble_eq_true rfl) hl.1 dX12_corrects_26 (fun H locs w => ?_)
    refine lv_icmp_ge (tgt := 60) hx hb dX12_corrects_29 (by decide) (fun c3 => ?_) (fun c3 => ?_)
    · rw [if_pos c3] at hf
      obtain rfl := Option.some.inj hf
      exact hK _ _ _ w (lv_sub hl [0, 1, 2] rfl)
    · rw [if_neg c3] at hf
      refine lv_lload hx hb dX12_corrects_32 (lv_at hl 2 rfl) ?_
      refine lv_aload_n hx hb dX12_corrects_34 rfl (lv_at hl 0 rfl) ?_
      refine gR C0 w 231 fk_X12_30 (by decide +kernel) dX12_corrects_35 ?_
      refine lv_iload hx hb dX12_corrects_38 (lv_at hl 3 rfl) ?_
      obtain ⟨g4, hf⟩ := gdE hf
      refine aI C0 w (n := 64) (by decide +kernel) (inbE g4) dX12_corrects_40 ?_
      refine lv_i2l hx hb dX12_corrects_41 rfl ?_
      refine lv_aload_n hx hb dX12_corrects_42 rfl (lv_at hl 0 rfl) ?_
      refine gR C0 w 231 fk_X12_30 (by decide +kernel) dX12_corrects_43 ?_
      refine lv_iload hx hb dX12_corrects_46 (lv_at hl 3 rfl) ?_
      obtain ⟨g5, hf⟩ := gdE hf
      refine aI C0 w (n := 64) (by decide +kernel) (inbE g5) dX12_corrects_48 ?_
      refine lv_i2l hx hb dX12_corrects_49 rfl ?_
      refine lv_lmul hx hb dX12_corrects_50 ?_
      refine lv_ladd hx hb dX12_corrects_51 ?_
      refine lv_lstore (lv' := [(4, .long (x4 + (((σ.1 231 x6.toNatClampNeg).toInt64) * ((σ.1 231 x6.toNatClampNeg).toInt64)))), (0, .ref (wA B 224)), (2, .long x2), (6, .int x6)]) hx hb dX12_corrects_52 hl (by decide) rfl (fun ls hl => ?_)
      refine lv_iinc (k := 3) (v := x6 + 1) (lv' := [(6, .int (x6 + 1)), (4, .long (x4 + (((σ.1 231 x6.toNatClampNeg).toInt64) * ((σ.1 231 x6.toNatClampNeg).toInt64)))), (0, .ref (wA B 224)), (2, .long x2)]) hx hb dX12_corrects_54 hl rfl (by rfl) (by decide) rfl (fun ls hl => ?_)
      refine lv_goto (tgt := 23) hx hb dX12_corrects_57 (by decide) ?_
      exact ih (x4 + (((σ.1 231 x6.toNatClampNeg).toInt64) * ((σ.1 231 x6.toNatClampNeg).toInt64))) (x6 + 1) σ _ _ _ _ hf w (lv_sub hl [2, 3, 1, 0] rfl) hK
set_option maxHeartbeats 4000000 in
set_option maxRecDepth 100000 in
theorem lp_X12_corrects_66 {p : Program} {e : Env} {s : State} {m : MethodId} {args : Array Value} {below : List Frame} {meth : Method} {c : Code} {Q : State → Prop} (l : Launch) (B : Wb) (C0 : Cx p s m args meth c cX12_corrects 10 RX12) (x2 : Int64) (x4 : Int64) : ∀ (n : Nat) (x6 : Int32) (x7 : Int32) (σ : Mem) (o : Int32 × Mem) (H : Heap) (locs : List Loc) (ls : Array Slot), f_X12_corrects_66 x2 x4 n x6 x7 σ = some o → Wx B σ s H locs → lv_has ls 10 [(0, .ref (wA B 224)), (2, .long x2), (4, .long x4), (6, .int x6), (7, .int x7)] → (∀ (H : Heap) (locs : List Loc) (ls : Array Slot), Wx B o.2 s H locs → lv_has ls 10 [(6, .int o.1)] → W p l e rm_X12_corrects s m args below meth c H locs 0 0 Q (F0 m 161 ls [])) → W p l e rm_X12_corrects s m args below meth c H locs 0 0 Q (F0 m 66 ls []) := by
  have hx := C0.1.1
  have hb := C0.1.2.1
  intro n
  induction n with
  | zero =>
    intro x6 x7 σ o H locs ls hf w hl hK
    cases hf
  | succ n ih =>
    intro x6 x7 σ o H locs ls hf w hl hK
    rw [f_X12_corrects_66] at hf
    refine lv_iload hx hb dX12_corrects_66 (lv_at hl 4 rfl) ?_
    refine lv_aload_n hx hb dX12_corrects_68 rfl (lv_at hl 0 rfl) ?_
    obtain ⟨q1, h2, hf⟩ := bdE hf
    refine cV (As := []) (rest := [.int x7]) (k := 224) (ci := 10) (T := TX12) (N := 22) C0 w (m_X12_cells l B _ σ q1 h2) ky_X12_cells kv_X12_cells lk_X12_76 rfl (by decide +kernel) ⟨Nat.le_of_ble_eq_true rfl, Nat.le_of_ble_eq_true rfl⟩ ⟨Nat.le_of_ble_eq_true rfl, Nat.le_of_ble_eq_true rfl⟩ rfl (by rfl) (Nat.le_of_ble_eq_true rfl) hl.1 dX12_corrects_69 (fun H locs w => ?_)
    refine lv_icmp_ge (tgt := 161) hx hb dX12_corrects_72 (by decide) (fun c3 => ?_) (fun c3 => ?_)
    · rw [if_pos c3] at hf
      obtain rfl := Option.some.inj hf
      exact hK _ _ _ w (lv_sub hl [3] rfl)
    · rw [if_neg c3] at hf
      refine lv_aload_n hx hb dX12_corrects_75 rfl (lv_at hl 0 rfl) ?_
      refine gR C0 w 231 fk_X12_30 (by decide +kernel) dX12_corrects_76 ?_
      refine lv_iload hx hb dX12_corrects_79 (lv_at hl 4 rfl) ?_
      obtain ⟨g4, hf⟩ := gdE hf
      refine aI C0 w (n := 64) (by decide +kernel) (inbE g4) dX12_corrects_81 ?_
      refine lv_if_le (tgt := 155) hx hb dX12_corrects_82 (by decide) (fun c5 => ?_) (fun c5 => ?_)
      · rw [if_pos c5] at hf
        refine lv_iinc (k := 4) (v := x7 + 1) (lv' := [(7, .int (x7 + 1)), (0, .ref (wA B 224)), (2, .long x2), (4, .long x4), (6, .int x6)]) hx hb dX12_corrects_155 hl rfl (by rfl) (by decide) rfl (fun ls hl => ?_)
        refine lv_goto (tgt := 66) hx hb dX12_corrects_158 (by decide) ?_
        exact ih x6 (x7 + 1) σ _ _ _ _ hf w (lv_sub hl [1, 2, 3, 4, 0] rfl) hK
      · rw [if_neg c5] at hf
        refine lv_aload_n hx hb dX12_corrects_85 rfl (lv_at hl 0 rfl) ?_
        refine gR C0 w 225 fk_X12_7 (by decide +kernel) dX12_corrects_86 ?_
        refine lv_iconst (v := 4) hx hb dX12_corrects_89 (by decide) ?_
        refine aL C0 w (n := 200) (by decide +kernel) (inbE (by decide)) dX12_corrects_90 ?_
        refine lv_lload_n hx hb dX12_corrects_91 rfl (lv_at hl 1 rfl) ?_
        refine lv_lmul hx hb dX12_corrects_92 ?_
        refine lv_aload_n hx hb dX12_corrects_93 rfl (lv_at hl 0 rfl) ?_
        refine gR C0 w 231 fk_X12_30 (by decide +kernel) dX12_corrects_94 ?_
        refine lv_iload hx hb dX12_corrects_97 (lv_at hl 4 rfl) ?_
        obtain ⟨g7, hf⟩ := gdE hf
        refine aI C0 w (n := 64) (by decide +kernel) (inbE g7) dX12_corrects_99 ?_
        refine lv_i2l hx hb dX12_corrects_100 rfl ?_
        refine lv_lmul hx hb dX12_corrects_101 ?_
        refine kLg C0 1000 kc_X12_56 dX12_corrects_102 ?_
        refine lv_lload hx hb dX12_corrects_105 (lv_at hl 2 rfl) ?_
        refine lv_lmul hx hb dX12_corrects_107 ?_
        obtain ⟨q8, h9, hf⟩ := bdE hf
        refine cS (As := [.long (((σ.2 225 (4 : Int32).toNatClampNeg) * x2) * ((σ.1 231 x7.toNatClampNeg).toInt64)), .long (1000 * x4)]) (rest := []) C0 w (m_X12_rounded l B _ σ (((σ.2 225 (4 : Int32).toNatClampNeg) * x2) * ((σ.1 231 x7.toNatClampNeg).toInt64)) (1000 * x4) q8 h9) ky_X12_rounded ks_X12_rounded lk_X12_204 ⟨Nat.le_of_ble_eq_true rfl, Nat.le_of_ble_eq_true rfl⟩ ⟨Nat.le_of_ble_eq_true rfl, Nat.le_of_ble_eq_true rfl⟩ rfl (by rfl) (Nat.le_of_ble_eq_true rfl) hl.1 dX12_corrects_108 (fun H locs w => ?_)
        refine lv_lstore (lv' := [(8, .long q8), (0, .ref (wA B 224)), (2, .long x2), (4, .long x4), (6, .int x6), (7, .int x7)]) hx hb dX12_corrects_111 hl (by decide) rfl (fun ls hl => ?_)
        refine lv_iload hx hb dX12_corrects_113 (lv_at hl 4 rfl) ?_
        refine lv_aload_n hx hb dX12_corrects_115 rfl (lv_at hl 1 rfl) ?_
        refine lv_bipush (v := 8) hx hb dX12_corrects_116 (by decide) ?_
        refine lv_iload hx hb dX12_corrects_118 (lv_at hl 5 rfl) ?_
        refine lv_iadd hx hb dX12_corrects_120 ?_
        refine lv_aload_n hx hb dX12_corrects_121 rfl (lv_at hl 1 rfl) ?_
        refine gR C0 w 225 fk_X12_7 (by decide +kernel) dX12_corrects_122 ?_
        refine lv_bipush (v := 8) hx hb dX12_corrects_125 (by decide) ?_
        refine lv_iload hx hb dX12_corrects_127 (lv_at hl 5 rfl) ?_
        refine lv_iadd hx hb dX12_corrects_129 ?_
        obtain ⟨g10, hf⟩ := gdE hf
        refine aL C0 w (n := 200) (by decide +kernel) (inbE g10) dX12_corrects_130 ?_
        refine lv_lload hx hb dX12_corrects_131 (lv_at hl 0 rfl) ?_
        refine lv_ladd hx hb dX12_corrects_133 ?_
        refine lv_aload_n hx hb dX12_corrects_134 rfl (lv_at hl 1 rfl) ?_
        refine gR C0 w 225 fk_X12_7 (by decide +kernel) dX12_corrects_135 ?_
        refine lv_iconst (v := 2) hx hb dX12_corrects_138 (by decide) ?_
        refine aL C0 w (n := 200) (by decide +kernel) (inbE (by decide)) dX12_corrects_139 ?_
        refine lv_aload_n hx hb dX12_corrects_140 rfl (lv_at hl 1 rfl) ?_
        refine gR C0 w 225 fk_X12_7 (by decide +kernel) dX12_corrects_141 ?_
        refine lv_iconst (v := 3) hx hb dX12_corrects_144 (by decide) ?_
        refine aL C0 w (n := 200) (by decide +kernel) (inbE (by decide)) dX12_corrects_145 ?_
        obtain ⟨q13, h14, hf⟩ := bdE hf
        refine cS (As := [.long ((σ.2 225 (8 + x7).toNatClampNeg) + q8), .long (σ.2 225 (2 : Int32).toNatClampNeg), .long (σ.2 225 (3 : Int32).toNatClampNeg)]) (rest := [.int (8 + x7), .ref (wA B 224), .int x6]) C0 w (m_X12_held l B _ σ ((σ.2 225 (8 + x7).toNatClampNeg) + q8) (σ.2 225 (2 : Int32).toNatClampNeg) (σ.2 225 (3 : Int32).toNatClampNeg) q13 h14) ky_X12_held ks_X12_held lk_X12_148 ⟨Nat.le_of_ble_eq_true rfl, Nat.le_of_ble_eq_true rfl⟩ ⟨Nat.le_of_ble_eq_true rfl, Nat.le_of_ble_eq_true rfl⟩ rfl (by rfl) (Nat.le_of_ble_eq_true rfl) hl.1 dX12_corrects_146 (fun H locs w => ?_)
        obtain ⟨q15, h16, hf⟩ := bdE hf
        refine cV (As := [.int (8 + x7), .long q13]) (rest := [.int x6]) (k := 224) (ci := 10) (T := TX12) (N := 22) C0 w (m_X12_change l B _ σ (8 + x7) q13 q15 h16) ky_X12_change kv_X12_change lk_X12_152 rfl (by decide +kernel) ⟨Nat.le_of_ble_eq_true rfl, Nat.le_of_ble_eq_true rfl⟩ ⟨Nat.le_of_ble_eq_true rfl, Nat.le_of_ble_eq_true rfl⟩ rfl (by rfl) (Nat.le_of_ble_eq_true rfl) hl.1 dX12_corrects_149 (fun H locs w => ?_)
        refine lv_iadd hx hb dX12_corrects_152 ?_
        refine lv_istore (lv' := [(6, .int (x6 + q15.1)), (8, .long q8), (0, .ref (wA B 224)), (2, .long x2), (4, .long x4), (7, .int x7)]) hx hb dX12_corrects_153 hl (by decide) rfl (fun ls hl => ?_)
        refine lv_iinc (k := 5) (v := x7 + 1) (lv' := [(7, .int (x7 + 1)), (6, .int (x6 + q15.1)), (8, .long q8), (0, .ref (wA B 224)), (2, .long x2), (4, .long x4)]) hx hb dX12_corrects_155 hl rfl (by rfl) (by decide) rfl (fun ls hl => ?_)
        refine lv_goto (tgt := 66) hx hb dX12_corrects_158 (by decide) ?_
        exact ih (x6 + q15.1) (x7 + 1) q15.2 _ _ _ _ hf w (lv_sub hl [3, 4, 5, 1, 0] rfl) hK
set_option maxHeartbeats 4000000 in
set_option maxRecDepth 100000 in
theorem m_X12_corrects (l : Launch) (B : Wb) (sz : Nat) (σ : Mem) (x1 : Int32) (q : Int32 × Mem) (hf : f_X12_corrects x1 σ = some q) : MetC l yX12_corrects cX12_corrects 10 (some .int) rm_X12_corrects B sz σ q.2 [.ref (wA B 224), .int x1] (some (.int q.1)) := by
  refine met_in (by decide +kernel) (Nat.le_of_ble_eq_true rfl) ?_
  intro p e s m below meth c C0 hr w hsz ls hl
  have hx := C0.1.1
  have hb := C0.1.2.1
  unfold f_X12_corrects at hf
  refine lv_aload_n hx hb dX12_corrects_0 rfl (lv_at hl 0 rfl) ?_
  refine lv_iload_n hx hb dX12_corrects_1 rfl (lv_at hl 1 rfl) ?_
  obtain ⟨q1, h2, hf⟩ := bdE hf
  refine cV (As := [.int x1]) (rest := []) (k := 224) (ci := 10) (T := TX12) (N := 22) C0 w (m_X12_findWay l B _ σ x1 q1 h2) ky_X12_findWay kv_X12_findWay lk_X12_125 rfl (by decide +kernel) ⟨Nat.le_of_ble_eq_true rfl, Nat.le_of_ble_eq_true rfl⟩ ⟨Nat.le_of_ble_eq_true rfl, Nat.le_of_ble_eq_true rfl⟩ rfl (by rfl) (Nat.le_of_ble_eq_true rfl) hl.1 dX12_corrects_2 (fun H locs w => ?_)
  refine lv_aload_n hx hb dX12_corrects_5 rfl (lv_at hl 0 rfl) ?_
  refine lv_iload_n hx hb dX12_corrects_6 rfl (lv_at hl 1 rfl) ?_
  refine lv_iconst (v := 3) hx hb dX12_corrects_7 (by decide) ?_
  obtain ⟨q3, h4, hf⟩ := bdE hf
  refine cV (As := [.int x1, .int 3]) (rest := []) (k := 224) (ci := 10) (T := TX12) (N := 22) C0 w (m_X12_of l B _ q1 x1 3 q3 h4) ky_X12_of kv_X12_of lk_X12_83 rfl (by decide +kernel) ⟨Nat.le_of_ble_eq_true rfl, Nat.le_of_ble_eq_true rfl⟩ ⟨Nat.le_of_ble_eq_true rfl, Nat.le_of_ble_eq_true rfl⟩ rfl (by rfl) (Nat.le_of_ble_eq_true rfl) hl.1 dX12_corrects_8 (fun H locs w => ?_)
  refine lv_aload_n hx hb dX12_corrects_11 rfl (lv_at hl 0 rfl) ?_
  refine gL C0 w fk_X12_114 (by decide +kernel) dX12_corrects_12 ?_
  refine lv_lsub hx hb dX12_corrects_15 ?_
  refine lv_lstore_n (lv' := [(2, .long (q3 - (q1.2 224 11))), (0, .ref (wA B 224)), (1, .int x1)]) hx hb dX12_corrects_16 rfl hl (by decide) rfl (fun ls hl => ?_)
  refine lv_lconst (v := 0) hx hb dX12_corrects_17 (by decide) ?_
  refine lv_lstore (lv' := [(4, .long 0), (2, .long (q3 - (q1.2 224 11))), (0, .ref (wA B 224)), (1, .int x1)]) hx hb dX12_corrects_18 hl (by decide) rfl (fun ls hl => ?_)
  refine lv_iconst (v := 0) hx hb dX12_corrects_20 (by decide) ?_
  refine lv_istore (lv' := [(6, .int 0), (4, .long 0), (2, .long (q3 - (q1.2 224 11))), (0, .ref (wA B 224)), (1, .int x1)]) hx hb dX12_corrects_21 hl (by decide) rfl (fun ls hl => ?_)
  obtain ⟨q5, h6, hf⟩ := bdE hf
  refine lp_X12_corrects_23 l B C0 (q3 - (q1.2 224 11)) 100000 0 0 q1 q5 _ _ _ h6 w (lv_sub hl [3, 2, 1, 0] rfl) (fun H locs ls w hl => ?_)
  refine lv_iconst (v := 0) hx hb dX12_corrects_60 (by decide) ?_
  refine lv_istore (lv' := [(6, .int 0), (0, .ref (wA B 224)), (2, .long (q3 - (q1.2 224 11))), (4, .long q5)]) hx hb dX12_corrects_61 hl (by decide) rfl (fun ls hl => ?_)
  refine lv_iconst (v := 0) hx hb dX12_corrects_63 (by decide) ?_
  refine lv_istore (lv' := [(7, .int 0), (6, .int 0), (0, .ref (wA B 224)), (2, .long (q3 - (q1.2 224 11))), (4, .long q5)]) hx hb dX12_corrects_64 hl (by decide) rfl (fun ls hl => ?_)
  obtain ⟨q7, h8, hf⟩ := bdE hf
  refine lp_X12_corrects_66 l B C0 (q3 - (q1.2 224 11)) q5 100000 0 0 q1 q7 _ _ _ h8 w (lv_sub hl [2, 3, 4, 1, 0] rfl) (fun H locs ls w hl => ?_)
  refine lv_iload hx hb dX12_corrects_161 (lv_at hl 0 rfl) ?_
  obtain rfl := Option.some.inj hf
  exact eI C0 hr w rfl dX12_corrects_163
def f_X12_correct (x1 : Int32) (σ : Mem) : Option (Int32 × Mem) :=
  bd (f_X12_isRay x1 σ) (fun q1 =>
  if q1 = 0 then (
    if ((setI σ 224 5 1).1 224 5) = 0 then (
      bd (f_X12_keep (setI σ 224 5 1)) (fun q18 =>
      bd (f_X12_corrects x1 q18) (fun q20 =>
      some ((q20.1, q20.2)))))
    else (
      some ((0, setI σ 224 5 1))))
  else (
    bd (f_X12_of x1 3 σ) (fun q4 =>
    if q4 = ((-1 : Int64)) then (
      if ((setI σ 224 5 2).1 224 5) = 0 then (
        bd (f_X12_keep (setI σ 224 5 2)) (fun q13 =>
        bd (f_X12_corrects x1 q13) (fun q15 =>
        some ((q15.1, q15.2)))))
      else (
        some ((0, setI σ 224 5 2))))
    else (
      if ((setI σ 224 5 0).1 224 5) = 0 then (
        bd (f_X12_keep (setI σ 224 5 0)) (fun q8 =>
        bd (f_X12_corrects x1 q8) (fun q10 =>
        some ((q10.1, q10.2)))))
      else (
        some ((0, setI σ 224 5 0)))))))
abbrev rm_X12_correct : Room := { frames := 6, cells := 0, slots := 0, locals := 152 }
set_option maxHeartbeats 4000000 in
set_option maxRecDepth 100000 in
theorem m_X12_correct (l : Launch) (B : Wb) (sz : Nat) (σ : Mem) (x1 : Int32) (q : Int32 × Mem) (hf : f_X12_correct x1 σ = some q) : MetC l yX12_correct cX12_correct 2 (some .int) rm_X12_correct B sz σ q.2 [.ref (wA B 224), .int x1] (some (.int q.1)) := by
  refine met_in (by decide +kernel) (Nat.le_of_ble_eq_true rfl) ?_
  intro p e s m below meth c C0 hr w hsz ls hl
  have hx := C0.1.1
  have hb := C0.1.2.1
  unfold f_X12_correct at hf
  refine lv_aload_n hx hb dX12_correct_0 rfl (lv_at hl 0 rfl) ?_
  refine lv_aload_n hx hb dX12_correct_1 rfl (lv_at hl 0 rfl) ?_
  refine lv_iload_n hx hb dX12_correct_2 rfl (lv_at hl 1 rfl) ?_
  obtain ⟨q1, h2, hf⟩ := bdE hf
  refine cV (As := [.int x1]) (rest := [.ref (wA B 224)]) (k := 224) (ci := 10) (T := TX12) (N := 22) C0 w (m_X12_isRay l B _ σ x1 q1 h2) ky_X12_isRay kv_X12_isRay lk_X12_171 rfl (by decide +kernel) ⟨Nat.le_of_ble_eq_true rfl, Nat.le_of_ble_eq_true rfl⟩ ⟨Nat.le_of_ble_eq_true rfl, Nat.le_of_ble_eq_true rfl⟩ rfl (by rfl) (Nat.le_of_ble_eq_true rfl) hl.1 dX12_correct_3 (fun H locs w => ?_)
  refine lv_if_ne (tgt := 13) hx hb dX12_correct_6 (by decide) (fun c3 => ?_) (fun c3 => ?_)
  · rw [if_neg c3] at hf
    refine lv_aload_n hx hb dX12_correct_13 rfl (lv_at hl 0 rfl) ?_
    refine lv_iload_n hx hb dX12_correct_14 rfl (lv_at hl 1 rfl) ?_
    refine lv_iconst (v := 3) hx hb dX12_correct_15 (by decide) ?_
    obtain ⟨q4, h5, hf⟩ := bdE hf
    refine cV (As := [.int x1, .int 3]) (rest := [.ref (wA B 224)]) (k := 224) (ci := 10) (T := TX12) (N := 22) C0 w (m_X12_of l B _ σ x1 3 q4 h5) ky_X12_of kv_X12_of lk_X12_83 rfl (by decide +kernel) ⟨Nat.le_of_ble_eq_true rfl, Nat.le_of_ble_eq_true rfl⟩ ⟨Nat.le_of_ble_eq_true rfl, Nat.le_of_ble_eq_true rfl⟩ rfl (by rfl) (Nat.le_of_ble_eq_true rfl) hl.1 dX12_correct_16 (fun H locs w => ?_)
    refine kLg C0 (-1) kc_X12_87 dX12_correct_19 ?_
    refine lc_ne (tgt := 30) C0 dX12_correct_22 dX12_correct_23 (by decide) (fun c6 => ?_) (fun c6 => ?_)
    · rw [if_neg c6] at hf
      refine lv_iconst (v := 0) hx hb dX12_correct_30 (by decide) ?_
      refine pI C0 w fk_X12_62 fp_X12_5 (by decide +kernel) dX12_correct_31 (fun H locs w => ?_)
      refine lv_aload_n hx hb dX12_correct_34 rfl (lv_at hl 0 rfl) ?_
      refine gI C0 w fk_X12_62 (by decide +kernel) dX12_correct_35 ?_
      refine lv_if_eq (tgt := 43) hx hb dX12_correct_38 (by decide) (fun c7 => ?_) (fun c7 => ?_)
      · rw [if_pos c7] at hf
        refine lv_aload_n hx hb dX12_correct_43 rfl (lv_at hl 0 rfl) ?_
        obtain ⟨q8, h9, hf⟩ := bdE hf
        refine cV (As := []) (rest := []) (k := 224) (ci := 10) (T := TX12) (N := 22) C0 w (m_X12_keep l B _ (setI σ 224 5 0) q8 h9) ky_X12_keep kv_X12_keep lk_X12_131 rfl (by decide +kernel) ⟨Nat.le_of_ble_eq_true rfl, Nat.le_of_ble_eq_true rfl⟩ ⟨Nat.le_of_ble_eq_true rfl, Nat.le_of_ble_eq_true rfl⟩ rfl (by rfl) (Nat.le_of_ble_eq_true rfl) hl.1 dX12_correct_44 (fun H locs w => ?_)
        refine lv_aload_n hx hb dX12_correct_47 rfl (lv_at hl 0 rfl) ?_
        refine lv_iload_n hx hb dX12_correct_48 rfl (lv_at hl 1 rfl) ?_
        obtain ⟨q10, h11, hf⟩ := bdE hf
        refine cV (As := [.int x1]) (rest := []) (k := 224) (ci := 10) (T := TX12) (N := 22) C0 w (m_X12_corrects l B _ q8 x1 q10 h11) ky_X12_corrects kv_X12_corrects lk_X12_208 rfl (by decide +kernel) ⟨Nat.le_of_ble_eq_true rfl, Nat.le_of_ble_eq_true rfl⟩ ⟨Nat.le_of_ble_eq_true rfl, Nat.le_of_ble_eq_true rfl⟩ rfl (by rfl) (Nat.le_of_ble_eq_true rfl) hl.1 dX12_correct_49 (fun H locs w => ?_)
        obtain rfl := Option.some.inj hf
        exact eI C0 hr w rfl dX12_correct_52
      · rw [if_neg c7] at hf
        refine lv_iconst (v := 0) hx hb dX12_correct_41 (by decide) ?_
        obtain rfl := Option.some.inj hf
        exact eI C0 hr w rfl dX12_correct_42
    · rw [if_pos c6] at hf
      refine lv_iconst (v := 2) hx hb dX12_correct_26 (by decide) ?_
      refine lv_goto (tgt := 31) hx hb dX12_correct_27 (by decide) ?_
      refine pI C0 w fk_X12_62 fp_X12_5 (by decide +kernel) dX12_correct_31 (fun H locs w => ?_)
      refine lv_aload_n hx hb dX12_correct_34 rfl (lv_at hl 0 rfl) ?_
      refine gI C0 w fk_X12_62 (by decide +kernel) dX12_correct_35 ?_
      refine lv_if_eq (tgt := 43) hx hb dX12_correct_38 (by decide) (fun c12 => ?_) (fun c12 => ?_)
      · rw [if_pos c12] at hf
        refine lv_aload_n hx hb dX12_correct_43 rfl (lv_at hl 0 rfl) ?_
        obtain ⟨q13, h14, hf⟩ := bdE hf
        refine cV (As := []) (rest := []) (k := 224) (ci := 10) (T := TX12) (N := 22) C0 w (m_X12_keep l B _ (setI σ 224 5 2) q13 h14) ky_X12_keep kv_X12_keep lk_X12_131 rfl (by decide +kernel) ⟨Nat.le_of_ble_eq_true rfl, Nat.le_of_ble_eq_true rfl⟩ ⟨Nat.le_of_ble_eq_true rfl, Nat.le_of_ble_eq_true rfl⟩ rfl (by rfl) (Nat.le_of_ble_eq_true rfl) hl.1 dX12_correct_44 (fun H locs w => ?_)
        refine lv_aload_n hx hb dX12_correct_47 rfl (lv_at hl 0 rfl) ?_
        refine lv_iload_n hx hb dX12_correct_48 rfl (lv_at hl 1 rfl) ?_
        obtain ⟨q15, h16, hf⟩ := bdE hf
        refine cV (As := [.int x1]) (rest := []) (k := 224) (ci := 10) (T := TX12) (N := 22) C0 w (m_X12_corrects l B _ q13 x1 q15 h16) ky_X12_corrects kv_X12_corrects lk_X12_208 rfl (by decide +kernel) ⟨Nat.le_of_ble_eq_true rfl, Nat.le_of_ble_eq_true rfl⟩ ⟨Nat.le_of_ble_eq_true rfl, Nat.le_of_ble_eq_true rfl⟩ rfl (by rfl) (Nat.le_of_ble_eq_true rfl) hl.1 dX12_correct_49 (fun H locs w => ?_)
        obtain rfl := Option.some.inj hf
        exact eI C0 hr w rfl dX12_correct_52
      · rw [if_neg c12] at hf
        refine lv_iconst (v := 0) hx hb dX12_correct_41 (by decide) ?_
        obtain rfl := Option.some.inj hf
        exact eI C0 hr w rfl dX12_correct_42
  · rw [if_pos c3] at hf
    refine lv_iconst (v := 1) hx hb dX12_correct_9 (by decide) ?_
    refine lv_goto (tgt := 31) hx hb dX12_correct_10 (by decide) ?_
    refine pI C0 w fk_X12_62 fp_X12_5 (by decide +kernel) dX12_correct_31 (fun H locs w => ?_)
    refine lv_aload_n hx hb dX12_correct_34 rfl (lv_at hl 0 rfl) ?_
    refine gI C0 w fk_X12_62 (by decide +kernel) dX12_correct_35 ?_
    refine lv_if_eq (tgt := 43) hx hb dX12_correct_38 (by decide) (fun c17 => ?_) (fun c17 => ?_)
    · rw [if_pos c17] at hf
      refine lv_aload_n hx hb dX12_correct_43 rfl (lv_at hl 0 rfl) ?_
      obtain ⟨q18, h19, hf⟩ := bdE hf
      refine cV (As := []) (rest := []) (k := 224) (ci := 10) (T := TX12) (N := 22) C0 w (m_X12_keep l B _ (setI σ 224 5 1) q18 h19) ky_X12_keep kv_X12_keep lk_X12_131 rfl (by decide +kernel) ⟨Nat.le_of_ble_eq_true rfl, Nat.le_of_ble_eq_true rfl⟩ ⟨Nat.le_of_ble_eq_true rfl, Nat.le_of_ble_eq_true rfl⟩ rfl (by rfl) (Nat.le_of_ble_eq_true rfl) hl.1 dX12_correct_44 (fun H locs w => ?_)
      refine lv_aload_n hx hb dX12_correct_47 rfl (lv_at hl 0 rfl) ?_
      refine lv_iload_n hx hb dX12_correct_48 rfl (lv_at hl 1 rfl) ?_
      obtain ⟨q20, h21, hf⟩ := bdE hf
      refine cV (As := [.int x1]) (rest := []) (k := 224) (ci := 10) (T := TX12) (N := 22) C0 w (m_X12_corrects l B _ q18 x1 q20 h21) ky_X12_corrects kv_X12_corrects lk_X12_208 rfl (by decide +kernel) ⟨Nat.le_of_ble_eq_true rfl, Nat.le_of_ble_eq_true rfl⟩ ⟨Nat.le_of_ble_eq_true rfl, Nat.le_of_ble_eq_true rfl⟩ rfl (by rfl) (Nat.le_of_ble_eq_true rfl) hl.1 dX12_correct_49 (fun H locs w => ?_)
      obtain rfl := Option.some.inj hf
      exact eI C0 hr w rfl dX12_correct_52
    · rw [if_neg c17] at hf
      refine lv_iconst (v := 0) hx hb dX12_correct_41 (by decide) ?_
      obtain rfl := Option.some.inj hf
      exact eI C0 hr w rfl dX12_correct_42
def f_X12_arrange_74 (x1 : Int32) (x2 : Int32) : Nat → Int32 → Mem → Option (Int32 × Mem)
  | 0, _, _ => none
  | n + 1, x3, σ =>
    if x3 ≤ 0 then (
      some ((x3, σ)))
    else (
      gd (inb (x3 - 1) 16) (
      gd (inb (σ.1 234 (x3 - 1).toNatClampNeg) 16) (
      gd (inb x2 16) (
      if (σ.2 235 x2.toNatClampNeg) ≤ (σ.2 235 (σ.1 234 (x3 - 1).toNatClampNeg).toNatClampNeg) then (
        some ((x3, σ)))
      else (
        gd (inb (x3 - 1) 16) (
        gd (inb x3 16) (
        f_X12_arrange_74 x1 x2 n (x3 + (-1)) (setI σ 234 x3.toNatClampNeg (σ.1 234 (x3 - 1).toNatClampNeg)))))))))
def f_X12_arrange_4 : Nat → Int32 → Int32 → Mem → Option (Int32 × Mem)
  | 0, _, _, _ => none
  | n + 1, x1, x2, σ =>
    if (σ.2 225 (7 : Int32).toNatClampNeg) ≤ x2.toInt64 then (
      some ((x1, σ)))
    else (
      bd (f_X12_isActive x2 σ) (fun q3 =>
      if q3 = 0 then (
        f_X12_arrange_4 n x1 (x2 + 1) σ)
      else (
        if (σ.2 225 (5 : Int32).toNatClampNeg) = 1 then (
          gd (inb x2 16) (
          bd (f_X12_arrange_74 x1 x2 100000 x1 (setL σ 235 x2.toNatClampNeg x2.toInt64)) (fun q23 =>
          gd (inb q23.1 16) (
          f_X12_arrange_4 n (x1 + 1) (x2 + 1) (setI q23.2 234 q23.1.toNatClampNeg x2)))))
        else (
          if (σ.2 225 (5 : Int32).toNatClampNeg) = 2 then (
            bd (f_X12_residualOf x2 σ) (fun q14 =>
            bd (f_X12_abs q14.1 q14.2) (fun q16 =>
            gd (inb x2 16) (
            bd (f_X12_arrange_74 x1 x2 100000 x1 (setL q14.2 235 x2.toNatClampNeg q16)) (fun q19 =>
            gd (inb q19.1 16) (
            f_X12_arrange_4 n (x1 + 1) (x2 + 1) (setI q19.2 234 q19.1.toNatClampNeg x2)))))))
          else (
            gd (inb x2 16) (
            bd (f_X12_arrange_74 x1 x2 100000 x1 (setL σ 235 x2.toNatClampNeg 0)) (fun q11 =>
            gd (inb q11.1 16) (
            f_X12_arrange_4 n (x1 + 1) (x2 + 1) (setI q11.2 234 q11.1.toNatClampNeg x2)))))))))
def f_X12_arrange (σ : Mem) : Option (Int32 × Mem) :=
  bd (f_X12_arrange_4 100000 0 0 σ) (fun q1 =>
  some ((q1.1, q1.2)))
abbrev rm_X12_arrange : Room := { frames := 6, cells := 0, slots := 0, locals := 142 }
set_option maxHeartbeats 4000000 in
set_option maxRecDepth 100000 in
theorem lp_X12_arrange_74 {p : Program} {e : Env} {s : State} {m : MethodId} {args : Array Value} {below : List Frame} {meth : Method} {c : Code} {Q : State → Prop} (l : Launch) (B : Wb) (C0 : Cx p s m args meth c cX12_arrange 4 RX12) (x1 : Int32) (x2 : Int32) : ∀ (n : Nat) (x3 : Int32) (σ : Mem) (o : Int32 × Mem) (H : Heap) (locs : List Loc) (ls : Array Slot), f_X12_arrange_74 x1 x2 n x3 σ = some o → Wx B σ s H locs → lv_has ls 4 [(0, .ref (wA B 224)), (1, .int x1), (2, .int x2), (3, .int x3)] → (∀ (H : Heap) (locs : List Loc) (ls : Array Slot), Wx B o.2 s H locs → lv_has ls 4 [(0, .ref (wA B 224)), (1, .int x1), (2, .int x2), (3, .int o.1)] → W p l e rm_X12_arrange s m args below meth c H locs 0 0 Q (F0 m 121 ls [])) → W p l e rm_X12_arrange s m args below meth c H locs 0 0 Q (F0 m 74 ls []) := by
  have hx := C0.1.1
  have hb := C0.1.2.1
  intro n
  induction n with
  | zero =>
    intro x3 σ o H locs ls hf w hl hK
    cases hf
  | succ n ih =>
    intro x3 σ o H locs ls hf w hl hK
    rw [f_X12_arrange_74] at hf
    refine lv_iload_n hx hb dX12_arrange_74 rfl (lv_at hl 3 rfl) ?_
    refine lv_if_le (tgt := 121) hx hb dX12_arrange_75 (by decide) (fun c1 => ?_) (fun c1 => ?_)
    · rw [if_pos c1] at hf
      obtain rfl := Option.some.inj hf
      exact hK _ _ _ w (lv_sub hl [0, 1, 2, 3] rfl)
    · rw [if_neg c1] at hf
      refine lv_aload_n hx hb dX12_arrange_78 rfl (lv_at hl 0 rfl) ?_
      refine gR C0 w 235 fk_X12_42 (by decide +kernel) dX12_arrange_79 ?_
      refine lv_aload_n hx hb dX12_arrange_82 rfl (lv_at hl 0 rfl) ?_
      refine gR C0 w 234 fk_X12_39 (by decide +kernel) dX12_arrange_83 ?_
      refine lv_iload_n hx hb dX12_arrange_86 rfl (lv_at hl 3 rfl) ?_
      refine lv_iconst (v := 1) hx hb dX12_arrange_87 (by decide) ?_
      refine lv_isub hx hb dX12_arrange_88 ?_
      obtain ⟨g2, hf⟩ := gdE hf
      refine aI C0 w (n := 16) (by decide +kernel) (inbE g2) dX12_arrange_89 ?_
      obtain ⟨g3, hf⟩ := gdE hf
      refine aL C0 w (n := 16) (by decide +kernel) (inbE g3) dX12_arrange_90 ?_
      refine lv_aload_n hx hb dX12_arrange_91 rfl (lv_at hl 0 rfl) ?_
      refine gR C0 w 235 fk_X12_42 (by decide +kernel) dX12_arrange_92 ?_
      refine lv_iload_n hx hb dX12_arrange_95 rfl (lv_at hl 2 rfl) ?_
      obtain ⟨g4, hf⟩ := gdE hf
      refine aL C0 w (n := 16) (by decide +kernel) (inbE g4) dX12_arrange_96 ?_
      refine lc_ge (tgt := 121) C0 dX12_arrange_97 dX12_arrange_98 (by decide) (fun c5 => ?_) (fun c5 => ?_)
      · rw [if_pos c5] at hf
        obtain rfl := Option.some.inj hf
        exact hK _ _ _ w (lv_sub hl [0, 1, 2, 3] rfl)
      · rw [if_neg c5] at hf
        refine lv_aload_n hx hb dX12_arrange_101 rfl (lv_at hl 0 rfl) ?_
        refine gR C0 w 234 fk_X12_39 (by decide +kernel) dX12_arrange_102 ?_
        refine lv_iload_n hx hb dX12_arrange_105 rfl (lv_at hl 3 rfl) ?_
        refine lv_aload_n hx hb dX12_arrange_106 rfl (lv_at hl 0 rfl) ?_
        refine gR C0 w 234 fk_X12_39 (by decide +kernel) dX12_arrange_107 ?_
        refine lv_iload_n hx hb dX12_arrange_110 rfl (lv_at hl 3 rfl) ?_
        refine lv_iconst (v := 1) hx hb dX12_arrange_111 (by decide) ?_
        refine lv_isub hx hb dX12_arrange_112 ?_
        obtain ⟨g6, hf⟩ := gdE hf
        refine aI C0 w (n := 16) (by decide +kernel) (inbE g6) dX12_arrange_113 ?_
        obtain ⟨g7, hf⟩ := gdE hf
        refine sI C0 w (n := 16) (by decide +kernel) (inbE g7) dX12_arrange_114 (fun H locs w => ?_)
        refine lv_iinc (k := 3) (v := x3 + (-1)) (lv' := [(3, .int (x3 + (-1))), (0, .ref (wA B 224)), (1, .int x1), (2, .int x2)]) hx hb dX12_arrange_115 hl rfl (by rfl) (by decide) rfl (fun ls hl => ?_)
        refine lv_goto (tgt := 74) hx hb dX12_arrange_118 (by decide) ?_
        exact ih (x3 + (-1)) (setI σ 234 x3.toNatClampNeg (σ.1 234 (x3 - 1).toNatClampNeg)) _ _ _ _ hf w (lv_sub hl [1, 2, 3, 0] rfl) hK
set_option maxHeartbeats 4000000 in
set_option maxRecDepth 100000 in
theorem lp_X12_arrange_4 {p : Program} {e : Env} {s : State} {m : MethodId} {args : Array Value} {below : List Frame} {meth : Method} {c : Code} {Q : State → Prop} (l : Launch) (B : Wb) (C0 : Cx p s m args meth c cX12_arrange 4 RX12) : ∀ (n : Nat) (x1 : Int32) (x2 : Int32) (σ : Mem) (o : Int32 × Mem) (H : Heap) (locs : List Loc) (ls : Array Slot), f_X12_arrange_4 n x1 x2 σ = some o → Wx B σ s H locs → lv_has ls 4 [(0, .ref (wA B 224)), (1, .int x1), (2, .int x2)] → (∀ (H : Heap) (locs : List Loc) (ls : Array Slot), Wx B o.2 s H locs → lv_has ls 4 [(1, .int o.1)] → W p l e rm_X12_arrange s m args below meth c H locs 0 0 Q (F0 m 137 ls [])) → W p l e rm_X12_arrange s m args below meth c H locs 0 0 Q (F0 m 4 ls []) := by
  have hx := C0.1.1
  have hb := C0.1.2.1
  intro n
  induction n with
  | zero =>
    intro x1 x2 σ o H locs ls hf w hl hK
    cases hf
  | succ n ih =>
    intro x1 x2 σ o H locs ls hf w hl hK
    rw [f_X12_arrange_4] at hf
    refine lv_iload_n hx hb dX12_arrange_4 rfl (lv_at hl 2 rfl) ?_
    refine lv_i2l hx hb dX12_arrange_5 rfl ?_
    refine lv_aload_n hx hb dX12_arrange_6 rfl (lv_at hl 0 rfl) ?_
    refine gR C0 w 225 fk_X12_7 (by decide +kernel) dX12_arrange_7 ?_
    refine lv_bipush (v := 7) hx hb dX12_arrange_10 (by decide) ?_
    refine aL C0 w (n := 200) (by decide +kernel) (inbE (by decide)) dX12_arrange_12 ?_
    refine lc_ge (tgt := 137) C0 dX12_arrange_13 dX12_arrange_14 (by decide) (fun c2 => ?_) (fun c2 => ?_)
    · rw [if_pos c2] at hf
      obtain rfl := Option.some.inj hf
      exact hK _ _ _ w (lv_sub hl [1] rfl)
    · rw [if_neg c2] at hf
      refine lv_aload_n hx hb dX12_arrange_17 rfl (lv_at hl 0 rfl) ?_
      refine lv_iload_n hx hb dX12_arrange_18 rfl (lv_at hl 2 rfl) ?_
      obtain ⟨q3, h4, hf⟩ := bdE hf
      refine cV (As := [.int x2]) (rest := []) (k := 224) (ci := 10) (T := TX12) (N := 22) C0 w (m_X12_isActive l B _ σ x2 q3 h4) ky_X12_isActive kv_X12_isActive lk_X12_89 rfl (by decide +kernel) ⟨Nat.le_of_ble_eq_true rfl, Nat.le_of_ble_eq_true rfl⟩ ⟨Nat.le_of_ble_eq_true rfl, Nat.le_of_ble_eq_true rfl⟩ rfl (by rfl) (Nat.le_of_ble_eq_true rfl) hl.1 dX12_arrange_19 (fun H locs w => ?_)
      refine lv_if_eq (tgt := 131) hx hb dX12_arrange_22 (by decide) (fun c5 => ?_) (fun c5 => ?_)
      · rw [if_pos c5] at hf
        refine lv_iinc (k := 2) (v := x2 + 1) (lv' := [(2, .int (x2 + 1)), (0, .ref (wA B 224)), (1, .int x1)]) hx hb dX12_arrange_131 hl rfl (by rfl) (by decide) rfl (fun ls hl => ?_)
        refine lv_goto (tgt := 4) hx hb dX12_arrange_134 (by decide) ?_
        exact ih x1 (x2 + 1) σ _ _ _ _ hf w (lv_sub hl [1, 2, 0] rfl) hK
      · rw [if_neg c5] at hf
        refine lv_aload_n hx hb dX12_arrange_25 rfl (lv_at hl 0 rfl) ?_
        refine gR C0 w 235 fk_X12_42 (by decide +kernel) dX12_arrange_26 ?_
        refine lv_iload_n hx hb dX12_arrange_29 rfl (lv_at hl 2 rfl) ?_
        refine lv_aload_n hx hb dX12_arrange_30 rfl (lv_at hl 0 rfl) ?_
        refine gR C0 w 225 fk_X12_7 (by decide +kernel) dX12_arrange_31 ?_
        refine lv_iconst (v := 5) hx hb dX12_arrange_34 (by decide) ?_
        refine aL C0 w (n := 200) (by decide +kernel) (inbE (by decide)) dX12_arrange_35 ?_
        refine lv_lconst (v := 1) hx hb dX12_arrange_36 (by decide) ?_
        refine lc_ne (tgt := 46) C0 dX12_arrange_37 dX12_arrange_38 (by decide) (fun c7 => ?_) (fun c7 => ?_)
        · rw [if_neg c7] at hf
          refine lv_aload_n hx hb dX12_arrange_46 rfl (lv_at hl 0 rfl) ?_
          refine gR C0 w 225 fk_X12_7 (by decide +kernel) dX12_arrange_47 ?_
          refine lv_iconst (v := 5) hx hb dX12_arrange_50 (by decide) ?_
          refine aL C0 w (n := 200) (by decide +kernel) (inbE (by decide)) dX12_arrange_51 ?_
          refine kLg C0 2 kc_X12_93 dX12_arrange_52 ?_
          refine lc_ne (tgt := 70) C0 dX12_arrange_55 dX12_arrange_56 (by decide) (fun c9 => ?_) (fun c9 => ?_)
          · rw [if_neg c9] at hf
            refine lv_lconst (v := 0) hx hb dX12_arrange_70 (by decide) ?_
            obtain ⟨g10, hf⟩ := gdE hf
            refine sL C0 w (n := 16) (by decide +kernel) (inbE g10) dX12_arrange_71 (fun H locs w => ?_)
            refine lv_iload_n hx hb dX12_arrange_72 rfl (lv_at hl 1 rfl) ?_
            refine lv_istore_n (lv' := [(3, .int x1), (0, .ref (wA B 224)), (1, .int x1), (2, .int x2)]) hx hb dX12_arrange_73 rfl hl (by decide) rfl (fun ls hl => ?_)
            obtain ⟨q11, h12, hf⟩ := bdE hf
            refine lp_X12_arrange_74 l B C0 x1 x2 100000 x1 (setL σ 235 x2.toNatClampNeg 0) q11 _ _ _ h12 w (lv_sub hl [1, 2, 3, 0] rfl) (fun H locs ls w hl => ?_)
            refine lv_aload_n hx hb dX12_arrange_121 rfl (lv_at hl 0 rfl) ?_
            refine gR C0 w 234 fk_X12_39 (by decide +kernel) dX12_arrange_122 ?_
            refine lv_iload_n hx hb dX12_arrange_125 rfl (lv_at hl 3 rfl) ?_
            refine lv_iload_n hx hb dX12_arrange_126 rfl (lv_at hl 2 rfl) ?_
            obtain ⟨g13, hf⟩ := gdE hf
            refine sI C0 w (n := 16) (by decide +kernel) (inbE g13) dX12_arrange_127 (fun H locs w => ?_)
            refine lv_iinc (k := 1) (v := x1 + 1) (lv' := [(1, .int (x1 + 1)), (0, .ref (wA B 224)), (2, .int x2), (3, .int q11.1)]) hx hb dX12_arrange_128 hl rfl (by rfl) (by decide) rfl (fun ls hl => ?_)
            refine lv_iinc (k := 2) (v := x2 + 1) (lv' := [(2, .int (x2 + 1)), (1, .int (x1 + 1)), (0, .ref (wA B 224)), (3, .int q11.1)]) hx hb dX12_arrange_131 hl rfl (by rfl) (by decide) rfl (fun ls hl => ?_)
            refine lv_goto (tgt := 4) hx hb dX12_arrange_134 (by decide) ?_
            exact ih (x1 + 1) (x2 + 1) (setI q11.2 234 q11.1.toNatClampNeg x2) _ _ _ _ hf w (lv_sub hl [2, 1, 0] rfl) hK
          · rw [if_pos c9] at hf
            refine lv_aload_n hx hb dX12_arrange_59 rfl (lv_at hl 0 rfl) ?_
            refine lv_iload_n hx hb dX12_arrange_60 rfl (lv_at hl 2 rfl) ?_
            obtain ⟨q14, h15, hf⟩ := bdE hf
            refine cV (As := [.int x2]) (rest := [.int x2, .ref (wA B 235)]) (k := 224) (ci := 10) (T := TX12) (N := 22) C0 w (m_X12_residualOf l B _ σ x2 q14 h15) ky_X12_residualOf kv_X12_residualOf lk_X12_211 rfl (by decide +kernel) ⟨Nat.le_of_ble_eq_true rfl, Nat.le_of_ble_eq_true rfl⟩ ⟨Nat.le_of_ble_eq_true rfl, Nat.le_of_ble_eq_true rfl⟩ rfl (by rfl) (Nat.le_of_ble_eq_true rfl) hl.1 dX12_arrange_61 (fun H locs w => ?_)
            obtain ⟨q16, h17, hf⟩ := bdE hf
            refine cS (As := [.long q14.1]) (rest := [.int x2, .ref (wA B 235)]) C0 w (m_X12_abs l B _ q14.2 q14.1 q16 h17) ky_X12_abs ks_X12_abs lk_X12_214 ⟨Nat.le_of_ble_eq_true rfl, Nat.le_of_ble_eq_true rfl⟩ ⟨Nat.le_of_ble_eq_true rfl, Nat.le_of_ble_eq_true rfl⟩ rfl (by rfl) (Nat.le_of_ble_eq_true rfl) hl.1 dX12_arrange_64 (fun H locs w => ?_)
            refine lv_goto (tgt := 71) hx hb dX12_arrange_67 (by decide) ?_
            obtain ⟨g18, hf⟩ := gdE hf
            refine sL C0 w (n := 16) (by decide +kernel) (inbE g18) dX12_arrange_71 (fun H locs w => ?_)
            refine lv_iload_n hx hb dX12_arrange_72 rfl (lv_at hl 1 rfl) ?_
            refine lv_istore_n (lv' := [(3, .int x1), (0, .ref (wA B 224)), (1, .int x1), (2, .int x2)]) hx hb dX12_arrange_73 rfl hl (by decide) rfl (fun ls hl => ?_)
            obtain ⟨q19, h20, hf⟩ := bdE hf
            refine lp_X12_arrange_74 l B C0 x1 x2 100000 x1 (setL q14.2 235 x2.toNatClampNeg q16) q19 _ _ _ h20 w (lv_sub hl [1, 2, 3, 0] rfl) (fun H locs ls w hl => ?_)
            refine lv_aload_n hx hb dX12_arrange_121 rfl (lv_at hl 0 rfl) ?_
            refine gR C0 w 234 fk_X12_39 (by decide +kernel) dX12_arrange_122 ?_
            refine lv_iload_n hx hb dX12_arrange_125 rfl (lv_at hl 3 rfl) ?_
            refine lv_iload_n hx hb dX12_arrange_126 rfl (lv_at hl 2 rfl) ?_
            obtain ⟨g21, hf⟩ := gdE hf
            refine sI C0 w (n := 16) (by decide +kernel) (inbE g21) dX12_arrange_127 (fun H locs w => ?_)
            refine lv_iinc (k := 1) (v := x1 + 1) (lv' := [(1, .int (x1 + 1)), (0, .ref (wA B 224)), (2, .int x2), (3, .int q19.1)]) hx hb dX12_arrange_128 hl rfl (by rfl) (by decide) rfl (fun ls hl => ?_)
            refine lv_iinc (k := 2) (v := x2 + 1) (lv' := [(2, .int (x2 + 1)), (1, .int (x1 + 1)), (0, .ref (wA B 224)), (3, .int q19.1)]) hx hb dX12_arrange_131 hl rfl (by rfl) (by decide) rfl (fun ls hl => ?_)
            refine lv_goto (tgt := 4) hx hb dX12_arrange_134 (by decide) ?_
            exact ih (x1 + 1) (x2 + 1) (setI q19.2 234 q19.1.toNatClampNeg x2) _ _ _ _ hf w (lv_sub hl [2, 1, 0] rfl) hK
        · rw [if_pos c7] at hf
          refine lv_iload_n hx hb dX12_arrange_41 rfl (lv_at hl 2 rfl) ?_
          refine lv_i2l hx hb dX12_arrange_42 rfl ?_
          refine lv_goto (tgt := 71) hx hb dX12_arrange_43 (by decide) ?_
          obtain ⟨g22, hf⟩ := gdE hf
          refine sL C0 w (n := 16) (by decide +kernel) (inbE g22) dX12_arrange_71 (fun H locs w => ?_)
          refine lv_iload_n hx hb dX12_arrange_72 rfl (lv_at hl 1 rfl) ?_
          refine lv_istore_n (lv' := [(3, .int x1), (0, .ref (wA B 224)), (1, .int x1), (2, .int x2)]) hx hb dX12_arrange_73 rfl hl (by decide) rfl (fun ls hl => ?_)
          obtain ⟨q23, h24, hf⟩ := bdE hf
          refine lp_X12_arrange_74 l B C0 x1 x2 100000 x1 (setL σ 235 x2.toNatClampNeg x2.toInt64) q23 _ _ _ h24 w (lv_sub hl [1, 2, 3, 0] rfl) (fun H locs ls w hl => ?_)
          refine lv_aload_n hx hb dX12_arrange_121 rfl (lv_at hl 0 rfl) ?_
          refine gR C0 w 234 fk_X12_39 (by decide +kernel) dX12_arrange_122 ?_
          refine lv_iload_n hx hb dX12_arrange_125 rfl (lv_at hl 3 rfl) ?_
          refine lv_iload_n hx hb dX12_arrange_126 rfl (lv_at hl 2 rfl) ?_
          obtain ⟨g25, hf⟩ := gdE hf
          refine sI C0 w (n := 16) (by decide +kernel) (inbE g25) dX12_arrange_127 (fun H locs w => ?_)
          refine lv_iinc (k := 1) (v := x1 + 1) (lv' := [(1, .int (x1 + 1)), (0, .ref (wA B 224)), (2, .int x2), (3, .int q23.1)]) hx hb dX12_arrange_128 hl rfl (by rfl) (by decide) rfl (fun ls hl => ?_)
          refine lv_iinc (k := 2) (v := x2 + 1) (lv' := [(2, .int (x2 + 1)), (1, .int (x1 + 1)), (0, .ref (wA B 224)), (3, .int q23.1)]) hx hb dX12_arrange_131 hl rfl (by rfl) (by decide) rfl (fun ls hl => ?_)
          refine lv_goto (tgt := 4) hx hb dX12_arrange_134 (by decide) ?_
          exact ih (x1 + 1) (x2 + 1) (setI q23.2 234 q23.1.toNatClampNeg x2) _ _ _ _ hf w (lv_sub hl [2, 1, 0] rfl) hK
set_option maxHeartbeats 4000000 in
set_option maxRecDepth 100000 in
theorem m_X12_arrange (l : Launch) (B : Wb) (sz : Nat) (σ : Mem) (q : Int32 × Mem) (hf : f_X12_arrange σ = some q) : MetC l yX12_arrange cX12_arrange 4 (some .int) rm_X12_arrange B sz σ q.2 [.ref (wA B 224)] (some (.int q.1)) := by
  refine met_in (by decide +kernel) (Nat.le_of_ble_eq_true rfl) ?_
  intro p e s m below meth c C0 hr w hsz ls hl
  have hx := C0.1.1
  have hb := C0.1.2.1
  unfold f_X12_arrange at hf
  refine lv_iconst (v := 0) hx hb dX12_arrange_0 (by decide) ?_
  refine lv_istore_n (lv' := [(1, .int 0), (0, .ref (wA B 224))]) hx hb dX12_arrange_1 rfl hl (by decide) rfl (fun ls hl => ?_)
  refine lv_iconst (v := 0) hx hb dX12_arrange_2 (by decide) ?_
  refine lv_istore_n (lv' := [(2, .int 0), (1, .int 0), (0, .ref (wA B 224))]) hx hb dX12_arrange_3 rfl hl (by decide) rfl (fun ls hl => ?_)
  obtain ⟨q1, h2, hf⟩ := bdE hf
  refine lp_X12_arrange_4 l B C0 100000 0 0 σ q1 _ _ _ h2 w (lv_sub hl [2, 1, 0] rfl) (fun H locs ls w hl => ?_)
  refine lv_iload_n hx hb dX12_arrange_137 rfl (lv_at hl 0 rfl) ?_
  obtain rfl := Option.some.inj hf
  exact eI C0 hr w rfl dX12_arrange_138
def f_X12_shuffle_2 (x1 : Int32) : Nat → Int32 → Mem → Option (Mem)
  | 0, _, _ => none
  | n + 1, x2, σ =>
    if x1 ≤ x2 then (
      some σ)
    else (
      gd (inb x2 16) (
      gd (inb x2 16) (
      f_X12_shuffle_2 x1 n (x2 + 1) (setI σ 236 x2.toNatClampNeg (σ.1 234 x2.toNatClampNeg)))))
def f_X12_shuffle_82 (x1 : Int32) (x2 : Int32) : Nat → Int32 → Mem → Option (Mem)
  | 0, _, _ => none
  | n + 1, x4, σ =>
    if x1 ≤ (x4 + 1) then (
      some σ)
    else (
      gd (inb (x4 + 1) 16) (
      gd (inb x4 16) (
      f_X12_shuffle_82 x1 x2 n (x4 + 1) (setI σ 236 x4.toNatClampNeg (σ.1 236 (x4 + 1).toNatClampNeg)))))
def f_X12_shuffle_27 (x1 : Int32) : Nat → Int32 → Mem → Option (Mem)
  | 0, _, _ => none
  | n + 1, x2, σ =>
    if x1 ≤ x2 then (
      some σ)
    else (
      bd (f_X12_next (σ.2 225 (6 : Int32).toNatClampNeg) σ) (fun q3 =>
      gd (nz8 ((x1 - x2).toInt64)) (
      gd (inb (((((setL σ 225 ((6 : Int32).toNatClampNeg) q3).2 225 (6 : Int32).toNatClampNeg) / 65536) - (((setL σ 225 ((6 : Int32).toNatClampNeg) q3).2 225 (6 : Int32).toNatClampNeg) / 65536) / ((x1 - x2).toInt64) * ((x1 - x2).toInt64)).toInt32) 16) (
      gd (inb x2 16) (
      bd (some (setI (setL σ 225 ((6 : Int32).toNatClampNeg) q3) 234 x2.toNatClampNeg ((setL σ 225 ((6 : Int32).toNatClampNeg) q3).1 236 (((((setL σ 225 ((6 : Int32).toNatClampNeg) q3).2 225 (6 : Int32).toNatClampNeg) / 65536) - (((setL σ 225 ((6 : Int32).toNatClampNeg) q3).2 225 (6 : Int32).toNatClampNeg) / 65536) / ((x1 - x2).toInt64) * ((x1 - x2).toInt64)).toInt32).toNatClampNeg))) (fun q10 =>
      bd (f_X12_shuffle_82 x1 x2 100000 (((((setL σ 225 ((6 : Int32).toNatClampNeg) q3).2 225 (6 : Int32).toNatClampNeg) / 65536) - (((setL σ 225 ((6 : Int32).toNatClampNeg) q3).2 225 (6 : Int32).toNatClampNeg) / 65536) / ((x1 - x2).toInt64) * ((x1 - x2).toInt64)).toInt32) q10) (fun q12 =>
      f_X12_shuffle_27 x1 n (x2 + 1) q12)))))))
def f_X12_shuffle (x1 : Int32) (σ : Mem) : Option (Mem) :=
  bd (f_X12_shuffle_2 x1 100000 0 σ) (fun q1 =>
  bd (f_X12_shuffle_27 x1 100000 0 q1) (fun q3 =>
  some q3))
abbrev rm_X12_shuffle : Room := { frames := 1, cells := 0, slots := 0, locals := 21 }
set_option maxHeartbeats 4000000 in
set_option maxRecDepth 100000 in
theorem lp_X12_shuffle_2 {p : Program} {e : Env} {s : State} {m : MethodId} {args : Array Value} {below : List Frame} {meth : Method} {c : Code} {Q : State → Prop} (l : Launch) (B : Wb) (C0 : Cx p s m args meth c cX12_shuffle 5 RX12) (x1 : Int32) : ∀ (n : Nat) (x2 : Int32) (σ : Mem) (o : Mem) (H : Heap) (locs : List Loc) (ls : Array Slot), f_X12_shuffle_2 x1 n x2 σ = some o → Wx B σ s H locs → lv_has ls 5 [(0, .ref (wA B 224)), (1, .int x1), (2, .int x2)] → (∀ (H : Heap) (locs : List Loc) (ls : Array Slot), Wx B o s H locs → lv_has ls 5 [(0, .ref (wA B 224)), (1, .int x1)] → W p l e rm_X12_shuffle s m args below meth c H locs 0 0 Q (F0 m 25 ls [])) → W p l e rm_X12_shuffle s m args below meth c H locs 0 0 Q (F0 m 2 ls []) := by
  have hx := C0.1.1
  have hb := C0.1.2.1
  intro n
  induction n with
  | zero =>
    intro x2 σ o H locs ls hf w hl hK
    cases hf
  | succ n ih =>
    intro x2 σ o H locs ls hf w hl hK
    rw [f_X12_shuffle_2] at hf
    refine lv_iload_n hx hb dX12_shuffle_2 rfl (lv_at hl 2 rfl) ?_
    refine lv_iload_n hx hb dX12_shuffle_3 rfl (lv_at hl 1 rfl) ?_
    refine lv_icmp_ge (tgt := 25) hx hb dX12_shuffle_4 (by decide) (fun c1 => ?_) (fun c1 => ?_)
    · rw [if_pos c1] at hf
      obtain rfl := Option.some.inj hf
      exact hK _ _ _ w (lv_sub hl [0, 1] rfl)
    · rw [if_neg c1] at hf
      refine lv_aload_n hx hb dX12_shuffle_7 rfl (lv_at hl 0 rfl) ?_
      refine gR C0 w 236 fk_X12_45 (by decide +kernel) dX12_shuffle_8 ?_
      refine lv_iload_n hx hb dX12_shuffle_11 rfl (lv_at hl 2 rfl) ?_
      refine lv_aload_n hx hb dX12_shuffle_12 rfl (lv_at hl 0 rfl) ?_
      refine gR C0 w 234 fk_X12_39 (by decide +kernel) dX12_shuffle_13 ?_
      refine lv_iload_n hx hb dX12_shuffle_16 rfl (lv_at hl 2 rfl) ?_
      obtain ⟨g2, hf⟩ := gdE hf
      refine aI C0 w (n := 16) (by decide +kernel) (inbE g2) dX12_shuffle_17 ?_
      obtain ⟨g3, hf⟩ := gdE hf
      refine sI C0 w (n := 16) (by decide +kernel) (inbE g3) dX12_shuffle_18 (fun H locs w => ?_)
      refine lv_iinc (k := 2) (v := x2 + 1) (lv' := [(2, .int (x2 + 1)), (0, .ref (wA B 224)), (1, .int x1)]) hx hb dX12_shuffle_19 hl rfl (by rfl) (by decide) rfl (fun ls hl => ?_)
      refine lv_goto (tgt := 2) hx hb dX12_shuffle_22 (by decide) ?_
      exact ih (x2 + 1) (setI σ 236 x2.toNatClampNeg (σ.1 234 x2.toNatClampNeg)) _ _ _ _ hf w (lv_sub hl [1, 2, 0] rfl) hK
set_option maxHeartbeats 4000000 in
set_option maxRecDepth 100000 in
theorem lp_X12_shuffle_82 {p : Program} {e : Env} {s : State} {m : MethodId} {args : Array Value} {below : List Frame} {meth : Method} {c : Code} {Q : State → Prop} (l : Launch) (B : Wb) (C0 : Cx p s m args meth c cX12_shuffle 5 RX12) (x1 : Int32) (x2 : Int32) : ∀ (n : Nat) (x4 : Int32) (σ : Mem) (o : Mem) (H : Heap) (locs : List Loc) (ls : Array Slot), f_X12_shuffle_82 x1 x2 n x4 σ = some o → Wx B σ s H locs → lv_has ls 5 [(0, .ref (wA B 224)), (1, .int x1), (2, .int x2), (4, .int x4)] → (∀ (H : Heap) (locs : List Loc) (ls : Array Slot), Wx B o s H locs → lv_has ls 5 [(0, .ref (wA B 224)), (1, .int x1), (2, .int x2)] → W p l e rm_X12_shuffle s m args below meth c H locs 0 0 Q (F0 m 112 ls [])) → W p l e rm_X12_shuffle s m args below meth c H locs 0 0 Q (F0 m 82 ls []) := by
  have hx := C0.1.1
  have hb := C0.1.2.1
  intro n
  induction n with
  | zero =>
    intro x4 σ o H locs ls hf w hl hK
    cases hf
  | succ n ih =>
    intro x4 σ o H locs ls hf w hl hK
    rw [f_X12_shuffle_82] at hf
    refine lv_iload hx hb dX12_shuffle_82 (lv_at hl 3 rfl) ?_
    refine lv_iconst (v := 1) hx hb dX12_shuffle_84 (by decide) ?_
    refine lv_iadd hx hb dX12_shuffle_85 ?_
    refine lv_iload_n hx hb dX12_shuffle_86 rfl (lv_at hl 1 rfl) ?_
    refine lv_icmp_ge (tgt := 112) hx hb dX12_shuffle_87 (by decide) (fun c1 => ?_) (fun c1 => ?_)
    · rw [if_pos c1] at hf
      obtain rfl := Option.some.inj hf
      exact hK _ _ _ w (lv_sub hl [0, 1, 2] rfl)
    · rw [if_neg c1] at hf
      refine lv_aload_n hx hb dX12_shuffle_90 rfl (lv_at hl 0 rfl) ?_
      refine gR C0 w 236 fk_X12_45 (by decide +kernel) dX12_shuffle_91 ?_
      refine lv_iload hx hb dX12_shuffle_94 (lv_at hl 3 rfl) ?_
      refine lv_aload_n hx hb dX12_shuffle_96 rfl (lv_at hl 0 rfl) ?_
      refine gR C0 w 236 fk_X12_45 (by decide +kernel) dX12_shuffle_97 ?_
      refine lv_iload hx hb dX12_shuffle_100 (lv_at hl 3 rfl) ?_
      refine lv_iconst (v := 1) hx hb dX12_shuffle_102 (by decide) ?_
      refine lv_iadd hx hb dX12_shuffle_103 ?_
      obtain ⟨g2, hf⟩ := gdE hf
      refine aI C0 w (n := 16) (by decide +kernel) (inbE g2) dX12_shuffle_104 ?_
      obtain ⟨g3, hf⟩ := gdE hf
      refine sI C0 w (n := 16) (by decide +kernel) (inbE g3) dX12_shuffle_105 (fun H locs w => ?_)
      refine lv_iinc (k := 3) (v := x4 + 1) (lv' := [(4, .int (x4 + 1)), (0, .ref (wA B 224)), (1, .int x1), (2, .int x2)]) hx hb dX12_shuffle_106 hl rfl (by rfl) (by decide) rfl (fun ls hl => ?_)
      refine lv_goto (tgt := 82) hx hb dX12_shuffle_109 (by decide) ?_
      exact ih (x4 + 1) (setI σ 236 x4.toNatClampNeg (σ.1 236 (x4 + 1).toNatClampNeg)) _ _ _ _ hf w (lv_sub hl [1, 2, 3, 0] rfl) hK
set_option maxHeartbeats 4000000 in
set_option maxRecDepth 100000 in
theorem lp_X12_shuffle_27 {p : Program} {e : Env} {s : State} {m : MethodId} {args : Array Value} {below : List Frame} {meth : Method} {c : Code} {Q : State → Prop} (l : Launch) (B : Wb) (C0 : Cx p s m args meth c cX12_shuffle 5 RX12) (x1 : Int32) : ∀ (n : Nat) (x2 : Int32) (σ : Mem) (o : Mem) (H : Heap) (locs : List Loc) (ls : Array Slot), f_X12_shuffle_27 x1 n x2 σ = some o → Wx B σ s H locs → lv_has ls 5 [(0, .ref (wA B 224)), (1, .int x1), (2, .int x2)] → (∀ (H : Heap) (locs : List Loc) (ls : Array Slot), Wx B o s H locs → lv_has ls 5 [] → W p l e rm_X12_shuffle s m args below meth c H locs 0 0 Q (F0 m 118 ls [])) → W p l e rm_X12_shuffle s m args below meth c H locs 0 0 Q (F0 m 27 ls []) := by
  have hx := C0.1.1
  have hb := C0.1.2.1
  intro n
  induction n with
  | zero =>
    intro x2 σ o H locs ls hf w hl hK
    cases hf
  | succ n ih =>
    intro x2 σ o H locs ls hf w hl hK
    rw [f_X12_shuffle_27] at hf
    refine lv_iload_n hx hb dX12_shuffle_27 rfl (lv_at hl 2 rfl) ?_
    refine lv_iload_n hx hb dX12_shuffle_28 rfl (lv_at hl 1 rfl) ?_
    refine lv_icmp_ge (tgt := 118) hx hb dX12_shuffle_29 (by decide) (fun c1 => ?_) (fun c1 => ?_)
    · rw [if_pos c1] at hf
      obtain rfl := Option.some.inj hf
      exact hK _ _ _ w (lv_sub hl [] rfl)
    · rw [if_neg c1] at hf
      refine lv_aload_n hx hb dX12_shuffle_32 rfl (lv_at hl 0 rfl) ?_
      refine gR C0 w 225 fk_X12_7 (by decide +kernel) dX12_shuffle_33 ?_
      refine lv_bipush (v := 6) hx hb dX12_shuffle_36 (by decide) ?_
      refine lv_aload_n hx hb dX12_shuffle_38 rfl (lv_at hl 0 rfl) ?_
      refine gR C0 w 225 fk_X12_7 (by decide +kernel) dX12_shuffle_39 ?_
      refine lv_bipush (v := 6) hx hb dX12_shuffle_42 (by decide) ?_
      refine aL C0 w (n := 200) (by decide +kernel) (inbE (by decide)) dX12_shuffle_44 ?_
      obtain ⟨q3, h4, hf⟩ := bdE hf
      refine cS (As := [.long (σ.2 225 (6 : Int32).toNatClampNeg)]) (rest := [.int 6, .ref (wA B 225)]) C0 w (m_X12_next l B _ σ (σ.2 225 (6 : Int32).toNatClampNeg) q3 h4) ky_X12_next ks_X12_next lk_X12_187 ⟨Nat.le_of_ble_eq_true rfl, Nat.le_of_ble_eq_true rfl⟩ ⟨Nat.le_of_ble_eq_true rfl, Nat.le_of_ble_eq_true rfl⟩ rfl (by rfl) (Nat.le_of_ble_eq_true rfl) hl.1 dX12_shuffle_45 (fun H locs w => ?_)
      refine sL C0 w (n := 200) (by decide +kernel) (inbE (by decide)) dX12_shuffle_48 (fun H locs w => ?_)
      refine lv_aload_n hx hb dX12_shuffle_49 rfl (lv_at hl 0 rfl) ?_
      refine gR C0 w 225 fk_X12_7 (by decide +kernel) dX12_shuffle_50 ?_
      refine lv_bipush (v := 6) hx hb dX12_shuffle_53 (by decide) ?_
      refine aL C0 w (n := 200) (by decide +kernel) (inbE (by decide)) dX12_shuffle_55 ?_
      refine kLg C0 65536 kc_X12_191 dX12_shuffle_56 ?_
      refine lv_ldiv hx hb dX12_shuffle_59 (by decide) ?_
      refine lv_iload_n hx hb dX12_shuffle_60 rfl (lv_at hl 1 rfl) ?_
      refine lv_iload_n hx hb dX12_shuffle_61 rfl (lv_at hl 2 rfl) ?_
      refine lv_isub hx hb dX12_shuffle_62 ?_
      refine lv_i2l hx hb dX12_shuffle_63 rfl ?_
      obtain ⟨g7, hf⟩ := gdE hf
      refine lv_lrem hx hb dX12_shuffle_64 (nz8E g7) ?_
      refine lv_l2i hx hb dX12_shuffle_65 rfl ?_
      refine lv_istore_n (lv' := [(3, .int (((((setL σ 225 ((6 : Int32).toNatClampNeg) q3).2 225 (6 : Int32).toNatClampNeg) / 65536) - (((setL σ 225 ((6 : Int32).toNatClampNeg) q3).2 225 (6 : Int32).toNatClampNeg) / 65536) / ((x1 - x2).toInt64) * ((x1 - x2).toInt64)).toInt32)), (0, .ref (wA B 224)), (1, .int x1), (2, .int x2)]) hx hb dX12_shuffle_66 rfl hl (by decide) rfl (fun ls hl => ?_)
      refine lv_aload_n hx hb dX12_shuffle_67 rfl (lv_at hl 1 rfl) ?_
      refine gR C0 w 234 fk_X12_39 (by decide +kernel) dX12_shuffle_68 ?_
      refine lv_iload_n hx hb dX12_shuffle_71 rfl (lv_at hl 3 rfl) ?_
      refine lv_aload_n hx hb dX12_shuffle_72 rfl (lv_at hl 1 rfl) ?_
      refine gR C0 w 236 fk_X12_45 (by decide +kernel) dX12_shuffle_73 ?_
      refine lv_iload_n hx hb dX12_shuffle_76 rfl (lv_at hl 0 rfl) ?_
      obtain ⟨g8, hf⟩ := gdE hf
      refine aI C0 w (n := 16) (by decide +kernel) (inbE g8) dX12_shuffle_77 ?_
      obtain ⟨g9, hf⟩ := gdE hf
      refine sI C0 w (n := 16) (by decide +kernel) (inbE g9) dX12_shuffle_78 (fun H locs w => ?_)
      obtain ⟨q10, h11, hf⟩ := bdE hf
      have w : Wx B q10 s H locs := by rw [← Option.some.inj h11]; exact w
      refine lv_iload_n hx hb dX12_shuffle_79 rfl (lv_at hl 0 rfl) ?_
      refine lv_istore (lv' := [(4, .int (((((setL σ 225 ((6 : Int32).toNatClampNeg) q3).2 225 (6 : Int32).toNatClampNeg) / 65536) - (((setL σ 225 ((6 : Int32).toNatClampNeg) q3).2 225 (6 : Int32).toNatClampNeg) / 65536) / ((x1 - x2).toInt64) * ((x1 - x2).toInt64)).toInt32)), (3, .int (((((setL σ 225 ((6 : Int32).toNatClampNeg) q3).2 225 (6 : Int32).toNatClampNeg) / 65536) - (((setL σ 225 ((6 : Int32).toNatClampNeg) q3).2 225 (6 : Int32).toNatClampNeg) / 65536) / ((x1 - x2).toInt64) * ((x1 - x2).toInt64)).toInt32)), (0, .ref (wA B 224)), (1, .int x1), (2, .int x2)]) hx hb dX12_shuffle_80 hl (by decide) rfl (fun ls hl => ?_)
      obtain ⟨q12, h13, hf⟩ := bdE hf
      refine lp_X12_shuffle_82 l B C0 x1 x2 100000 (((((setL σ 225 ((6 : Int32).toNatClampNeg) q3).2 225 (6 : Int32).toNatClampNeg) / 65536) - (((setL σ 225 ((6 : Int32).toNatClampNeg) q3).2 225 (6 : Int32).toNatClampNeg) / 65536) / ((x1 - x2).toInt64) * ((x1 - x2).toInt64)).toInt32) q10 q12 _ _ _ h13 w (lv_sub hl [2, 3, 4, 0] rfl) (fun H locs ls w hl => ?_)
      refine lv_iinc (k := 2) (v := x2 + 1) (lv' := [(2, .int (x2 + 1)), (0, .ref (wA B 224)), (1, .int x1)]) hx hb dX12_shuffle_112 hl rfl (by rfl) (by decide) rfl (fun ls hl => ?_)
      refine lv_goto (tgt := 27) hx hb dX12_shuffle_115 (by decide) ?_
      exact ih (x2 + 1) q12 _ _ _ _ hf w (lv_sub hl [1, 2, 0] rfl) hK
set_option maxHeartbeats 4000000 in
set_option maxRecDepth 100000 in
theorem m_X12_shuffle (l : Launch) (B : Wb) (sz : Nat) (σ : Mem) (x1 : Int32) (q : Mem) (hf : f_X12_shuffle x1 σ = some q) : MetC l yX12_shuffle cX12_shuffle 5 none rm_X12_shuffle B sz σ q [.ref (wA B 224), .int x1] (none) := by
  refine met_in (by decide +kernel) (Nat.le_of_ble_eq_true rfl) ?_
  intro p e s m below meth c C0 hr w hsz ls hl
  have hx := C0.1.1
  have hb := C0.1.2.1
  unfold f_X12_shuffle at hf
  refine lv_iconst (v := 0) hx hb dX12_shuffle_0 (by decide) ?_
  refine lv_istore_n (lv' := [(2, .int 0), (0, .ref (wA B 224)), (1, .int x1)]) hx hb dX12_shuffle_1 rfl hl (by decide) rfl (fun ls hl => ?_)
  obtain ⟨q1, h2, hf⟩ := bdE hf
  refine lp_X12_shuffle_2 l B C0 x1 100000 0 σ q1 _ _ _ h2 w (lv_sub hl [1, 2, 0] rfl) (fun H locs ls w hl => ?_)
  refine lv_iconst (v := 0) hx hb dX12_shuffle_25 (by decide) ?_
  refine lv_istore_n (lv' := [(2, .int 0), (0, .ref (wA B 224)), (1, .int x1)]) hx hb dX12_shuffle_26 rfl hl (by decide) rfl (fun ls hl => ?_)
  obtain ⟨q3, h4, hf⟩ := bdE hf
  refine lp_X12_shuffle_27 l B C0 x1 100000 0 q1 q3 _ _ _ h4 w (lv_sub hl [1, 2, 0] rfl) (fun H locs ls w hl => ?_)
  obtain rfl := Option.some.inj hf
  exact eV C0 hr w dX12_shuffle_118
def f_X12_sweeps_37 (x1 : Int32) (x2 : Int32) (x3 : Int32) (x4 : Int32) : Nat → Int32 → Mem → Option (Mem)
  | 0, _, _ => none
  | n + 1, x5, σ =>
    if x4 ≤ x5 then (
      some σ)
    else (
      gd (inb x5 16) (
      bd (f_X12_corrects (σ.1 234 x5.toNatClampNeg) σ) (fun q3 =>
      f_X12_sweeps_37 x1 x2 x3 x4 n (x5 + 1) q3.2)))
def f_X12_sweeps_4 (x1 : Int32) : Nat → Int32 → Int32 → Mem → Option (Int32 × Mem)
  | 0, _, _, _ => none
  | n + 1, x2, x3, σ =>
    if x1 ≤ x3 then (
      some ((x2, σ)))
    else (
      bd (f_X12_arrange σ) (fun q2 =>
      if (q2.2.2 225 (5 : Int32).toNatClampNeg) = 3 then (
        bd (f_X12_shuffle q2.1 q2.2) (fun q8 =>
        bd (f_X12_sweeps_37 x1 x2 x3 q2.1 100000 0 q8) (fun q10 =>
        f_X12_sweeps_4 x1 n (x2 + q2.1) (x3 + 1) q10)))
      else (
        bd (f_X12_sweeps_37 x1 x2 x3 q2.1 100000 0 q2.2) (fun q6 =>
        f_X12_sweeps_4 x1 n (x2 + q2.1) (x3 + 1) q6))))
def f_X12_sweeps (x1 : Int32) (σ : Mem) : Option (Int32 × Mem) :=
  bd (f_X12_sweeps_4 x1 100000 0 0 σ) (fun q1 =>
  some ((q1.1, q1.2)))
abbrev rm_X12_sweeps : Room := { frames := 7, cells := 0, slots := 0, locals := 165 }
set_option maxHeartbeats 4000000 in
set_option maxRecDepth 100000 in
theorem lp_X12_sweeps_37 {p : Program} {e : Env} {s : State} {m : MethodId} {args : Array Value} {below : List Frame} {meth : Method} {c : Code} {Q : State → Prop} (l : Launch) (B : Wb) (C0 : Cx p s m args meth c cX12_sweeps 7 RX12) (x1 : Int32) (x2 : Int32) (x3 : Int32) (x4 : Int32) : ∀ (n : Nat) (x5 : Int32) (σ : Mem) (o : Mem) (H : Heap) (locs : List Loc) (ls : Array Slot), f_X12_sweeps_37 x1 x2 x3 x4 n x5 σ = some o → Wx B σ s H locs → lv_has ls 7 [(0, .ref (wA B 224)), (1, .int x1), (2, .int x2), (3, .int x3), (4, .int x4), (5, .int x5)] → (∀ (H : Heap) (locs : List Loc) (ls : Array Slot), Wx B o s H locs → lv_has ls 7 [(0, .ref (wA B 224)), (1, .int x1), (2, .int x2), (3, .int x3), (4, .int x4)] → W p l e rm_X12_sweeps s m args below meth c H locs 0 0 Q (F0 m 63 ls [])) → W p l e rm_X12_sweeps s m args below meth c H locs 0 0 Q (F0 m 37 ls []) := by
  have hx := C0.1.1
  have hb := C0.1.2.1
  intro n
  induction n with
  | zero =>
    intro x5 σ o H locs ls hf w hl hK
    cases hf
  | succ n ih =>
    intro x5 σ o H locs ls hf w hl hK
    rw [f_X12_sweeps_37] at hf
    refine lv_iload hx hb dX12_sweeps_37 (lv_at hl 5 rfl) ?_
    refine lv_iload hx hb dX12_sweeps_39 (lv_at hl 4 rfl) ?_
    refine lv_icmp_ge (tgt := 63) hx hb dX12_sweeps_41 (by decide) (fun c1 => ?_) (fun c1 => ?_)
    · rw [if_pos c1] at hf
      obtain rfl := Option.some.inj hf
      exact hK _ _ _ w (lv_sub hl [0, 1, 2, 3, 4] rfl)
    · rw [if_neg c1] at hf
      refine lv_aload_n hx hb dX12_sweeps_44 rfl (lv_at hl 0 rfl) ?_
      refine lv_aload_n hx hb dX12_sweeps_45 rfl (lv_at hl 0 rfl) ?_
      refine gR C0 w 234 fk_X12_39 (by decide +kernel) dX12_sweeps_46 ?_
      refine lv_iload hx hb dX12_sweeps_49 (lv_at hl 5 rfl) ?_
      obtain ⟨g2, hf⟩ := gdE hf
      refine aI C0 w (n := 16) (by decide +kernel) (inbE g2) dX12_sweeps_51 ?_
      obtain ⟨q3, h4, hf⟩ := bdE hf
      refine cV (As := [.int (σ.1 234 x5.toNatClampNeg)]) (rest := []) (k := 224) (ci := 10) (T := TX12) (N := 22) C0 w (m_X12_corrects l B _ σ (σ.1 234 x5.toNatClampNeg) q3 h4) ky_X12_corrects kv_X12_corrects lk_X12_208 rfl (by decide +kernel) ⟨Nat.le_of_ble_eq_true rfl, Nat.le_of_ble_eq_true rfl⟩ ⟨Nat.le_of_ble_eq_true rfl, Nat.le_of_ble_eq_true rfl⟩ rfl (by rfl) (Nat.le_of_ble_eq_true rfl) hl.1 dX12_sweeps_52 (fun H locs w => ?_)
      refine lv_istore (lv' := [(6, .int q3.1), (0, .ref (wA B 224)), (1, .int x1), (2, .int x2), (3, .int x3), (4, .int x4), (5, .int x5)]) hx hb dX12_sweeps_55 hl (by decide) rfl (fun ls hl => ?_)
      refine lv_iinc (k := 6) (v := x5 + 1) (lv' := [(5, .int (x5 + 1)), (6, .int q3.1), (0, .ref (wA B 224)), (1, .int x1), (2, .int x2), (3, .int x3), (4, .int x4)]) hx hb dX12_sweeps_57 hl rfl (by rfl) (by decide) rfl (fun ls hl => ?_)
      refine lv_goto (tgt := 37) hx hb dX12_sweeps_60 (by decide) ?_
      exact ih (x5 + 1) q3.2 _ _ _ _ hf w (lv_sub hl [2, 3, 4, 5, 6, 0] rfl) hK
set_option maxHeartbeats 4000000 in
set_option maxRecDepth 100000 in
theorem lp_X12_sweeps_4 {p : Program} {e : Env} {s : State} {m : MethodId} {args : Array Value} {below : List Frame} {meth : Method} {c : Code} {Q : State → Prop} (l : Launch) (B : Wb) (C0 : Cx p s m args meth c cX12_sweeps 7 RX12) (x1 : Int32) : ∀ (n : Nat) (x2 : Int32) (x3 : Int32) (σ : Mem) (o : Int32 × Mem) (H : Heap) (locs : List Loc) (ls : Array Slot), f_X12_sweeps_4 x1 n x2 x3 σ = some o → Wx B σ s H locs → lv_has ls 7 [(0, .ref (wA B 224)), (1, .int x1), (2, .int x2), (3, .int x3)] → (∀ (H : Heap) (locs : List Loc) (ls : Array Slot), Wx B o.2 s H locs → lv_has ls 7 [(2, .int o.1)] → W p l e rm_X12_sweeps s m args below meth c H locs 0 0 Q (F0 m 74 ls [])) → W p l e rm_X12_sweeps s m args below meth c H locs 0 0 Q (F0 m 4 ls []) := by
  have hx := C0.1.1
  have hb := C0.1.2.1
  intro n
  induction n with
  | zero =>
    intro x2 x3 σ o H locs ls hf w hl hK
    cases hf
  | succ n ih =>
    intro x2 x3 σ o H locs ls hf w hl hK
    rw [f_X12_sweeps_4] at hf
    refine lv_iload_n hx hb dX12_sweeps_4 rfl (lv_at hl 3 rfl) ?_
    refine lv_iload_n hx hb dX12_sweeps_5 rfl (lv_at hl 1 rfl) ?_
    refine lv_icmp_ge (tgt := 74) hx hb dX12_sweeps_6 (by decide) (fun c1 => ?_) (fun c1 => ?_)
    · rw [if_pos c1] at hf
      obtain rfl := Option.some.inj hf
      exact hK _ _ _ w (lv_sub hl [2] rfl)
    · rw [if_neg c1] at hf
      refine lv_aload_n hx hb dX12_sweeps_9 rfl (lv_at hl 0 rfl) ?_
      obtain ⟨q2, h3, hf⟩ := bdE hf
      refine cV (As := []) (rest := []) (k := 224) (ci := 10) (T := TX12) (N := 22) C0 w (m_X12_arrange l B _ σ q2 h3) ky_X12_arrange kv_X12_arrange lk_X12_217 rfl (by decide +kernel) ⟨Nat.le_of_ble_eq_true rfl, Nat.le_of_ble_eq_true rfl⟩ ⟨Nat.le_of_ble_eq_true rfl, Nat.le_of_ble_eq_true rfl⟩ rfl (by rfl) (Nat.le_of_ble_eq_true rfl) hl.1 dX12_sweeps_10 (fun H locs w => ?_)
      refine lv_istore (lv' := [(4, .int q2.1), (0, .ref (wA B 224)), (1, .int x1), (2, .int x2), (3, .int x3)]) hx hb dX12_sweeps_13 hl (by decide) rfl (fun ls hl => ?_)
      refine lv_aload_n hx hb dX12_sweeps_15 rfl (lv_at hl 1 rfl) ?_
      refine gR C0 w 225 fk_X12_7 (by decide +kernel) dX12_sweeps_16 ?_
      refine lv_iconst (v := 5) hx hb dX12_sweeps_19 (by decide) ?_
      refine aL C0 w (n := 200) (by decide +kernel) (inbE (by decide)) dX12_sweeps_20 ?_
      refine kLg C0 3 kc_X12_202 dX12_sweeps_21 ?_
      refine lc_ne (tgt := 34) C0 dX12_sweeps_24 dX12_sweeps_25 (by decide) (fun c5 => ?_) (fun c5 => ?_)
      · rw [if_neg c5] at hf
        refine lv_iconst (v := 0) hx hb dX12_sweeps_34 (by decide) ?_
        refine lv_istore (lv' := [(5, .int 0), (4, .int q2.1), (0, .ref (wA B 224)), (1, .int x1), (2, .int x2), (3, .int x3)]) hx hb dX12_sweeps_35 hl (by decide) rfl (fun ls hl => ?_)
        obtain ⟨q6, h7, hf⟩ := bdE hf
        refine lp_X12_sweeps_37 l B C0 x1 x2 x3 q2.1 100000 0 q2.2 q6 _ _ _ h7 w (lv_sub hl [2, 3, 4, 5, 1, 0] rfl) (fun H locs ls w hl => ?_)
        refine lv_iload_n hx hb dX12_sweeps_63 rfl (lv_at hl 2 rfl) ?_
        refine lv_iload hx hb dX12_sweeps_64 (lv_at hl 4 rfl) ?_
        refine lv_iadd hx hb dX12_sweeps_66 ?_
        refine lv_istore_n (lv' := [(2, .int (x2 + q2.1)), (0, .ref (wA B 224)), (1, .int x1), (3, .int x3), (4, .int q2.1)]) hx hb dX12_sweeps_67 rfl hl (by decide) rfl (fun ls hl => ?_)
        refine lv_iinc (k := 3) (v := x3 + 1) (lv' := [(3, .int (x3 + 1)), (2, .int (x2 + q2.1)), (0, .ref (wA B 224)), (1, .int x1), (4, .int q2.1)]) hx hb dX12_sweeps_68 hl rfl (by rfl) (by decide) rfl (fun ls hl => ?_)
        refine lv_goto (tgt := 4) hx hb dX12_sweeps_71 (by decide) ?_
        exact ih (x2 + q2.1) (x3 + 1) q6 _ _ _ _ hf w (lv_sub hl [2, 3, 1, 0] rfl) hK
      · rw [if_pos c5] at hf
        refine lv_aload_n hx hb dX12_sweeps_28 rfl (lv_at hl 1 rfl) ?_
        refine lv_iload hx hb dX12_sweeps_29 (lv_at hl 0 rfl) ?_
        obtain ⟨q8, h9, hf⟩ := bdE hf
        refine cV (As := [.int q2.1]) (rest := []) (k := 224) (ci := 10) (T := TX12) (N := 22) C0 w (m_X12_shuffle l B _ q2.2 q2.1 q8 h9) ky_X12_shuffle kv_X12_shuffle lk_X12_220 rfl (by decide +kernel) ⟨Nat.le_of_ble_eq_true rfl, Nat.le_of_ble_eq_true rfl⟩ ⟨Nat.le_of_ble_eq_true rfl, Nat.le_of_ble_eq_true rfl⟩ rfl (by rfl) (Nat.le_of_ble_eq_true rfl) hl.1 dX12_sweeps_31 (fun H locs w => ?_)
        refine lv_iconst (v := 0) hx hb dX12_sweeps_34 (by decide) ?_
        refine lv_istore (lv' := [(5, .int 0), (4, .int q2.1), (0, .ref (wA B 224)), (1, .int x1), (2, .int x2), (3, .int x3)]) hx hb dX12_sweeps_35 hl (by decide) rfl (fun ls hl => ?_)
        obtain ⟨q10, h11, hf⟩ := bdE hf
        refine lp_X12_sweeps_37 l B C0 x1 x2 x3 q2.1 100000 0 q8 q10 _ _ _ h11 w (lv_sub hl [2, 3, 4, 5, 1, 0] rfl) (fun H locs ls w hl => ?_)
        refine lv_iload_n hx hb dX12_sweeps_63 rfl (lv_at hl 2 rfl) ?_
        refine lv_iload hx hb dX12_sweeps_64 (lv_at hl 4 rfl) ?_
        refine lv_iadd hx hb dX12_sweeps_66 ?_
        refine lv_istore_n (lv' := [(2, .int (x2 + q2.1)), (0, .ref (wA B 224)), (1, .int x1), (3, .int x3), (4, .int q2.1)]) hx hb dX12_sweeps_67 rfl hl (by decide) rfl (fun ls hl => ?_)
        refine lv_iinc (k := 3) (v := x3 + 1) (lv' := [(3, .int (x3 + 1)), (2, .int (x2 + q2.1)), (0, .ref (wA B 224)), (1, .int x1), (4, .int q2.1)]) hx hb dX12_sweeps_68 hl rfl (by rfl) (by decide) rfl (fun ls hl => ?_)
        refine lv_goto (tgt := 4) hx hb dX12_sweeps_71 (by decide) ?_
        exact ih (x2 + q2.1) (x3 + 1) q10 _ _ _ _ hf w (lv_sub hl [2, 3, 1, 0] rfl) hK
set_option maxHeartbeats 4000000 in
set_option maxRecDepth 100000 in
theorem m_X12_sweeps (l : Launch) (B : Wb) (sz : Nat) (σ : Mem) (x1 : Int32) (q : Int32 × Mem) (hf : f_X12_sweeps x1 σ = some q) : MetC l yX12_sweeps cX12_sweeps 7 (some .int) rm_X12_sweeps B sz σ q.2 [.ref (wA B 224), .int x1] (some (.int q.1)) := by
  refine met_in (by decide +kernel) (Nat.le_of_ble_eq_true rfl) ?_
  intro p e s m below meth c C0 hr w hsz ls hl
  have hx := C0.1.1
  have hb := C0.1.2.1
  unfold f_X12_sweeps at hf
  refine lv_iconst (v := 0) hx hb dX12_sweeps_0 (by decide) ?_
  refine lv_istore_n (lv' := [(2, .int 0), (0, .ref (wA B 224)), (1, .int x1)]) hx hb dX12_sweeps_1 rfl hl (by decide) rfl (fun ls hl => ?_)
  refine lv_iconst (v := 0) hx hb dX12_sweeps_2 (by decide) ?_
  refine lv_istore_n (lv' := [(3, .int 0), (2, .int 0), (0, .ref (wA B 224)), (1, .int x1)]) hx hb dX12_sweeps_3 rfl hl (by decide) rfl (fun ls hl => ?_)
  obtain ⟨q1, h2, hf⟩ := bdE hf
  refine lp_X12_sweeps_4 l B C0 x1 100000 0 0 σ q1 _ _ _ h2 w (lv_sub hl [2, 3, 1, 0] rfl) (fun H locs ls w hl => ?_)
  refine lv_iload_n hx hb dX12_sweeps_74 rfl (lv_at hl 0 rfl) ?_
  obtain rfl := Option.some.inj hf
  exact eI C0 hr w rfl dX12_sweeps_75
def f_X12_sweep (x1 : Int32) (σ : Mem) : Option (Int32 × Mem) :=
  bd (f_X12_in x1.toInt64 1 20 σ) (fun q1 =>
  if q1 = 0 then (
    if ((setI σ 224 5 1).1 224 5) = 0 then (
      bd (f_X12_keep (setI σ 224 5 1)) (fun q5 =>
      bd (f_X12_sweeps x1 q5) (fun q7 =>
      some ((q7.1, q7.2)))))
    else (
      some ((0, setI σ 224 5 1))))
  else (
    if ((setI σ 224 5 0).1 224 5) = 0 then (
      bd (f_X12_keep (setI σ 224 5 0)) (fun q10 =>
      bd (f_X12_sweeps x1 q10) (fun q12 =>
      some ((q12.1, q12.2)))))
    else (
      some ((0, setI σ 224 5 0)))))
abbrev rm_X12_sweep : Room := { frames := 8, cells := 0, slots := 0, locals := 191 }
set_option maxHeartbeats 4000000 in
set_option maxRecDepth 100000 in
theorem m_X12_sweep (l : Launch) (B : Wb) (sz : Nat) (σ : Mem) (x1 : Int32) (q : Int32 × Mem) (hf : f_X12_sweep x1 σ = some q) : MetC l yX12_sweep cX12_sweep 2 (some .int) rm_X12_sweep B sz σ q.2 [.ref (wA B 224), .int x1] (some (.int q.1)) := by
  refine met_in (by decide +kernel) (Nat.le_of_ble_eq_true rfl) ?_
  intro p e s m below meth c C0 hr w hsz ls hl
  have hx := C0.1.1
  have hb := C0.1.2.1
  unfold f_X12_sweep at hf
  refine lv_aload_n hx hb dX12_sweep_0 rfl (lv_at hl 0 rfl) ?_
  refine lv_iload_n hx hb dX12_sweep_1 rfl (lv_at hl 1 rfl) ?_
  refine lv_i2l hx hb dX12_sweep_2 rfl ?_
  refine lv_lconst (v := 1) hx hb dX12_sweep_3 (by decide) ?_
  refine kLg C0 20 kc_X12_223 dX12_sweep_4 ?_
  obtain ⟨q1, h2, hf⟩ := bdE hf
  refine cS (As := [.long x1.toInt64, .long 1, .long 20]) (rest := [.ref (wA B 224)]) C0 w (m_X12_in l B _ σ x1.toInt64 1 20 q1 h2) ky_X12_in ks_X12_in lk_X12_79 ⟨Nat.le_of_ble_eq_true rfl, Nat.le_of_ble_eq_true rfl⟩ ⟨Nat.le_of_ble_eq_true rfl, Nat.le_of_ble_eq_true rfl⟩ rfl (by rfl) (Nat.le_of_ble_eq_true rfl) hl.1 dX12_sweep_7 (fun H locs w => ?_)
  refine lv_if_eq (tgt := 17) hx hb dX12_sweep_10 (by decide) (fun c3 => ?_) (fun c3 => ?_)
  · rw [if_pos c3] at hf
    refine lv_iconst (v := 1) hx hb dX12_sweep_17 (by decide) ?_
    refine pI C0 w fk_X12_62 fp_X12_5 (by decide +kernel) dX12_sweep_18 (fun H locs w => ?_)
    refine lv_aload_n hx hb dX12_sweep_21 rfl (lv_at hl 0 rfl) ?_
    refine gI C0 w fk_X12_62 (by decide +kernel) dX12_sweep_22 ?_
    refine lv_if_eq (tgt := 30) hx hb dX12_sweep_25 (by decide) (fun c4 => ?_) (fun c4 => ?_)
    · rw [if_pos c4] at hf
      refine lv_aload_n hx hb dX12_sweep_30 rfl (lv_at hl 0 rfl) ?_
      obtain ⟨q5, h6, hf⟩ := bdE hf
      refine cV (As := []) (rest := []) (k := 224) (ci := 10) (T := TX12) (N := 22) C0 w (m_X12_keep l B _ (setI σ 224 5 1) q5 h6) ky_X12_keep kv_X12_keep lk_X12_131 rfl (by decide +kernel) ⟨Nat.le_of_ble_eq_true rfl, Nat.le_of_ble_eq_true rfl⟩ ⟨Nat.le_of_ble_eq_true rfl, Nat.le_of_ble_eq_true rfl⟩ rfl (by rfl) (Nat.le_of_ble_eq_true rfl) hl.1 dX12_sweep_31 (fun H locs w => ?_)
      refine lv_aload_n hx hb dX12_sweep_34 rfl (lv_at hl 0 rfl) ?_
      refine lv_iload_n hx hb dX12_sweep_35 rfl (lv_at hl 1 rfl) ?_
      obtain ⟨q7, h8, hf⟩ := bdE hf
      refine cV (As := [.int x1]) (rest := []) (k := 224) (ci := 10) (T := TX12) (N := 22) C0 w (m_X12_sweeps l B _ q5 x1 q7 h8) ky_X12_sweeps kv_X12_sweeps lk_X12_225 rfl (by decide +kernel) ⟨Nat.le_of_ble_eq_true rfl, Nat.le_of_ble_eq_true rfl⟩ ⟨Nat.le_of_ble_eq_true rfl, Nat.le_of_ble_eq_true rfl⟩ rfl (by rfl) (Nat.le_of_ble_eq_true rfl) hl.1 dX12_sweep_36 (fun H locs w => ?_)
      obtain rfl := Option.some.inj hf
      exact eI C0 hr w rfl dX12_sweep_39
    · rw [if_neg c4] at hf
      refine lv_iconst (v := 0) hx hb dX12_sweep_28 (by decide) ?_
      obtain rfl := Option.some.inj hf
      exact eI C0 hr w rfl dX12_sweep_29
  · rw [if_neg c3] at hf
    refine lv_iconst (v := 0) hx hb dX12_sweep_13 (by decide) ?_
    refine lv_goto (tgt := 18) hx hb dX12_sweep_14 (by decide) ?_
    refine pI C0 w fk_X12_62 fp_X12_5 (by decide +kernel) dX12_sweep_18 (fun H locs w => ?_)
    refine lv_aload_n hx hb dX12_sweep_21 rfl (lv_at hl 0 rfl) ?_
    refine gI C0 w fk_X12_62 (by decide +kernel) dX12_sweep_22 ?_
    refine lv_if_eq (tgt := 30) hx hb dX12_sweep_25 (by decide) (fun c9 => ?_) (fun c9 => ?_)
    · rw [if_pos c9] at hf
      refine lv_aload_n hx hb dX12_sweep_30 rfl (lv_at hl 0 rfl) ?_
      obtain ⟨q10, h11, hf⟩ := bdE hf
      refine cV (As := []) (rest := []) (k := 224) (ci := 10) (T := TX12) (N := 22) C0 w (m_X12_keep l B _ (setI σ 224 5 0) q10 h11) ky_X12_keep kv_X12_keep lk_X12_131 rfl (by decide +kernel) ⟨Nat.le_of_ble_eq_true rfl, Nat.le_of_ble_eq_true rfl⟩ ⟨Nat.le_of_ble_eq_true rfl, Nat.le_of_ble_eq_true rfl⟩ rfl (by rfl) (Nat.le_of_ble_eq_true rfl) hl.1 dX12_sweep_31 (fun H locs w => ?_)
      refine lv_aload_n hx hb dX12_sweep_34 rfl (lv_at hl 0 rfl) ?_
      refine lv_iload_n hx hb dX12_sweep_35 rfl (lv_at hl 1 rfl) ?_
      obtain ⟨q12, h13, hf⟩ := bdE hf
      refine cV (As := [.int x1]) (rest := []) (k := 224) (ci := 10) (T := TX12) (N := 22) C0 w (m_X12_sweeps l B _ q10 x1 q12 h13) ky_X12_sweeps kv_X12_sweeps lk_X12_225 rfl (by decide +kernel) ⟨Nat.le_of_ble_eq_true rfl, Nat.le_of_ble_eq_true rfl⟩ ⟨Nat.le_of_ble_eq_true rfl, Nat.le_of_ble_eq_true rfl⟩ rfl (by rfl) (Nat.le_of_ble_eq_true rfl) hl.1 dX12_sweep_36 (fun H locs w => ?_)
      obtain rfl := Option.some.inj hf
      exact eI C0 hr w rfl dX12_sweep_39
    · rw [if_neg c9] at hf
      refine lv_iconst (v := 0) hx hb dX12_sweep_28 (by decide) ?_
      obtain rfl := Option.some.inj hf
      exact eI C0 hr w rfl dX12_sweep_29
def f_X12_layFresh_4 : Nat → Int32 → Int32 → Mem → Option (Int32 × Mem)
  | 0, _, _, _ => none
  | n + 1, x1, x2, σ =>
    bd (f_X12_cells σ) (fun q1 =>
    if q1 ≤ x2 then (
      some ((x1, σ)))
    else (
      gd (inb x2 64) (
      bd (f_X12_change (8 + x2) (σ.2 237 x2.toNatClampNeg) σ) (fun q5 =>
      f_X12_layFresh_4 n (x1 + q5.1) (x2 + 1) q5.2))))
def f_X12_layFresh (σ : Mem) : Option (Int32 × Mem) :=
  bd (f_X12_layFresh_4 100000 0 0 σ) (fun q1 =>
  some ((q1.1, q1.2)))
abbrev rm_X12_layFresh : Room := { frames := 2, cells := 0, slots := 0, locals := 40 }
set_option maxHeartbeats 4000000 in
set_option maxRecDepth 100000 in
theorem lp_X12_layFresh_4 {p : Program} {e : Env} {s : State} {m : MethodId} {args : Array Value} {below : List Frame} {meth : Method} {c : Code} {Q : State → Prop} (l : Launch) (B : Wb) (C0 : Cx p s m args meth c cX12_layFresh 3 RX12) : ∀ (n : Nat) (x1 : Int32) (x2 : Int32) (σ : Mem) (o : Int32 × Mem) (H : Heap) (locs : List Loc) (ls : Array Slot), f_X12_layFresh_4 n x1 x2 σ = some o → Wx B σ s H locs → lv_has ls 3 [(0, .ref (wA B 224)), (1, .int x1), (2, .int x2)] → (∀ (H : Heap) (locs : List Loc) (ls : Array Slot), Wx B o.2 s H locs → lv_has ls 3 [(1, .int o.1)] → W p l e rm_X12_layFresh s m args below meth c H locs 0 0 Q (F0 m 35 ls [])) → W p l e rm_X12_layFresh s m args below meth c H locs 0 0 Q (F0 m 4 ls []) := by
  have hx := C0.1.1
  have hb := C0.1.2.1
  intro n
  induction n with
  | zero =>
    intro x1 x2 σ o H locs ls hf w hl hK
    cases hf
  | succ n ih =>
    intro x1 x2 σ o H locs ls hf w hl hK
    rw [f_X12_layFresh_4] at hf
    refine lv_iload_n hx hb dX12_layFresh_4 rfl (lv_at hl 2 rfl) ?_
    refine lv_aload_n hx hb dX12_layFresh_5 rfl (lv_at hl 0 rfl) ?_
    obtain ⟨q1, h2, hf⟩ := bdE hf
    refine cV (As := []) (rest := [.int x2]) (k := 224) (ci := 10) (T := TX12) (N := 22) C0 w (m_X12_cells l B _ σ q1 h2) ky_X12_cells kv_X12_cells lk_X12_76 rfl (by decide +kernel) ⟨Nat.le_of_ble_eq_true rfl, Nat.le_of_ble_eq_true rfl⟩ ⟨Nat.le_of_ble_eq_true rfl, Nat.le_of_ble_eq_true rfl⟩ rfl (by rfl) (Nat.le_of_ble_eq_true rfl) hl.1 dX12_layFresh_6 (fun H locs w => ?_)
    refine lv_icmp_ge (tgt := 35) hx hb dX12_layFresh_9 (by decide) (fun c3 => ?_) (fun c3 => ?_)
    · rw [if_pos c3] at hf
      obtain rfl := Option.some.inj hf
      exact hK _ _ _ w (lv_sub hl [1] rfl)
    · rw [if_neg c3] at hf
      refine lv_iload_n hx hb dX12_layFresh_12 rfl (lv_at hl 1 rfl) ?_
      refine lv_aload_n hx hb dX12_layFresh_13 rfl (lv_at hl 0 rfl) ?_
      refine lv_bipush (v := 8) hx hb dX12_layFresh_14 (by decide) ?_
      refine lv_iload_n hx hb dX12_layFresh_16 rfl (lv_at hl 2 rfl) ?_
      refine lv_iadd hx hb dX12_layFresh_17 ?_
      refine lv_aload_n hx hb dX12_layFresh_18 rfl (lv_at hl 0 rfl) ?_
      refine gR C0 w 237 fk_X12_48 (by decide +kernel) dX12_layFresh_19 ?_
      refine lv_iload_n hx hb dX12_layFresh_22 rfl (lv_at hl 2 rfl) ?_
      obtain ⟨g4, hf⟩ := gdE hf
      refine aL C0 w (n := 64) (by decide +kernel) (inbE g4) dX12_layFresh_23 ?_
      obtain ⟨q5, h6, hf⟩ := bdE hf
      refine cV (As := [.int (8 + x2), .long (σ.2 237 x2.toNatClampNeg)]) (rest := [.int x1]) (k := 224) (ci := 10) (T := TX12) (N := 22) C0 w (m_X12_change l B _ σ (8 + x2) (σ.2 237 x2.toNatClampNeg) q5 h6) ky_X12_change kv_X12_change lk_X12_152 rfl (by decide +kernel) ⟨Nat.le_of_ble_eq_true rfl, Nat.le_of_ble_eq_true rfl⟩ ⟨Nat.le_of_ble_eq_true rfl, Nat.le_of_ble_eq_true rfl⟩ rfl (by rfl) (Nat.le_of_ble_eq_true rfl) hl.1 dX12_layFresh_24 (fun H locs w => ?_)
      refine lv_iadd hx hb dX12_layFresh_27 ?_
      refine lv_istore_n (lv' := [(1, .int (x1 + q5.1)), (0, .ref (wA B 224)), (2, .int x2)]) hx hb dX12_layFresh_28 rfl hl (by decide) rfl (fun ls hl => ?_)
      refine lv_iinc (k := 2) (v := x2 + 1) (lv' := [(2, .int (x2 + 1)), (1, .int (x1 + q5.1)), (0, .ref (wA B 224))]) hx hb dX12_layFresh_29 hl rfl (by rfl) (by decide) rfl (fun ls hl => ?_)
      refine lv_goto (tgt := 4) hx hb dX12_layFresh_32 (by decide) ?_
      exact ih (x1 + q5.1) (x2 + 1) q5.2 _ _ _ _ hf w (lv_sub hl [2, 1, 0] rfl) hK
set_option maxHeartbeats 4000000 in
set_option maxRecDepth 100000 in
theorem m_X12_layFresh (l : Launch) (B : Wb) (sz : Nat) (σ : Mem) (q : Int32 × Mem) (hf : f_X12_layFresh σ = some q) : MetC l yX12_layFresh cX12_layFresh 3 (some .int) rm_X12_layFresh B sz σ q.2 [.ref (wA B 224)] (some (.int q.1)) := by
  refine met_in (by decide +kernel) (Nat.le_of_ble_eq_true rfl) ?_
  intro p e s m below meth c C0 hr w hsz ls hl
  have hx := C0.1.1
  have hb := C0.1.2.1
  unfold f_X12_layFresh at hf
  refine lv_iconst (v := 0) hx hb dX12_layFresh_0 (by decide) ?_
  refine lv_istore_n (lv' := [(1, .int 0), (0, .ref (wA B 224))]) hx hb dX12_layFresh_1 rfl hl (by decide) rfl (fun ls hl => ?_)
  refine lv_iconst (v := 0) hx hb dX12_layFresh_2 (by decide) ?_
  refine lv_istore_n (lv' := [(2, .int 0), (1, .int 0), (0, .ref (wA B 224))]) hx hb dX12_layFresh_3 rfl hl (by decide) rfl (fun ls hl => ?_)
  obtain ⟨q1, h2, hf⟩ := bdE hf
  refine lp_X12_layFresh_4 l B C0 100000 0 0 σ q1 _ _ _ h2 w (lv_sub hl [2, 1, 0] rfl) (fun H locs ls w hl => ?_)
  refine lv_iload_n hx hb dX12_layFresh_35 rfl (lv_at hl 0 rfl) ?_
  obtain rfl := Option.some.inj hf
  exact eI C0 hr w rfl dX12_layFresh_36
def f_X12_smooths_29 (x1 : Int32) (x2 : Int32) (σ : Mem) : Nat → Int64 → Int32 → Int32 → Option (Int64 × Int32)
  | 0, _, _, _ => none
  | n + 1, x3, x5, x6 =>
    bd (f_X12_cells σ) (fun q1 =>
    if q1 ≤ x6 then (
      some ((x3, x5)))
    else (
      bd (f_X12_move x2 x6 σ) (fun q4 =>
      if q4 = 1000 then (
        gd (inb (8 + x6) 200) (
        f_X12_smooths_29 x1 x2 σ n (x3 + (σ.2 225 (8 + x6).toNatClampNeg)) (x5 + 1) (x6 + 1)))
      else (
        f_X12_smooths_29 x1 x2 σ n (x3 + 0) (x5 + 0) (x6 + 1)))))
def f_X12_smooths_2 (x1 : Int32) : Nat → Int32 → Mem → Option (Mem)
  | 0, _, _ => none
  | n + 1, x2, σ =>
    bd (f_X12_cells σ) (fun q1 =>
    if q1 ≤ x2 then (
      some σ)
    else (
      gd (inb (8 + x2) 200) (
      bd (f_X12_smooths_29 x1 x2 σ 100000 (x1.toInt64 * (σ.2 225 (8 + x2).toNatClampNeg)) x1 0) (fun q5 =>
      bd (f_X12_rounded q5.1 q5.2.toInt64 σ) (fun q7 =>
      gd (inb x2 64) (
      f_X12_smooths_2 x1 n (x2 + 1) (setL σ 237 x2.toNatClampNeg q7)))))))
def f_X12_smooths (x1 : Int32) (σ : Mem) : Option (Int32 × Mem) :=
  bd (f_X12_smooths_2 x1 100000 0 σ) (fun q1 =>
  bd (f_X12_layFresh q1) (fun q3 =>
  some ((q3.1, q3.2))))
abbrev rm_X12_smooths : Room := { frames := 3, cells := 0, slots := 0, locals := 62 }
set_option maxHeartbeats 4000000 in
set_option maxRecDepth 100000 in
theorem lp_X12_smooths_29 {p : Program} {e : Env} {s : State} {m : MethodId} {args : Array Value} {below : List Frame} {meth : Method} {c : Code} {Q : State → Prop} (l : Launch) (B : Wb) (C0 : Cx p s m args meth c cX12_smooths 8 RX12) (x1 : Int32) (x2 : Int32) : ∀ (n : Nat) (x3 : Int64) (x5 : Int32) (x6 : Int32) (σ : Mem) (o : Int64 × Int32) (H : Heap) (locs : List Loc) (ls : Array Slot), f_X12_smooths_29 x1 x2 σ n x3 x5 x6 = some o → Wx B σ s H locs → lv_has ls 8 [(0, .ref (wA B 224)), (1, .int x1), (2, .int x2), (3, .long x3), (5, .int x5), (6, .int x6)] → (∀ (H : Heap) (locs : List Loc) (ls : Array Slot), Wx B σ s H locs → lv_has ls 8 [(0, .ref (wA B 224)), (1, .int x1), (2, .int x2), (3, .long o.1), (5, .int o.2)] → W p l e rm_X12_smooths s m args below meth c H locs 0 0 Q (F0 m 101 ls [])) → W p l e rm_X12_smooths s m args below meth c H locs 0 0 Q (F0 m 29 ls []) := by
  have hx := C0.1.1
  have hb := C0.1.2.1
  intro n
  induction n with
  | zero =>
    intro x3 x5 x6 σ o H locs ls hf w hl hK
    cases hf
  | succ n ih =>
    intro x3 x5 x6 σ o H locs ls hf w hl hK
    rw [f_X12_smooths_29] at hf
    refine lv_iload hx hb dX12_smooths_29 (lv_at hl 5 rfl) ?_
    refine lv_aload_n hx hb dX12_smooths_31 rfl (lv_at hl 0 rfl) ?_
    obtain ⟨q1, h2, hf⟩ := bdE hf
    refine cV (As := []) (rest := [.int x6]) (k := 224) (ci := 10) (T := TX12) (N := 22) C0 w (m_X12_cells l B _ σ q1 h2) ky_X12_cells kv_X12_cells lk_X12_76 rfl (by decide +kernel) ⟨Nat.le_of_ble_eq_true rfl, Nat.le_of_ble_eq_true rfl⟩ ⟨Nat.le_of_ble_eq_true rfl, Nat.le_of_ble_eq_true rfl⟩ rfl (by rfl) (Nat.le_of_ble_eq_true rfl) hl.1 dX12_smooths_32 (fun H locs w => ?_)
    refine lv_icmp_ge (tgt := 101) hx hb dX12_smooths_35 (by decide) (fun c3 => ?_) (fun c3 => ?_)
    · rw [if_pos c3] at hf
      obtain rfl := Option.some.inj hf
      exact hK _ _ _ w (lv_sub hl [0, 1, 2, 3, 4] rfl)
    · rw [if_neg c3] at hf
      refine lv_aload_n hx hb dX12_smooths_38 rfl (lv_at hl 0 rfl) ?_
      refine lv_iload_n hx hb dX12_smooths_39 rfl (lv_at hl 2 rfl) ?_
      refine lv_iload hx hb dX12_smooths_40 (lv_at hl 5 rfl) ?_
      obtain ⟨q4, h5, hf⟩ := bdE hf
      refine cV (As := [.int x2, .int x6]) (rest := []) (k := 224) (ci := 10) (T := TX12) (N := 22) C0 w (m_X12_move l B _ σ x2 x6 q4 h5) ky_X12_move kv_X12_move lk_X12_100 rfl (by decide +kernel) ⟨Nat.le_of_ble_eq_true rfl, Nat.le_of_ble_eq_true rfl⟩ ⟨Nat.le_of_ble_eq_true rfl, Nat.le_of_ble_eq_true rfl⟩ rfl (by rfl) (Nat.le_of_ble_eq_true rfl) hl.1 dX12_smooths_42 (fun H locs w => ?_)
      refine lv_sipush (v := 1000) hx hb dX12_smooths_45 (by decide) ?_
      refine lv_icmp_ne (tgt := 55) hx hb dX12_smooths_48 (by decide) (fun c6 => ?_) (fun c6 => ?_)
      · rw [if_neg c6] at hf
        refine lv_iconst (v := 0) hx hb dX12_smooths_55 (by decide) ?_
        refine lv_istore (lv' := [(7, .int 0), (0, .ref (wA B 224)), (1, .int x1), (2, .int x2), (3, .long x3), (5, .int x5), (6, .int x6)]) hx hb dX12_smooths_56 hl (by decide) rfl (fun ls hl => ?_)
        refine lv_lload_n hx hb dX12_smooths_58 rfl (lv_at hl 4 rfl) ?_
        refine lv_iload hx hb dX12_smooths_59 (lv_at hl 0 rfl) ?_
        refine lv_if_eq (tgt := 77) hx hb dX12_smooths_61 (by decide) (fun _ => ?_) (fun c9 => absurd c9 (by decide))
        refine lv_lconst (v := 0) hx hb dX12_smooths_77 (by decide) ?_
        refine lv_ladd hx hb dX12_smooths_78 ?_
        refine lv_lstore_n (lv' := [(3, .long (x3 + 0)), (7, .int 0), (0, .ref (wA B 224)), (1, .int x1), (2, .int x2), (5, .int x5), (6, .int x6)]) hx hb dX12_smooths_79 rfl hl (by decide) rfl (fun ls hl => ?_)
        refine lv_iload hx hb dX12_smooths_80 (lv_at hl 5 rfl) ?_
        refine lv_iload hx hb dX12_smooths_82 (lv_at hl 1 rfl) ?_
        refine lv_if_eq (tgt := 91) hx hb dX12_smooths_84 (by decide) (fun _ => ?_) (fun c9 => absurd c9 (by decide))
        refine lv_iconst (v := 0) hx hb dX12_smooths_91 (by decide) ?_
        refine lv_iadd hx hb dX12_smooths_92 ?_
        refine lv_istore (lv' := [(5, .int (x5 + 0)), (3, .long (x3 + 0)), (7, .int 0), (0, .ref (wA B 224)), (1, .int x1), (2, .int x2), (6, .int x6)]) hx hb dX12_smooths_93 hl (by decide) rfl (fun ls hl => ?_)
        refine lv_iinc (k := 6) (v := x6 + 1) (lv' := [(6, .int (x6 + 1)), (5, .int (x5 + 0)), (3, .long (x3 + 0)), (7, .int 0), (0, .ref (wA B 224)), (1, .int x1), (2, .int x2)]) hx hb dX12_smooths_95 hl rfl (by rfl) (by decide) rfl (fun ls hl => ?_)
        refine lv_goto (tgt := 29) hx hb dX12_smooths_98 (by decide) ?_
        exact ih (x3 + 0) (x5 + 0) (x6 + 1) σ _ _ _ _ hf w (lv_sub hl [4, 5, 6, 2, 1, 0] rfl) hK
      · rw [if_pos c6] at hf
        refine lv_iconst (v := 1) hx hb dX12_smooths_51 (by decide) ?_
        refine lv_goto (tgt := 56) hx hb dX12_smooths_52 (by decide) ?_
        refine lv_istore (lv' := [(7, .int 1), (0, .ref (wA B 224)), (1, .int x1), (2, .int x2), (3, .long x3), (5, .int x5), (6, .int x6)]) hx hb dX12_smooths_56 hl (by decide) rfl (fun ls hl => ?_)
        refine lv_lload_n hx hb dX12_smooths_58 rfl (lv_at hl 4 rfl) ?_
        refine lv_iload hx hb dX12_smooths_59 (lv_at hl 0 rfl) ?_
        refine lv_if_eq (tgt := 77) hx hb dX12_smooths_61 (by decide) (fun c9 => absurd c9 (by decide)) (fun _ => ?_)
        refine lv_aload_n hx hb dX12_smooths_64 rfl (lv_at hl 1 rfl) ?_
        refine gR C0 w 225 fk_X12_7 (by decide +kernel) dX12_smooths_65 ?_
        refine lv_bipush (v := 8) hx hb dX12_smooths_68 (by decide) ?_
        refine lv_iload hx hb dX12_smooths_70 (lv_at hl 6 rfl) ?_
        refine lv_iadd hx hb dX12_smooths_72 ?_
        obtain ⟨g7, hf⟩ := gdE hf
        refine aL C0 w (n := 200) (by decide +kernel) (inbE g7) dX12_smooths_73 ?_
        refine lv_goto (tgt := 78) hx hb dX12_smooths_74 (by decide) ?_
        refine lv_ladd hx hb dX12_smooths_78 ?_
        refine lv_lstore_n (lv' := [(3, .long (x3 + (σ.2 225 (8 + x6).toNatClampNeg))), (7, .int 1), (0, .ref (wA B 224)), (1, .int x1), (2, .int x2), (5, .int x5), (6, .int x6)]) hx hb dX12_smooths_79 rfl hl (by decide) rfl (fun ls hl => ?_)
        refine lv_iload hx hb dX12_smooths_80 (lv_at hl 5 rfl) ?_
        refine lv_iload hx hb dX12_smooths_82 (lv_at hl 1 rfl) ?_
        refine lv_if_eq (tgt := 91) hx hb dX12_smooths_84 (by decide) (fun c9 => absurd c9 (by decide)) (fun _ => ?_)
        refine lv_iconst (v := 1) hx hb dX12_smooths_87 (by decide) ?_
        refine lv_goto (tgt := 92) hx hb dX12_smooths_88 (by decide) ?_
        refine lv_iadd hx hb dX12_smooths_92 ?_
        refine lv_istore (lv' := [(5, .int (x5 + 1)), (3, .long (x3 + (σ.2 225 (8 + x6).toNatClampNeg))), (7, .int 1), (0, .ref (wA B 224)), (1, .int x1), (2, .int x2), (6, .int x6)]) hx hb dX12_smooths_93 hl (by decide) rfl (fun ls hl => ?_)
        refine lv_iinc (k := 6) (v := x6 + 1) (lv' := [(6, .int (x6 + 1)), (5, .int (x5 + 1)), (3, .long (x3 + (σ.2 225 (8 + x6).toNatClampNeg))), (7, .int 1), (0, .ref (wA B 224)), (1, .int x1), (2, .int x2)]) hx hb dX12_smooths_95 hl rfl (by rfl) (by decide) rfl (fun ls hl => ?_)
        refine lv_goto (tgt := 29) hx hb dX12_smooths_98 (by decide) ?_
        exact ih (x3 + (σ.2 225 (8 + x6).toNatClampNeg)) (x5 + 1) (x6 + 1) σ _ _ _ _ hf w (lv_sub hl [4, 5, 6, 2, 1, 0] rfl) hK
set_option maxHeartbeats 4000000 in
set_option maxRecDepth 100000 in
theorem lp_X12_smooths_2 {p : Program} {e : Env} {s : State} {m : MethodId} {args : Array Value} {below : List Frame} {meth : Method} {c : Code} {Q : State → Prop} (l : Launch) (B : Wb) (C0 : Cx p s m args meth c cX12_smooths 8 RX12) (x1 : Int32) : ∀ (n : Nat) (x2 : Int32) (σ : Mem) (o : Mem) (H : Heap) (locs : List Loc) (ls : Array Slot), f_X12_smooths_2 x1 n x2 σ = some o → Wx B σ s H locs → lv_has ls 8 [(0, .ref (wA B 224)), (1, .int x1), (2, .int x2)] → (∀ (H : Heap) (locs : List Loc) (ls : Array Slot), Wx B o s H locs → lv_has ls 8 [(0, .ref (wA B 224))] → W p l e rm_X12_smooths s m args below meth c H locs 0 0 Q (F0 m 120 ls [])) → W p l e rm_X12_smooths s m args below meth c H locs 0 0 Q (F0 m 2 ls []) := by
  have hx := C0.1.1
  have hb := C0.1.2.1
  intro n
  induction n with
  | zero =>
    intro x2 σ o H locs ls hf w hl hK
    cases hf
  | succ n ih =>
    intro x2 σ o H locs ls hf w hl hK
    rw [f_X12_smooths_2] at hf
    refine lv_iload_n hx hb dX12_smooths_2 rfl (lv_at hl 2 rfl) ?_
    refine lv_aload_n hx hb dX12_smooths_3 rfl (lv_at hl 0 rfl) ?_
    obtain ⟨q1, h2, hf⟩ := bdE hf
    refine cV (As := []) (rest := [.int x2]) (k := 224) (ci := 10) (T := TX12) (N := 22) C0 w (m_X12_cells l B _ σ q1 h2) ky_X12_cells kv_X12_cells lk_X12_76 rfl (by decide +kernel) ⟨Nat.le_of_ble_eq_true rfl, Nat.le_of_ble_eq_true rfl⟩ ⟨Nat.le_of_ble_eq_true rfl, Nat.le_of_ble_eq_true rfl⟩ rfl (by rfl) (Nat.le_of_ble_eq_true rfl) hl.1 dX12_smooths_4 (fun H locs w => ?_)
    refine lv_icmp_ge (tgt := 120) hx hb dX12_smooths_7 (by decide) (fun c3 => ?_) (fun c3 => ?_)
    · rw [if_pos c3] at hf
      obtain rfl := Option.some.inj hf
      exact hK _ _ _ w (lv_sub hl [0] rfl)
    · rw [if_neg c3] at hf
      refine lv_iload_n hx hb dX12_smooths_10 rfl (lv_at hl 1 rfl) ?_
      refine lv_i2l hx hb dX12_smooths_11 rfl ?_
      refine lv_aload_n hx hb dX12_smooths_12 rfl (lv_at hl 0 rfl) ?_
      refine gR C0 w 225 fk_X12_7 (by decide +kernel) dX12_smooths_13 ?_
      refine lv_bipush (v := 8) hx hb dX12_smooths_16 (by decide) ?_
      refine lv_iload_n hx hb dX12_smooths_18 rfl (lv_at hl 2 rfl) ?_
      refine lv_iadd hx hb dX12_smooths_19 ?_
      obtain ⟨g4, hf⟩ := gdE hf
      refine aL C0 w (n := 200) (by decide +kernel) (inbE g4) dX12_smooths_20 ?_
      refine lv_lmul hx hb dX12_smooths_21 ?_
      refine lv_lstore_n (lv' := [(3, .long (x1.toInt64 * (σ.2 225 (8 + x2).toNatClampNeg))), (0, .ref (wA B 224)), (1, .int x1), (2, .int x2)]) hx hb dX12_smooths_22 rfl hl (by decide) rfl (fun ls hl => ?_)
      refine lv_iload_n hx hb dX12_smooths_23 rfl (lv_at hl 2 rfl) ?_
      refine lv_istore (lv' := [(5, .int x1), (3, .long (x1.toInt64 * (σ.2 225 (8 + x2).toNatClampNeg))), (0, .ref (wA B 224)), (1, .int x1), (2, .int x2)]) hx hb dX12_smooths_24 hl (by decide) rfl (fun ls hl => ?_)
      refine lv_iconst (v := 0) hx hb dX12_smooths_26 (by decide) ?_
      refine lv_istore (lv' := [(6, .int 0), (5, .int x1), (3, .long (x1.toInt64 * (σ.2 225 (8 + x2).toNatClampNeg))), (0, .ref (wA B 224)), (1, .int x1), (2, .int x2)]) hx hb dX12_smooths_27 hl (by decide) rfl (fun ls hl => ?_)
      obtain ⟨q5, h6, hf⟩ := bdE hf
      refine lp_X12_smooths_29 l B C0 x1 x2 100000 (x1.toInt64 * (σ.2 225 (8 + x2).toNatClampNeg)) x1 0 σ q5 _ _ _ h6 w (lv_sub hl [3, 4, 5, 2, 1, 0] rfl) (fun H locs ls w hl => ?_)
      refine lv_aload_n hx hb dX12_smooths_101 rfl (lv_at hl 0 rfl) ?_
      refine gR C0 w 237 fk_X12_48 (by decide +kernel) dX12_smooths_102 ?_
      refine lv_iload_n hx hb dX12_smooths_105 rfl (lv_at hl 2 rfl) ?_
      refine lv_lload_n hx hb dX12_smooths_106 rfl (lv_at hl 3 rfl) ?_
      refine lv_iload hx hb dX12_smooths_107 (lv_at hl 4 rfl) ?_
      refine lv_i2l hx hb dX12_smooths_109 rfl ?_
      obtain ⟨q7, h8, hf⟩ := bdE hf
      refine cS (As := [.long q5.1, .long q5.2.toInt64]) (rest := [.int x2, .ref (wA B 237)]) C0 w (m_X12_rounded l B _ σ q5.1 q5.2.toInt64 q7 h8) ky_X12_rounded ks_X12_rounded lk_X12_204 ⟨Nat.le_of_ble_eq_true rfl, Nat.le_of_ble_eq_true rfl⟩ ⟨Nat.le_of_ble_eq_true rfl, Nat.le_of_ble_eq_true rfl⟩ rfl (by rfl) (Nat.le_of_ble_eq_true rfl) hl.1 dX12_smooths_110 (fun H locs w => ?_)
      obtain ⟨g9, hf⟩ := gdE hf
      refine sL C0 w (n := 64) (by decide +kernel) (inbE g9) dX12_smooths_113 (fun H locs w => ?_)
      refine lv_iinc (k := 2) (v := x2 + 1) (lv' := [(2, .int (x2 + 1)), (0, .ref (wA B 224)), (1, .int x1), (3, .long q5.1), (5, .int q5.2)]) hx hb dX12_smooths_114 hl rfl (by rfl) (by decide) rfl (fun ls hl => ?_)
      refine lv_goto (tgt := 2) hx hb dX12_smooths_117 (by decide) ?_
      exact ih (x2 + 1) (setL σ 237 x2.toNatClampNeg q7) _ _ _ _ hf w (lv_sub hl [1, 2, 0] rfl) hK
set_option maxHeartbeats 4000000 in
set_option maxRecDepth 100000 in
theorem m_X12_smooths (l : Launch) (B : Wb) (sz : Nat) (σ : Mem) (x1 : Int32) (q : Int32 × Mem) (hf : f_X12_smooths x1 σ = some q) : MetC l yX12_smooths cX12_smooths 8 (some .int) rm_X12_smooths B sz σ q.2 [.ref (wA B 224), .int x1] (some (.int q.1)) := by
  refine met_in (by decide +kernel) (Nat.le_of_ble_eq_true rfl) ?_
  intro p e s m below meth c C0 hr w hsz ls hl
  have hx := C0.1.1
  have hb := C0.1.2.1
  unfold f_X12_smooths at hf
  refine lv_iconst (v := 0) hx hb dX12_smooths_0 (by decide) ?_
  refine lv_istore_n (lv' := [(2, .int 0), (0, .ref (wA B 224)), (1, .int x1)]) hx hb dX12_smooths_1 rfl hl (by decide) rfl (fun ls hl => ?_)
  obtain ⟨q1, h2, hf⟩ := bdE hf
  refine lp_X12_smooths_2 l B C0 x1 100000 0 σ q1 _ _ _ h2 w (lv_sub hl [1, 2, 0] rfl) (fun H locs ls w hl => ?_)
  refine lv_aload_n hx hb dX12_smooths_120 rfl (lv_at hl 0 rfl) ?_
  obtain ⟨q3, h4, hf⟩ := bdE hf
  refine cV (As := []) (rest := []) (k := 224) (ci := 10) (T := TX12) (N := 22) C0 w (m_X12_layFresh l B _ q1 q3 h4) ky_X12_layFresh kv_X12_layFresh lk_X12_228 rfl (by decide +kernel) ⟨Nat.le_of_ble_eq_true rfl, Nat.le_of_ble_eq_true rfl⟩ ⟨Nat.le_of_ble_eq_true rfl, Nat.le_of_ble_eq_true rfl⟩ rfl (by rfl) (Nat.le_of_ble_eq_true rfl) hl.1 dX12_smooths_121 (fun H locs w => ?_)
  obtain rfl := Option.some.inj hf
  exact eI C0 hr w rfl dX12_smooths_124
def f_X12_smooth (x1 : Int32) (σ : Mem) : Option (Int32 × Mem) :=
  bd (f_X12_in x1.toInt64 1 100 σ) (fun q1 =>
  if q1 = 0 then (
    if ((setI σ 224 5 1).1 224 5) = 0 then (
      bd (f_X12_keep (setI σ 224 5 1)) (fun q5 =>
      bd (f_X12_smooths x1 q5) (fun q7 =>
      some ((q7.1, q7.2)))))
    else (
      some ((0, setI σ 224 5 1))))
  else (
    if ((setI σ 224 5 0).1 224 5) = 0 then (
      bd (f_X12_keep (setI σ 224 5 0)) (fun q10 =>
      bd (f_X12_smooths x1 q10) (fun q12 =>
      some ((q12.1, q12.2)))))
    else (
      some ((0, setI σ 224 5 0)))))
abbrev rm_X12_smooth : Room := { frames := 4, cells := 0, slots := 0, locals := 89 }
set_option maxHeartbeats 4000000 in
set_option maxRecDepth 100000 in
theorem m_X12_smooth (l : Launch) (B : Wb) (sz : Nat) (σ : Mem) (x1 : Int32) (q : Int32 × Mem) (hf : f_X12_smooth x1 σ = some q) : MetC l yX12_smooth cX12_smooth 2 (some .int) rm_X12_smooth B sz σ q.2 [.ref (wA B 224), .int x1] (some (.int q.1)) := by
  refine met_in (by decide +kernel) (Nat.le_of_ble_eq_true rfl) ?_
  intro p e s m below meth c C0 hr w hsz ls hl
  have hx := C0.1.1
  have hb := C0.1.2.1
  unfold f_X12_smooth at hf
  refine lv_aload_n hx hb dX12_smooth_0 rfl (lv_at hl 0 rfl) ?_
  refine lv_iload_n hx hb dX12_smooth_1 rfl (lv_at hl 1 rfl) ?_
  refine lv_i2l hx hb dX12_smooth_2 rfl ?_
  refine lv_lconst (v := 1) hx hb dX12_smooth_3 (by decide) ?_
  refine kLg C0 100 kc_X12_231 dX12_smooth_4 ?_
  obtain ⟨q1, h2, hf⟩ := bdE hf
  refine cS (As := [.long x1.toInt64, .long 1, .long 100]) (rest := [.ref (wA B 224)]) C0 w (m_X12_in l B _ σ x1.toInt64 1 100 q1 h2) ky_X12_in ks_X12_in lk_X12_79 ⟨Nat.le_of_ble_eq_true rfl, Nat.le_of_ble_eq_true rfl⟩ ⟨Nat.le_of_ble_eq_true rfl, Nat.le_of_ble_eq_true rfl⟩ rfl (by rfl) (Nat.le_of_ble_eq_true rfl) hl.1 dX12_smooth_7 (fun H locs w => ?_)
  refine lv_if_eq (tgt := 17) hx hb dX12_smooth_10 (by decide) (fun c3 => ?_) (fun c3 => ?_)
  · rw [if_pos c3] at hf
    refine lv_iconst (v := 1) hx hb dX12_smooth_17 (by decide) ?_
    refine pI C0 w fk_X12_62 fp_X12_5 (by decide +kernel) dX12_smooth_18 (fun H locs w => ?_)
    refine lv_aload_n hx hb dX12_smooth_21 rfl (lv_at hl 0 rfl) ?_
    refine gI C0 w fk_X12_62 (by decide +kernel) dX12_smooth_22 ?_
    refine lv_if_eq (tgt := 30) hx hb dX12_smooth_25 (by decide) (fun c4 => ?_) (fun c4 => ?_)
    · rw [if_pos c4] at hf
      refine lv_aload_n hx hb dX12_smooth_30 rfl (lv_at hl 0 rfl) ?_
      obtain ⟨q5, h6, hf⟩ := bdE hf
      refine cV (As := []) (rest := []) (k := 224) (ci := 10) (T := TX12) (N := 22) C0 w (m_X12_keep l B _ (setI σ 224 5 1) q5 h6) ky_X12_keep kv_X12_keep lk_X12_131 rfl (by decide +kernel) ⟨Nat.le_of_ble_eq_true rfl, Nat.le_of_ble_eq_true rfl⟩ ⟨Nat.le_of_ble_eq_true rfl, Nat.le_of_ble_eq_true rfl⟩ rfl (by rfl) (Nat.le_of_ble_eq_true rfl) hl.1 dX12_smooth_31 (fun H locs w => ?_)
      refine lv_aload_n hx hb dX12_smooth_34 rfl (lv_at hl 0 rfl) ?_
      refine lv_iload_n hx hb dX12_smooth_35 rfl (lv_at hl 1 rfl) ?_
      obtain ⟨q7, h8, hf⟩ := bdE hf
      refine cV (As := [.int x1]) (rest := []) (k := 224) (ci := 10) (T := TX12) (N := 22) C0 w (m_X12_smooths l B _ q5 x1 q7 h8) ky_X12_smooths kv_X12_smooths lk_X12_233 rfl (by decide +kernel) ⟨Nat.le_of_ble_eq_true rfl, Nat.le_of_ble_eq_true rfl⟩ ⟨Nat.le_of_ble_eq_true rfl, Nat.le_of_ble_eq_true rfl⟩ rfl (by rfl) (Nat.le_of_ble_eq_true rfl) hl.1 dX12_smooth_36 (fun H locs w => ?_)
      obtain rfl := Option.some.inj hf
      exact eI C0 hr w rfl dX12_smooth_39
    · rw [if_neg c4] at hf
      refine lv_iconst (v := 0) hx hb dX12_smooth_28 (by decide) ?_
      obtain rfl := Option.some.inj hf
      exact eI C0 hr w rfl dX12_smooth_29
  · rw [if_neg c3] at hf
    refine lv_iconst (v := 0) hx hb dX12_smooth_13 (by decide) ?_
    refine lv_goto (tgt := 18) hx hb dX12_smooth_14 (by decide) ?_
    refine pI C0 w fk_X12_62 fp_X12_5 (by decide +kernel) dX12_smooth_18 (fun H locs w => ?_)
    refine lv_aload_n hx hb dX12_smooth_21 rfl (lv_at hl 0 rfl) ?_
    refine gI C0 w fk_X12_62 (by decide +kernel) dX12_smooth_22 ?_
    refine lv_if_eq (tgt := 30) hx hb dX12_smooth_25 (by decide) (fun c9 => ?_) (fun c9 => ?_)
    · rw [if_pos c9] at hf
      refine lv_aload_n hx hb dX12_smooth_30 rfl (lv_at hl 0 rfl) ?_
      obtain ⟨q10, h11, hf⟩ := bdE hf
      refine cV (As := []) (rest := []) (k := 224) (ci := 10) (T := TX12) (N := 22) C0 w (m_X12_keep l B _ (setI σ 224 5 0) q10 h11) ky_X12_keep kv_X12_keep lk_X12_131 rfl (by decide +kernel) ⟨Nat.le_of_ble_eq_true rfl, Nat.le_of_ble_eq_true rfl⟩ ⟨Nat.le_of_ble_eq_true rfl, Nat.le_of_ble_eq_true rfl⟩ rfl (by rfl) (Nat.le_of_ble_eq_true rfl) hl.1 dX12_smooth_31 (fun H locs w => ?_)
      refine lv_aload_n hx hb dX12_smooth_34 rfl (lv_at hl 0 rfl) ?_
      refine lv_iload_n hx hb dX12_smooth_35 rfl (lv_at hl 1 rfl) ?_
      obtain ⟨q12, h13, hf⟩ := bdE hf
      refine cV (As := [.int x1]) (rest := []) (k := 224) (ci := 10) (T := TX12) (N := 22) C0 w (m_X12_smooths l B _ q10 x1 q12 h13) ky_X12_smooths kv_X12_smooths lk_X12_233 rfl (by decide +kernel) ⟨Nat.le_of_ble_eq_true rfl, Nat.le_of_ble_eq_true rfl⟩ ⟨Nat.le_of_ble_eq_true rfl, Nat.le_of_ble_eq_true rfl⟩ rfl (by rfl) (Nat.le_of_ble_eq_true rfl) hl.1 dX12_smooth_36 (fun H locs w => ?_)
      obtain rfl := Option.some.inj hf
      exact eI C0 hr w rfl dX12_smooth_39
    · rw [if_neg c9] at hf
      refine lv_iconst (v := 0) hx hb dX12_smooth_28 (by decide) ?_
      obtain rfl := Option.some.inj hf
      exact eI C0 hr w rfl dX12_smooth_29
def f_X12_fills_22 (x1 : Int32) (σ : Mem) : Nat → Int64 → Int32 → Int32 → Option (Int64 × Int32)
  | 0, _, _, _ => none
  | n + 1, x2, x4, x5 =>
    bd (f_X12_cells σ) (fun q1 =>
    if q1 ≤ x5 then (
      some ((x2, x4)))
    else (
      gd (inb x1 64) (
      if (σ.1 232 x1.toNatClampNeg) = 0 then (
        bd (f_X12_move x1 x5 σ) (fun q6 =>
        if q6 ≤ 0 then (
          f_X12_fills_22 x1 σ n (x2 + 0) (x4 + 0) (x5 + 1))
        else (
          gd (inb x5 64) (
          if (σ.1 232 x5.toNatClampNeg) ≤ 0 then (
            f_X12_fills_22 x1 σ n (x2 + 0) (x4 + 0) (x5 + 1))
          else (
            gd (inb (8 + x5) 200) (
            f_X12_fills_22 x1 σ n (x2 + (σ.2 225 (8 + x5).toNatClampNeg)) (x4 + 1) (x5 + 1)))))))
      else (
        some ((x2, x4))))))
def f_X12_fills_6 : Nat → Int32 → Mem → Option (Mem)
  | 0, _, _ => none
  | n + 1, x1, σ =>
    bd (f_X12_cells σ) (fun q1 =>
    if q1 ≤ x1 then (
      some σ)
    else (
      bd (f_X12_fills_22 x1 σ 100000 0 0 0) (fun q4 =>
      if q4.2 ≤ 0 then (
        gd (inb (8 + x1) 200) (
        gd (inb x1 64) (
        f_X12_fills_6 n (x1 + 1) (setL σ 237 x1.toNatClampNeg (σ.2 225 (8 + x1).toNatClampNeg)))))
      else (
        bd (f_X12_rounded q4.1 q4.2.toInt64 σ) (fun q9 =>
        gd (inb x1 64) (
        f_X12_fills_6 n (x1 + 1) (setL σ 237 x1.toNatClampNeg q9)))))))
def f_X12_fills (σ : Mem) : Option (Int32 × Mem) :=
  bd (f_X12_cover σ) (fun q1 =>
  bd (f_X12_fills_6 100000 0 q1) (fun q3 =>
  bd (f_X12_layFresh q3) (fun q5 =>
  some ((q5.1, q5.2)))))
abbrev rm_X12_fills : Room := { frames := 6, cells := 0, slots := 0, locals := 145 }
set_option maxHeartbeats 4000000 in
set_option maxRecDepth 100000 in
theorem lp_X12_fills_22 {p : Program} {e : Env} {s : State} {m : MethodId} {args : Array Value} {below : List Frame} {meth : Method} {c : Code} {Q : State → Prop} (l : Launch) (B : Wb) (C0 : Cx p s m args meth c cX12_fills 7 RX12) (x1 : Int32) : ∀ (n : Nat) (x2 : Int64) (x4 : Int32) (x5 : Int32) (σ : Mem) (o : Int64 × Int32) (H : Heap) (locs : List Loc) (ls : Array Slot), f_X12_fills_22 x1 σ n x2 x4 x5 = some o → Wx B σ s H locs → lv_has ls 7 [(0, .ref (wA B 224)), (1, .int x1), (2, .long x2), (4, .int x4), (5, .int x5)] → (∀ (H : Heap) (locs : List Loc) (ls : Array Slot), Wx B σ s H locs → lv_has ls 7 [(0, .ref (wA B 224)), (1, .int x1), (2, .long o.1), (4, .int o.2)] → W p l e rm_X12_fills s m args below meth c H locs 0 0 Q (F0 m 110 ls [])) → W p l e rm_X12_fills s m args below meth c H locs 0 0 Q (F0 m 22 ls []) := by
  have hx := C0.1.1
  have hb := C0.1.2.1
  intro n
  induction n with
  | zero =>
    intro x2 x4 x5 σ o H locs ls hf w hl hK
    cases hf
  | succ n ih =>
    intro x2 x4 x5 σ o H locs ls hf w hl hK
    rw [f_X12_fills_22] at hf
    refine lv_iload hx hb dX12_fills_22 (lv_at hl 4 rfl) ?_
    refine lv_aload_n hx hb dX12_fills_24 rfl (lv_at hl 0 rfl) ?_
    obtain ⟨q1, h2, hf⟩ := bdE hf
    refine cV (As := []) (rest := [.int x5]) (k := 224) (ci := 10) (T := TX12) (N := 22) C0 w (m_X12_cells l B _ σ q1 h2) ky_X12_cells kv_X12_cells lk_X12_76 rfl (by decide +kernel) ⟨Nat.le_of_ble_eq_true rfl, Nat.le_of_ble_eq_true rfl⟩ ⟨Nat.le_of_ble_eq_true rfl, Nat.le_of_ble_eq_true rfl⟩ rfl (by rfl) (Nat.le_of_ble_eq_true rfl) hl.1 dX12_fills_25 (fun H locs w => ?_)
    refine lv_icmp_ge (tgt := 110) hx hb dX12_fills_28 (by decide) (fun c3 => ?_) (fun c3 => ?_)
    · rw [if_pos c3] at hf
      obtain rfl := Option.some.inj hf
      exact hK _ _ _ w (lv_sub hl [0, 1, 2, 3] rfl)
    · rw [if_neg c3] at hf
      refine lv_aload_n hx hb dX12_fills_31 rfl (lv_at hl 0 rfl) ?_
      refine gR C0 w 232 fk_X12_33 (by decide +kernel) dX12_fills_32 ?_
      refine lv_iload_n hx hb dX12_fills_35 rfl (lv_at hl 1 rfl) ?_
      obtain ⟨g4, hf⟩ := gdE hf
      refine aI C0 w (n := 64) (by decide +kernel) (inbE g4) dX12_fills_36 ?_
      refine lv_if_ne (tgt := 110) hx hb dX12_fills_37 (by decide) (fun c5 => ?_) (fun c5 => ?_)
      · rw [if_neg c5] at hf
        obtain rfl := Option.some.inj hf
        exact hK _ _ _ w (lv_sub hl [0, 1, 2, 3] rfl)
      · rw [if_pos c5] at hf
        refine lv_aload_n hx hb dX12_fills_40 rfl (lv_at hl 0 rfl) ?_
        refine lv_iload_n hx hb dX12_fills_41 rfl (lv_at hl 1 rfl) ?_
        refine lv_iload hx hb dX12_fills_42 (lv_at hl 4 rfl) ?_
        obtain ⟨q6, h7, hf⟩ := bdE hf
        refine cV (As := [.int x1, .int x5]) (rest := []) (k := 224) (ci := 10) (T := TX12) (N := 22) C0 w (m_X12_move l B _ σ x1 x5 q6 h7) ky_X12_move kv_X12_move lk_X12_100 rfl (by decide +kernel) ⟨Nat.le_of_ble_eq_true rfl, Nat.le_of_ble_eq_true rfl⟩ ⟨Nat.le_of_ble_eq_true rfl, Nat.le_of_ble_eq_true rfl⟩ rfl (by rfl) (Nat.le_of_ble_eq_true rfl) hl.1 dX12_fills_44 (fun H locs w => ?_)
        refine lv_if_le (tgt := 64) hx hb dX12_fills_47 (by decide) (fun c8 => ?_) (fun c8 => ?_)
        · rw [if_pos c8] at hf
          refine lv_iconst (v := 0) hx hb dX12_fills_64 (by decide) ?_
          refine lv_istore (lv' := [(6, .int 0), (0, .ref (wA B 224)), (1, .int x1), (2, .long x2), (4, .int x4), (5, .int x5)]) hx hb dX12_fills_65 hl (by decide) rfl (fun ls hl => ?_)
          refine lv_lload_n hx hb dX12_fills_67 rfl (lv_at hl 3 rfl) ?_
          refine lv_iload hx hb dX12_fills_68 (lv_at hl 0 rfl) ?_
          refine lv_if_eq (tgt := 86) hx hb dX12_fills_70 (by decide) (fun _ => ?_) (fun c9 => absurd c9 (by decide))
          refine lv_lconst (v := 0) hx hb dX12_fills_86 (by decide) ?_
          refine lv_ladd hx hb dX12_fills_87 ?_
          refine lv_lstore_n (lv' := [(2, .long (x2 + 0)), (6, .int 0), (0, .ref (wA B 224)), (1, .int x1), (4, .int x4), (5, .int x5)]) hx hb dX12_fills_88 rfl hl (by decide) rfl (fun ls hl => ?_)
          refine lv_iload hx hb dX12_fills_89 (lv_at hl 4 rfl) ?_
          refine lv_iload hx hb dX12_fills_91 (lv_at hl 1 rfl) ?_
          refine lv_if_eq (tgt := 100) hx hb dX12_fills_93 (by decide) (fun _ => ?_) (fun c9 => absurd c9 (by decide))
          refine lv_iconst (v := 0) hx hb dX12_fills_100 (by decide) ?_
          refine lv_iadd hx hb dX12_fills_101 ?_
          refine lv_istore (lv' := [(4, .int (x4 + 0)), (2, .long (x2 + 0)), (6, .int 0), (0, .ref (wA B 224)), (1, .int x1), (5, .int x5)]) hx hb dX12_fills_102 hl (by decide) rfl (fun ls hl => ?_)
          refine lv_iinc (k := 5) (v := x5 + 1) (lv' := [(5, .int (x5 + 1)), (4, .int (x4 + 0)), (2, .long (x2 + 0)), (6, .int 0), (0, .ref (wA B 224)), (1, .int x1)]) hx hb dX12_fills_104 hl rfl (by rfl) (by decide) rfl (fun ls hl => ?_)
          refine lv_goto (tgt := 22) hx hb dX12_fills_107 (by decide) ?_
          exact ih (x2 + 0) (x4 + 0) (x5 + 1) σ _ _ _ _ hf w (lv_sub hl [4, 5, 2, 1, 0] rfl) hK
        · rw [if_neg c8] at hf
          refine lv_aload_n hx hb dX12_fills_50 rfl (lv_at hl 0 rfl) ?_
          refine gR C0 w 232 fk_X12_33 (by decide +kernel) dX12_fills_51 ?_
          refine lv_iload hx hb dX12_fills_54 (lv_at hl 4 rfl) ?_
          obtain ⟨g9, hf⟩ := gdE hf
          refine aI C0 w (n := 64) (by decide +kernel) (inbE g9) dX12_fills_56 ?_
          refine lv_if_le (tgt := 64) hx hb dX12_fills_57 (by decide) (fun c10 => ?_) (fun c10 => ?_)
          · rw [if_pos c10] at hf
            refine lv_iconst (v := 0) hx hb dX12_fills_64 (by decide) ?_
            refine lv_istore (lv' := [(6, .int 0), (0, .ref (wA B 224)), (1, .int x1), (2, .long x2), (4, .int x4), (5, .int x5)]) hx hb dX12_fills_65 hl (by decide) rfl (fun ls hl => ?_)
            refine lv_lload_n hx hb dX12_fills_67 rfl (lv_at hl 3 rfl) ?_
            refine lv_iload hx hb dX12_fills_68 (lv_at hl 0 rfl) ?_
            refine lv_if_eq (tgt := 86) hx hb dX12_fills_70 (by decide) (fun _ => ?_) (fun c9 => absurd c9 (by decide))
            refine lv_lconst (v := 0) hx hb dX12_fills_86 (by decide) ?_
            refine lv_ladd hx hb dX12_fills_87 ?_
            refine lv_lstore_n (lv' := [(2, .long (x2 + 0)), (6, .int 0), (0, .ref (wA B 224)), (1, .int x1), (4, .int x4), (5, .int x5)]) hx hb dX12_fills_88 rfl hl (by decide) rfl (fun ls hl => ?_)
            refine lv_iload hx hb dX12_fills_89 (lv_at hl 4 rfl) ?_
            refine lv_iload hx hb dX12_fills_91 (lv_at hl 1 rfl) ?_
            refine lv_if_eq (tgt := 100) hx hb dX12_fills_93 (by decide) (fun _ => ?_) (fun c9 => absurd c9 (by decide))
            refine lv_iconst (v := 0) hx hb dX12_fills_100 (by decide) ?_
            refine lv_iadd hx hb dX12_fills_101 ?_
            refine lv_istore (lv' := [(4, .int (x4 + 0)), (2, .long (x2 + 0)), (6, .int 0), (0, .ref (wA B 224)), (1, .int x1), (5, .int x5)]) hx hb dX12_fills_102 hl (by decide) rfl (fun ls hl => ?_)
            refine lv_iinc (k := 5) (v := x5 + 1) (lv' := [(5, .int (x5 + 1)), (4, .int (x4 + 0)), (2, .long (x2 + 0)), (6, .int 0), (0, .ref (wA B 224)), (1, .int x1)]) hx hb dX12_fills_104 hl rfl (by rfl) (by decide) rfl (fun ls hl => ?_)
            refine lv_goto (tgt := 22) hx hb dX12_fills_107 (by decide) ?_
            exact ih (x2 + 0) (x4 + 0) (x5 + 1) σ _ _ _ _ hf w (lv_sub hl [4, 5, 2, 1, 0] rfl) hK
          · rw [if_neg c10] at hf
            refine lv_iconst (v := 1) hx hb dX12_fills_60 (by decide) ?_
            refine lv_goto (tgt := 65) hx hb dX12_fills_61 (by decide) ?_
            refine lv_istore (lv' := [(6, .int 1), (0, .ref (wA B 224)), (1, .int x1), (2, .long x2), (4, .int x4), (5, .int x5)]) hx hb dX12_fills_65 hl (by decide) rfl (fun ls hl => ?_)
            refine lv_lload_n hx hb dX12_fills_67 rfl (lv_at hl 3 rfl) ?_
            refine lv_iload hx hb dX12_fills_68 (lv_at hl 0 rfl) ?_
            refine lv_if_eq (tgt := 86) hx hb dX12_fills_70 (by decide) (fun c9 => absurd c9 (by decide)) (fun _ => ?_)
            refine lv_aload_n hx hb dX12_fills_73 rfl (lv_at hl 1 rfl) ?_
            refine gR C0 w 225 fk_X12_7 (by decide +kernel) dX12_fills_74 ?_
            refine lv_bipush (v := 8) hx hb dX12_fills_77 (by decide) ?_
            refine lv_iload hx hb dX12_fills_79 (lv_at hl 5 rfl) ?_
            refine lv_iadd hx hb dX12_fills_81 ?_
            obtain ⟨g11, hf⟩ := gdE hf
            refine aL C0 w (n := 200) (by decide +kernel) (inbE g11) dX12_fills_82 ?_
            refine lv_goto (tgt := 87) hx hb dX12_fills_83 (by decide) ?_
            refine lv_ladd hx hb dX12_fills_87 ?_
            refine lv_lstore_n (lv' := [(2, .long (x2 + (σ.2 225 (8 + x5).toNatClampNeg))), (6, .int 1), (0, .ref (wA B 224)), (1, .int x1), (4, .int x4), (5, .int x5)]) hx hb dX12_fills_88 rfl hl (by decide) rfl (fun ls hl => ?_)
            refine lv_iload hx hb dX12_fills_89 (lv_at hl 4 rfl) ?_
            refine lv_iload hx hb dX12_fills_91 (lv_at hl 1 rfl) ?_
            refine lv_if_eq (tgt := 100) hx hb dX12_fills_93 (by decide) (fun c9 => absurd c9 (by decide)) (fun _ => ?_)
            refine lv_iconst (v := 1) hx hb dX12_fills_96 (by decide) ?_
            refine lv_goto (tgt := 101) hx hb dX12_fills_97 (by decide) ?_
            refine lv_iadd hx hb dX12_fills_101 ?_
            refine lv_istore (lv' := [(4, .int (x4 + 1)), (2, .long (x2 + (σ.2 225 (8 + x5).toNatClampNeg))), (6, .int 1), (0, .ref (wA B 224)), (1, .int x1), (5, .int x5)]) hx hb dX12_fills_102 hl (by decide) rfl (fun ls hl => ?_)
            refine lv_iinc (k := 5) (v := x5 + 1) (lv' := [(5, .int (x5 + 1)), (4, .int (x4 + 1)), (2, .long (x2 + (σ.2 225 (8 + x5).toNatClampNeg))), (6, .int 1), (0, .ref (wA B 224)), (1, .int x1)]) hx hb dX12_fills_104 hl rfl (by rfl) (by decide) rfl (fun ls hl => ?_)
            refine lv_goto (tgt := 22) hx hb dX12_fills_107 (by decide) ?_
            exact ih (x2 + (σ.2 225 (8 + x5).toNatClampNeg)) (x4 + 1) (x5 + 1) σ _ _ _ _ hf w (lv_sub hl [4, 5, 2, 1, 0] rfl) hK
set_option maxHeartbeats 4000000 in
set_option maxRecDepth 100000 in
theorem lp_X12_fills_6 {p : Program} {e : Env} {s : State} {m : MethodId} {args : Array Value} {below : List Frame} {meth : Method} {c : Code} {Q : State → Prop} (l : Launch) (B : Wb) (C0 : Cx p s m args meth c cX12_fills 7 RX12) : ∀ (n : Nat) (x1 : Int32) (σ : Mem) (o : Mem) (H : Heap) (locs : List Loc) (ls : Array Slot), f_X12_fills_6 n x1 σ = some o → Wx B σ s H locs → lv_has ls 7 [(0, .ref (wA B 224)), (1, .int x1)] → (∀ (H : Heap) (locs : List Loc) (ls : Array Slot), Wx B o s H locs → lv_has ls 7 [(0, .ref (wA B 224))] → W p l e rm_X12_fills s m args below meth c H locs 0 0 Q (F0 m 146 ls [])) → W p l e rm_X12_fills s m args below meth c H locs 0 0 Q (F0 m 6 ls []) := by
  have hx := C0.1.1
  have hb := C0.1.2.1
  intro n
  induction n with
  | zero =>
    intro x1 σ o H locs ls hf w hl hK
    cases hf
  | succ n ih =>
    intro x1 σ o H locs ls hf w hl hK
    rw [f_X12_fills_6] at hf
    refine lv_iload_n hx hb dX12_fills_6 rfl (lv_at hl 1 rfl) ?_
    refine lv_aload_n hx hb dX12_fills_7 rfl (lv_at hl 0 rfl) ?_
    obtain ⟨q1, h2, hf⟩ := bdE hf
    refine cV (As := []) (rest := [.int x1]) (k := 224) (ci := 10) (T := TX12) (N := 22) C0 w (m_X12_cells l B _ σ q1 h2) ky_X12_cells kv_X12_cells lk_X12_76 rfl (by decide +kernel) ⟨Nat.le_of_ble_eq_true rfl, Nat.le_of_ble_eq_true rfl⟩ ⟨Nat.le_of_ble_eq_true rfl, Nat.le_of_ble_eq_true rfl⟩ rfl (by rfl) (Nat.le_of_ble_eq_true rfl) hl.1 dX12_fills_8 (fun H locs w => ?_)
    refine lv_icmp_ge (tgt := 146) hx hb dX12_fills_11 (by decide) (fun c3 => ?_) (fun c3 => ?_)
    · rw [if_pos c3] at hf
      obtain rfl := Option.some.inj hf
      exact hK _ _ _ w (lv_sub hl [0] rfl)
    · rw [if_neg c3] at hf
      refine lv_lconst (v := 0) hx hb dX12_fills_14 (by decide) ?_
      refine lv_lstore_n (lv' := [(2, .long 0), (0, .ref (wA B 224)), (1, .int x1)]) hx hb dX12_fills_15 rfl hl (by decide) rfl (fun ls hl => ?_)
      refine lv_iconst (v := 0) hx hb dX12_fills_16 (by decide) ?_
      refine lv_istore (lv' := [(4, .int 0), (2, .long 0), (0, .ref (wA B 224)), (1, .int x1)]) hx hb dX12_fills_17 hl (by decide) rfl (fun ls hl => ?_)
      refine lv_iconst (v := 0) hx hb dX12_fills_19 (by decide) ?_
      refine lv_istore (lv' := [(5, .int 0), (4, .int 0), (2, .long 0), (0, .ref (wA B 224)), (1, .int x1)]) hx hb dX12_fills_20 hl (by decide) rfl (fun ls hl => ?_)
      obtain ⟨q4, h5, hf⟩ := bdE hf
      refine lp_X12_fills_22 l B C0 x1 100000 0 0 0 σ q4 _ _ _ h5 w (lv_sub hl [3, 4, 2, 1, 0] rfl) (fun H locs ls w hl => ?_)
      refine lv_aload_n hx hb dX12_fills_110 rfl (lv_at hl 0 rfl) ?_
      refine gR C0 w 237 fk_X12_48 (by decide +kernel) dX12_fills_111 ?_
      refine lv_iload_n hx hb dX12_fills_114 rfl (lv_at hl 1 rfl) ?_
      refine lv_iload hx hb dX12_fills_115 (lv_at hl 3 rfl) ?_
      refine lv_if_le (tgt := 130) hx hb dX12_fills_117 (by decide) (fun c6 => ?_) (fun c6 => ?_)
      · rw [if_pos c6] at hf
        refine lv_aload_n hx hb dX12_fills_130 rfl (lv_at hl 0 rfl) ?_
        refine gR C0 w 225 fk_X12_7 (by decide +kernel) dX12_fills_131 ?_
        refine lv_bipush (v := 8) hx hb dX12_fills_134 (by decide) ?_
        refine lv_iload_n hx hb dX12_fills_136 rfl (lv_at hl 1 rfl) ?_
        refine lv_iadd hx hb dX12_fills_137 ?_
        obtain ⟨g7, hf⟩ := gdE hf
        refine aL C0 w (n := 200) (by decide +kernel) (inbE g7) dX12_fills_138 ?_
        obtain ⟨g8, hf⟩ := gdE hf
        refine sL C0 w (n := 64) (by decide +kernel) (inbE g8) dX12_fills_139 (fun H locs w => ?_)
        refine lv_iinc (k := 1) (v := x1 + 1) (lv' := [(1, .int (x1 + 1)), (0, .ref (wA B 224)), (2, .long q4.1), (4, .int q4.2)]) hx hb dX12_fills_140 hl rfl (by rfl) (by decide) rfl (fun ls hl => ?_)
        refine lv_goto (tgt := 6) hx hb dX12_fills_143 (by decide) ?_
        exact ih (x1 + 1) (setL σ 237 x1.toNatClampNeg (σ.2 225 (8 + x1).toNatClampNeg)) _ _ _ _ hf w (lv_sub hl [1, 0] rfl) hK
      · rw [if_neg c6] at hf
        refine lv_lload_n hx hb dX12_fills_120 rfl (lv_at hl 2 rfl) ?_
        refine lv_iload hx hb dX12_fills_121 (lv_at hl 3 rfl) ?_
        refine lv_i2l hx hb dX12_fills_123 rfl ?_
        obtain ⟨q9, h10, hf⟩ := bdE hf
        refine cS (As := [.long q4.1, .long q4.2.toInt64]) (rest := [.int x1, .ref (wA B 237)]) C0 w (m_X12_rounded l B _ σ q4.1 q4.2.toInt64 q9 h10) ky_X12_rounded ks_X12_rounded lk_X12_204 ⟨Nat.le_of_ble_eq_true rfl, Nat.le_of_ble_eq_true rfl⟩ ⟨Nat.le_of_ble_eq_true rfl, Nat.le_of_ble_eq_true rfl⟩ rfl (by rfl) (Nat.le_of_ble_eq_true rfl) hl.1 dX12_fills_124 (fun H locs w => ?_)
        refine lv_goto (tgt := 139) hx hb dX12_fills_127 (by decide) ?_
        obtain ⟨g11, hf⟩ := gdE hf
        refine sL C0 w (n := 64) (by decide +kernel) (inbE g11) dX12_fills_139 (fun H locs w => ?_)
        refine lv_iinc (k := 1) (v := x1 + 1) (lv' := [(1, .int (x1 + 1)), (0, .ref (wA B 224)), (2, .long q4.1), (4, .int q4.2)]) hx hb dX12_fills_140 hl rfl (by rfl) (by decide) rfl (fun ls hl => ?_)
        refine lv_goto (tgt := 6) hx hb dX12_fills_143 (by decide) ?_
        exact ih (x1 + 1) (setL σ 237 x1.toNatClampNeg q9) _ _ _ _ hf w (lv_sub hl [1, 0] rfl) hK
set_option maxHeartbeats 4000000 in
set_option maxRecDepth 100000 in
theorem m_X12_fills (l : Launch) (B : Wb) (sz : Nat) (σ : Mem) (q : Int32 × Mem) (hf : f_X12_fills σ = some q) : MetC l yX12_fills cX12_fills 7 (some .int) rm_X12_fills B sz σ q.2 [.ref (wA B 224)] (some (.int q.1)) := by
  refine met_in (by decide +kernel) (Nat.le_of_ble_eq_true rfl) ?_
  intro p e s m below meth c C0 hr w hsz ls hl
  have hx := C0.1.1
  have hb := C0.1.2.1
  unfold f_X12_fills at hf
  refine lv_aload_n hx hb dX12_fills_0 rfl (lv_at hl 0 rfl) ?_
  obtain ⟨q1, h2, hf⟩ := bdE hf
  refine cV (As := []) (rest := []) (k := 224) (ci := 10) (T := TX12) (N := 22) C0 w (m_X12_cover l B _ σ q1 h2) ky_X12_cover kv_X12_cover lk_X12_236 rfl (by decide +kernel) ⟨Nat.le_of_ble_eq_true rfl, Nat.le_of_ble_eq_true rfl⟩ ⟨Nat.le_of_ble_eq_true rfl, Nat.le_of_ble_eq_true rfl⟩ rfl (by rfl) (Nat.le_of_ble_eq_true rfl) hl.1 dX12_fills_1 (fun H locs w => ?_)
  refine lv_iconst (v := 0) hx hb dX12_fills_4 (by decide) ?_
  refine lv_istore_n (lv' := [(1, .int 0), (0, .ref (wA B 224))]) hx hb dX12_fills_5 rfl hl (by decide) rfl (fun ls hl => ?_)
  obtain ⟨q3, h4, hf⟩ := bdE hf
  refine lp_X12_fills_6 l B C0 100000 0 q1 q3 _ _ _ h4 w (lv_sub hl [1, 0] rfl) (fun H locs ls w hl => ?_)
  refine lv_aload_n hx hb dX12_fills_146 rfl (lv_at hl 0 rfl) ?_
  obtain ⟨q5, h6, hf⟩ := bdE hf
  refine cV (As := []) (rest := []) (k := 224) (ci := 10) (T := TX12) (N := 22) C0 w (m_X12_layFresh l B _ q3 q5 h6) ky_X12_layFresh kv_X12_layFresh lk_X12_228 rfl (by decide +kernel) ⟨Nat.le_of_ble_eq_true rfl, Nat.le_of_ble_eq_true rfl⟩ ⟨Nat.le_of_ble_eq_true rfl, Nat.le_of_ble_eq_true rfl⟩ rfl (by rfl) (Nat.le_of_ble_eq_true rfl) hl.1 dX12_fills_147 (fun H locs w => ?_)
  obtain rfl := Option.some.inj hf
  exact eI C0 hr w rfl dX12_fills_150
def f_X12_fill (σ : Mem) : Option (Int32 × Mem) :=
  bd (f_X12_keep (setI σ 224 5 0)) (fun q1 =>
  bd (f_X12_fills q1) (fun q3 =>
  some ((q3.1, q3.2))))
abbrev rm_X12_fill : Room := { frames := 7, cells := 0, slots := 0, locals := 171 }
set_option maxHeartbeats 4000000 in
set_option maxRecDepth 100000 in
theorem m_X12_fill (l : Launch) (B : Wb) (sz : Nat) (σ : Mem) (q : Int32 × Mem) (hf : f_X12_fill σ = some q) : MetC l yX12_fill cX12_fill 1 (some .int) rm_X12_fill B sz σ q.2 [.ref (wA B 224)] (some (.int q.1)) := by
  refine met_in (by decide +kernel) (Nat.le_of_ble_eq_true rfl) ?_
  intro p e s m below meth c C0 hr w hsz ls hl
  have hx := C0.1.1
  have hb := C0.1.2.1
  unfold f_X12_fill at hf
  refine lv_aload_n hx hb dX12_fill_0 rfl (lv_at hl 0 rfl) ?_
  refine lv_iconst (v := 0) hx hb dX12_fill_1 (by decide) ?_
  refine pI C0 w fk_X12_62 fp_X12_5 (by decide +kernel) dX12_fill_2 (fun H locs w => ?_)
  refine lv_aload_n hx hb dX12_fill_5 rfl (lv_at hl 0 rfl) ?_
  obtain ⟨q1, h2, hf⟩ := bdE hf
  refine cV (As := []) (rest := []) (k := 224) (ci := 10) (T := TX12) (N := 22) C0 w (m_X12_keep l B _ (setI σ 224 5 0) q1 h2) ky_X12_keep kv_X12_keep lk_X12_131 rfl (by decide +kernel) ⟨Nat.le_of_ble_eq_true rfl, Nat.le_of_ble_eq_true rfl⟩ ⟨Nat.le_of_ble_eq_true rfl, Nat.le_of_ble_eq_true rfl⟩ rfl (by rfl) (Nat.le_of_ble_eq_true rfl) hl.1 dX12_fill_6 (fun H locs w => ?_)
  refine lv_aload_n hx hb dX12_fill_9 rfl (lv_at hl 0 rfl) ?_
  obtain ⟨q3, h4, hf⟩ := bdE hf
  refine cV (As := []) (rest := []) (k := 224) (ci := 10) (T := TX12) (N := 22) C0 w (m_X12_fills l B _ q1 q3 h4) ky_X12_fills kv_X12_fills lk_X12_239 rfl (by decide +kernel) ⟨Nat.le_of_ble_eq_true rfl, Nat.le_of_ble_eq_true rfl⟩ ⟨Nat.le_of_ble_eq_true rfl, Nat.le_of_ble_eq_true rfl⟩ rfl (by rfl) (Nat.le_of_ble_eq_true rfl) hl.1 dX12_fill_10 (fun H locs w => ?_)
  obtain rfl := Option.some.inj hf
  exact eI C0 hr w rfl dX12_fill_13
def f_X12_valueOf (x1 : Int32) (x2 : Int32) (σ : Mem) : Option (Int32 × Mem) :=
  if x2 = 4 then (
    bd (f_X12_findWay x1 σ) (fun q8 =>
    some ((q8.1 224 9, q8))))
  else (
    if x2 = 3 then (
      bd (f_X12_isActive x1 σ) (fun q5 =>
      if q5 = 0 then (
        some ((0, σ)))
      else (
        some ((1, σ)))))
    else (
      bd (f_X12_of x1 x2 σ) (fun q3 =>
      some ((q3.toInt32, σ)))))
abbrev rm_X12_valueOf : Room := { frames := 5, cells := 0, slots := 0, locals := 123 }
set_option maxHeartbeats 4000000 in
set_option maxRecDepth 100000 in
theorem m_X12_valueOf (l : Launch) (B : Wb) (sz : Nat) (σ : Mem) (x1 : Int32) (x2 : Int32) (q : Int32 × Mem) (hf : f_X12_valueOf x1 x2 σ = some q) : MetC l yX12_valueOf cX12_valueOf 3 (some .int) rm_X12_valueOf B sz σ q.2 [.ref (wA B 224), .int x1, .int x2] (some (.int q.1)) := by
  refine met_in (by decide +kernel) (Nat.le_of_ble_eq_true rfl) ?_
  intro p e s m below meth c C0 hr w hsz ls hl
  have hx := C0.1.1
  have hb := C0.1.2.1
  unfold f_X12_valueOf at hf
  refine lv_iload_n hx hb dX12_valueOf_0 rfl (lv_at hl 2 rfl) ?_
  refine lv_iconst (v := 4) hx hb dX12_valueOf_1 (by decide) ?_
  refine lv_icmp_ne (tgt := 15) hx hb dX12_valueOf_2 (by decide) (fun c1 => ?_) (fun c1 => ?_)
  · rw [if_neg c1] at hf
    refine lv_iload_n hx hb dX12_valueOf_15 rfl (lv_at hl 2 rfl) ?_
    refine lv_iconst (v := 3) hx hb dX12_valueOf_16 (by decide) ?_
    refine lv_icmp_ne (tgt := 36) hx hb dX12_valueOf_17 (by decide) (fun c2 => ?_) (fun c2 => ?_)
    · rw [if_neg c2] at hf
      refine lv_aload_n hx hb dX12_valueOf_36 rfl (lv_at hl 0 rfl) ?_
      refine lv_iload_n hx hb dX12_valueOf_37 rfl (lv_at hl 1 rfl) ?_
      refine lv_iload_n hx hb dX12_valueOf_38 rfl (lv_at hl 2 rfl) ?_
      obtain ⟨q3, h4, hf⟩ := bdE hf
      refine cV (As := [.int x1, .int x2]) (rest := []) (k := 224) (ci := 10) (T := TX12) (N := 22) C0 w (m_X12_of l B _ σ x1 x2 q3 h4) ky_X12_of kv_X12_of lk_X12_83 rfl (by decide +kernel) ⟨Nat.le_of_ble_eq_true rfl, Nat.le_of_ble_eq_true rfl⟩ ⟨Nat.le_of_ble_eq_true rfl, Nat.le_of_ble_eq_true rfl⟩ rfl (by rfl) (Nat.le_of_ble_eq_true rfl) hl.1 dX12_valueOf_39 (fun H locs w => ?_)
      refine lv_l2i hx hb dX12_valueOf_42 rfl ?_
      obtain rfl := Option.some.inj hf
      exact eI C0 hr w rfl dX12_valueOf_43
    · rw [if_pos c2] at hf
      refine lv_aload_n hx hb dX12_valueOf_20 rfl (lv_at hl 0 rfl) ?_
      refine lv_iload_n hx hb dX12_valueOf_21 rfl (lv_at hl 1 rfl) ?_
      obtain ⟨q5, h6, hf⟩ := bdE hf
      refine cV (As := [.int x1]) (rest := []) (k := 224) (ci := 10) (T := TX12) (N := 22) C0 w (m_X12_isActive l B _ σ x1 q5 h6) ky_X12_isActive kv_X12_isActive lk_X12_89 rfl (by decide +kernel) ⟨Nat.le_of_ble_eq_true rfl, Nat.le_of_ble_eq_true rfl⟩ ⟨Nat.le_of_ble_eq_true rfl, Nat.le_of_ble_eq_true rfl⟩ rfl (by rfl) (Nat.le_of_ble_eq_true rfl) hl.1 dX12_valueOf_22 (fun H locs w => ?_)
      refine lv_if_eq (tgt := 32) hx hb dX12_valueOf_25 (by decide) (fun c7 => ?_) (fun c7 => ?_)
      · rw [if_pos c7] at hf
        refine lv_iconst (v := 0) hx hb dX12_valueOf_32 (by decide) ?_
        refine lv_goto (tgt := 43) hx hb dX12_valueOf_33 (by decide) ?_
        obtain rfl := Option.some.inj hf
        exact eI C0 hr w rfl dX12_valueOf_43
      · rw [if_neg c7] at hf
        refine lv_iconst (v := 1) hx hb dX12_valueOf_28 (by decide) ?_
        refine lv_goto (tgt := 43) hx hb dX12_valueOf_29 (by decide) ?_
        obtain rfl := Option.some.inj hf
        exact eI C0 hr w rfl dX12_valueOf_43
  · rw [if_pos c1] at hf
    refine lv_aload_n hx hb dX12_valueOf_5 rfl (lv_at hl 0 rfl) ?_
    refine lv_iload_n hx hb dX12_valueOf_6 rfl (lv_at hl 1 rfl) ?_
    obtain ⟨q8, h9, hf⟩ := bdE hf
    refine cV (As := [.int x1]) (rest := []) (k := 224) (ci := 10) (T := TX12) (N := 22) C0 w (m_X12_findWay l B _ σ x1 q8 h9) ky_X12_findWay kv_X12_findWay lk_X12_125 rfl (by decide +kernel) ⟨Nat.le_of_ble_eq_true rfl, Nat.le_of_ble_eq_true rfl⟩ ⟨Nat.le_of_ble_eq_true rfl, Nat.le_of_ble_eq_true rfl⟩ rfl (by rfl) (Nat.le_of_ble_eq_true rfl) hl.1 dX12_valueOf_7 (fun H locs w => ?_)
    refine lv_aload_n hx hb dX12_valueOf_10 rfl (lv_at hl 0 rfl) ?_
    refine gI C0 w fk_X12_118 (by decide +kernel) dX12_valueOf_11 ?_
    obtain rfl := Option.some.inj hf
    exact eI C0 hr w rfl dX12_valueOf_14
def f_X12_ray (x1 : Int32) (x2 : Int32) (σ : Mem) : Option (Int32 × Mem) :=
  bd (f_X12_isRay x1 σ) (fun q1 =>
  if q1 = 0 then (
    if ((setI σ 224 5 1).1 224 5) = 0 then (
      bd (f_X12_valueOf x1 x2 (setI σ 224 5 1)) (fun q14 =>
      some ((q14.1, q14.2))))
    else (
      some ((0, setI σ 224 5 1))))
  else (
    bd (f_X12_in x2.toInt64 0 4 σ) (fun q4 =>
    if q4 = 0 then (
      if ((setI σ 224 5 2).1 224 5) = 0 then (
        bd (f_X12_valueOf x1 x2 (setI σ 224 5 2)) (fun q8 =>
        some ((q8.1, q8.2))))
      else (
        some ((0, setI σ 224 5 2))))
    else (
      if ((setI σ 224 5 0).1 224 5) = 0 then (
        bd (f_X12_valueOf x1 x2 (setI σ 224 5 0)) (fun q11 =>
        some ((q11.1, q11.2))))
      else (
        some ((0, setI σ 224 5 0)))))))
abbrev rm_X12_ray : Room := { frames := 6, cells := 0, slots := 0, locals := 145 }
set_option maxHeartbeats 4000000 in
set_option maxRecDepth 100000 in
theorem m_X12_ray (l : Launch) (B : Wb) (sz : Nat) (σ : Mem) (x1 : Int32) (x2 : Int32) (q : Int32 × Mem) (hf : f_X12_ray x1 x2 σ = some q) : MetC l yX12_ray cX12_ray 3 (some .int) rm_X12_ray B sz σ q.2 [.ref (wA B 224), .int x1, .int x2] (some (.int q.1)) := by
  refine met_in (by decide +kernel) (Nat.le_of_ble_eq_true rfl) ?_
  intro p e s m below meth c C0 hr w hsz ls hl
  have hx := C0.1.1
  have hb := C0.1.2.1
  unfold f_X12_ray at hf
  refine lv_aload_n hx hb dX12_ray_0 rfl (lv_at hl 0 rfl) ?_
  refine lv_aload_n hx hb dX12_ray_1 rfl (lv_at hl 0 rfl) ?_
  refine lv_iload_n hx hb dX12_ray_2 rfl (lv_at hl 1 rfl) ?_
  obtain ⟨q1, h2, hf⟩ := bdE hf
  refine cV (As := [.int x1]) (rest := [.ref (wA B 224)]) (k := 224) (ci := 10) (T := TX12) (N := 22) C0 w (m_X12_isRay l B _ σ x1 q1 h2) ky_X12_isRay kv_X12_isRay lk_X12_171 rfl (by decide +kernel) ⟨Nat.le_of_ble_eq_true rfl, Nat.le_of_ble_eq_true rfl⟩ ⟨Nat.le_of_ble_eq_true rfl, Nat.le_of_ble_eq_true rfl⟩ rfl (by rfl) (Nat.le_of_ble_eq_true rfl) hl.1 dX12_ray_3 (fun H locs w => ?_)
  refine lv_if_ne (tgt := 13) hx hb dX12_ray_6 (by decide) (fun c3 => ?_) (fun c3 => ?_)
  · rw [if_neg c3] at hf
    refine lv_iload_n hx hb dX12_ray_13 rfl (lv_at hl 2 rfl) ?_
    refine lv_i2l hx hb dX12_ray_14 rfl ?_
    refine lv_lconst (v := 0) hx hb dX12_ray_15 (by decide) ?_
    refine kLg C0 4 kc_X12_242 dX12_ray_16 ?_
    obtain ⟨q4, h5, hf⟩ := bdE hf
    refine cS (As := [.long x2.toInt64, .long 0, .long 4]) (rest := [.ref (wA B 224)]) C0 w (m_X12_in l B _ σ x2.toInt64 0 4 q4 h5) ky_X12_in ks_X12_in lk_X12_79 ⟨Nat.le_of_ble_eq_true rfl, Nat.le_of_ble_eq_true rfl⟩ ⟨Nat.le_of_ble_eq_true rfl, Nat.le_of_ble_eq_true rfl⟩ rfl (by rfl) (Nat.le_of_ble_eq_true rfl) hl.1 dX12_ray_19 (fun H locs w => ?_)
    refine lv_if_eq (tgt := 29) hx hb dX12_ray_22 (by decide) (fun c6 => ?_) (fun c6 => ?_)
    · rw [if_pos c6] at hf
      refine lv_iconst (v := 2) hx hb dX12_ray_29 (by decide) ?_
      refine pI C0 w fk_X12_62 fp_X12_5 (by decide +kernel) dX12_ray_30 (fun H locs w => ?_)
      refine lv_aload_n hx hb dX12_ray_33 rfl (lv_at hl 0 rfl) ?_
      refine gI C0 w fk_X12_62 (by decide +kernel) dX12_ray_34 ?_
      refine lv_if_eq (tgt := 44) hx hb dX12_ray_37 (by decide) (fun c7 => ?_) (fun c7 => ?_)
      · rw [if_pos c7] at hf
        refine lv_aload_n hx hb dX12_ray_44 rfl (lv_at hl 0 rfl) ?_
        refine lv_iload_n hx hb dX12_ray_45 rfl (lv_at hl 1 rfl) ?_
        refine lv_iload_n hx hb dX12_ray_46 rfl (lv_at hl 2 rfl) ?_
        obtain ⟨q8, h9, hf⟩ := bdE hf
        refine cV (As := [.int x1, .int x2]) (rest := []) (k := 224) (ci := 10) (T := TX12) (N := 22) C0 w (m_X12_valueOf l B _ (setI σ 224 5 2) x1 x2 q8 h9) ky_X12_valueOf kv_X12_valueOf lk_X12_244 rfl (by decide +kernel) ⟨Nat.le_of_ble_eq_true rfl, Nat.le_of_ble_eq_true rfl⟩ ⟨Nat.le_of_ble_eq_true rfl, Nat.le_of_ble_eq_true rfl⟩ rfl (by rfl) (Nat.le_of_ble_eq_true rfl) hl.1 dX12_ray_47 (fun H locs w => ?_)
        obtain rfl := Option.some.inj hf
        exact eI C0 hr w rfl dX12_ray_50
      · rw [if_neg c7] at hf
        refine lv_iconst (v := 0) hx hb dX12_ray_40 (by decide) ?_
        refine lv_goto (tgt := 50) hx hb dX12_ray_41 (by decide) ?_
        obtain rfl := Option.some.inj hf
        exact eI C0 hr w rfl dX12_ray_50
    · rw [if_neg c6] at hf
      refine lv_iconst (v := 0) hx hb dX12_ray_25 (by decide) ?_
      refine lv_goto (tgt := 30) hx hb dX12_ray_26 (by decide) ?_
      refine pI C0 w fk_X12_62 fp_X12_5 (by decide +kernel) dX12_ray_30 (fun H locs w => ?_)
      refine lv_aload_n hx hb dX12_ray_33 rfl (lv_at hl 0 rfl) ?_
      refine gI C0 w fk_X12_62 (by decide +kernel) dX12_ray_34 ?_
      refine lv_if_eq (tgt := 44) hx hb dX12_ray_37 (by decide) (fun c10 => ?_) (fun c10 => ?_)
      · rw [if_pos c10] at hf
        refine lv_aload_n hx hb dX12_ray_44 rfl (lv_at hl 0 rfl) ?_
        refine lv_iload_n hx hb dX12_ray_45 rfl (lv_at hl 1 rfl) ?_
        refine lv_iload_n hx hb dX12_ray_46 rfl (lv_at hl 2 rfl) ?_
        obtain ⟨q11, h12, hf⟩ := bdE hf
        refine cV (As := [.int x1, .int x2]) (rest := []) (k := 224) (ci := 10) (T := TX12) (N := 22) C0 w (m_X12_valueOf l B _ (setI σ 224 5 0) x1 x2 q11 h12) ky_X12_valueOf kv_X12_valueOf lk_X12_244 rfl (by decide +kernel) ⟨Nat.le_of_ble_eq_true rfl, Nat.le_of_ble_eq_true rfl⟩ ⟨Nat.le_of_ble_eq_true rfl, Nat.le_of_ble_eq_true rfl⟩ rfl (by rfl) (Nat.le_of_ble_eq_true rfl) hl.1 dX12_ray_47 (fun H locs w => ?_)
        obtain rfl := Option.some.inj hf
        exact eI C0 hr w rfl dX12_ray_50
      · rw [if_neg c10] at hf
        refine lv_iconst (v := 0) hx hb dX12_ray_40 (by decide) ?_
        refine lv_goto (tgt := 50) hx hb dX12_ray_41 (by decide) ?_
        obtain rfl := Option.some.inj hf
        exact eI C0 hr w rfl dX12_ray_50
  · rw [if_pos c3] at hf
    refine lv_iconst (v := 1) hx hb dX12_ray_9 (by decide) ?_
    refine lv_goto (tgt := 30) hx hb dX12_ray_10 (by decide) ?_
    refine pI C0 w fk_X12_62 fp_X12_5 (by decide +kernel) dX12_ray_30 (fun H locs w => ?_)
    refine lv_aload_n hx hb dX12_ray_33 rfl (lv_at hl 0 rfl) ?_
    refine gI C0 w fk_X12_62 (by decide +kernel) dX12_ray_34 ?_
    refine lv_if_eq (tgt := 44) hx hb dX12_ray_37 (by decide) (fun c13 => ?_) (fun c13 => ?_)
    · rw [if_pos c13] at hf
      refine lv_aload_n hx hb dX12_ray_44 rfl (lv_at hl 0 rfl) ?_
      refine lv_iload_n hx hb dX12_ray_45 rfl (lv_at hl 1 rfl) ?_
      refine lv_iload_n hx hb dX12_ray_46 rfl (lv_at hl 2 rfl) ?_
      obtain ⟨q14, h15, hf⟩ := bdE hf
      refine cV (As := [.int x1, .int x2]) (rest := []) (k := 224) (ci := 10) (T := TX12) (N := 22) C0 w (m_X12_valueOf l B _ (setI σ 224 5 1) x1 x2 q14 h15) ky_X12_valueOf kv_X12_valueOf lk_X12_244 rfl (by decide +kernel) ⟨Nat.le_of_ble_eq_true rfl, Nat.le_of_ble_eq_true rfl⟩ ⟨Nat.le_of_ble_eq_true rfl, Nat.le_of_ble_eq_true rfl⟩ rfl (by rfl) (Nat.le_of_ble_eq_true rfl) hl.1 dX12_ray_47 (fun H locs w => ?_)
      obtain rfl := Option.some.inj hf
      exact eI C0 hr w rfl dX12_ray_50
    · rw [if_neg c13] at hf
      refine lv_iconst (v := 0) hx hb dX12_ray_40 (by decide) ?_
      refine lv_goto (tgt := 50) hx hb dX12_ray_41 (by decide) ?_
      obtain rfl := Option.some.inj hf
      exact eI C0 hr w rfl dX12_ray_50
def f_X12_time (x1 : Int32) (x2 : Int32) (σ : Mem) : Option (Int64 × Mem) :=
  bd (f_X12_isRay x1 σ) (fun q1 =>
  if q1 = 0 then (
    if ((setI σ 224 5 1).1 224 5) = 0 then (
      if x2 = 0 then (
        bd (f_X12_timeOf x1 (setI σ 224 5 1)) (fun q23 =>
        some ((q23.1, q23.2))))
      else (
        bd (f_X12_of x1 3 (setI σ 224 5 1)) (fun q21 =>
        some ((q21, setI σ 224 5 1)))))
    else (
      some ((0, setI σ 224 5 1))))
  else (
    bd (f_X12_in x2.toInt64 0 1 σ) (fun q4 =>
    if q4 = 0 then (
      if ((setI σ 224 5 2).1 224 5) = 0 then (
        if x2 = 0 then (
          bd (f_X12_timeOf x1 (setI σ 224 5 2)) (fun q11 =>
          some ((q11.1, q11.2))))
        else (
          bd (f_X12_of x1 3 (setI σ 224 5 2)) (fun q9 =>
          some ((q9, setI σ 224 5 2)))))
      else (
        some ((0, setI σ 224 5 2))))
    else (
      if ((setI σ 224 5 0).1 224 5) = 0 then (
        if x2 = 0 then (
          bd (f_X12_timeOf x1 (setI σ 224 5 0)) (fun q17 =>
          some ((q17.1, q17.2))))
        else (
          bd (f_X12_of x1 3 (setI σ 224 5 0)) (fun q15 =>
          some ((q15, setI σ 224 5 0)))))
      else (
        some ((0, setI σ 224 5 0)))))))
abbrev rm_X12_time : Room := { frames := 5, cells := 0, slots := 0, locals := 121 }
set_option maxHeartbeats 4000000 in
set_option maxRecDepth 100000 in
theorem m_X12_time (l : Launch) (B : Wb) (sz : Nat) (σ : Mem) (x1 : Int32) (x2 : Int32) (q : Int64 × Mem) (hf : f_X12_time x1 x2 σ = some q) : MetC l yX12_time cX12_time 3 (some .long) rm_X12_time B sz σ q.2 [.ref (wA B 224), .int x1, .int x2] (some (.long q.1)) := by
  refine met_in (by decide +kernel) (Nat.le_of_ble_eq_true rfl) ?_
  intro p e s m below meth c C0 hr w hsz ls hl
  have hx := C0.1.1
  have hb := C0.1.2.1
  unfold f_X12_time at hf
  refine lv_aload_n hx hb dX12_time_0 rfl (lv_at hl 0 rfl) ?_
  refine lv_aload_n hx hb dX12_time_1 rfl (lv_at hl 0 rfl) ?_
  refine lv_iload_n hx hb dX12_time_2 rfl (lv_at hl 1 rfl) ?_
  obtain ⟨q1, h2, hf⟩ := bdE hf
  refine cV (As := [.int x1]) (rest := [.ref (wA B 224)]) (k := 224) (ci := 10) (T := TX12) (N := 22) C0 w (m_X12_isRay l B _ σ x1 q1 h2) ky_X12_isRay kv_X12_isRay lk_X12_171 rfl (by decide +kernel) ⟨Nat.le_of_ble_eq_true rfl, Nat.le_of_ble_eq_true rfl⟩ ⟨Nat.le_of_ble_eq_true rfl, Nat.le_of_ble_eq_true rfl⟩ rfl (by rfl) (Nat.le_of_ble_eq_true rfl) hl.1 dX12_time_3 (fun H locs w => ?_)
  refine lv_if_ne (tgt := 13) hx hb dX12_time_6 (by decide) (fun c3 => ?_) (fun c3 => ?_)
  · rw [if_neg c3] at hf
    refine lv_iload_n hx hb dX12_time_13 rfl (lv_at hl 2 rfl) ?_
    refine lv_i2l hx hb dX12_time_14 rfl ?_
    refine lv_lconst (v := 0) hx hb dX12_time_15 (by decide) ?_
    refine lv_lconst (v := 1) hx hb dX12_time_16 (by decide) ?_
    obtain ⟨q4, h5, hf⟩ := bdE hf
    refine cS (As := [.long x2.toInt64, .long 0, .long 1]) (rest := [.ref (wA B 224)]) C0 w (m_X12_in l B _ σ x2.toInt64 0 1 q4 h5) ky_X12_in ks_X12_in lk_X12_79 ⟨Nat.le_of_ble_eq_true rfl, Nat.le_of_ble_eq_true rfl⟩ ⟨Nat.le_of_ble_eq_true rfl, Nat.le_of_ble_eq_true rfl⟩ rfl (by rfl) (Nat.le_of_ble_eq_true rfl) hl.1 dX12_time_17 (fun H locs w => ?_)
    refine lv_if_eq (tgt := 27) hx hb dX12_time_20 (by decide) (fun c6 => ?_) (fun c6 => ?_)
    · rw [if_pos c6] at hf
      refine lv_iconst (v := 2) hx hb dX12_time_27 (by decide) ?_
      refine pI C0 w fk_X12_62 fp_X12_5 (by decide +kernel) dX12_time_28 (fun H locs w => ?_)
      refine lv_aload_n hx hb dX12_time_31 rfl (lv_at hl 0 rfl) ?_
      refine gI C0 w fk_X12_62 (by decide +kernel) dX12_time_32 ?_
      refine lv_if_eq (tgt := 42) hx hb dX12_time_35 (by decide) (fun c7 => ?_) (fun c7 => ?_)
      · rw [if_pos c7] at hf
        refine lv_iload_n hx hb dX12_time_42 rfl (lv_at hl 2 rfl) ?_
        refine lv_if_ne (tgt := 54) hx hb dX12_time_43 (by decide) (fun c8 => ?_) (fun c8 => ?_)
        · rw [if_neg c8] at hf
          refine lv_aload_n hx hb dX12_time_54 rfl (lv_at hl 0 rfl) ?_
          refine lv_iload_n hx hb dX12_time_55 rfl (lv_at hl 1 rfl) ?_
          refine lv_iconst (v := 3) hx hb dX12_time_56 (by decide) ?_
          obtain ⟨q9, h10, hf⟩ := bdE hf
          refine cV (As := [.int x1, .int 3]) (rest := []) (k := 224) (ci := 10) (T := TX12) (N := 22) C0 w (m_X12_of l B _ (setI σ 224 5 2) x1 3 q9 h10) ky_X12_of kv_X12_of lk_X12_83 rfl (by decide +kernel) ⟨Nat.le_of_ble_eq_true rfl, Nat.le_of_ble_eq_true rfl⟩ ⟨Nat.le_of_ble_eq_true rfl, Nat.le_of_ble_eq_true rfl⟩ rfl (by rfl) (Nat.le_of_ble_eq_true rfl) hl.1 dX12_time_57 (fun H locs w => ?_)
          obtain rfl := Option.some.inj hf
          exact eL C0 hr w dX12_time_60
        · rw [if_pos c8] at hf
          refine lv_aload_n hx hb dX12_time_46 rfl (lv_at hl 0 rfl) ?_
          refine lv_iload_n hx hb dX12_time_47 rfl (lv_at hl 1 rfl) ?_
          obtain ⟨q11, h12, hf⟩ := bdE hf
          refine cV (As := [.int x1]) (rest := []) (k := 224) (ci := 10) (T := TX12) (N := 22) C0 w (m_X12_timeOf l B _ (setI σ 224 5 2) x1 q11 h12) ky_X12_timeOf kv_X12_timeOf lk_X12_121 rfl (by decide +kernel) ⟨Nat.le_of_ble_eq_true rfl, Nat.le_of_ble_eq_true rfl⟩ ⟨Nat.le_of_ble_eq_true rfl, Nat.le_of_ble_eq_true rfl⟩ rfl (by rfl) (Nat.le_of_ble_eq_true rfl) hl.1 dX12_time_48 (fun H locs w => ?_)
          refine lv_goto (tgt := 60) hx hb dX12_time_51 (by decide) ?_
          obtain rfl := Option.some.inj hf
          exact eL C0 hr w dX12_time_60
      · rw [if_neg c7] at hf
        refine lv_lconst (v := 0) hx hb dX12_time_38 (by decide) ?_
        refine lv_goto (tgt := 60) hx hb dX12_time_39 (by decide) ?_
        obtain rfl := Option.some.inj hf
        exact eL C0 hr w dX12_time_60
    · rw [if_neg c6] at hf
      refine lv_iconst (v := 0) hx hb dX12_time_23 (by decide) ?_
      refine lv_goto (tgt := 28) hx hb dX12_time_24 (by decide) ?_
      refine pI C0 w fk_X12_62 fp_X12_5 (by decide +kernel) dX12_time_28 (fun H locs w => ?_)
      refine lv_aload_n hx hb dX12_time_31 rfl (lv_at hl 0 rfl) ?_
      refine gI C0 w fk_X12_62 (by decide +kernel) dX12_time_32 ?_
      refine lv_if_eq (tgt := 42) hx hb dX12_time_35 (by decide) (fun c13 => ?_) (fun c13 => ?_)
      · rw [if_pos c13] at hf
        refine lv_iload_n hx hb dX12_time_42 rfl (lv_at hl 2 rfl) ?_
        refine lv_if_ne (tgt := 54) hx hb dX12_time_43 (by decide) (fun c14 => ?_) (fun c14 => ?_)
        · rw [if_neg c14] at hf
          refine lv_aload_n hx hb dX12_time_54 rfl (lv_at hl 0 rfl) ?_
          refine lv_iload_n hx hb dX12_time_55 rfl (lv_at hl 1 rfl) ?_
          refine lv_iconst (v := 3) hx hb dX12_time_56 (by decide) ?_
          obtain ⟨q15, h16, hf⟩ := bdE hf
          refine cV (As := [.int x1, .int 3]) (rest := []) (k := 224) (ci := 10) (T := TX12) (N := 22) C0 w (m_X12_of l B _ (setI σ 224 5 0) x1 3 q15 h16) ky_X12_of kv_X12_of lk_X12_83 rfl (by decide +kernel) ⟨Nat.le_of_ble_eq_true rfl, Nat.le_of_ble_eq_true rfl⟩ ⟨Nat.le_of_ble_eq_true rfl, Nat.le_of_ble_eq_true rfl⟩ rfl (by rfl) (Nat.le_of_ble_eq_true rfl) hl.1 dX12_time_57 (fun H locs w => ?_)
          obtain rfl := Option.some.inj hf
          exact eL C0 hr w dX12_time_60
        · rw [if_pos c14] at hf
          refine lv_aload_n hx hb dX12_time_46 rfl (lv_at hl 0 rfl) ?_
          refine lv_iload_n hx hb dX12_time_47 rfl (lv_at hl 1 rfl) ?_
          obtain ⟨q17, h18, hf⟩ := bdE hf
          refine cV (As := [.int x1]) (rest := []) (k := 224) (ci := 10) (T := TX12) (N := 22) C0 w (m_X12_timeOf l B _ (setI σ 224 5 0) x1 q17 h18) ky_X12_timeOf kv_X12_timeOf lk_X12_121 rfl (by decide +kernel) ⟨Nat.le_of_ble_eq_true rfl, Nat.le_of_ble_eq_true rfl⟩ ⟨Nat.le_of_ble_eq_true rfl, Nat.le_of_ble_eq_true rfl⟩ rfl (by rfl) (Nat.le_of_ble_eq_true rfl) hl.1 dX12_time_48 (fun H locs w => ?_)
          refine lv_goto (tgt := 60) hx hb dX12_time_51 (by decide) ?_
          obtain rfl := Option.some.inj hf
          exact eL C0 hr w dX12_time_60
      · rw [if_neg c13] at hf
        refine lv_lconst (v := 0) hx hb dX12_time_38 (by decide) ?_
        refine lv_goto (tgt := 60) hx hb dX12_time_39 (by decide) ?_
        obtain rfl := Option.some.inj hf
        exact eL C0 hr w dX12_time_60
  · rw [if_pos c3] at hf
    refine lv_iconst (v := 1) hx hb dX12_time_9 (by decide) ?_
    refine lv_goto (tgt := 28) hx hb dX12_time_10 (by decide) ?_
    refine pI C0 w fk_X12_62 fp_X12_5 (by decide +kernel) dX12_time_28 (fun H locs w => ?_)
    refine lv_aload_n hx hb dX12_time_31 rfl (lv_at hl 0 rfl) ?_
    refine gI C0 w fk_X12_62 (by decide +kernel) dX12_time_32 ?_
    refine lv_if_eq (tgt := 42) hx hb dX12_time_35 (by decide) (fun c19 => ?_) (fun c19 => ?_)
    · rw [if_pos c19] at hf
      refine lv_iload_n hx hb dX12_time_42 rfl (lv_at hl 2 rfl) ?_
      refine lv_if_ne (tgt := 54) hx hb dX12_time_43 (by decide) (fun c20 => ?_) (fun c20 => ?_)
      · rw [if_neg c20] at hf
        refine lv_aload_n hx hb dX12_time_54 rfl (lv_at hl 0 rfl) ?_
        refine lv_iload_n hx hb dX12_time_55 rfl (lv_at hl 1 rfl) ?_
        refine lv_iconst (v := 3) hx hb dX12_time_56 (by decide) ?_
        obtain ⟨q21, h22, hf⟩ := bdE hf
        refine cV (As := [.int x1, .int 3]) (rest := []) (k := 224) (ci := 10) (T := TX12) (N := 22) C0 w (m_X12_of l B _ (setI σ 224 5 1) x1 3 q21 h22) ky_X12_of kv_X12_of lk_X12_83 rfl (by decide +kernel) ⟨Nat.le_of_ble_eq_true rfl, Nat.le_of_ble_eq_true rfl⟩ ⟨Nat.le_of_ble_eq_true rfl, Nat.le_of_ble_eq_true rfl⟩ rfl (by rfl) (Nat.le_of_ble_eq_true rfl) hl.1 dX12_time_57 (fun H locs w => ?_)
        obtain rfl := Option.some.inj hf
        exact eL C0 hr w dX12_time_60
      · rw [if_pos c20] at hf
        refine lv_aload_n hx hb dX12_time_46 rfl (lv_at hl 0 rfl) ?_
        refine lv_iload_n hx hb dX12_time_47 rfl (lv_at hl 1 rfl) ?_
        obtain ⟨q23, h24, hf⟩ := bdE hf
        refine cV (As := [.int x1]) (rest := []) (k := 224) (ci := 10) (T := TX12) (N := 22) C0 w (m_X12_timeOf l B _ (setI σ 224 5 1) x1 q23 h24) ky_X12_timeOf kv_X12_timeOf lk_X12_121 rfl (by decide +kernel) ⟨Nat.le_of_ble_eq_true rfl, Nat.le_of_ble_eq_true rfl⟩ ⟨Nat.le_of_ble_eq_true rfl, Nat.le_of_ble_eq_true rfl⟩ rfl (by rfl) (Nat.le_of_ble_eq_true rfl) hl.1 dX12_time_48 (fun H locs w => ?_)
        refine lv_goto (tgt := 60) hx hb dX12_time_51 (by decide) ?_
        obtain rfl := Option.some.inj hf
        exact eL C0 hr w dX12_time_60
    · rw [if_neg c19] at hf
      refine lv_lconst (v := 0) hx hb dX12_time_38 (by decide) ?_
      refine lv_goto (tgt := 60) hx hb dX12_time_39 (by decide) ?_
      obtain rfl := Option.some.inj hf
      exact eL C0 hr w dX12_time_60
def f_X12_residual (x1 : Int32) (σ : Mem) : Option (Int64 × Mem) :=
  bd (f_X12_isRay x1 σ) (fun q1 =>
  if q1 = 0 then (
    if ((setI σ 224 5 1).1 224 5) = 0 then (
      bd (f_X12_residualOf x1 (setI σ 224 5 1)) (fun q14 =>
      some ((q14.1, q14.2))))
    else (
      some ((0, setI σ 224 5 1))))
  else (
    bd (f_X12_of x1 3 σ) (fun q4 =>
    if q4 = ((-1 : Int64)) then (
      if ((setI σ 224 5 2).1 224 5) = 0 then (
        bd (f_X12_residualOf x1 (setI σ 224 5 2)) (fun q11 =>
        some ((q11.1, q11.2))))
      else (
        some ((0, setI σ 224 5 2))))
    else (
      if ((setI σ 224 5 0).1 224 5) = 0 then (
        bd (f_X12_residualOf x1 (setI σ 224 5 0)) (fun q8 =>
        some ((q8.1, q8.2))))
      else (
        some ((0, setI σ 224 5 0)))))))
abbrev rm_X12_residual : Room := { frames := 6, cells := 0, slots := 0, locals := 142 }
set_option maxHeartbeats 4000000 in
set_option maxRecDepth 100000 in
theorem m_X12_residual (l : Launch) (B : Wb) (sz : Nat) (σ : Mem) (x1 : Int32) (q : Int64 × Mem) (hf : f_X12_residual x1 σ = some q) : MetC l yX12_residual cX12_residual 2 (some .long) rm_X12_residual B sz σ q.2 [.ref (wA B 224), .int x1] (some (.long q.1)) := by
  refine met_in (by decide +kernel) (Nat.le_of_ble_eq_true rfl) ?_
  intro p e s m below meth c C0 hr w hsz ls hl
  have hx := C0.1.1
  have hb := C0.1.2.1
  unfold f_X12_residual at hf
  refine lv_aload_n hx hb dX12_residual_0 rfl (lv_at hl 0 rfl) ?_
  refine lv_aload_n hx hb dX12_residual_1 rfl (lv_at hl 0 rfl) ?_
  refine lv_iload_n hx hb dX12_residual_2 rfl (lv_at hl 1 rfl) ?_
  obtain ⟨q1, h2, hf⟩ := bdE hf
  refine cV (As := [.int x1]) (rest := [.ref (wA B 224)]) (k := 224) (ci := 10) (T := TX12) (N := 22) C0 w (m_X12_isRay l B _ σ x1 q1 h2) ky_X12_isRay kv_X12_isRay lk_X12_171 rfl (by decide +kernel) ⟨Nat.le_of_ble_eq_true rfl, Nat.le_of_ble_eq_true rfl⟩ ⟨Nat.le_of_ble_eq_true rfl, Nat.le_of_ble_eq_true rfl⟩ rfl (by rfl) (Nat.le_of_ble_eq_true rfl) hl.1 dX12_residual_3 (fun H locs w => ?_)
  refine lv_if_ne (tgt := 13) hx hb dX12_residual_6 (by decide) (fun c3 => ?_) (fun c3 => ?_)
  · rw [if_neg c3] at hf
    refine lv_aload_n hx hb dX12_residual_13 rfl (lv_at hl 0 rfl) ?_
    refine lv_iload_n hx hb dX12_residual_14 rfl (lv_at hl 1 rfl) ?_
    refine lv_iconst (v := 3) hx hb dX12_residual_15 (by decide) ?_
    obtain ⟨q4, h5, hf⟩ := bdE hf
    refine cV (As := [.int x1, .int 3]) (rest := [.ref (wA B 224)]) (k := 224) (ci := 10) (T := TX12) (N := 22) C0 w (m_X12_of l B _ σ x1 3 q4 h5) ky_X12_of kv_X12_of lk_X12_83 rfl (by decide +kernel) ⟨Nat.le_of_ble_eq_true rfl, Nat.le_of_ble_eq_true rfl⟩ ⟨Nat.le_of_ble_eq_true rfl, Nat.le_of_ble_eq_true rfl⟩ rfl (by rfl) (Nat.le_of_ble_eq_true rfl) hl.1 dX12_residual_16 (fun H locs w => ?_)
    refine kLg C0 (-1) kc_X12_87 dX12_residual_19 ?_
    refine lc_ne (tgt := 30) C0 dX12_residual_22 dX12_residual_23 (by decide) (fun c6 => ?_) (fun c6 => ?_)
    · rw [if_neg c6] at hf
      refine lv_iconst (v := 0) hx hb dX12_residual_30 (by decide) ?_
      refine pI C0 w fk_X12_62 fp_X12_5 (by decide +kernel) dX12_residual_31 (fun H locs w => ?_)
      refine lv_aload_n hx hb dX12_residual_34 rfl (lv_at hl 0 rfl) ?_
      refine gI C0 w fk_X12_62 (by decide +kernel) dX12_residual_35 ?_
      refine lv_if_eq (tgt := 45) hx hb dX12_residual_38 (by decide) (fun c7 => ?_) (fun c7 => ?_)
      · rw [if_pos c7] at hf
        refine lv_aload_n hx hb dX12_residual_45 rfl (lv_at hl 0 rfl) ?_
        refine lv_iload_n hx hb dX12_residual_46 rfl (lv_at hl 1 rfl) ?_
        obtain ⟨q8, h9, hf⟩ := bdE hf
        refine cV (As := [.int x1]) (rest := []) (k := 224) (ci := 10) (T := TX12) (N := 22) C0 w (m_X12_residualOf l B _ (setI σ 224 5 0) x1 q8 h9) ky_X12_residualOf kv_X12_residualOf lk_X12_211 rfl (by decide +kernel) ⟨Nat.le_of_ble_eq_true rfl, Nat.le_of_ble_eq_true rfl⟩ ⟨Nat.le_of_ble_eq_true rfl, Nat.le_of_ble_eq_true rfl⟩ rfl (by rfl) (Nat.le_of_ble_eq_true rfl) hl.1 dX12_residual_47 (fun H locs w => ?_)
        obtain rfl := Option.some.inj hf
        exact eL C0 hr w dX12_residual_50
      · rw [if_neg c7] at hf
        refine lv_lconst (v := 0) hx hb dX12_residual_41 (by decide) ?_
        refine lv_goto (tgt := 50) hx hb dX12_residual_42 (by decide) ?_
        obtain rfl := Option.some.inj hf
        exact eL C0 hr w dX12_residual_50
    · rw [if_pos c6] at hf
      refine lv_iconst (v := 2) hx hb dX12_residual_26 (by decide) ?_
      refine lv_goto (tgt := 31) hx hb dX12_residual_27 (by decide) ?_
      refine pI C0 w fk_X12_62 fp_X12_5 (by decide +kernel) dX12_residual_31 (fun H locs w => ?_)
      refine lv_aload_n hx hb dX12_residual_34 rfl (lv_at hl 0 rfl) ?_
      refine gI C0 w fk_X12_62 (by decide +kernel) dX12_residual_35 ?_
      refine lv_if_eq (tgt := 45) hx hb dX12_residual_38 (by decide) (fun c10 => ?_) (fun c10 => ?_)
      · rw [if_pos c10] at hf
        refine lv_aload_n hx hb dX12_residual_45 rfl (lv_at hl 0 rfl) ?_
        refine lv_iload_n hx hb dX12_residual_46 rfl (lv_at hl 1 rfl) ?_
        obtain ⟨q11, h12, hf⟩ := bdE hf
        refine cV (As := [.int x1]) (rest := []) (k := 224) (ci := 10) (T := TX12) (N := 22) C0 w (m_X12_residualOf l B _ (setI σ 224 5 2) x1 q11 h12) ky_X12_residualOf kv_X12_residualOf lk_X12_211 rfl (by decide +kernel) ⟨Nat.le_of_ble_eq_true rfl, Nat.le_of_ble_eq_true rfl⟩ ⟨Nat.le_of_ble_eq_true rfl, Nat.le_of_ble_eq_true rfl⟩ rfl (by rfl) (Nat.le_of_ble_eq_true rfl) hl.1 dX12_residual_47 (fun H locs w => ?_)
        obtain rfl := Option.some.inj hf
        exact eL C0 hr w dX12_residual_50
      · rw [if_neg c10] at hf
        refine lv_lconst (v := 0) hx hb dX12_residual_41 (by decide) ?_
        refine lv_goto (tgt := 50) hx hb dX12_residual_42 (by decide) ?_
        obtain rfl := Option.some.inj hf
        exact eL C0 hr w dX12_residual_50
  · rw [if_pos c3] at hf
    refine lv_iconst (v := 1) hx hb dX12_residual_9 (by decide) ?_
    refine lv_goto (tgt := 31) hx hb dX12_residual_10 (by decide) ?_
    refine pI C0 w fk_X12_62 fp_X12_5 (by decide +kernel) dX12_residual_31 (fun H locs w => ?_)
    refine lv_aload_n hx hb dX12_residual_34 rfl (lv_at hl 0 rfl) ?_
    refine gI C0 w fk_X12_62 (by decide +kernel) dX12_residual_35 ?_
    refine lv_if_eq (tgt := 45) hx hb dX12_residual_38 (by decide) (fun c13 => ?_) (fun c13 => ?_)
    · rw [if_pos c13] at hf
      refine lv_aload_n hx hb dX12_residual_45 rfl (lv_at hl 0 rfl) ?_
      refine lv_iload_n hx hb dX12_residual_46 rfl (lv_at hl 1 rfl) ?_
      obtain ⟨q14, h15, hf⟩ := bdE hf
      refine cV (As := [.int x1]) (rest := []) (k := 224) (ci := 10) (T := TX12) (N := 22) C0 w (m_X12_residualOf l B _ (setI σ 224 5 1) x1 q14 h15) ky_X12_residualOf kv_X12_residualOf lk_X12_211 rfl (by decide +kernel) ⟨Nat.le_of_ble_eq_true rfl, Nat.le_of_ble_eq_true rfl⟩ ⟨Nat.le_of_ble_eq_true rfl, Nat.le_of_ble_eq_true rfl⟩ rfl (by rfl) (Nat.le_of_ble_eq_true rfl) hl.1 dX12_residual_47 (fun H locs w => ?_)
      obtain rfl := Option.some.inj hf
      exact eL C0 hr w dX12_residual_50
    · rw [if_neg c13] at hf
      refine lv_lconst (v := 0) hx hb dX12_residual_41 (by decide) ?_
      refine lv_goto (tgt := 50) hx hb dX12_residual_42 (by decide) ?_
      obtain rfl := Option.some.inj hf
      exact eL C0 hr w dX12_residual_50
def f_X12_wayCell (x1 : Int32) (x2 : Int32) (σ : Mem) : Option (Int32 × Mem) :=
  bd (f_X12_isRay x1 σ) (fun q1 =>
  if q1 = 0 then (
    if ((setI σ 224 5 1).1 224 5) = 0 then (
      bd (f_X12_findWay x1 (setI σ 224 5 1)) (fun q16 =>
      if (q16.1 224 9) ≤ x2 then (
        some (((-1 : Int32), q16)))
      else (
        gd (inb (((q16.1 224 9) - 1) - x2) 64) (
        some ((q16.1 230 (((q16.1 224 9) - 1) - x2).toNatClampNeg, q16))))))
    else (
      some ((0, setI σ 224 5 1))))
  else (
    if 0 ≤ x2 then (
      if ((setI σ 224 5 0).1 224 5) = 0 then (
        bd (f_X12_findWay x1 (setI σ 224 5 0)) (fun q6 =>
        if (q6.1 224 9) ≤ x2 then (
          some (((-1 : Int32), q6)))
        else (
          gd (inb (((q6.1 224 9) - 1) - x2) 64) (
          some ((q6.1 230 (((q6.1 224 9) - 1) - x2).toNatClampNeg, q6))))))
      else (
        some ((0, setI σ 224 5 0))))
    else (
      if ((setI σ 224 5 2).1 224 5) = 0 then (
        bd (f_X12_findWay x1 (setI σ 224 5 2)) (fun q11 =>
        if (q11.1 224 9) ≤ x2 then (
          some (((-1 : Int32), q11)))
        else (
          gd (inb (((q11.1 224 9) - 1) - x2) 64) (
          some ((q11.1 230 (((q11.1 224 9) - 1) - x2).toNatClampNeg, q11))))))
      else (
        some ((0, setI σ 224 5 2))))))
abbrev rm_X12_wayCell : Room := { frames := 5, cells := 0, slots := 0, locals := 123 }
set_option maxHeartbeats 4000000 in
set_option maxRecDepth 100000 in
theorem m_X12_wayCell (l : Launch) (B : Wb) (sz : Nat) (σ : Mem) (x1 : Int32) (x2 : Int32) (q : Int32 × Mem) (hf : f_X12_wayCell x1 x2 σ = some q) : MetC l yX12_wayCell cX12_wayCell 3 (some .int) rm_X12_wayCell B sz σ q.2 [.ref (wA B 224), .int x1, .int x2] (some (.int q.1)) := by
  refine met_in (by decide +kernel) (Nat.le_of_ble_eq_true rfl) ?_
  intro p e s m below meth c C0 hr w hsz ls hl
  have hx := C0.1.1
  have hb := C0.1.2.1
  unfold f_X12_wayCell at hf
  refine lv_aload_n hx hb dX12_wayCell_0 rfl (lv_at hl 0 rfl) ?_
  refine lv_aload_n hx hb dX12_wayCell_1 rfl (lv_at hl 0 rfl) ?_
  refine lv_iload_n hx hb dX12_wayCell_2 rfl (lv_at hl 1 rfl) ?_
  obtain ⟨q1, h2, hf⟩ := bdE hf
  refine cV (As := [.int x1]) (rest := [.ref (wA B 224)]) (k := 224) (ci := 10) (T := TX12) (N := 22) C0 w (m_X12_isRay l B _ σ x1 q1 h2) ky_X12_isRay kv_X12_isRay lk_X12_171 rfl (by decide +kernel) ⟨Nat.le_of_ble_eq_true rfl, Nat.le_of_ble_eq_true rfl⟩ ⟨Nat.le_of_ble_eq_true rfl, Nat.le_of_ble_eq_true rfl⟩ rfl (by rfl) (Nat.le_of_ble_eq_true rfl) hl.1 dX12_wayCell_3 (fun H locs w => ?_)
  refine lv_if_ne (tgt := 13) hx hb dX12_wayCell_6 (by decide) (fun c3 => ?_) (fun c3 => ?_)
  · rw [if_neg c3] at hf
    refine lv_iload_n hx hb dX12_wayCell_13 rfl (lv_at hl 2 rfl) ?_
    refine lv_if_ge (tgt := 21) hx hb dX12_wayCell_14 (by decide) (fun c4 => ?_) (fun c4 => ?_)
    · rw [if_pos c4] at hf
      refine lv_iconst (v := 0) hx hb dX12_wayCell_21 (by decide) ?_
      refine pI C0 w fk_X12_62 fp_X12_5 (by decide +kernel) dX12_wayCell_22 (fun H locs w => ?_)
      refine lv_aload_n hx hb dX12_wayCell_25 rfl (lv_at hl 0 rfl) ?_
      refine gI C0 w fk_X12_62 (by decide +kernel) dX12_wayCell_26 ?_
      refine lv_if_eq (tgt := 34) hx hb dX12_wayCell_29 (by decide) (fun c5 => ?_) (fun c5 => ?_)
      · rw [if_pos c5] at hf
        refine lv_aload_n hx hb dX12_wayCell_34 rfl (lv_at hl 0 rfl) ?_
        refine lv_iload_n hx hb dX12_wayCell_35 rfl (lv_at hl 1 rfl) ?_
        obtain ⟨q6, h7, hf⟩ := bdE hf
        refine cV (As := [.int x1]) (rest := []) (k := 224) (ci := 10) (T := TX12) (N := 22) C0 w (m_X12_findWay l B _ (setI σ 224 5 0) x1 q6 h7) ky_X12_findWay kv_X12_findWay lk_X12_125 rfl (by decide +kernel) ⟨Nat.le_of_ble_eq_true rfl, Nat.le_of_ble_eq_true rfl⟩ ⟨Nat.le_of_ble_eq_true rfl, Nat.le_of_ble_eq_true rfl⟩ rfl (by rfl) (Nat.le_of_ble_eq_true rfl) hl.1 dX12_wayCell_36 (fun H locs w => ?_)
        refine lv_iload_n hx hb dX12_wayCell_39 rfl (lv_at hl 2 rfl) ?_
        refine lv_aload_n hx hb dX12_wayCell_40 rfl (lv_at hl 0 rfl) ?_
        refine gI C0 w fk_X12_118 (by decide +kernel) dX12_wayCell_41 ?_
        refine lv_icmp_ge (tgt := 63) hx hb dX12_wayCell_44 (by decide) (fun c8 => ?_) (fun c8 => ?_)
        · rw [if_pos c8] at hf
          refine lv_iconst (v := (-1)) hx hb dX12_wayCell_63 (by decide) ?_
          obtain rfl := Option.some.inj hf
          exact eI C0 hr w rfl dX12_wayCell_64
        · rw [if_neg c8] at hf
          refine lv_aload_n hx hb dX12_wayCell_47 rfl (lv_at hl 0 rfl) ?_
          refine gR C0 w 230 fk_X12_27 (by decide +kernel) dX12_wayCell_48 ?_
          refine lv_aload_n hx hb dX12_wayCell_51 rfl (lv_at hl 0 rfl) ?_
          refine gI C0 w fk_X12_118 (by decide +kernel) dX12_wayCell_52 ?_
          refine lv_iconst (v := 1) hx hb dX12_wayCell_55 (by decide) ?_
          refine lv_isub hx hb dX12_wayCell_56 ?_
          refine lv_iload_n hx hb dX12_wayCell_57 rfl (lv_at hl 2 rfl) ?_
          refine lv_isub hx hb dX12_wayCell_58 ?_
          obtain ⟨g9, hf⟩ := gdE hf
          refine aI C0 w (n := 64) (by decide +kernel) (inbE g9) dX12_wayCell_59 ?_
          refine lv_goto (tgt := 64) hx hb dX12_wayCell_60 (by decide) ?_
          obtain rfl := Option.some.inj hf
          exact eI C0 hr w rfl dX12_wayCell_64
      · rw [if_neg c5] at hf
        refine lv_iconst (v := 0) hx hb dX12_wayCell_32 (by decide) ?_
        obtain rfl := Option.some.inj hf
        exact eI C0 hr w rfl dX12_wayCell_33
    · rw [if_neg c4] at hf
      refine lv_iconst (v := 2) hx hb dX12_wayCell_17 (by decide) ?_
      refine lv_goto (tgt := 22) hx hb dX12_wayCell_18 (by decide) ?_
      refine pI C0 w fk_X12_62 fp_X12_5 (by decide +kernel) dX12_wayCell_22 (fun H locs w => ?_)
      refine lv_aload_n hx hb dX12_wayCell_25 rfl (lv_at hl 0 rfl) ?_
      refine gI C0 w fk_X12_62 (by decide +kernel) dX12_wayCell_26 ?_
      refine lv_if_eq (tgt := 34) hx hb dX12_wayCell_29 (by decide) (fun c10 => ?_) (fun c10 => ?_)
      · rw [if_pos c10] at hf
        refine lv_aload_n hx hb dX12_wayCell_34 rfl (lv_at hl 0 rfl) ?_
        refine lv_iload_n hx hb dX12_wayCell_35 rfl (lv_at hl 1 rfl) ?_
        obtain ⟨q11, h12, hf⟩ := bdE hf
        refine cV (As := [.int x1]) (rest := []) (k := 224) (ci := 10) (T := TX12) (N := 22) C0 w (m_X12_findWay l B _ (setI σ 224 5 2) x1 q11 h12) ky_X12_findWay kv_X12_findWay lk_X12_125 rfl (by decide +kernel) ⟨Nat.le_of_ble_eq_true rfl, Nat.le_of_ble_eq_true rfl⟩ ⟨Nat.le_of_ble_eq_true rfl, Nat.le_of_ble_eq_true rfl⟩ rfl (by rfl) (Nat.le_of_ble_eq_true rfl) hl.1 dX12_wayCell_36 (fun H locs w => ?_)
        refine lv_iload_n hx hb dX12_wayCell_39 rfl (lv_at hl 2 rfl) ?_
        refine lv_aload_n hx hb dX12_wayCell_40 rfl (lv_at hl 0 rfl) ?_
        refine gI C0 w fk_X12_118 (by decide +kernel) dX12_wayCell_41 ?_
        refine lv_icmp_ge (tgt := 63) hx hb dX12_wayCell_44 (by decide) (fun c13 => ?_) (fun c13 => ?_)
        · rw [if_pos c13] at hf
          refine lv_iconst (v := (-1)) hx hb dX12_wayCell_63 (by decide) ?_
          obtain rfl := Option.some.inj hf
          exact eI C0 hr w rfl dX12_wayCell_64
        · rw [if_neg c13] at hf
          refine lv_aload_n hx hb dX12_wayCell_47 rfl (lv_at hl 0 rfl) ?_
          refine gR C0 w 230 fk_X12_27 (by decide +kernel) dX12_wayCell_48 ?_
          refine lv_aload_n hx hb dX12_wayCell_51 rfl (lv_at hl 0 rfl) ?_
          refine gI C0 w fk_X12_118 (by decide +kernel) dX12_wayCell_52 ?_
          refine lv_iconst (v := 1) hx hb dX12_wayCell_55 (by decide) ?_
          refine lv_isub hx hb dX12_wayCell_56 ?_
          refine lv_iload_n hx hb dX12_wayCell_57 rfl (lv_at hl 2 rfl) ?_
          refine lv_isub hx hb dX12_wayCell_58 ?_
          obtain ⟨g14, hf⟩ := gdE hf
          refine aI C0 w (n := 64) (by decide +kernel) (inbE g14) dX12_wayCell_59 ?_
          refine lv_goto (tgt := 64) hx hb dX12_wayCell_60 (by decide) ?_
          obtain rfl := Option.some.inj hf
          exact eI C0 hr w rfl dX12_wayCell_64
      · rw [if_neg c10] at hf
        refine lv_iconst (v := 0) hx hb dX12_wayCell_32 (by decide) ?_
        obtain rfl := Option.some.inj hf
        exact eI C0 hr w rfl dX12_wayCell_33
  · rw [if_pos c3] at hf
    refine lv_iconst (v := 1) hx hb dX12_wayCell_9 (by decide) ?_
    refine lv_goto (tgt := 22) hx hb dX12_wayCell_10 (by decide) ?_
    refine pI C0 w fk_X12_62 fp_X12_5 (by decide +kernel) dX12_wayCell_22 (fun H locs w => ?_)
    refine lv_aload_n hx hb dX12_wayCell_25 rfl (lv_at hl 0 rfl) ?_
    refine gI C0 w fk_X12_62 (by decide +kernel) dX12_wayCell_26 ?_
    refine lv_if_eq (tgt := 34) hx hb dX12_wayCell_29 (by decide) (fun c15 => ?_) (fun c15 => ?_)
    · rw [if_pos c15] at hf
      refine lv_aload_n hx hb dX12_wayCell_34 rfl (lv_at hl 0 rfl) ?_
      refine lv_iload_n hx hb dX12_wayCell_35 rfl (lv_at hl 1 rfl) ?_
      obtain ⟨q16, h17, hf⟩ := bdE hf
      refine cV (As := [.int x1]) (rest := []) (k := 224) (ci := 10) (T := TX12) (N := 22) C0 w (m_X12_findWay l B _ (setI σ 224 5 1) x1 q16 h17) ky_X12_findWay kv_X12_findWay lk_X12_125 rfl (by decide +kernel) ⟨Nat.le_of_ble_eq_true rfl, Nat.le_of_ble_eq_true rfl⟩ ⟨Nat.le_of_ble_eq_true rfl, Nat.le_of_ble_eq_true rfl⟩ rfl (by rfl) (Nat.le_of_ble_eq_true rfl) hl.1 dX12_wayCell_36 (fun H locs w => ?_)
      refine lv_iload_n hx hb dX12_wayCell_39 rfl (lv_at hl 2 rfl) ?_
      refine lv_aload_n hx hb dX12_wayCell_40 rfl (lv_at hl 0 rfl) ?_
      refine gI C0 w fk_X12_118 (by decide +kernel) dX12_wayCell_41 ?_
      refine lv_icmp_ge (tgt := 63) hx hb dX12_wayCell_44 (by decide) (fun c18 => ?_) (fun c18 => ?_)
      · rw [if_pos c18] at hf
        refine lv_iconst (v := (-1)) hx hb dX12_wayCell_63 (by decide) ?_
        obtain rfl := Option.some.inj hf
        exact eI C0 hr w rfl dX12_wayCell_64
      · rw [if_neg c18] at hf
        refine lv_aload_n hx hb dX12_wayCell_47 rfl (lv_at hl 0 rfl) ?_
        refine gR C0 w 230 fk_X12_27 (by decide +kernel) dX12_wayCell_48 ?_
        refine lv_aload_n hx hb dX12_wayCell_51 rfl (lv_at hl 0 rfl) ?_
        refine gI C0 w fk_X12_118 (by decide +kernel) dX12_wayCell_52 ?_
        refine lv_iconst (v := 1) hx hb dX12_wayCell_55 (by decide) ?_
        refine lv_isub hx hb dX12_wayCell_56 ?_
        refine lv_iload_n hx hb dX12_wayCell_57 rfl (lv_at hl 2 rfl) ?_
        refine lv_isub hx hb dX12_wayCell_58 ?_
        obtain ⟨g19, hf⟩ := gdE hf
        refine aI C0 w (n := 64) (by decide +kernel) (inbE g19) dX12_wayCell_59 ?_
        refine lv_goto (tgt := 64) hx hb dX12_wayCell_60 (by decide) ?_
        obtain rfl := Option.some.inj hf
        exact eI C0 hr w rfl dX12_wayCell_64
    · rw [if_neg c15] at hf
      refine lv_iconst (v := 0) hx hb dX12_wayCell_32 (by decide) ?_
      obtain rfl := Option.some.inj hf
      exact eI C0 hr w rfl dX12_wayCell_33
def f_X12_length (x1 : Int32) (x2 : Int32) (σ : Mem) : Option (Int32 × Mem) :=
  bd (f_X12_isRay x1 σ) (fun q1 =>
  if q1 = 0 then (
    if ((setI σ 224 5 1).1 224 5) = 0 then (
      bd (f_X12_findWay x1 (setI σ 224 5 1)) (fun q5 =>
      gd (inb x2 64) (
      some ((q5.1 231 x2.toNatClampNeg, q5)))))
    else (
      some ((0, setI σ 224 5 1))))
  else (
    bd (f_X12_isCell x2 σ) (fun q8 =>
    if q8 = 0 then (
      if ((setI σ 224 5 1).1 224 5) = 0 then (
        bd (f_X12_findWay x1 (setI σ 224 5 1)) (fun q12 =>
        gd (inb x2 64) (
        some ((q12.1 231 x2.toNatClampNeg, q12)))))
      else (
        some ((0, setI σ 224 5 1))))
    else (
      if ((setI σ 224 5 0).1 224 5) = 0 then (
        bd (f_X12_findWay x1 (setI σ 224 5 0)) (fun q16 =>
        gd (inb x2 64) (
        some ((q16.1 231 x2.toNatClampNeg, q16)))))
      else (
        some ((0, setI σ 224 5 0)))))))
abbrev rm_X12_length : Room := { frames := 5, cells := 0, slots := 0, locals := 123 }
set_option maxHeartbeats 4000000 in
set_option maxRecDepth 100000 in
theorem m_X12_length (l : Launch) (B : Wb) (sz : Nat) (σ : Mem) (x1 : Int32) (x2 : Int32) (q : Int32 × Mem) (hf : f_X12_length x1 x2 σ = some q) : MetC l yX12_length cX12_length 3 (some .int) rm_X12_length B sz σ q.2 [.ref (wA B 224), .int x1, .int x2] (some (.int q.1)) := by
  refine met_in (by decide +kernel) (Nat.le_of_ble_eq_true rfl) ?_
  intro p e s m below meth c C0 hr w hsz ls hl
  have hx := C0.1.1
  have hb := C0.1.2.1
  unfold f_X12_length at hf
  refine lv_aload_n hx hb dX12_length_0 rfl (lv_at hl 0 rfl) ?_
  refine lv_aload_n hx hb dX12_length_1 rfl (lv_at hl 0 rfl) ?_
  refine lv_iload_n hx hb dX12_length_2 rfl (lv_at hl 1 rfl) ?_
  obtain ⟨q1, h2, hf⟩ := bdE hf
  refine cV (As := [.int x1]) (rest := [.ref (wA B 224)]) (k := 224) (ci := 10) (T := TX12) (N := 22) C0 w (m_X12_isRay l B _ σ x1 q1 h2) ky_X12_isRay kv_X12_isRay lk_X12_171 rfl (by decide +kernel) ⟨Nat.le_of_ble_eq_true rfl, Nat.le_of_ble_eq_true rfl⟩ ⟨Nat.le_of_ble_eq_true rfl, Nat.le_of_ble_eq_true rfl⟩ rfl (by rfl) (Nat.le_of_ble_eq_true rfl) hl.1 dX12_length_3 (fun H locs w => ?_)
  refine lv_if_eq (tgt := 21) hx hb dX12_length_6 (by decide) (fun c3 => ?_) (fun c3 => ?_)
  · rw [if_pos c3] at hf
    refine lv_iconst (v := 1) hx hb dX12_length_21 (by decide) ?_
    refine pI C0 w fk_X12_62 fp_X12_5 (by decide +kernel) dX12_length_22 (fun H locs w => ?_)
    refine lv_aload_n hx hb dX12_length_25 rfl (lv_at hl 0 rfl) ?_
    refine gI C0 w fk_X12_62 (by decide +kernel) dX12_length_26 ?_
    refine lv_if_eq (tgt := 34) hx hb dX12_length_29 (by decide) (fun c4 => ?_) (fun c4 => ?_)
    · rw [if_pos c4] at hf
      refine lv_aload_n hx hb dX12_length_34 rfl (lv_at hl 0 rfl) ?_
      refine lv_iload_n hx hb dX12_length_35 rfl (lv_at hl 1 rfl) ?_
      obtain ⟨q5, h6, hf⟩ := bdE hf
      refine cV (As := [.int x1]) (rest := []) (k := 224) (ci := 10) (T := TX12) (N := 22) C0 w (m_X12_findWay l B _ (setI σ 224 5 1) x1 q5 h6) ky_X12_findWay kv_X12_findWay lk_X12_125 rfl (by decide +kernel) ⟨Nat.le_of_ble_eq_true rfl, Nat.le_of_ble_eq_true rfl⟩ ⟨Nat.le_of_ble_eq_true rfl, Nat.le_of_ble_eq_true rfl⟩ rfl (by rfl) (Nat.le_of_ble_eq_true rfl) hl.1 dX12_length_36 (fun H locs w => ?_)
      refine lv_aload_n hx hb dX12_length_39 rfl (lv_at hl 0 rfl) ?_
      refine gR C0 w 231 fk_X12_30 (by decide +kernel) dX12_length_40 ?_
      refine lv_iload_n hx hb dX12_length_43 rfl (lv_at hl 2 rfl) ?_
      obtain ⟨g7, hf⟩ := gdE hf
      refine aI C0 w (n := 64) (by decide +kernel) (inbE g7) dX12_length_44 ?_
      obtain rfl := Option.some.inj hf
      exact eI C0 hr w rfl dX12_length_45
    · rw [if_neg c4] at hf
      refine lv_iconst (v := 0) hx hb dX12_length_32 (by decide) ?_
      obtain rfl := Option.some.inj hf
      exact eI C0 hr w rfl dX12_length_33
  · rw [if_neg c3] at hf
    refine lv_aload_n hx hb dX12_length_9 rfl (lv_at hl 0 rfl) ?_
    refine lv_iload_n hx hb dX12_length_10 rfl (lv_at hl 2 rfl) ?_
    obtain ⟨q8, h9, hf⟩ := bdE hf
    refine cV (As := [.int x2]) (rest := [.ref (wA B 224)]) (k := 224) (ci := 10) (T := TX12) (N := 22) C0 w (m_X12_isCell l B _ σ x2 q8 h9) ky_X12_isCell kv_X12_isCell lk_X12_134 rfl (by decide +kernel) ⟨Nat.le_of_ble_eq_true rfl, Nat.le_of_ble_eq_true rfl⟩ ⟨Nat.le_of_ble_eq_true rfl, Nat.le_of_ble_eq_true rfl⟩ rfl (by rfl) (Nat.le_of_ble_eq_true rfl) hl.1 dX12_length_11 (fun H locs w => ?_)
    refine lv_if_eq (tgt := 21) hx hb dX12_length_14 (by decide) (fun c10 => ?_) (fun c10 => ?_)
    · rw [if_pos c10] at hf
      refine lv_iconst (v := 1) hx hb dX12_length_21 (by decide) ?_
      refine pI C0 w fk_X12_62 fp_X12_5 (by decide +kernel) dX12_length_22 (fun H locs w => ?_)
      refine lv_aload_n hx hb dX12_length_25 rfl (lv_at hl 0 rfl) ?_
      refine gI C0 w fk_X12_62 (by decide +kernel) dX12_length_26 ?_
      refine lv_if_eq (tgt := 34) hx hb dX12_length_29 (by decide) (fun c11 => ?_) (fun c11 => ?_)
      · rw [if_pos c11] at hf
        refine lv_aload_n hx hb dX12_length_34 rfl (lv_at hl 0 rfl) ?_
        refine lv_iload_n hx hb dX12_length_35 rfl (lv_at hl 1 rfl) ?_
        obtain ⟨q12, h13, hf⟩ := bdE hf
        refine cV (As := [.int x1]) (rest := []) (k := 224) (ci := 10) (T := TX12) (N := 22) C0 w (m_X12_findWay l B _ (setI σ 224 5 1) x1 q12 h13) ky_X12_findWay kv_X12_findWay lk_X12_125 rfl (by decide +kernel) ⟨Nat.le_of_ble_eq_true rfl, Nat.le_of_ble_eq_true rfl⟩ ⟨Nat.le_of_ble_eq_true rfl, Nat.le_of_ble_eq_true rfl⟩ rfl (by rfl) (Nat.le_of_ble_eq_true rfl) hl.1 dX12_length_36 (fun H locs w => ?_)
        refine lv_aload_n hx hb dX12_length_39 rfl (lv_at hl 0 rfl) ?_
        refine gR C0 w 231 fk_X12_30 (by decide +kernel) dX12_length_40 ?_
        refine lv_iload_n hx hb dX12_length_43 rfl (lv_at hl 2 rfl) ?_
        obtain ⟨g14, hf⟩ := gdE hf
        refine aI C0 w (n := 64) (by decide +kernel) (inbE g14) dX12_length_44 ?_
        obtain rfl := Option.some.inj hf
        exact eI C0 hr w rfl dX12_length_45
      · rw [if_neg c11] at hf
        refine lv_iconst (v := 0) hx hb dX12_length_32 (by decide) ?_
        obtain rfl := Option.some.inj hf
        exact eI C0 hr w rfl dX12_length_33
    · rw [if_neg c10] at hf
      refine lv_iconst (v := 0) hx hb dX12_length_17 (by decide) ?_
      refine lv_goto (tgt := 22) hx hb dX12_length_18 (by decide) ?_
      refine pI C0 w fk_X12_62 fp_X12_5 (by decide +kernel) dX12_length_22 (fun H locs w => ?_)
      refine lv_aload_n hx hb dX12_length_25 rfl (lv_at hl 0 rfl) ?_
      refine gI C0 w fk_X12_62 (by decide +kernel) dX12_length_26 ?_
      refine lv_if_eq (tgt := 34) hx hb dX12_length_29 (by decide) (fun c15 => ?_) (fun c15 => ?_)
      · rw [if_pos c15] at hf
        refine lv_aload_n hx hb dX12_length_34 rfl (lv_at hl 0 rfl) ?_
        refine lv_iload_n hx hb dX12_length_35 rfl (lv_at hl 1 rfl) ?_
        obtain ⟨q16, h17, hf⟩ := bdE hf
        refine cV (As := [.int x1]) (rest := []) (k := 224) (ci := 10) (T := TX12) (N := 22) C0 w (m_X12_findWay l B _ (setI σ 224 5 0) x1 q16 h17) ky_X12_findWay kv_X12_findWay lk_X12_125 rfl (by decide +kernel) ⟨Nat.le_of_ble_eq_true rfl, Nat.le_of_ble_eq_true rfl⟩ ⟨Nat.le_of_ble_eq_true rfl, Nat.le_of_ble_eq_true rfl⟩ rfl (by rfl) (Nat.le_of_ble_eq_true rfl) hl.1 dX12_length_36 (fun H locs w => ?_)
        refine lv_aload_n hx hb dX12_length_39 rfl (lv_at hl 0 rfl) ?_
        refine gR C0 w 231 fk_X12_30 (by decide +kernel) dX12_length_40 ?_
        refine lv_iload_n hx hb dX12_length_43 rfl (lv_at hl 2 rfl) ?_
        obtain ⟨g18, hf⟩ := gdE hf
        refine aI C0 w (n := 64) (by decide +kernel) (inbE g18) dX12_length_44 ?_
        obtain rfl := Option.some.inj hf
        exact eI C0 hr w rfl dX12_length_45
      · rw [if_neg c15] at hf
        refine lv_iconst (v := 0) hx hb dX12_length_32 (by decide) ?_
        obtain rfl := Option.some.inj hf
        exact eI C0 hr w rfl dX12_length_33
def f_X12_least (x1 : Int32) (x2 : Int32) (x3 : Int32) (σ : Mem) : Option (Int64 × Mem) :=
  bd (f_X12_isCell x1 σ) (fun q1 =>
  if q1 = 0 then (
    if ((setI σ 224 5 1).1 224 5) = 0 then (
      if x3 = 0 then (
        bd (f_X12_spread x1 8 (setI σ 224 5 1)) (fun q6 =>
        gd (inb x2 64) (
        some ((q6.2 228 x2.toNatClampNeg, q6)))))
      else (
        bd (f_X12_spread x1 72 (setI σ 224 5 1)) (fun q9 =>
        gd (inb x2 64) (
        some ((q9.2 228 x2.toNatClampNeg, q9))))))
    else (
      some ((0, setI σ 224 5 1))))
  else (
    bd (f_X12_isCell x2 σ) (fun q12 =>
    if q12 = 0 then (
      if ((setI σ 224 5 1).1 224 5) = 0 then (
        if x3 = 0 then (
          bd (f_X12_spread x1 8 (setI σ 224 5 1)) (fun q17 =>
          gd (inb x2 64) (
          some ((q17.2 228 x2.toNatClampNeg, q17)))))
        else (
          bd (f_X12_spread x1 72 (setI σ 224 5 1)) (fun q20 =>
          gd (inb x2 64) (
          some ((q20.2 228 x2.toNatClampNeg, q20))))))
      else (
        some ((0, setI σ 224 5 1))))
    else (
      if ((setI σ 224 5 0).1 224 5) = 0 then (
        if x3 = 0 then (
          bd (f_X12_spread x1 8 (setI σ 224 5 0)) (fun q25 =>
          gd (inb x2 64) (
          some ((q25.2 228 x2.toNatClampNeg, q25)))))
        else (
          bd (f_X12_spread x1 72 (setI σ 224 5 0)) (fun q28 =>
          gd (inb x2 64) (
          some ((q28.2 228 x2.toNatClampNeg, q28))))))
      else (
        some ((0, setI σ 224 5 0)))))))
abbrev rm_X12_least : Room := { frames := 4, cells := 0, slots := 0, locals := 100 }
set_option maxHeartbeats 4000000 in
set_option maxRecDepth 100000 in
theorem m_X12_least (l : Launch) (B : Wb) (sz : Nat) (σ : Mem) (x1 : Int32) (x2 : Int32) (x3 : Int32) (q : Int64 × Mem) (hf : f_X12_least x1 x2 x3 σ = some q) : MetC l yX12_least cX12_least 4 (some .long) rm_X12_least B sz σ q.2 [.ref (wA B 224), .int x1, .int x2, .int x3] (some (.long q.1)) := by
  refine met_in (by decide +kernel) (Nat.le_of_ble_eq_true rfl) ?_
  intro p e s m below meth c C0 hr w hsz ls hl
  have hx := C0.1.1
  have hb := C0.1.2.1
  unfold f_X12_least at hf
  refine lv_aload_n hx hb dX12_least_0 rfl (lv_at hl 0 rfl) ?_
  refine lv_aload_n hx hb dX12_least_1 rfl (lv_at hl 0 rfl) ?_
  refine lv_iload_n hx hb dX12_least_2 rfl (lv_at hl 1 rfl) ?_
  obtain ⟨q1, h2, hf⟩ := bdE hf
  refine cV (As := [.int x1]) (rest := [.ref (wA B 224)]) (k := 224) (ci := 10) (T := TX12) (N := 22) C0 w (m_X12_isCell l B _ σ x1 q1 h2) ky_X12_isCell kv_X12_isCell lk_X12_134 rfl (by decide +kernel) ⟨Nat.le_of_ble_eq_true rfl, Nat.le_of_ble_eq_true rfl⟩ ⟨Nat.le_of_ble_eq_true rfl, Nat.le_of_ble_eq_true rfl⟩ rfl (by rfl) (Nat.le_of_ble_eq_true rfl) hl.1 dX12_least_3 (fun H locs w => ?_)
  refine lv_if_eq (tgt := 21) hx hb dX12_least_6 (by decide) (fun c3 => ?_) (fun c3 => ?_)
  · rw [if_pos c3] at hf
    refine lv_iconst (v := 1) hx hb dX12_least_21 (by decide) ?_
    refine pI C0 w fk_X12_62 fp_X12_5 (by decide +kernel) dX12_least_22 (fun H locs w => ?_)
    refine lv_aload_n hx hb dX12_least_25 rfl (lv_at hl 0 rfl) ?_
    refine gI C0 w fk_X12_62 (by decide +kernel) dX12_least_26 ?_
    refine lv_if_eq (tgt := 34) hx hb dX12_least_29 (by decide) (fun c4 => ?_) (fun c4 => ?_)
    · rw [if_pos c4] at hf
      refine lv_aload_n hx hb dX12_least_34 rfl (lv_at hl 0 rfl) ?_
      refine lv_iload_n hx hb dX12_least_35 rfl (lv_at hl 1 rfl) ?_
      refine lv_iload_n hx hb dX12_least_36 rfl (lv_at hl 3 rfl) ?_
      refine lv_if_eq (tgt := 45) hx hb dX12_least_37 (by decide) (fun c5 => ?_) (fun c5 => ?_)
      · rw [if_pos c5] at hf
        refine lv_bipush (v := 8) hx hb dX12_least_45 (by decide) ?_
        obtain ⟨q6, h7, hf⟩ := bdE hf
        refine cV (As := [.int x1, .int 8]) (rest := []) (k := 224) (ci := 10) (T := TX12) (N := 22) C0 w (m_X12_spread l B _ (setI σ 224 5 1) x1 8 q6 h7) ky_X12_spread kv_X12_spread lk_X12_108 rfl (by decide +kernel) ⟨Nat.le_of_ble_eq_true rfl, Nat.le_of_ble_eq_true rfl⟩ ⟨Nat.le_of_ble_eq_true rfl, Nat.le_of_ble_eq_true rfl⟩ rfl (by rfl) (Nat.le_of_ble_eq_true rfl) hl.1 dX12_least_47 (fun H locs w => ?_)
        refine lv_aload_n hx hb dX12_least_50 rfl (lv_at hl 0 rfl) ?_
        refine gR C0 w 228 fk_X12_20 (by decide +kernel) dX12_least_51 ?_
        refine lv_iload_n hx hb dX12_least_54 rfl (lv_at hl 2 rfl) ?_
        obtain ⟨g8, hf⟩ := gdE hf
        refine aL C0 w (n := 64) (by decide +kernel) (inbE g8) dX12_least_55 ?_
        obtain rfl := Option.some.inj hf
        exact eL C0 hr w dX12_least_56
      · rw [if_neg c5] at hf
        refine lv_bipush (v := 72) hx hb dX12_least_40 (by decide) ?_
        refine lv_goto (tgt := 47) hx hb dX12_least_42 (by decide) ?_
        obtain ⟨q9, h10, hf⟩ := bdE hf
        refine cV (As := [.int x1, .int 72]) (rest := []) (k := 224) (ci := 10) (T := TX12) (N := 22) C0 w (m_X12_spread l B _ (setI σ 224 5 1) x1 72 q9 h10) ky_X12_spread kv_X12_spread lk_X12_108 rfl (by decide +kernel) ⟨Nat.le_of_ble_eq_true rfl, Nat.le_of_ble_eq_true rfl⟩ ⟨Nat.le_of_ble_eq_true rfl, Nat.le_of_ble_eq_true rfl⟩ rfl (by rfl) (Nat.le_of_ble_eq_true rfl) hl.1 dX12_least_47 (fun H locs w => ?_)
        refine lv_aload_n hx hb dX12_least_50 rfl (lv_at hl 0 rfl) ?_
        refine gR C0 w 228 fk_X12_20 (by decide +kernel) dX12_least_51 ?_
        refine lv_iload_n hx hb dX12_least_54 rfl (lv_at hl 2 rfl) ?_
        obtain ⟨g11, hf⟩ := gdE hf
        refine aL C0 w (n := 64) (by decide +kernel) (inbE g11) dX12_least_55 ?_
        obtain rfl := Option.some.inj hf
        exact eL C0 hr w dX12_least_56
    · rw [if_neg c4] at hf
      refine lv_lconst (v := 0) hx hb dX12_least_32 (by decide) ?_
      obtain rfl := Option.some.inj hf
      exact eL C0 hr w dX12_least_33
  · rw [if_neg c3] at hf
    refine lv_aload_n hx hb dX12_least_9 rfl (lv_at hl 0 rfl) ?_
    refine lv_iload_n hx hb dX12_least_10 rfl (lv_at hl 2 rfl) ?_
    obtain ⟨q12, h13, hf⟩ := bdE hf
    refine cV (As := [.int x2]) (rest := [.ref (wA B 224)]) (k := 224) (ci := 10) (T := TX12) (N := 22) C0 w (m_X12_isCell l B _ σ x2 q12 h13) ky_X12_isCell kv_X12_isCell lk_X12_134 rfl (by decide +kernel) ⟨Nat.le_of_ble_eq_true rfl, Nat.le_of_ble_eq_true rfl⟩ ⟨Nat.le_of_ble_eq_true rfl, Nat.le_of_ble_eq_true rfl⟩ rfl (by rfl) (Nat.le_of_ble_eq_true rfl) hl.1 dX12_least_11 (fun H locs w => ?_)
    refine lv_if_eq (tgt := 21) hx hb dX12_least_14 (by decide) (fun c14 => ?_) (fun c14 => ?_)
    · rw [if_pos c14] at hf
      refine lv_iconst (v := 1) hx hb dX12_least_21 (by decide) ?_
      refine pI C0 w fk_X12_62 fp_X12_5 (by decide +kernel) dX12_least_22 (fun H locs w => ?_)
      refine lv_aload_n hx hb dX12_least_25 rfl (lv_at hl 0 rfl) ?_
      refine gI C0 w fk_X12_62 (by decide +kernel) dX12_least_26 ?_
      refine lv_if_eq (tgt := 34) hx hb dX12_least_29 (by decide) (fun c15 => ?_) (fun c15 => ?_)
      · rw [if_pos c15] at hf
        refine lv_aload_n hx hb dX12_least_34 rfl (lv_at hl 0 rfl) ?_
        refine lv_iload_n hx hb dX12_least_35 rfl (lv_at hl 1 rfl) ?_
        refine lv_iload_n hx hb dX12_least_36 rfl (lv_at hl 3 rfl) ?_
        refine lv_if_eq (tgt := 45) hx hb dX12_least_37 (by decide) (fun c16 => ?_) (fun c16 => ?_)
        · rw [if_pos c16] at hf
          refine lv_bipush (v := 8) hx hb dX12_least_45 (by decide) ?_
          obtain ⟨q17, h18, hf⟩ := bdE hf
          refine cV (As := [.int x1, .int 8]) (rest := []) (k := 224) (ci := 10) (T := TX12) (N := 22) C0 w (m_X12_spread l B _ (setI σ 224 5 1) x1 8 q17 h18) ky_X12_spread kv_X12_spread lk_X12_108 rfl (by decide +kernel) ⟨Nat.le_of_ble_eq_true rfl, Nat.le_of_ble_eq_true rfl⟩ ⟨Nat.le_of_ble_eq_true rfl, Nat.le_of_ble_eq_true rfl⟩ rfl (by rfl) (Nat.le_of_ble_eq_true rfl) hl.1 dX12_least_47 (fun H locs w => ?_)
          refine lv_aload_n hx hb dX12_least_50 rfl (lv_at hl 0 rfl) ?_
          refine gR C0 w 228 fk_X12_20 (by decide +kernel) dX12_least_51 ?_
          refine lv_iload_n hx hb dX12_least_54 rfl (lv_at hl 2 rfl) ?_
          obtain ⟨g19, hf⟩ := gdE hf
          refine aL C0 w (n := 64) (by decide +kernel) (inbE g19) dX12_least_55 ?_
          obtain rfl := Option.some.inj hf
          exact eL C0 hr w dX12_least_56
        · rw [if_neg c16] at hf
          refine lv_bipush (v := 72) hx hb dX12_least_40 (by decide) ?_
          refine lv_goto (tgt := 47) hx hb dX12_least_42 (by decide) ?_
          obtain ⟨q20, h21, hf⟩ := bdE hf
          refine cV (As := [.int x1, .int 72]) (rest := []) (k := 224) (ci := 10) (T := TX12) (N := 22) C0 w (m_X12_spread l B _ (setI σ 224 5 1) x1 72 q20 h21) ky_X12_spread kv_X12_spread lk_X12_108 rfl (by decide +kernel) ⟨Nat.le_of_ble_eq_true rfl, Nat.le_of_ble_eq_true rfl⟩ ⟨Nat.le_of_ble_eq_true rfl, Nat.le_of_ble_eq_true rfl⟩ rfl (by rfl) (Nat.le_of_ble_eq_true rfl) hl.1 dX12_least_47 (fun H locs w => ?_)
          refine lv_aload_n hx hb dX12_least_50 rfl (lv_at hl 0 rfl) ?_
          refine gR C0 w 228 fk_X12_20 (by decide +kernel) dX12_least_51 ?_
          refine lv_iload_n hx hb dX12_least_54 rfl (lv_at hl 2 rfl) ?_
          obtain ⟨g22, hf⟩ := gdE hf
          refine aL C0 w (n := 64) (by decide +kernel) (inbE g22) dX12_least_55 ?_
          obtain rfl := Option.some.inj hf
          exact eL C0 hr w dX12_least_56
      · rw [if_neg c15] at hf
        refine lv_lconst (v := 0) hx hb dX12_least_32 (by decide) ?_
        obtain rfl := Option.some.inj hf
        exact eL C0 hr w dX12_least_33
    · rw [if_neg c14] at hf
      refine lv_iconst (v := 0) hx hb dX12_least_17 (by decide) ?_
      refine lv_goto (tgt := 22) hx hb dX12_least_18 (by decide) ?_
      refine pI C0 w fk_X12_62 fp_X12_5 (by decide +kernel) dX12_least_22 (fun H locs w => ?_)
      refine lv_aload_n hx hb dX12_least_25 rfl (lv_at hl 0 rfl) ?_
      refine gI C0 w fk_X12_62 (by decide +kernel) dX12_least_26 ?_
      refine lv_if_eq (tgt := 34) hx hb dX12_least_29 (by decide) (fun c23 => ?_) (fun c23 => ?_)
      · rw [if_pos c23] at hf
        refine lv_aload_n hx hb dX12_least_34 rfl (lv_at hl 0 rfl) ?_
        refine lv_iload_n hx hb dX12_least_35 rfl (lv_at hl 1 rfl) ?_
        refine lv_iload_n hx hb dX12_least_36 rfl (lv_at hl 3 rfl) ?_
        refine lv_if_eq (tgt := 45) hx hb dX12_least_37 (by decide) (fun c24 => ?_) (fun c24 => ?_)
        · rw [if_pos c24] at hf
          refine lv_bipush (v := 8) hx hb dX12_least_45 (by decide) ?_
          obtain ⟨q25, h26, hf⟩ := bdE hf
          refine cV (As := [.int x1, .int 8]) (rest := []) (k := 224) (ci := 10) (T := TX12) (N := 22) C0 w (m_X12_spread l B _ (setI σ 224 5 0) x1 8 q25 h26) ky_X12_spread kv_X12_spread lk_X12_108 rfl (by decide +kernel) ⟨Nat.le_of_ble_eq_true rfl, Nat.le_of_ble_eq_true rfl⟩ ⟨Nat.le_of_ble_eq_true rfl, Nat.le_of_ble_eq_true rfl⟩ rfl (by rfl) (Nat.le_of_ble_eq_true rfl) hl.1 dX12_least_47 (fun H locs w => ?_)
          refine lv_aload_n hx hb dX12_least_50 rfl (lv_at hl 0 rfl) ?_
          refine gR C0 w 228 fk_X12_20 (by decide +kernel) dX12_least_51 ?_
          refine lv_iload_n hx hb dX12_least_54 rfl (lv_at hl 2 rfl) ?_
          obtain ⟨g27, hf⟩ := gdE hf
          refine aL C0 w (n := 64) (by decide +kernel) (inbE g27) dX12_least_55 ?_
          obtain rfl := Option.some.inj hf
          exact eL C0 hr w dX12_least_56
        · rw [if_neg c24] at hf
          refine lv_bipush (v := 72) hx hb dX12_least_40 (by decide) ?_
          refine lv_goto (tgt := 47) hx hb dX12_least_42 (by decide) ?_
          obtain ⟨q28, h29, hf⟩ := bdE hf
          refine cV (As := [.int x1, .int 72]) (rest := []) (k := 224) (ci := 10) (T := TX12) (N := 22) C0 w (m_X12_spread l B _ (setI σ 224 5 0) x1 72 q28 h29) ky_X12_spread kv_X12_spread lk_X12_108 rfl (by decide +kernel) ⟨Nat.le_of_ble_eq_true rfl, Nat.le_of_ble_eq_true rfl⟩ ⟨Nat.le_of_ble_eq_true rfl, Nat.le_of_ble_eq_true rfl⟩ rfl (by rfl) (Nat.le_of_ble_eq_true rfl) hl.1 dX12_least_47 (fun H locs w => ?_)
          refine lv_aload_n hx hb dX12_least_50 rfl (lv_at hl 0 rfl) ?_
          refine gR C0 w 228 fk_X12_20 (by decide +kernel) dX12_least_51 ?_
          refine lv_iload_n hx hb dX12_least_54 rfl (lv_at hl 2 rfl) ?_
          obtain ⟨g30, hf⟩ := gdE hf
          refine aL C0 w (n := 64) (by decide +kernel) (inbE g30) dX12_least_55 ?_
          obtain rfl := Option.some.inj hf
          exact eL C0 hr w dX12_least_56
      · rw [if_neg c23] at hf
        refine lv_lconst (v := 0) hx hb dX12_least_32 (by decide) ?_
        obtain rfl := Option.some.inj hf
        exact eL C0 hr w dX12_least_33
def f_X12_cell (x1 : Int32) (x2 : Int32) (σ : Mem) : Option (Int32 × Mem) :=
  bd (f_X12_isCell x1 σ) (fun q1 =>
  if q1 = 0 then (
    if ((setI σ 224 5 1).1 224 5) = 0 then (
      if 2 ≤ x2 then (
        bd (f_X12_cover (setI σ 224 5 1)) (fun q29 =>
        if x2 = 2 then (
          gd (inb x1 64) (
          some ((q29.1 232 x1.toNatClampNeg, q29))))
        else (
          gd (inb x1 64) (
          some ((q29.1 233 x1.toNatClampNeg, q29))))))
      else (
        if x2 = 0 then (
          gd (inb (8 + x1) 200) (
          some ((((setI σ 224 5 1).2 225 (8 + x1).toNatClampNeg).toInt32, setI σ 224 5 1))))
        else (
          gd (inb (72 + x1) 200) (
          some ((((setI σ 224 5 1).2 225 (72 + x1).toNatClampNeg).toInt32, setI σ 224 5 1))))))
    else (
      some ((0, setI σ 224 5 1))))
  else (
    bd (f_X12_in x2.toInt64 0 3 σ) (fun q4 =>
    if q4 = 0 then (
      if ((setI σ 224 5 2).1 224 5) = 0 then (
        if 2 ≤ x2 then (
          bd (f_X12_cover (setI σ 224 5 2)) (fun q9 =>
          if x2 = 2 then (
            gd (inb x1 64) (
            some ((q9.1 232 x1.toNatClampNeg, q9))))
          else (
            gd (inb x1 64) (
            some ((q9.1 233 x1.toNatClampNeg, q9))))))
        else (
          if x2 = 0 then (
            gd (inb (8 + x1) 200) (
            some ((((setI σ 224 5 2).2 225 (8 + x1).toNatClampNeg).toInt32, setI σ 224 5 2))))
          else (
            gd (inb (72 + x1) 200) (
            some ((((setI σ 224 5 2).2 225 (72 + x1).toNatClampNeg).toInt32, setI σ 224 5 2))))))
      else (
        some ((0, setI σ 224 5 2))))
    else (
      if ((setI σ 224 5 0).1 224 5) = 0 then (
        if 2 ≤ x2 then (
          bd (f_X12_cover (setI σ 224 5 0)) (fun q19 =>
          if x2 = 2 then (
            gd (inb x1 64) (
            some ((q19.1 232 x1.toNatClampNeg, q19))))
          else (
            gd (inb x1 64) (
            some ((q19.1 233 x1.toNatClampNeg, q19))))))
        else (
          if x2 = 0 then (
            gd (inb (8 + x1) 200) (
            some ((((setI σ 224 5 0).2 225 (8 + x1).toNatClampNeg).toInt32, setI σ 224 5 0))))
          else (
            gd (inb (72 + x1) 200) (
            some ((((setI σ 224 5 0).2 225 (72 + x1).toNatClampNeg).toInt32, setI σ 224 5 0))))))
      else (
        some ((0, setI σ 224 5 0)))))))
abbrev rm_X12_cell : Room := { frames := 6, cells := 0, slots := 0, locals := 145 }
set_option maxHeartbeats 4000000 in
set_option maxRecDepth 100000 in
theorem m_X12_cell (l : Launch) (B : Wb) (sz : Nat) (σ : Mem) (x1 : Int32) (x2 : Int32) (q : Int32 × Mem) (hf : f_X12_cell x1 x2 σ = some q) : MetC l yX12_cell cX12_cell 3 (some .int) rm_X12_cell B sz σ q.2 [.ref (wA B 224), .int x1, .int x2] (some (.int q.1)) := by
  refine met_in (by decide +kernel) (Nat.le_of_ble_eq_true rfl) ?_
  intro p e s m below meth c C0 hr w hsz ls hl
  have hx := C0.1.1
  have hb := C0.1.2.1
  unfold f_X12_cell at hf
  refine lv_aload_n hx hb dX12_cell_0 rfl (lv_at hl 0 rfl) ?_
  refine lv_aload_n hx hb dX12_cell_1 rfl (lv_at hl 0 rfl) ?_
  refine lv_iload_n hx hb dX12_cell_2 rfl (lv_at hl 1 rfl) ?_
  obtain ⟨q1, h2, hf⟩ := bdE hf
  refine cV (As := [.int x1]) (rest := [.ref (wA B 224)]) (k := 224) (ci := 10) (T := TX12) (N := 22) C0 w (m_X12_isCell l B _ σ x1 q1 h2) ky_X12_isCell kv_X12_isCell lk_X12_134 rfl (by decide +kernel) ⟨Nat.le_of_ble_eq_true rfl, Nat.le_of_ble_eq_true rfl⟩ ⟨Nat.le_of_ble_eq_true rfl, Nat.le_of_ble_eq_true rfl⟩ rfl (by rfl) (Nat.le_of_ble_eq_true rfl) hl.1 dX12_cell_3 (fun H locs w => ?_)
  refine lv_if_ne (tgt := 13) hx hb dX12_cell_6 (by decide) (fun c3 => ?_) (fun c3 => ?_)
  · rw [if_neg c3] at hf
    refine lv_iload_n hx hb dX12_cell_13 rfl (lv_at hl 2 rfl) ?_
    refine lv_i2l hx hb dX12_cell_14 rfl ?_
    refine lv_lconst (v := 0) hx hb dX12_cell_15 (by decide) ?_
    refine kLg C0 3 kc_X12_202 dX12_cell_16 ?_
    obtain ⟨q4, h5, hf⟩ := bdE hf
    refine cS (As := [.long x2.toInt64, .long 0, .long 3]) (rest := [.ref (wA B 224)]) C0 w (m_X12_in l B _ σ x2.toInt64 0 3 q4 h5) ky_X12_in ks_X12_in lk_X12_79 ⟨Nat.le_of_ble_eq_true rfl, Nat.le_of_ble_eq_true rfl⟩ ⟨Nat.le_of_ble_eq_true rfl, Nat.le_of_ble_eq_true rfl⟩ rfl (by rfl) (Nat.le_of_ble_eq_true rfl) hl.1 dX12_cell_19 (fun H locs w => ?_)
    refine lv_if_eq (tgt := 29) hx hb dX12_cell_22 (by decide) (fun c6 => ?_) (fun c6 => ?_)
    · rw [if_pos c6] at hf
      refine lv_iconst (v := 2) hx hb dX12_cell_29 (by decide) ?_
      refine pI C0 w fk_X12_62 fp_X12_5 (by decide +kernel) dX12_cell_30 (fun H locs w => ?_)
      refine lv_aload_n hx hb dX12_cell_33 rfl (lv_at hl 0 rfl) ?_
      refine gI C0 w fk_X12_62 (by decide +kernel) dX12_cell_34 ?_
      refine lv_if_eq (tgt := 42) hx hb dX12_cell_37 (by decide) (fun c7 => ?_) (fun c7 => ?_)
      · rw [if_pos c7] at hf
        refine lv_iload_n hx hb dX12_cell_42 rfl (lv_at hl 2 rfl) ?_
        refine lv_iconst (v := 2) hx hb dX12_cell_43 (by decide) ?_
        refine lv_icmp_ge (tgt := 67) hx hb dX12_cell_44 (by decide) (fun c8 => ?_) (fun c8 => ?_)
        · rw [if_pos c8] at hf
          refine lv_aload_n hx hb dX12_cell_67 rfl (lv_at hl 0 rfl) ?_
          obtain ⟨q9, h10, hf⟩ := bdE hf
          refine cV (As := []) (rest := []) (k := 224) (ci := 10) (T := TX12) (N := 22) C0 w (m_X12_cover l B _ (setI σ 224 5 2) q9 h10) ky_X12_cover kv_X12_cover lk_X12_236 rfl (by decide +kernel) ⟨Nat.le_of_ble_eq_true rfl, Nat.le_of_ble_eq_true rfl⟩ ⟨Nat.le_of_ble_eq_true rfl, Nat.le_of_ble_eq_true rfl⟩ rfl (by rfl) (Nat.le_of_ble_eq_true rfl) hl.1 dX12_cell_68 (fun H locs w => ?_)
          refine lv_iload_n hx hb dX12_cell_71 rfl (lv_at hl 2 rfl) ?_
          refine lv_iconst (v := 2) hx hb dX12_cell_72 (by decide) ?_
          refine lv_icmp_ne (tgt := 85) hx hb dX12_cell_73 (by decide) (fun c11 => ?_) (fun c11 => ?_)
          · rw [if_neg c11] at hf
            refine lv_aload_n hx hb dX12_cell_85 rfl (lv_at hl 0 rfl) ?_
            refine gR C0 w 233 fk_X12_36 (by decide +kernel) dX12_cell_86 ?_
            refine lv_iload_n hx hb dX12_cell_89 rfl (lv_at hl 1 rfl) ?_
            obtain ⟨g12, hf⟩ := gdE hf
            refine aI C0 w (n := 64) (by decide +kernel) (inbE g12) dX12_cell_90 ?_
            obtain rfl := Option.some.inj hf
            exact eI C0 hr w rfl dX12_cell_91
          · rw [if_pos c11] at hf
            refine lv_aload_n hx hb dX12_cell_76 rfl (lv_at hl 0 rfl) ?_
            refine gR C0 w 232 fk_X12_33 (by decide +kernel) dX12_cell_77 ?_
            refine lv_iload_n hx hb dX12_cell_80 rfl (lv_at hl 1 rfl) ?_
            obtain ⟨g13, hf⟩ := gdE hf
            refine aI C0 w (n := 64) (by decide +kernel) (inbE g13) dX12_cell_81 ?_
            refine lv_goto (tgt := 91) hx hb dX12_cell_82 (by decide) ?_
            obtain rfl := Option.some.inj hf
            exact eI C0 hr w rfl dX12_cell_91
        · rw [if_neg c8] at hf
          refine lv_aload_n hx hb dX12_cell_47 rfl (lv_at hl 0 rfl) ?_
          refine gR C0 w 225 fk_X12_7 (by decide +kernel) dX12_cell_48 ?_
          refine lv_iload_n hx hb dX12_cell_51 rfl (lv_at hl 2 rfl) ?_
          refine lv_if_ne (tgt := 60) hx hb dX12_cell_52 (by decide) (fun c14 => ?_) (fun c14 => ?_)
          · rw [if_neg c14] at hf
            refine lv_bipush (v := 72) hx hb dX12_cell_60 (by decide) ?_
            refine lv_iload_n hx hb dX12_cell_62 rfl (lv_at hl 1 rfl) ?_
            refine lv_iadd hx hb dX12_cell_63 ?_
            obtain ⟨g15, hf⟩ := gdE hf
            refine aL C0 w (n := 200) (by decide +kernel) (inbE g15) dX12_cell_64 ?_
            refine lv_l2i hx hb dX12_cell_65 rfl ?_
            obtain rfl := Option.some.inj hf
            exact eI C0 hr w rfl dX12_cell_66
          · rw [if_pos c14] at hf
            refine lv_bipush (v := 8) hx hb dX12_cell_55 (by decide) ?_
            refine lv_goto (tgt := 62) hx hb dX12_cell_57 (by decide) ?_
            refine lv_iload_n hx hb dX12_cell_62 rfl (lv_at hl 1 rfl) ?_
            refine lv_iadd hx hb dX12_cell_63 ?_
            obtain ⟨g16, hf⟩ := gdE hf
            refine aL C0 w (n := 200) (by decide +kernel) (inbE g16) dX12_cell_64 ?_
            refine lv_l2i hx hb dX12_cell_65 rfl ?_
            obtain rfl := Option.some.inj hf
            exact eI C0 hr w rfl dX12_cell_66
      · rw [if_neg c7] at hf
        refine lv_iconst (v := 0) hx hb dX12_cell_40 (by decide) ?_
        obtain rfl := Option.some.inj hf
        exact eI C0 hr w rfl dX12_cell_41
    · rw [if_neg c6] at hf
      refine lv_iconst (v := 0) hx hb dX12_cell_25 (by decide) ?_
      refine lv_goto (tgt := 30) hx hb dX12_cell_26 (by decide) ?_
      refine pI C0 w fk_X12_62 fp_X12_5 (by decide +kernel) dX12_cell_30 (fun H locs w => ?_)
      refine lv_aload_n hx hb dX12_cell_33 rfl (lv_at hl 0 rfl) ?_
      refine gI C0 w fk_X12_62 (by decide +kernel) dX12_cell_34 ?_
      refine lv_if_eq (tgt := 42) hx hb dX12_cell_37 (by decide) (fun c17 => ?_) (fun c17 => ?_)
      · rw [if_pos c17] at hf
        refine lv_iload_n hx hb dX12_cell_42 rfl (lv_at hl 2 rfl) ?_
        refine lv_iconst (v := 2) hx hb dX12_cell_43 (by decide) ?_
        refine lv_icmp_ge (tgt := 67) hx hb dX12_cell_44 (by decide) (fun c18 => ?_) (fun c18 => ?_)
        · rw [if_pos c18] at hf
          refine lv_aload_n hx hb dX12_cell_67 rfl (lv_at hl 0 rfl) ?_
          obtain ⟨q19, h20, hf⟩ := bdE hf
          refine cV (As := []) (rest := []) (k := 224) (ci := 10) (T := TX12) (N := 22) C0 w (m_X12_cover l B _ (setI σ 224 5 0) q19 h20) ky_X12_cover kv_X12_cover lk_X12_236 rfl (by decide +kernel) ⟨Nat.le_of_ble_eq_true rfl, Nat.le_of_ble_eq_true rfl⟩ ⟨Nat.le_of_ble_eq_true rfl, Nat.le_of_ble_eq_true rfl⟩ rfl (by rfl) (Nat.le_of_ble_eq_true rfl) hl.1 dX12_cell_68 (fun H locs w => ?_)
          refine lv_iload_n hx hb dX12_cell_71 rfl (lv_at hl 2 rfl) ?_
          refine lv_iconst (v := 2) hx hb dX12_cell_72 (by decide) ?_
          refine lv_icmp_ne (tgt := 85) hx hb dX12_cell_73 (by decide) (fun c21 => ?_) (fun c21 => ?_)
          · rw [if_neg c21] at hf
            refine lv_aload_n hx hb dX12_cell_85 rfl (lv_at hl 0 rfl) ?_
            refine gR C0 w 233 fk_X12_36 (by decide +kernel) dX12_cell_86 ?_
            refine lv_iload_n hx hb dX12_cell_89 rfl (lv_at hl 1 rfl) ?_
            obtain ⟨g22, hf⟩ := gdE hf
            refine aI C0 w (n := 64) (by decide +kernel) (inbE g22) dX12_cell_90 ?_
            obtain rfl := Option.some.inj hf
            exact eI C0 hr w rfl dX12_cell_91
          · rw [if_pos c21] at hf
            refine lv_aload_n hx hb dX12_cell_76 rfl (lv_at hl 0 rfl) ?_
            refine gR C0 w 232 fk_X12_33 (by decide +kernel) dX12_cell_77 ?_
            refine lv_iload_n hx hb dX12_cell_80 rfl (lv_at hl 1 rfl) ?_
            obtain ⟨g23, hf⟩ := gdE hf
            refine aI C0 w (n := 64) (by decide +kernel) (inbE g23) dX12_cell_81 ?_
            refine lv_goto (tgt := 91) hx hb dX12_cell_82 (by decide) ?_
            obtain rfl := Option.some.inj hf
            exact eI C0 hr w rfl dX12_cell_91
        · rw [if_neg c18] at hf
          refine lv_aload_n hx hb dX12_cell_47 rfl (lv_at hl 0 rfl) ?_
          refine gR C0 w 225 fk_X12_7 (by decide +kernel) dX12_cell_48 ?_
          refine lv_iload_n hx hb dX12_cell_51 rfl (lv_at hl 2 rfl) ?_
          refine lv_if_ne (tgt := 60) hx hb dX12_cell_52 (by decide) (fun c24 => ?_) (fun c24 => ?_)
          · rw [if_neg c24] at hf
            refine lv_bipush (v := 72) hx hb dX12_cell_60 (by decide) ?_
            refine lv_iload_n hx hb dX12_cell_62 rfl (lv_at hl 1 rfl) ?_
            refine lv_iadd hx hb dX12_cell_63 ?_
            obtain ⟨g25, hf⟩ := gdE hf
            refine aL C0 w (n := 200) (by decide +kernel) (inbE g25) dX12_cell_64 ?_
            refine lv_l2i hx hb dX12_cell_65 rfl ?_
            obtain rfl := Option.some.inj hf
            exact eI C0 hr w rfl dX12_cell_66
          · rw [if_pos c24] at hf
            refine lv_bipush (v := 8) hx hb dX12_cell_55 (by decide) ?_
            refine lv_goto (tgt := 62) hx hb dX12_cell_57 (by decide) ?_
            refine lv_iload_n hx hb dX12_cell_62 rfl (lv_at hl 1 rfl) ?_
            refine lv_iadd hx hb dX12_cell_63 ?_
            obtain ⟨g26, hf⟩ := gdE hf
            refine aL C0 w (n := 200) (by decide +kernel) (inbE g26) dX12_cell_64 ?_
            refine lv_l2i hx hb dX12_cell_65 rfl ?_
            obtain rfl := Option.some.inj hf
            exact eI C0 hr w rfl dX12_cell_66
      · rw [if_neg c17] at hf
        refine lv_iconst (v := 0) hx hb dX12_cell_40 (by decide) ?_
        obtain rfl := Option.some.inj hf
        exact eI C0 hr w rfl dX12_cell_41
  · rw [if_pos c3] at hf
    refine lv_iconst (v := 1) hx hb dX12_cell_9 (by decide) ?_
    refine lv_goto (tgt := 30) hx hb dX12_cell_10 (by decide) ?_
    refine pI C0 w fk_X12_62 fp_X12_5 (by decide +kernel) dX12_cell_30 (fun H locs w => ?_)
    refine lv_aload_n hx hb dX12_cell_33 rfl (lv_at hl 0 rfl) ?_
    refine gI C0 w fk_X12_62 (by decide +kernel) dX12_cell_34 ?_
    refine lv_if_eq (tgt := 42) hx hb dX12_cell_37 (by decide) (fun c27 => ?_) (fun c27 => ?_)
    · rw [if_pos c27] at hf
      refine lv_iload_n hx hb dX12_cell_42 rfl (lv_at hl 2 rfl) ?_
      refine lv_iconst (v := 2) hx hb dX12_cell_43 (by decide) ?_
      refine lv_icmp_ge (tgt := 67) hx hb dX12_cell_44 (by decide) (fun c28 => ?_) (fun c28 => ?_)
      · rw [if_pos c28] at hf
        refine lv_aload_n hx hb dX12_cell_67 rfl (lv_at hl 0 rfl) ?_
        obtain ⟨q29, h30, hf⟩ := bdE hf
        refine cV (As := []) (rest := []) (k := 224) (ci := 10) (T := TX12) (N := 22) C0 w (m_X12_cover l B _ (setI σ 224 5 1) q29 h30) ky_X12_cover kv_X12_cover lk_X12_236 rfl (by decide +kernel) ⟨Nat.le_of_ble_eq_true rfl, Nat.le_of_ble_eq_true rfl⟩ ⟨Nat.le_of_ble_eq_true rfl, Nat.le_of_ble_eq_true rfl⟩ rfl (by rfl) (Nat.le_of_ble_eq_true rfl) hl.1 dX12_cell_68 (fun H locs w => ?_)
        refine lv_iload_n hx hb dX12_cell_71 rfl (lv_at hl 2 rfl) ?_
        refine lv_iconst (v := 2) hx hb dX12_cell_72 (by decide) ?_
        refine lv_icmp_ne (tgt := 85) hx hb dX12_cell_73 (by decide) (fun c31 => ?_) (fun c31 => ?_)
        · rw [if_neg c31] at hf
          refine lv_aload_n hx hb dX12_cell_85 rfl (lv_at hl 0 rfl) ?_
          refine gR C0 w 233 fk_X12_36 (by decide +kernel) dX12_cell_86 ?_
          refine lv_iload_n hx hb dX12_cell_89 rfl (lv_at hl 1 rfl) ?_
          obtain ⟨g32, hf⟩ := gdE hf
          refine aI C0 w (n := 64) (by decide +kernel) (inbE g32) dX12_cell_90 ?_
          obtain rfl := Option.some.inj hf
          exact eI C0 hr w rfl dX12_cell_91
        · rw [if_pos c31] at hf
          refine lv_aload_n hx hb dX12_cell_76 rfl (lv_at hl 0 rfl) ?_
          refine gR C0 w 232 fk_X12_33 (by decide +kernel) dX12_cell_77 ?_
          refine lv_iload_n hx hb dX12_cell_80 rfl (lv_at hl 1 rfl) ?_
          obtain ⟨g33, hf⟩ := gdE hf
          refine aI C0 w (n := 64) (by decide +kernel) (inbE g33) dX12_cell_81 ?_
          refine lv_goto (tgt := 91) hx hb dX12_cell_82 (by decide) ?_
          obtain rfl := Option.some.inj hf
          exact eI C0 hr w rfl dX12_cell_91
      · rw [if_neg c28] at hf
        refine lv_aload_n hx hb dX12_cell_47 rfl (lv_at hl 0 rfl) ?_
        refine gR C0 w 225 fk_X12_7 (by decide +kernel) dX12_cell_48 ?_
        refine lv_iload_n hx hb dX12_cell_51 rfl (lv_at hl 2 rfl) ?_
        refine lv_if_ne (tgt := 60) hx hb dX12_cell_52 (by decide) (fun c34 => ?_) (fun c34 => ?_)
        · rw [if_neg c34] at hf
          refine lv_bipush (v := 72) hx hb dX12_cell_60 (by decide) ?_
          refine lv_iload_n hx hb dX12_cell_62 rfl (lv_at hl 1 rfl) ?_
          refine lv_iadd hx hb dX12_cell_63 ?_
          obtain ⟨g35, hf⟩ := gdE hf
          refine aL C0 w (n := 200) (by decide +kernel) (inbE g35) dX12_cell_64 ?_
          refine lv_l2i hx hb dX12_cell_65 rfl ?_
          obtain rfl := Option.some.inj hf
          exact eI C0 hr w rfl dX12_cell_66
        · rw [if_pos c34] at hf
          refine lv_bipush (v := 8) hx hb dX12_cell_55 (by decide) ?_
          refine lv_goto (tgt := 62) hx hb dX12_cell_57 (by decide) ?_
          refine lv_iload_n hx hb dX12_cell_62 rfl (lv_at hl 1 rfl) ?_
          refine lv_iadd hx hb dX12_cell_63 ?_
          obtain ⟨g36, hf⟩ := gdE hf
          refine aL C0 w (n := 200) (by decide +kernel) (inbE g36) dX12_cell_64 ?_
          refine lv_l2i hx hb dX12_cell_65 rfl ?_
          obtain rfl := Option.some.inj hf
          exact eI C0 hr w rfl dX12_cell_66
    · rw [if_neg c27] at hf
      refine lv_iconst (v := 0) hx hb dX12_cell_40 (by decide) ?_
      obtain rfl := Option.some.inj hf
      exact eI C0 hr w rfl dX12_cell_41
def f_X12_sectionOf_68 (σ : Mem) : Nat → Int32 → Int32 → Option (Int32)
  | 0, _, _ => none
  | n + 1, x2, x3 =>
    bd (f_X12_cells σ) (fun q1 =>
    if q1 ≤ x3 then (
      some x2)
    else (
      gd (inb x3 64) (
      if (σ.1 232 x3.toNatClampNeg) = 0 then (
        f_X12_sectionOf_68 σ n (x2 + 1) (x3 + 1))
      else (
        f_X12_sectionOf_68 σ n (x2 + 0) (x3 + 1)))))
def f_X12_sectionOf (x1 : Int32) (σ : Mem) : Option (Int32 × Mem) :=
  if x1 = 0 then (
    bd (f_X12_columns σ) (fun q2 =>
    some ((q2, σ))))
  else (
  if x1 = 1 then (
    bd (f_X12_rows σ) (fun q5 =>
    some ((q5, σ))))
  else (
  if x1 = 2 then (
    some (((σ.2 225 (7 : Int32).toNatClampNeg).toInt32, σ)))
  else (
  if x1 = 3 then (
    bd (f_X12_actives σ) (fun q10 =>
    some ((q10, σ))))
  else (
  if x1 = 4 then (
    bd (f_X12_cover σ) (fun q13 =>
    bd (f_X12_sectionOf_68 q13 100000 0 0) (fun q15 =>
    some ((q15, q13)))))
  else (
    gd (inb ((2 + x1) - 5) 200) (
    some (((σ.2 225 ((2 + x1) - 5).toNatClampNeg).toInt32, σ))))))))
abbrev rm_X12_sectionOf : Room := { frames := 6, cells := 0, slots := 0, locals := 145 }
set_option maxHeartbeats 4000000 in
set_option maxRecDepth 100000 in
theorem lp_X12_sectionOf_68 {p : Program} {e : Env} {s : State} {m : MethodId} {args : Array Value} {below : List Frame} {meth : Method} {c : Code} {Q : State → Prop} (l : Launch) (B : Wb) (C0 : Cx p s m args meth c cX12_sectionOf 4 RX12) : ∀ (n : Nat) (x2 : Int32) (x3 : Int32) (σ : Mem) (o : Int32) (H : Heap) (locs : List Loc) (ls : Array Slot), f_X12_sectionOf_68 σ n x2 x3 = some o → Wx B σ s H locs → lv_has ls 4 [(0, .ref (wA B 224)), (2, .int x2), (3, .int x3)] → (∀ (H : Heap) (locs : List Loc) (ls : Array Slot), Wx B σ s H locs → lv_has ls 4 [(2, .int o)] → W p l e rm_X12_sectionOf s m args below meth c H locs 0 0 Q (F0 m 99 ls [])) → W p l e rm_X12_sectionOf s m args below meth c H locs 0 0 Q (F0 m 68 ls []) := by
  have hx := C0.1.1
  have hb := C0.1.2.1
  intro n
  induction n with
  | zero =>
    intro x2 x3 σ o H locs ls hf w hl hK
    cases hf
  | succ n ih =>
    intro x2 x3 σ o H locs ls hf w hl hK
    rw [f_X12_sectionOf_68] at hf
    refine lv_iload_n hx hb dX12_sectionOf_68 rfl (lv_at hl 2 rfl) ?_
    refine lv_aload_n hx hb dX12_sectionOf_69 rfl (lv_at hl 0 rfl) ?_
    obtain ⟨q1, h2, hf⟩ := bdE hf
    refine cV (As := []) (rest := [.int x3]) (k := 224) (ci := 10) (T := TX12) (N := 22) C0 w (m_X12_cells l B _ σ q1 h2) ky_X12_cells kv_X12_cells lk_X12_76 rfl (by decide +kernel) ⟨Nat.le_of_ble_eq_true rfl, Nat.le_of_ble_eq_true rfl⟩ ⟨Nat.le_of_ble_eq_true rfl, Nat.le_of_ble_eq_true rfl⟩ rfl (by rfl) (Nat.le_of_ble_eq_true rfl) hl.1 dX12_sectionOf_70 (fun H locs w => ?_)
    refine lv_icmp_ge (tgt := 99) hx hb dX12_sectionOf_73 (by decide) (fun c3 => ?_) (fun c3 => ?_)
    · rw [if_pos c3] at hf
      obtain rfl := Option.some.inj hf
      exact hK _ _ _ w (lv_sub hl [1] rfl)
    · rw [if_neg c3] at hf
      refine lv_iload_n hx hb dX12_sectionOf_76 rfl (lv_at hl 1 rfl) ?_
      refine lv_aload_n hx hb dX12_sectionOf_77 rfl (lv_at hl 0 rfl) ?_
      refine gR C0 w 232 fk_X12_33 (by decide +kernel) dX12_sectionOf_78 ?_
      refine lv_iload_n hx hb dX12_sectionOf_81 rfl (lv_at hl 2 rfl) ?_
      obtain ⟨g4, hf⟩ := gdE hf
      refine aI C0 w (n := 64) (by decide +kernel) (inbE g4) dX12_sectionOf_82 ?_
      refine lv_if_ne (tgt := 90) hx hb dX12_sectionOf_83 (by decide) (fun c5 => ?_) (fun c5 => ?_)
      · rw [if_neg c5] at hf
        refine lv_iconst (v := 0) hx hb dX12_sectionOf_90 (by decide) ?_
        refine lv_iadd hx hb dX12_sectionOf_91 ?_
        refine lv_istore_n (lv' := [(2, .int (x2 + 0)), (0, .ref (wA B 224)), (3, .int x3)]) hx hb dX12_sectionOf_92 rfl hl (by decide) rfl (fun ls hl => ?_)
        refine lv_iinc (k := 2) (v := x3 + 1) (lv' := [(3, .int (x3 + 1)), (2, .int (x2 + 0)), (0, .ref (wA B 224))]) hx hb dX12_sectionOf_93 hl rfl (by rfl) (by decide) rfl (fun ls hl => ?_)
        refine lv_goto (tgt := 68) hx hb dX12_sectionOf_96 (by decide) ?_
        exact ih (x2 + 0) (x3 + 1) σ _ _ _ _ hf w (lv_sub hl [2, 1, 0] rfl) hK
      · rw [if_pos c5] at hf
        refine lv_iconst (v := 1) hx hb dX12_sectionOf_86 (by decide) ?_
        refine lv_goto (tgt := 91) hx hb dX12_sectionOf_87 (by decide) ?_
        refine lv_iadd hx hb dX12_sectionOf_91 ?_
        refine lv_istore_n (lv' := [(2, .int (x2 + 1)), (0, .ref (wA B 224)), (3, .int x3)]) hx hb dX12_sectionOf_92 rfl hl (by decide) rfl (fun ls hl => ?_)
        refine lv_iinc (k := 2) (v := x3 + 1) (lv' := [(3, .int (x3 + 1)), (2, .int (x2 + 1)), (0, .ref (wA B 224))]) hx hb dX12_sectionOf_93 hl rfl (by rfl) (by decide) rfl (fun ls hl => ?_)
        refine lv_goto (tgt := 68) hx hb dX12_sectionOf_96 (by decide) ?_
        exact ih (x2 + 1) (x3 + 1) σ _ _ _ _ hf w (lv_sub hl [2, 1, 0] rfl) hK
set_option maxHeartbeats 4000000 in
set_option maxRecDepth 100000 in
theorem m_X12_sectionOf (l : Launch) (B : Wb) (sz : Nat) (σ : Mem) (x1 : Int32) (q : Int32 × Mem) (hf : f_X12_sectionOf x1 σ = some q) : MetC l yX12_sectionOf cX12_sectionOf 4 (some .int) rm_X12_sectionOf B sz σ q.2 [.ref (wA B 224), .int x1] (some (.int q.1)) := by
  refine met_in (by decide +kernel) (Nat.le_of_ble_eq_true rfl) ?_
  intro p e s m below meth c C0 hr w hsz ls hl
  have hx := C0.1.1
  have hb := C0.1.2.1
  unfold f_X12_sectionOf at hf
  refine lv_iload_n hx hb dX12_sectionOf_0 rfl (lv_at hl 1 rfl) ?_
  by_cases c1 : x1 = 0
  · rw [if_pos c1] at hf
    refine lv_tableIn (tgt := 36) hx hb dX12_sectionOf_1 (by rw [c1]; decide) (by rw [c1]; decide) (by rw [c1]; rfl) (by decide) ?_
    refine lv_aload_n hx hb dX12_sectionOf_36 rfl (lv_at hl 0 rfl) ?_
    obtain ⟨q2, h3, hf⟩ := bdE hf
    refine cV (As := []) (rest := []) (k := 224) (ci := 10) (T := TX12) (N := 22) C0 w (m_X12_columns l B _ σ q2 h3) ky_X12_columns kv_X12_columns lk_X12_69 rfl (by decide +kernel) ⟨Nat.le_of_ble_eq_true rfl, Nat.le_of_ble_eq_true rfl⟩ ⟨Nat.le_of_ble_eq_true rfl, Nat.le_of_ble_eq_true rfl⟩ rfl (by rfl) (Nat.le_of_ble_eq_true rfl) hl.1 dX12_sectionOf_37 (fun H locs w => ?_)
    obtain rfl := Option.some.inj hf
    exact eI C0 hr w rfl dX12_sectionOf_40
  · rw [if_neg c1] at hf
    by_cases c4 : x1 = 1
    · rw [if_pos c4] at hf
      refine lv_tableIn (tgt := 41) hx hb dX12_sectionOf_1 (by rw [c4]; decide) (by rw [c4]; decide) (by rw [c4]; rfl) (by decide) ?_
      refine lv_aload_n hx hb dX12_sectionOf_41 rfl (lv_at hl 0 rfl) ?_
      obtain ⟨q5, h6, hf⟩ := bdE hf
      refine cV (As := []) (rest := []) (k := 224) (ci := 10) (T := TX12) (N := 22) C0 w (m_X12_rows l B _ σ q5 h6) ky_X12_rows kv_X12_rows lk_X12_73 rfl (by decide +kernel) ⟨Nat.le_of_ble_eq_true rfl, Nat.le_of_ble_eq_true rfl⟩ ⟨Nat.le_of_ble_eq_true rfl, Nat.le_of_ble_eq_true rfl⟩ rfl (by rfl) (Nat.le_of_ble_eq_true rfl) hl.1 dX12_sectionOf_42 (fun H locs w => ?_)
      obtain rfl := Option.some.inj hf
      exact eI C0 hr w rfl dX12_sectionOf_45
    · rw [if_neg c4] at hf
      by_cases c7 : x1 = 2
      · rw [if_pos c7] at hf
        refine lv_tableIn (tgt := 46) hx hb dX12_sectionOf_1 (by rw [c7]; decide) (by rw [c7]; decide) (by rw [c7]; rfl) (by decide) ?_
        refine lv_aload_n hx hb dX12_sectionOf_46 rfl (lv_at hl 0 rfl) ?_
        refine gR C0 w 225 fk_X12_7 (by decide +kernel) dX12_sectionOf_47 ?_
        refine lv_bipush (v := 7) hx hb dX12_sectionOf_50 (by decide) ?_
        refine aL C0 w (n := 200) (by decide +kernel) (inbE (by decide)) dX12_sectionOf_52 ?_
        refine lv_l2i hx hb dX12_sectionOf_53 rfl ?_
        obtain rfl := Option.some.inj hf
        exact eI C0 hr w rfl dX12_sectionOf_54
      · rw [if_neg c7] at hf
        by_cases c9 : x1 = 3
        · rw [if_pos c9] at hf
          refine lv_tableIn (tgt := 55) hx hb dX12_sectionOf_1 (by rw [c9]; decide) (by rw [c9]; decide) (by rw [c9]; rfl) (by decide) ?_
          refine lv_aload_n hx hb dX12_sectionOf_55 rfl (lv_at hl 0 rfl) ?_
          obtain ⟨q10, h11, hf⟩ := bdE hf
          refine cV (As := []) (rest := []) (k := 224) (ci := 10) (T := TX12) (N := 22) C0 w (m_X12_actives l B _ σ q10 h11) ky_X12_actives kv_X12_actives lk_X12_174 rfl (by decide +kernel) ⟨Nat.le_of_ble_eq_true rfl, Nat.le_of_ble_eq_true rfl⟩ ⟨Nat.le_of_ble_eq_true rfl, Nat.le_of_ble_eq_true rfl⟩ rfl (by rfl) (Nat.le_of_ble_eq_true rfl) hl.1 dX12_sectionOf_56 (fun H locs w => ?_)
          obtain rfl := Option.some.inj hf
          exact eI C0 hr w rfl dX12_sectionOf_59
        · rw [if_neg c9] at hf
          by_cases c12 : x1 = 4
          · rw [if_pos c12] at hf
            refine lv_tableIn (tgt := 60) hx hb dX12_sectionOf_1 (by rw [c12]; decide) (by rw [c12]; decide) (by rw [c12]; rfl) (by decide) ?_
            refine lv_aload_n hx hb dX12_sectionOf_60 rfl (lv_at hl 0 rfl) ?_
            obtain ⟨q13, h14, hf⟩ := bdE hf
            refine cV (As := []) (rest := []) (k := 224) (ci := 10) (T := TX12) (N := 22) C0 w (m_X12_cover l B _ σ q13 h14) ky_X12_cover kv_X12_cover lk_X12_236 rfl (by decide +kernel) ⟨Nat.le_of_ble_eq_true rfl, Nat.le_of_ble_eq_true rfl⟩ ⟨Nat.le_of_ble_eq_true rfl, Nat.le_of_ble_eq_true rfl⟩ rfl (by rfl) (Nat.le_of_ble_eq_true rfl) hl.1 dX12_sectionOf_61 (fun H locs w => ?_)
            refine lv_iconst (v := 0) hx hb dX12_sectionOf_64 (by decide) ?_
            refine lv_istore_n (lv' := [(2, .int 0), (0, .ref (wA B 224)), (1, .int x1)]) hx hb dX12_sectionOf_65 rfl hl (by decide) rfl (fun ls hl => ?_)
            refine lv_iconst (v := 0) hx hb dX12_sectionOf_66 (by decide) ?_
            refine lv_istore_n (lv' := [(3, .int 0), (2, .int 0), (0, .ref (wA B 224)), (1, .int x1)]) hx hb dX12_sectionOf_67 rfl hl (by decide) rfl (fun ls hl => ?_)
            obtain ⟨q15, h16, hf⟩ := bdE hf
            refine lp_X12_sectionOf_68 l B C0 100000 0 0 q13 q15 _ _ _ h16 w (lv_sub hl [2, 1, 0] rfl) (fun H locs ls w hl => ?_)
            refine lv_iload_n hx hb dX12_sectionOf_99 rfl (lv_at hl 0 rfl) ?_
            obtain rfl := Option.some.inj hf
            exact eI C0 hr w rfl dX12_sectionOf_100
          · rw [if_neg c12] at hf
            refine lv_tableOut (tgt := 101) hx hb dX12_sectionOf_1 (sw_out (by have q0 := sw_ne c1; have q1 := sw_ne c4; have q2 := sw_ne c7; have q3 := sw_ne c9; have q4 := sw_ne c12; clear hf; simp at *; omega)) (by decide) ?_
            refine lv_aload_n hx hb dX12_sectionOf_101 rfl (lv_at hl 0 rfl) ?_
            refine gR C0 w 225 fk_X12_7 (by decide +kernel) dX12_sectionOf_102 ?_
            refine lv_iconst (v := 2) hx hb dX12_sectionOf_105 (by decide) ?_
            refine lv_iload_n hx hb dX12_sectionOf_106 rfl (lv_at hl 1 rfl) ?_
            refine lv_iadd hx hb dX12_sectionOf_107 ?_
            refine lv_iconst (v := 5) hx hb dX12_sectionOf_108 (by decide) ?_
            refine lv_isub hx hb dX12_sectionOf_109 ?_
            obtain ⟨g17, hf⟩ := gdE hf
            refine aL C0 w (n := 200) (by decide +kernel) (inbE g17) dX12_sectionOf_110 ?_
            refine lv_l2i hx hb dX12_sectionOf_111 rfl ?_
            obtain rfl := Option.some.inj hf
            exact eI C0 hr w rfl dX12_sectionOf_112
def f_X12_section (x1 : Int32) (σ : Mem) : Option (Int32 × Mem) :=
  bd (f_X12_in x1.toInt64 0 8 σ) (fun q1 =>
  if q1 = 0 then (
    if ((setI σ 224 5 1).1 224 5) = 0 then (
      bd (f_X12_sectionOf x1 (setI σ 224 5 1)) (fun q5 =>
      some ((q5.1, q5.2))))
    else (
      some ((0, setI σ 224 5 1))))
  else (
    if ((setI σ 224 5 0).1 224 5) = 0 then (
      bd (f_X12_sectionOf x1 (setI σ 224 5 0)) (fun q8 =>
      some ((q8.1, q8.2))))
    else (
      some ((0, setI σ 224 5 0)))))
abbrev rm_X12_section : Room := { frames := 7, cells := 0, slots := 0, locals := 168 }
set_option maxHeartbeats 4000000 in
set_option maxRecDepth 100000 in
theorem m_X12_section (l : Launch) (B : Wb) (sz : Nat) (σ : Mem) (x1 : Int32) (q : Int32 × Mem) (hf : f_X12_section x1 σ = some q) : MetC l yX12_section cX12_section 2 (some .int) rm_X12_section B sz σ q.2 [.ref (wA B 224), .int x1] (some (.int q.1)) := by
  refine met_in (by decide +kernel) (Nat.le_of_ble_eq_true rfl) ?_
  intro p e s m below meth c C0 hr w hsz ls hl
  have hx := C0.1.1
  have hb := C0.1.2.1
  unfold f_X12_section at hf
  refine lv_aload_n hx hb dX12_section_0 rfl (lv_at hl 0 rfl) ?_
  refine lv_iload_n hx hb dX12_section_1 rfl (lv_at hl 1 rfl) ?_
  refine lv_i2l hx hb dX12_section_2 rfl ?_
  refine lv_lconst (v := 0) hx hb dX12_section_3 (by decide) ?_
  refine kLg C0 8 kc_X12_129 dX12_section_4 ?_
  obtain ⟨q1, h2, hf⟩ := bdE hf
  refine cS (As := [.long x1.toInt64, .long 0, .long 8]) (rest := [.ref (wA B 224)]) C0 w (m_X12_in l B _ σ x1.toInt64 0 8 q1 h2) ky_X12_in ks_X12_in lk_X12_79 ⟨Nat.le_of_ble_eq_true rfl, Nat.le_of_ble_eq_true rfl⟩ ⟨Nat.le_of_ble_eq_true rfl, Nat.le_of_ble_eq_true rfl⟩ rfl (by rfl) (Nat.le_of_ble_eq_true rfl) hl.1 dX12_section_7 (fun H locs w => ?_)
  refine lv_if_eq (tgt := 17) hx hb dX12_section_10 (by decide) (fun c3 => ?_) (fun c3 => ?_)
  · rw [if_pos c3] at hf
    refine lv_iconst (v := 1) hx hb dX12_section_17 (by decide) ?_
    refine pI C0 w fk_X12_62 fp_X12_5 (by decide +kernel) dX12_section_18 (fun H locs w => ?_)
    refine lv_aload_n hx hb dX12_section_21 rfl (lv_at hl 0 rfl) ?_
    refine gI C0 w fk_X12_62 (by decide +kernel) dX12_section_22 ?_
    refine lv_if_eq (tgt := 32) hx hb dX12_section_25 (by decide) (fun c4 => ?_) (fun c4 => ?_)
    · rw [if_pos c4] at hf
      refine lv_aload_n hx hb dX12_section_32 rfl (lv_at hl 0 rfl) ?_
      refine lv_iload_n hx hb dX12_section_33 rfl (lv_at hl 1 rfl) ?_
      obtain ⟨q5, h6, hf⟩ := bdE hf
      refine cV (As := [.int x1]) (rest := []) (k := 224) (ci := 10) (T := TX12) (N := 22) C0 w (m_X12_sectionOf l B _ (setI σ 224 5 1) x1 q5 h6) ky_X12_sectionOf kv_X12_sectionOf lk_X12_247 rfl (by decide +kernel) ⟨Nat.le_of_ble_eq_true rfl, Nat.le_of_ble_eq_true rfl⟩ ⟨Nat.le_of_ble_eq_true rfl, Nat.le_of_ble_eq_true rfl⟩ rfl (by rfl) (Nat.le_of_ble_eq_true rfl) hl.1 dX12_section_34 (fun H locs w => ?_)
      obtain rfl := Option.some.inj hf
      exact eI C0 hr w rfl dX12_section_37
    · rw [if_neg c4] at hf
      refine lv_iconst (v := 0) hx hb dX12_section_28 (by decide) ?_
      refine lv_goto (tgt := 37) hx hb dX12_section_29 (by decide) ?_
      obtain rfl := Option.some.inj hf
      exact eI C0 hr w rfl dX12_section_37
  · rw [if_neg c3] at hf
    refine lv_iconst (v := 0) hx hb dX12_section_13 (by decide) ?_
    refine lv_goto (tgt := 18) hx hb dX12_section_14 (by decide) ?_
    refine pI C0 w fk_X12_62 fp_X12_5 (by decide +kernel) dX12_section_18 (fun H locs w => ?_)
    refine lv_aload_n hx hb dX12_section_21 rfl (lv_at hl 0 rfl) ?_
    refine gI C0 w fk_X12_62 (by decide +kernel) dX12_section_22 ?_
    refine lv_if_eq (tgt := 32) hx hb dX12_section_25 (by decide) (fun c7 => ?_) (fun c7 => ?_)
    · rw [if_pos c7] at hf
      refine lv_aload_n hx hb dX12_section_32 rfl (lv_at hl 0 rfl) ?_
      refine lv_iload_n hx hb dX12_section_33 rfl (lv_at hl 1 rfl) ?_
      obtain ⟨q8, h9, hf⟩ := bdE hf
      refine cV (As := [.int x1]) (rest := []) (k := 224) (ci := 10) (T := TX12) (N := 22) C0 w (m_X12_sectionOf l B _ (setI σ 224 5 0) x1 q8 h9) ky_X12_sectionOf kv_X12_sectionOf lk_X12_247 rfl (by decide +kernel) ⟨Nat.le_of_ble_eq_true rfl, Nat.le_of_ble_eq_true rfl⟩ ⟨Nat.le_of_ble_eq_true rfl, Nat.le_of_ble_eq_true rfl⟩ rfl (by rfl) (Nat.le_of_ble_eq_true rfl) hl.1 dX12_section_34 (fun H locs w => ?_)
      obtain rfl := Option.some.inj hf
      exact eI C0 hr w rfl dX12_section_37
    · rw [if_neg c7] at hf
      refine lv_iconst (v := 0) hx hb dX12_section_28 (by decide) ?_
      refine lv_goto (tgt := 37) hx hb dX12_section_29 (by decide) ?_
      obtain rfl := Option.some.inj hf
      exact eI C0 hr w rfl dX12_section_37
def f_X12_fitOf_110 (x1 : Int32) (x4 : Int64) (x6 : Int64) (σ : Mem) : Nat → Int64 → Int32 → Option (Int64)
  | 0, _, _ => none
  | n + 1, x2, x8 =>
    bd (f_X12_cells σ) (fun q1 =>
    if q1 ≤ x8 then (
      some x2)
    else (
      if x1 ≤ 2 then (
        some x2)
      else (
        if x1 = 3 then (
          gd (inb (8 + x8) 200) (
          gd (inb (72 + x8) 200) (
          bd (f_X12_abs ((σ.2 225 (8 + x8).toNatClampNeg) - (σ.2 225 (72 + x8).toNatClampNeg)) σ) (fun q9 =>
          f_X12_fitOf_110 x1 x4 x6 σ n (x2 + q9) (x8 + 1)))))
        else (
          gd (inb (8 + x8) 200) (
          f_X12_fitOf_110 x1 x4 x6 σ n (x2 + (σ.2 225 (8 + x8).toNatClampNeg)) (x8 + 1))))))
def f_X12_fitOf_13 (x1 : Int32) : Nat → Int64 → Int64 → Int64 → Int32 → Mem → Option (Int64 × Int64 × Int64 × Mem)
  | 0, _, _, _, _, _ => none
  | n + 1, x2, x4, x6, x8, σ =>
    if (σ.2 225 (7 : Int32).toNatClampNeg) ≤ x8.toInt64 then (
      some ((x2, x4, x6, σ)))
    else (
      if 3 ≤ x1 then (
        some ((x2, x4, x6, σ)))
      else (
        bd (f_X12_isActive x8 σ) (fun q4 =>
        if q4 = 0 then (
          f_X12_fitOf_13 x1 n x2 x4 x6 (x8 + 1) σ)
        else (
          bd (f_X12_residualOf x8 σ) (fun q7 =>
          bd (f_X12_abs q7.1 q7.2) (fun q9 =>
          if x6 = ((-1 : Int64)) then (
            if q9 ≤ x4 then (
              f_X12_fitOf_13 x1 n (x2 + q9) x4 x8.toInt64 (x8 + 1) q7.2)
            else (
              f_X12_fitOf_13 x1 n (x2 + q9) q9 x8.toInt64 (x8 + 1) q7.2))
          else (
            if q9 ≤ x4 then (
              if q9 ≤ x4 then (
                f_X12_fitOf_13 x1 n (x2 + q9) x4 x6 (x8 + 1) q7.2)
              else (
                f_X12_fitOf_13 x1 n (x2 + q9) q9 x6 (x8 + 1) q7.2))
            else (
              if q9 ≤ x4 then (
                f_X12_fitOf_13 x1 n (x2 + q9) x4 x8.toInt64 (x8 + 1) q7.2)
              else (
                f_X12_fitOf_13 x1 n (x2 + q9) q9 x8.toInt64 (x8 + 1) q7.2)))))))))
def f_X12_fitOf (x1 : Int32) (σ : Mem) : Option (Int64 × Mem) :=
  bd (f_X12_fitOf_13 x1 100000 0 0 ((-1 : Int64)) 0 σ) (fun q1 =>
  bd (f_X12_fitOf_110 x1 q1.2.1 q1.2.2.1 q1.2.2.2 100000 q1.1 0) (fun q3 =>
  if x1 = 1 then (
    some ((q1.2.1, q1.2.2.2)))
  else (
    if x1 = 2 then (
      some ((q1.2.2.1, q1.2.2.2)))
    else (
      some ((q3, q1.2.2.2))))))
abbrev rm_X12_fitOf : Room := { frames := 6, cells := 0, slots := 0, locals := 142 }
set_option maxHeartbeats 4000000 in
set_option maxRecDepth 100000 in
theorem lp_X12_fitOf_110 {p : Program} {e : Env} {s : State} {m : MethodId} {args : Array Value} {below : List Frame} {meth : Method} {c : Code} {Q : State → Prop} (l : Launch) (B : Wb) (C0 : Cx p s m args meth c cX12_fitOf 11 RX12) (x1 : Int32) (x4 : Int64) (x6 : Int64) : ∀ (n : Nat) (x2 : Int64) (x8 : Int32) (σ : Mem) (o : Int64) (H : Heap) (locs : List Loc) (ls : Array Slot), f_X12_fitOf_110 x1 x4 x6 σ n x2 x8 = some o → Wx B σ s H locs → lv_has ls 11 [(0, .ref (wA B 224)), (1, .int x1), (2, .long x2), (4, .long x4), (6, .long x6), (8, .int x8)] → (∀ (H : Heap) (locs : List Loc) (ls : Array Slot), Wx B σ s H locs → lv_has ls 11 [(1, .int x1), (2, .long o), (4, .long x4), (6, .long x6)] → W p l e rm_X12_fitOf s m args below meth c H locs 0 0 Q (F0 m 175 ls [])) → W p l e rm_X12_fitOf s m args below meth c H locs 0 0 Q (F0 m 110 ls []) := by
  have hx := C0.1.1
  have hb := C0.1.2.1
  intro n
  induction n with
  | zero =>
    intro x2 x8 σ o H locs ls hf w hl hK
    cases hf
  | succ n ih =>
    intro x2 x8 σ o H locs ls hf w hl hK
    rw [f_X12_fitOf_110] at hf
    refine lv_iload hx hb dX12_fitOf_110 (lv_at hl 5 rfl) ?_
    refine lv_aload_n hx hb dX12_fitOf_112 rfl (lv_at hl 0 rfl) ?_
    obtain ⟨q1, h2, hf⟩ := bdE hf
    refine cV (As := []) (rest := [.int x8]) (k := 224) (ci := 10) (T := TX12) (N := 22) C0 w (m_X12_cells l B _ σ q1 h2) ky_X12_cells kv_X12_cells lk_X12_76 rfl (by decide +kernel) ⟨Nat.le_of_ble_eq_true rfl, Nat.le_of_ble_eq_true rfl⟩ ⟨Nat.le_of_ble_eq_true rfl, Nat.le_of_ble_eq_true rfl⟩ rfl (by rfl) (Nat.le_of_ble_eq_true rfl) hl.1 dX12_fitOf_113 (fun H locs w => ?_)
    refine lv_icmp_ge (tgt := 175) hx hb dX12_fitOf_116 (by decide) (fun c3 => ?_) (fun c3 => ?_)
    · rw [if_pos c3] at hf
      obtain rfl := Option.some.inj hf
      exact hK _ _ _ w (lv_sub hl [1, 2, 3, 4] rfl)
    · rw [if_neg c3] at hf
      refine lv_iload_n hx hb dX12_fitOf_119 rfl (lv_at hl 1 rfl) ?_
      refine lv_iconst (v := 2) hx hb dX12_fitOf_120 (by decide) ?_
      refine lv_icmp_le (tgt := 175) hx hb dX12_fitOf_121 (by decide) (fun c4 => ?_) (fun c4 => ?_)
      · rw [if_pos c4] at hf
        obtain rfl := Option.some.inj hf
        exact hK _ _ _ w (lv_sub hl [1, 2, 3, 4] rfl)
      · rw [if_neg c4] at hf
        refine lv_lload_n hx hb dX12_fitOf_124 rfl (lv_at hl 2 rfl) ?_
        refine lv_iload_n hx hb dX12_fitOf_125 rfl (lv_at hl 1 rfl) ?_
        refine lv_iconst (v := 3) hx hb dX12_fitOf_126 (by decide) ?_
        refine lv_icmp_ne (tgt := 157) hx hb dX12_fitOf_127 (by decide) (fun c5 => ?_) (fun c5 => ?_)
        · rw [if_neg c5] at hf
          refine lv_aload_n hx hb dX12_fitOf_157 rfl (lv_at hl 0 rfl) ?_
          refine gR C0 w 225 fk_X12_7 (by decide +kernel) dX12_fitOf_158 ?_
          refine lv_bipush (v := 8) hx hb dX12_fitOf_161 (by decide) ?_
          refine lv_iload hx hb dX12_fitOf_163 (lv_at hl 5 rfl) ?_
          refine lv_iadd hx hb dX12_fitOf_165 ?_
          obtain ⟨g6, hf⟩ := gdE hf
          refine aL C0 w (n := 200) (by decide +kernel) (inbE g6) dX12_fitOf_166 ?_
          refine lv_ladd hx hb dX12_fitOf_167 ?_
          refine lv_lstore_n (lv' := [(2, .long (x2 + (σ.2 225 (8 + x8).toNatClampNeg))), (0, .ref (wA B 224)), (1, .int x1), (4, .long x4), (6, .long x6), (8, .int x8)]) hx hb dX12_fitOf_168 rfl hl (by decide) rfl (fun ls hl => ?_)
          refine lv_iinc (k := 5) (v := x8 + 1) (lv' := [(8, .int (x8 + 1)), (2, .long (x2 + (σ.2 225 (8 + x8).toNatClampNeg))), (0, .ref (wA B 224)), (1, .int x1), (4, .long x4), (6, .long x6)]) hx hb dX12_fitOf_169 hl rfl (by rfl) (by decide) rfl (fun ls hl => ?_)
          refine lv_goto (tgt := 110) hx hb dX12_fitOf_172 (by decide) ?_
          exact ih (x2 + (σ.2 225 (8 + x8).toNatClampNeg)) (x8 + 1) σ _ _ _ _ hf w (lv_sub hl [2, 3, 1, 4, 5, 0] rfl) hK
        · rw [if_pos c5] at hf
          refine lv_aload_n hx hb dX12_fitOf_130 rfl (lv_at hl 0 rfl) ?_
          refine gR C0 w 225 fk_X12_7 (by decide +kernel) dX12_fitOf_131 ?_
          refine lv_bipush (v := 8) hx hb dX12_fitOf_134 (by decide) ?_
          refine lv_iload hx hb dX12_fitOf_136 (lv_at hl 5 rfl) ?_
          refine lv_iadd hx hb dX12_fitOf_138 ?_
          obtain ⟨g7, hf⟩ := gdE hf
          refine aL C0 w (n := 200) (by decide +kernel) (inbE g7) dX12_fitOf_139 ?_
          refine lv_aload_n hx hb dX12_fitOf_140 rfl (lv_at hl 0 rfl) ?_
          refine gR C0 w 225 fk_X12_7 (by decide +kernel) dX12_fitOf_141 ?_
          refine lv_bipush (v := 72) hx hb dX12_fitOf_144 (by decide) ?_
          refine lv_iload hx hb dX12_fitOf_146 (lv_at hl 5 rfl) ?_
          refine lv_iadd hx hb dX12_fitOf_148 ?_
          obtain ⟨g8, hf⟩ := gdE hf
          refine aL C0 w (n := 200) (by decide +kernel) (inbE g8) dX12_fitOf_149 ?_
          refine lv_lsub hx hb dX12_fitOf_150 ?_
          obtain ⟨q9, h10, hf⟩ := bdE hf
          refine cS (As := [.long ((σ.2 225 (8 + x8).toNatClampNeg) - (σ.2 225 (72 + x8).toNatClampNeg))]) (rest := [.long x2]) C0 w (m_X12_abs l B _ σ ((σ.2 225 (8 + x8).toNatClampNeg) - (σ.2 225 (72 + x8).toNatClampNeg)) q9 h10) ky_X12_abs ks_X12_abs lk_X12_214 ⟨Nat.le_of_ble_eq_true rfl, Nat.le_of_ble_eq_true rfl⟩ ⟨Nat.le_of_ble_eq_true rfl, Nat.le_of_ble_eq_true rfl⟩ rfl (by rfl) (Nat.le_of_ble_eq_true rfl) hl.1 dX12_fitOf_151 (fun H locs w => ?_)
          refine lv_goto (tgt := 167) hx hb dX12_fitOf_154 (by decide) ?_
          refine lv_ladd hx hb dX12_fitOf_167 ?_
          refine lv_lstore_n (lv' := [(2, .long (x2 + q9)), (0, .ref (wA B 224)), (1, .int x1), (4, .long x4), (6, .long x6), (8, .int x8)]) hx hb dX12_fitOf_168 rfl hl (by decide) rfl (fun ls hl => ?_)
          refine lv_iinc (k := 5) (v := x8 + 1) (lv' := [(8, .int (x8 + 1)), (2, .long (x2 + q9)), (0, .ref (wA B 224)), (1, .int x1), (4, .long x4), (6, .long x6)]) hx hb dX12_fitOf_169 hl rfl (by rfl) (by decide) rfl (fun ls hl => ?_)
          refine lv_goto (tgt := 110) hx hb dX12_fitOf_172 (by decide) ?_
          exact ih (x2 + q9) (x8 + 1) σ _ _ _ _ hf w (lv_sub hl [2, 3, 1, 4, 5, 0] rfl) hK
set_option maxHeartbeats 4000000 in
set_option maxRecDepth 100000 in
theorem lp_X12_fitOf_13 {p : Program} {e : Env} {s : State} {m : MethodId} {args : Array Value} {below : List Frame} {meth : Method} {c : Code} {Q : State → Prop} (l : Launch) (B : Wb) (C0 : Cx p s m args meth c cX12_fitOf 11 RX12) (x1 : Int32) : ∀ (n : Nat) (x2 : Int64) (x4 : Int64) (x6 : Int64) (x8 : Int32) (σ : Mem) (o : Int64 × Int64 × Int64 × Mem) (H : Heap) (locs : List Loc) (ls : Array Slot), f_X12_fitOf_13 x1 n x2 x4 x6 x8 σ = some o → Wx B σ s H locs → lv_has ls 11 [(0, .ref (wA B 224)), (1, .int x1), (2, .long x2), (4, .long x4), (6, .long x6), (8, .int x8)] → (∀ (H : Heap) (locs : List Loc) (ls : Array Slot), Wx B o.2.2.2 s H locs → lv_has ls 11 [(0, .ref (wA B 224)), (1, .int x1), (2, .long o.1), (4, .long o.2.1), (6, .long o.2.2.1)] → W p l e rm_X12_fitOf s m args below meth c H locs 0 0 Q (F0 m 107 ls [])) → W p l e rm_X12_fitOf s m args below meth c H locs 0 0 Q (F0 m 13 ls []) := by
  have hx := C0.1.1
  have hb := C0.1.2.1
  intro n
  induction n with
  | zero =>
    intro x2 x4 x6 x8 σ o H locs ls hf w hl hK
    cases hf
  | succ n ih =>
    intro x2 x4 x6 x8 σ o H locs ls hf w hl hK
    rw [f_X12_fitOf_13] at hf
    refine lv_iload hx hb dX12_fitOf_13 (lv_at hl 5 rfl) ?_
    refine lv_i2l hx hb dX12_fitOf_15 rfl ?_
    refine lv_aload_n hx hb dX12_fitOf_16 rfl (lv_at hl 0 rfl) ?_
    refine gR C0 w 225 fk_X12_7 (by decide +kernel) dX12_fitOf_17 ?_
    refine lv_bipush (v := 7) hx hb dX12_fitOf_20 (by decide) ?_
    refine aL C0 w (n := 200) (by decide +kernel) (inbE (by decide)) dX12_fitOf_22 ?_
    refine lc_ge (tgt := 107) C0 dX12_fitOf_23 dX12_fitOf_24 (by decide) (fun c2 => ?_) (fun c2 => ?_)
    · rw [if_pos c2] at hf
      obtain rfl := Option.some.inj hf
      exact hK _ _ _ w (lv_sub hl [0, 1, 2, 3, 4] rfl)
    · rw [if_neg c2] at hf
      refine lv_iload_n hx hb dX12_fitOf_27 rfl (lv_at hl 1 rfl) ?_
      refine lv_iconst (v := 3) hx hb dX12_fitOf_28 (by decide) ?_
      refine lv_icmp_ge (tgt := 107) hx hb dX12_fitOf_29 (by decide) (fun c3 => ?_) (fun c3 => ?_)
      · rw [if_pos c3] at hf
        obtain rfl := Option.some.inj hf
        exact hK _ _ _ w (lv_sub hl [0, 1, 2, 3, 4] rfl)
      · rw [if_neg c3] at hf
        refine lv_aload_n hx hb dX12_fitOf_32 rfl (lv_at hl 0 rfl) ?_
        refine lv_iload hx hb dX12_fitOf_33 (lv_at hl 5 rfl) ?_
        obtain ⟨q4, h5, hf⟩ := bdE hf
        refine cV (As := [.int x8]) (rest := []) (k := 224) (ci := 10) (T := TX12) (N := 22) C0 w (m_X12_isActive l B _ σ x8 q4 h5) ky_X12_isActive kv_X12_isActive lk_X12_89 rfl (by decide +kernel) ⟨Nat.le_of_ble_eq_true rfl, Nat.le_of_ble_eq_true rfl⟩ ⟨Nat.le_of_ble_eq_true rfl, Nat.le_of_ble_eq_true rfl⟩ rfl (by rfl) (Nat.le_of_ble_eq_true rfl) hl.1 dX12_fitOf_35 (fun H locs w => ?_)
        refine lv_if_eq (tgt := 101) hx hb dX12_fitOf_38 (by decide) (fun c6 => ?_) (fun c6 => ?_)
        · rw [if_pos c6] at hf
          refine lv_iinc (k := 5) (v := x8 + 1) (lv' := [(8, .int (x8 + 1)), (0, .ref (wA B 224)), (1, .int x1), (2, .long x2), (4, .long x4), (6, .long x6)]) hx hb dX12_fitOf_101 hl rfl (by rfl) (by decide) rfl (fun ls hl => ?_)
          refine lv_goto (tgt := 13) hx hb dX12_fitOf_104 (by decide) ?_
          exact ih x2 x4 x6 (x8 + 1) σ _ _ _ _ hf w (lv_sub hl [1, 2, 3, 4, 5, 0] rfl) hK
        · rw [if_neg c6] at hf
          refine lv_aload_n hx hb dX12_fitOf_41 rfl (lv_at hl 0 rfl) ?_
          refine lv_iload hx hb dX12_fitOf_42 (lv_at hl 5 rfl) ?_
          obtain ⟨q7, h8, hf⟩ := bdE hf
          refine cV (As := [.int x8]) (rest := []) (k := 224) (ci := 10) (T := TX12) (N := 22) C0 w (m_X12_residualOf l B _ σ x8 q7 h8) ky_X12_residualOf kv_X12_residualOf lk_X12_211 rfl (by decide +kernel) ⟨Nat.le_of_ble_eq_true rfl, Nat.le_of_ble_eq_true rfl⟩ ⟨Nat.le_of_ble_eq_true rfl, Nat.le_of_ble_eq_true rfl⟩ rfl (by rfl) (Nat.le_of_ble_eq_true rfl) hl.1 dX12_fitOf_44 (fun H locs w => ?_)
          obtain ⟨q9, h10, hf⟩ := bdE hf
          refine cS (As := [.long q7.1]) (rest := []) C0 w (m_X12_abs l B _ q7.2 q7.1 q9 h10) ky_X12_abs ks_X12_abs lk_X12_214 ⟨Nat.le_of_ble_eq_true rfl, Nat.le_of_ble_eq_true rfl⟩ ⟨Nat.le_of_ble_eq_true rfl, Nat.le_of_ble_eq_true rfl⟩ rfl (by rfl) (Nat.le_of_ble_eq_true rfl) hl.1 dX12_fitOf_47 (fun H locs w => ?_)
          refine lv_lstore (lv' := [(9, .long q9), (0, .ref (wA B 224)), (1, .int x1), (2, .long x2), (4, .long x4), (6, .long x6), (8, .int x8)]) hx hb dX12_fitOf_50 hl (by decide) rfl (fun ls hl => ?_)
          refine lv_lload hx hb dX12_fitOf_52 (lv_at hl 5 rfl) ?_
          refine kLg C0 (-1) kc_X12_87 dX12_fitOf_54 ?_
          refine lc_eq (tgt := 69) C0 dX12_fitOf_57 dX12_fitOf_58 (by decide) (fun c11 => ?_) (fun c11 => ?_)
          · rw [if_pos c11] at hf
            refine lv_iload hx hb dX12_fitOf_69 (lv_at hl 6 rfl) ?_
            refine lv_i2l hx hb dX12_fitOf_71 rfl ?_
            refine lv_goto (tgt := 77) hx hb dX12_fitOf_72 (by decide) ?_
            refine lv_lstore (lv' := [(6, .long x8.toInt64), (9, .long q9), (0, .ref (wA B 224)), (1, .int x1), (2, .long x2), (4, .long x4), (8, .int x8)]) hx hb dX12_fitOf_77 hl (by decide) rfl (fun ls hl => ?_)
            refine lv_lload hx hb dX12_fitOf_79 (lv_at hl 1 rfl) ?_
            refine lv_lload hx hb dX12_fitOf_81 (lv_at hl 5 rfl) ?_
            refine lc_le (tgt := 92) C0 dX12_fitOf_83 dX12_fitOf_84 (by decide) (fun c12 => ?_) (fun c12 => ?_)
            · rw [if_pos c12] at hf
              refine lv_lload hx hb dX12_fitOf_92 (lv_at hl 5 rfl) ?_
              refine lv_lstore (lv' := [(4, .long x4), (6, .long x8.toInt64), (9, .long q9), (0, .ref (wA B 224)), (1, .int x1), (2, .long x2), (8, .int x8)]) hx hb dX12_fitOf_94 hl (by decide) rfl (fun ls hl => ?_)
              refine lv_lload_n hx hb dX12_fitOf_96 rfl (lv_at hl 5 rfl) ?_
              refine lv_lload hx hb dX12_fitOf_97 (lv_at hl 2 rfl) ?_
              refine lv_ladd hx hb dX12_fitOf_99 ?_
              refine lv_lstore_n (lv' := [(2, .long (x2 + q9)), (4, .long x4), (6, .long x8.toInt64), (9, .long q9), (0, .ref (wA B 224)), (1, .int x1), (8, .int x8)]) hx hb dX12_fitOf_100 rfl hl (by decide) rfl (fun ls hl => ?_)
              refine lv_iinc (k := 6) (v := x8 + 1) (lv' := [(8, .int (x8 + 1)), (2, .long (x2 + q9)), (4, .long x4), (6, .long x8.toInt64), (9, .long q9), (0, .ref (wA B 224)), (1, .int x1)]) hx hb dX12_fitOf_101 hl rfl (by rfl) (by decide) rfl (fun ls hl => ?_)
              refine lv_goto (tgt := 13) hx hb dX12_fitOf_104 (by decide) ?_
              exact ih (x2 + q9) x4 x8.toInt64 (x8 + 1) q7.2 _ _ _ _ hf w (lv_sub hl [5, 6, 1, 2, 3, 0] rfl) hK
            · rw [if_neg c12] at hf
              refine lv_lload hx hb dX12_fitOf_87 (lv_at hl 1 rfl) ?_
              refine lv_goto (tgt := 94) hx hb dX12_fitOf_89 (by decide) ?_
              refine lv_lstore (lv' := [(4, .long q9), (6, .long x8.toInt64), (9, .long q9), (0, .ref (wA B 224)), (1, .int x1), (2, .long x2), (8, .int x8)]) hx hb dX12_fitOf_94 hl (by decide) rfl (fun ls hl => ?_)
              refine lv_lload_n hx hb dX12_fitOf_96 rfl (lv_at hl 5 rfl) ?_
              refine lv_lload hx hb dX12_fitOf_97 (lv_at hl 2 rfl) ?_
              refine lv_ladd hx hb dX12_fitOf_99 ?_
              refine lv_lstore_n (lv' := [(2, .long (x2 + q9)), (4, .long q9), (6, .long x8.toInt64), (9, .long q9), (0, .ref (wA B 224)), (1, .int x1), (8, .int x8)]) hx hb dX12_fitOf_100 rfl hl (by decide) rfl (fun ls hl => ?_)
              refine lv_iinc (k := 6) (v := x8 + 1) (lv' := [(8, .int (x8 + 1)), (2, .long (x2 + q9)), (4, .long q9), (6, .long x8.toInt64), (9, .long q9), (0, .ref (wA B 224)), (1, .int x1)]) hx hb dX12_fitOf_101 hl rfl (by rfl) (by decide) rfl (fun ls hl => ?_)
              refine lv_goto (tgt := 13) hx hb dX12_fitOf_104 (by decide) ?_
              exact ih (x2 + q9) q9 x8.toInt64 (x8 + 1) q7.2 _ _ _ _ hf w (lv_sub hl [5, 6, 1, 2, 3, 0] rfl) hK
          · rw [if_neg c11] at hf
            refine lv_lload hx hb dX12_fitOf_61 (lv_at hl 0 rfl) ?_
            refine lv_lload hx hb dX12_fitOf_63 (lv_at hl 4 rfl) ?_
            refine lc_le (tgt := 75) C0 dX12_fitOf_65 dX12_fitOf_66 (by decide) (fun c13 => ?_) (fun c13 => ?_)
            · rw [if_pos c13] at hf
              refine lv_lload hx hb dX12_fitOf_75 (lv_at hl 5 rfl) ?_
              refine lv_lstore (lv' := [(6, .long x6), (9, .long q9), (0, .ref (wA B 224)), (1, .int x1), (2, .long x2), (4, .long x4), (8, .int x8)]) hx hb dX12_fitOf_77 hl (by decide) rfl (fun ls hl => ?_)
              refine lv_lload hx hb dX12_fitOf_79 (lv_at hl 1 rfl) ?_
              refine lv_lload hx hb dX12_fitOf_81 (lv_at hl 5 rfl) ?_
              refine lc_le (tgt := 92) C0 dX12_fitOf_83 dX12_fitOf_84 (by decide) (fun c14 => ?_) (fun c14 => ?_)
              · rw [if_pos c14] at hf
                refine lv_lload hx hb dX12_fitOf_92 (lv_at hl 5 rfl) ?_
                refine lv_lstore (lv' := [(4, .long x4), (6, .long x6), (9, .long q9), (0, .ref (wA B 224)), (1, .int x1), (2, .long x2), (8, .int x8)]) hx hb dX12_fitOf_94 hl (by decide) rfl (fun ls hl => ?_)
                refine lv_lload_n hx hb dX12_fitOf_96 rfl (lv_at hl 5 rfl) ?_
                refine lv_lload hx hb dX12_fitOf_97 (lv_at hl 2 rfl) ?_
                refine lv_ladd hx hb dX12_fitOf_99 ?_
                refine lv_lstore_n (lv' := [(2, .long (x2 + q9)), (4, .long x4), (6, .long x6), (9, .long q9), (0, .ref (wA B 224)), (1, .int x1), (8, .int x8)]) hx hb dX12_fitOf_100 rfl hl (by decide) rfl (fun ls hl => ?_)
                refine lv_iinc (k := 6) (v := x8 + 1) (lv' := [(8, .int (x8 + 1)), (2, .long (x2 + q9)), (4, .long x4), (6, .long x6), (9, .long q9), (0, .ref (wA B 224)), (1, .int x1)]) hx hb dX12_fitOf_101 hl rfl (by rfl) (by decide) rfl (fun ls hl => ?_)
                refine lv_goto (tgt := 13) hx hb dX12_fitOf_104 (by decide) ?_
                exact ih (x2 + q9) x4 x6 (x8 + 1) q7.2 _ _ _ _ hf w (lv_sub hl [5, 6, 1, 2, 3, 0] rfl) hK
              · rw [if_neg c14] at hf
                refine lv_lload hx hb dX12_fitOf_87 (lv_at hl 1 rfl) ?_
                refine lv_goto (tgt := 94) hx hb dX12_fitOf_89 (by decide) ?_
                refine lv_lstore (lv' := [(4, .long q9), (6, .long x6), (9, .long q9), (0, .ref (wA B 224)), (1, .int x1), (2, .long x2), (8, .int x8)]) hx hb dX12_fitOf_94 hl (by decide) rfl (fun ls hl => ?_)
                refine lv_lload_n hx hb dX12_fitOf_96 rfl (lv_at hl 5 rfl) ?_
                refine lv_lload hx hb dX12_fitOf_97 (lv_at hl 2 rfl) ?_
                refine lv_ladd hx hb dX12_fitOf_99 ?_
                refine lv_lstore_n (lv' := [(2, .long (x2 + q9)), (4, .long q9), (6, .long x6), (9, .long q9), (0, .ref (wA B 224)), (1, .int x1), (8, .int x8)]) hx hb dX12_fitOf_100 rfl hl (by decide) rfl (fun ls hl => ?_)
                refine lv_iinc (k := 6) (v := x8 + 1) (lv' := [(8, .int (x8 + 1)), (2, .long (x2 + q9)), (4, .long q9), (6, .long x6), (9, .long q9), (0, .ref (wA B 224)), (1, .int x1)]) hx hb dX12_fitOf_101 hl rfl (by rfl) (by decide) rfl (fun ls hl => ?_)
                refine lv_goto (tgt := 13) hx hb dX12_fitOf_104 (by decide) ?_
                exact ih (x2 + q9) q9 x6 (x8 + 1) q7.2 _ _ _ _ hf w (lv_sub hl [5, 6, 1, 2, 3, 0] rfl) hK
            · rw [if_neg c13] at hf
              refine lv_iload hx hb dX12_fitOf_69 (lv_at hl 6 rfl) ?_
              refine lv_i2l hx hb dX12_fitOf_71 rfl ?_
              refine lv_goto (tgt := 77) hx hb dX12_fitOf_72 (by decide) ?_
              refine lv_lstore (lv' := [(6, .long x8.toInt64), (9, .long q9), (0, .ref (wA B 224)), (1, .int x1), (2, .long x2), (4, .long x4), (8, .int x8)]) hx hb dX12_fitOf_77 hl (by decide) rfl (fun ls hl => ?_)
              refine lv_lload hx hb dX12_fitOf_79 (lv_at hl 1 rfl) ?_
              refine lv_lload hx hb dX12_fitOf_81 (lv_at hl 5 rfl) ?_
              refine lc_le (tgt := 92) C0 dX12_fitOf_83 dX12_fitOf_84 (by decide) (fun c15 => ?_) (fun c15 => ?_)
              · rw [if_pos c15] at hf
                refine lv_lload hx hb dX12_fitOf_92 (lv_at hl 5 rfl) ?_
                refine lv_lstore (lv' := [(4, .long x4), (6, .long x8.toInt64), (9, .long q9), (0, .ref (wA B 224)), (1, .int x1), (2, .long x2), (8, .int x8)]) hx hb dX12_fitOf_94 hl (by decide) rfl (fun ls hl => ?_)
                refine lv_lload_n hx hb dX12_fitOf_96 rfl (lv_at hl 5 rfl) ?_
                refine lv_lload hx hb dX12_fitOf_97 (lv_at hl 2 rfl) ?_
                refine lv_ladd hx hb dX12_fitOf_99 ?_
                refine lv_lstore_n (lv' := [(2, .long (x2 + q9)), (4, .long x4), (6, .long x8.toInt64), (9, .long q9), (0, .ref (wA B 224)), (1, .int x1), (8, .int x8)]) hx hb dX12_fitOf_100 rfl hl (by decide) rfl (fun ls hl => ?_)
                refine lv_iinc (k := 6) (v := x8 + 1) (lv' := [(8, .int (x8 + 1)), (2, .long (x2 + q9)), (4, .long x4), (6, .long x8.toInt64), (9, .long q9), (0, .ref (wA B 224)), (1, .int x1)]) hx hb dX12_fitOf_101 hl rfl (by rfl) (by decide) rfl (fun ls hl => ?_)
                refine lv_goto (tgt := 13) hx hb dX12_fitOf_104 (by decide) ?_
                exact ih (x2 + q9) x4 x8.toInt64 (x8 + 1) q7.2 _ _ _ _ hf w (lv_sub hl [5, 6, 1, 2, 3, 0] rfl) hK
              · rw [if_neg c15] at hf
                refine lv_lload hx hb dX12_fitOf_87 (lv_at hl 1 rfl) ?_
                refine lv_goto (tgt := 94) hx hb dX12_fitOf_89 (by decide) ?_
                refine lv_lstore (lv' := [(4, .long q9), (6, .long x8.toInt64), (9, .long q9), (0, .ref (wA B 224)), (1, .int x1), (2, .long x2), (8, .int x8)]) hx hb dX12_fitOf_94 hl (by decide) rfl (fun ls hl => ?_)
                refine lv_lload_n hx hb dX12_fitOf_96 rfl (lv_at hl 5 rfl) ?_
                refine lv_lload hx hb dX12_fitOf_97 (lv_at hl 2 rfl) ?_
                refine lv_ladd hx hb dX12_fitOf_99 ?_
                refine lv_lstore_n (lv' := [(2, .long (x2 + q9)), (4, .long q9), (6, .long x8.toInt64), (9, .long q9), (0, .ref (wA B 224)), (1, .int x1), (8, .int x8)]) hx hb dX12_fitOf_100 rfl hl (by decide) rfl (fun ls hl => ?_)
                refine lv_iinc (k := 6) (v := x8 + 1) (lv' := [(8, .int (x8 + 1)), (2, .long (x2 + q9)), (4, .long q9), (6, .long x8.toInt64), (9, .long q9), (0, .ref (wA B 224)), (1, .int x1)]) hx hb dX12_fitOf_101 hl rfl (by rfl) (by decide) rfl (fun ls hl => ?_)
                refine lv_goto (tgt := 13) hx hb dX12_fitOf_104 (by decide) ?_
                exact ih (x2 + q9) q9 x8.toInt64 (x8 + 1) q7.2 _ _ _ _ hf w (lv_sub hl [5, 6, 1, 2, 3, 0] rfl) hK
set_option maxHeartbeats 4000000 in
set_option maxRecDepth 100000 in
theorem m_X12_fitOf (l : Launch) (B : Wb) (sz : Nat) (σ : Mem) (x1 : Int32) (q : Int64 × Mem) (hf : f_X12_fitOf x1 σ = some q) : MetC l yX12_fitOf cX12_fitOf 11 (some .long) rm_X12_fitOf B sz σ q.2 [.ref (wA B 224), .int x1] (some (.long q.1)) := by
  refine met_in (by decide +kernel) (Nat.le_of_ble_eq_true rfl) ?_
  intro p e s m below meth c C0 hr w hsz ls hl
  have hx := C0.1.1
  have hb := C0.1.2.1
  unfold f_X12_fitOf at hf
  refine lv_lconst (v := 0) hx hb dX12_fitOf_0 (by decide) ?_
  refine lv_lstore_n (lv' := [(2, .long 0), (0, .ref (wA B 224)), (1, .int x1)]) hx hb dX12_fitOf_1 rfl hl (by decide) rfl (fun ls hl => ?_)
  refine lv_lconst (v := 0) hx hb dX12_fitOf_2 (by decide) ?_
  refine lv_lstore (lv' := [(4, .long 0), (2, .long 0), (0, .ref (wA B 224)), (1, .int x1)]) hx hb dX12_fitOf_3 hl (by decide) rfl (fun ls hl => ?_)
  refine kLg C0 (-1) kc_X12_87 dX12_fitOf_5 ?_
  refine lv_lstore (lv' := [(6, .long ((-1 : Int64))), (4, .long 0), (2, .long 0), (0, .ref (wA B 224)), (1, .int x1)]) hx hb dX12_fitOf_8 hl (by decide) rfl (fun ls hl => ?_)
  refine lv_iconst (v := 0) hx hb dX12_fitOf_10 (by decide) ?_
  refine lv_istore (lv' := [(8, .int 0), (6, .long ((-1 : Int64))), (4, .long 0), (2, .long 0), (0, .ref (wA B 224)), (1, .int x1)]) hx hb dX12_fitOf_11 hl (by decide) rfl (fun ls hl => ?_)
  obtain ⟨q1, h2, hf⟩ := bdE hf
  refine lp_X12_fitOf_13 l B C0 x1 100000 0 0 ((-1 : Int64)) 0 σ q1 _ _ _ h2 w (lv_sub hl [4, 5, 3, 2, 1, 0] rfl) (fun H locs ls w hl => ?_)
  refine lv_iconst (v := 0) hx hb dX12_fitOf_107 (by decide) ?_
  refine lv_istore (lv' := [(8, .int 0), (0, .ref (wA B 224)), (1, .int x1), (2, .long q1.1), (4, .long q1.2.1), (6, .long q1.2.2.1)]) hx hb dX12_fitOf_108 hl (by decide) rfl (fun ls hl => ?_)
  obtain ⟨q3, h4, hf⟩ := bdE hf
  refine lp_X12_fitOf_110 l B C0 x1 q1.2.1 q1.2.2.1 100000 q1.1 0 q1.2.2.2 q3 _ _ _ h4 w (lv_sub hl [1, 2, 3, 4, 5, 0] rfl) (fun H locs ls w hl => ?_)
  refine lv_iload_n hx hb dX12_fitOf_175 rfl (lv_at hl 0 rfl) ?_
  refine lv_iconst (v := 1) hx hb dX12_fitOf_176 (by decide) ?_
  refine lv_icmp_ne (tgt := 185) hx hb dX12_fitOf_177 (by decide) (fun c5 => ?_) (fun c5 => ?_)
  · rw [if_neg c5] at hf
    refine lv_iload_n hx hb dX12_fitOf_185 rfl (lv_at hl 0 rfl) ?_
    refine lv_iconst (v := 2) hx hb dX12_fitOf_186 (by decide) ?_
    refine lv_icmp_ne (tgt := 195) hx hb dX12_fitOf_187 (by decide) (fun c6 => ?_) (fun c6 => ?_)
    · rw [if_neg c6] at hf
      refine lv_lload_n hx hb dX12_fitOf_195 rfl (lv_at hl 1 rfl) ?_
      obtain rfl := Option.some.inj hf
      exact eL C0 hr w dX12_fitOf_196
    · rw [if_pos c6] at hf
      refine lv_lload hx hb dX12_fitOf_190 (lv_at hl 3 rfl) ?_
      refine lv_goto (tgt := 196) hx hb dX12_fitOf_192 (by decide) ?_
      obtain rfl := Option.some.inj hf
      exact eL C0 hr w dX12_fitOf_196
  · rw [if_pos c5] at hf
    refine lv_lload hx hb dX12_fitOf_180 (lv_at hl 2 rfl) ?_
    refine lv_goto (tgt := 196) hx hb dX12_fitOf_182 (by decide) ?_
    obtain rfl := Option.some.inj hf
    exact eL C0 hr w dX12_fitOf_196
