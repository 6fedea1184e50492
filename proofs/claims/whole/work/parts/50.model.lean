def f_X12_thrown (σ : Mem) : Option (Int32) :=
  some (σ.1 224 5)
abbrev rm_X12_thrown : Room := { frames := 0, cells := 0, slots := 0, locals := 0 }
set_option maxHeartbeats 4000000 in
set_option maxRecDepth 100000 in
theorem m_X12_thrown (l : Launch) (B : Wb) (sz : Nat) (σ : Mem) (q : Int32) (hf : f_X12_thrown σ = some q) : MetC l yX12_thrown cX12_thrown 1 (some .int) rm_X12_thrown B sz σ σ [.ref (wA B 224)] (some (.int q)) := by
  refine met_in (by decide +kernel) (Nat.le_of_ble_eq_true rfl) ?_
  intro p e s m below meth c C0 hr w hsz ls hl
  have hx := C0.1.1
  have hb := C0.1.2.1
  unfold f_X12_thrown at hf
  refine lv_aload_n hx hb dX12_thrown_0 rfl (lv_at hl 0 rfl) ?_
  refine gI C0 w fk_X12_62 (by decide +kernel) dX12_thrown_1 ?_
  obtain rfl := Option.some.inj hf
  exact eI C0 hr w rfl dX12_thrown_4
def f_X12_in (x0 : Int64) (x2 : Int64) (x4 : Int64) (σ : Mem) : Option (Int32) :=
  if x0 < x2 then (
    some 0)
  else (
    if x4 < x0 then (
      some 0)
    else (
      some 1))
abbrev rm_X12_in : Room := { frames := 0, cells := 0, slots := 0, locals := 0 }
set_option maxHeartbeats 4000000 in
set_option maxRecDepth 100000 in
theorem m_X12_in (l : Launch) (B : Wb) (sz : Nat) (σ : Mem) (x0 : Int64) (x2 : Int64) (x4 : Int64) (q : Int32) (hf : f_X12_in x0 x2 x4 σ = some q) : MetC l yX12_in cX12_in 6 (some .boolean) rm_X12_in B sz σ σ [.long x0, .long x2, .long x4] (some (.int q)) := by
  refine met_in (by decide +kernel) (Nat.le_of_ble_eq_true rfl) ?_
  intro p e s m below meth c C0 hr w hsz ls hl
  have hx := C0.1.1
  have hb := C0.1.2.1
  unfold f_X12_in at hf
  refine lv_lload_n hx hb dX12_in_0 rfl (lv_at hl 0 rfl) ?_
  refine lv_lload_n hx hb dX12_in_1 rfl (lv_at hl 1 rfl) ?_
  refine lc_lt (tgt := 17) C0 dX12_in_2 dX12_in_3 (by decide) (fun c1 => ?_) (fun c1 => ?_)
  · rw [if_pos c1] at hf
    refine lv_iconst (v := 0) hx hb dX12_in_17 (by decide) ?_
    obtain rfl := Option.some.inj hf
    exact eI C0 hr w (bzE (x := 0) (by decide)) dX12_in_18
  · rw [if_neg c1] at hf
    refine lv_lload_n hx hb dX12_in_6 rfl (lv_at hl 0 rfl) ?_
    refine lv_lload hx hb dX12_in_7 (lv_at hl 2 rfl) ?_
    refine lc_gt (tgt := 17) C0 dX12_in_9 dX12_in_10 (by decide) (fun c2 => ?_) (fun c2 => ?_)
    · rw [if_pos c2] at hf
      refine lv_iconst (v := 0) hx hb dX12_in_17 (by decide) ?_
      obtain rfl := Option.some.inj hf
      exact eI C0 hr w (bzE (x := 0) (by decide)) dX12_in_18
    · rw [if_neg c2] at hf
      refine lv_iconst (v := 1) hx hb dX12_in_13 (by decide) ?_
      refine lv_goto (tgt := 18) hx hb dX12_in_14 (by decide) ?_
      obtain rfl := Option.some.inj hf
      exact eI C0 hr w (bzE (x := 1) (by decide)) dX12_in_18
def f_X12_keep_10 : Nat → Int32 → Mem → Option (Mem)
  | 0, _, _ => none
  | n + 1, x1, σ =>
    if 600 ≤ x1 then (
      some σ)
    else (
      gd (inb (x1 + 200) 800) (
      gd (inb x1 800) (
      f_X12_keep_10 n (x1 + 1) (setL σ 226 x1.toNatClampNeg (σ.2 226 (x1 + 200).toNatClampNeg)))))
def f_X12_keep_51 : Nat → Int32 → Mem → Option (Mem)
  | 0, _, _ => none
  | n + 1, x1, σ =>
    if 200 ≤ x1 then (
      some σ)
    else (
      gd (inb x1 200) (
      gd (inb ((200 * (σ.1 224 2)) + x1) 800) (
      f_X12_keep_51 n (x1 + 1) (setL σ 226 (((200 * (σ.1 224 2)) + x1).toNatClampNeg) (σ.2 225 x1.toNatClampNeg)))))
def f_X12_keep (σ : Mem) : Option (Mem) :=
  if (σ.1 224 2) = 4 then (
    bd (f_X12_keep_10 100000 0 σ) (fun q4 =>
    bd (f_X12_keep_51 100000 0 (setI q4 224 2 ((q4.1 224 2) - 1))) (fun q6 =>
    some (setI q6 224 2 ((q6.1 224 2) + 1)))))
  else (
    bd (f_X12_keep_51 100000 0 σ) (fun q2 =>
    some (setI q2 224 2 ((q2.1 224 2) + 1))))
abbrev rm_X12_keep : Room := { frames := 0, cells := 0, slots := 0, locals := 0 }
set_option maxHeartbeats 4000000 in
set_option maxRecDepth 100000 in
theorem lp_X12_keep_10 {p : Program} {e : Env} {s : State} {m : MethodId} {args : Array Value} {below : List Frame} {meth : Method} {c : Code} {Q : State → Prop} (l : Launch) (B : Wb) (C0 : Cx p s m args meth c cX12_keep 2 RX12) : ∀ (n : Nat) (x1 : Int32) (σ : Mem) (o : Mem) (H : Heap) (locs : List Loc) (ls : Array Slot), f_X12_keep_10 n x1 σ = some o → Wx B σ s H locs → lv_has ls 2 [(0, .ref (wA B 224)), (1, .int x1)] → (∀ (H : Heap) (locs : List Loc) (ls : Array Slot), Wx B o s H locs → lv_has ls 2 [(0, .ref (wA B 224))] → W p l e rm_X12_keep s m args below meth c H locs 0 0 Q (F0 m 39 ls [])) → W p l e rm_X12_keep s m args below meth c H locs 0 0 Q (F0 m 10 ls []) := by
  have hx := C0.1.1
  have hb := C0.1.2.1
  intro n
  induction n with
  | zero =>
    intro x1 σ o H locs ls hf w hl hK
    cases hf
  | succ n ih =>
    intro x1 σ o H locs ls hf w hl hK
    rw [f_X12_keep_10] at hf
    refine lv_iload_n hx hb dX12_keep_10 rfl (lv_at hl 1 rfl) ?_
    refine lv_sipush (v := 600) hx hb dX12_keep_11 (by decide) ?_
    refine lv_icmp_ge (tgt := 39) hx hb dX12_keep_14 (by decide) (fun c1 => ?_) (fun c1 => ?_)
    · rw [if_pos c1] at hf
      obtain rfl := Option.some.inj hf
      exact hK _ _ _ w (lv_sub hl [0] rfl)
    · rw [if_neg c1] at hf
      refine lv_aload_n hx hb dX12_keep_17 rfl (lv_at hl 0 rfl) ?_
      refine gR C0 w 226 fk_X12_13 (by decide +kernel) dX12_keep_18 ?_
      refine lv_iload_n hx hb dX12_keep_21 rfl (lv_at hl 1 rfl) ?_
      refine lv_aload_n hx hb dX12_keep_22 rfl (lv_at hl 0 rfl) ?_
      refine gR C0 w 226 fk_X12_13 (by decide +kernel) dX12_keep_23 ?_
      refine lv_iload_n hx hb dX12_keep_26 rfl (lv_at hl 1 rfl) ?_
      refine lv_sipush (v := 200) hx hb dX12_keep_27 (by decide) ?_
      refine lv_iadd hx hb dX12_keep_30 ?_
      obtain ⟨g2, hf⟩ := gdE hf
      refine aL C0 w (n := 800) (by decide +kernel) (inbE g2) dX12_keep_31 ?_
      obtain ⟨g3, hf⟩ := gdE hf
      refine sL C0 w (n := 800) (by decide +kernel) (inbE g3) dX12_keep_32 (fun H locs w => ?_)
      refine lv_iinc (k := 1) (v := x1 + 1) (lv' := [(1, .int (x1 + 1)), (0, .ref (wA B 224))]) hx hb dX12_keep_33 hl rfl (by rfl) (by decide) rfl (fun ls hl => ?_)
      refine lv_goto (tgt := 10) hx hb dX12_keep_36 (by decide) ?_
      exact ih (x1 + 1) (setL σ 226 x1.toNatClampNeg (σ.2 226 (x1 + 200).toNatClampNeg)) _ _ _ _ hf w (lv_sub hl [1, 0] rfl) hK
set_option maxHeartbeats 4000000 in
set_option maxRecDepth 100000 in
theorem lp_X12_keep_51 {p : Program} {e : Env} {s : State} {m : MethodId} {args : Array Value} {below : List Frame} {meth : Method} {c : Code} {Q : State → Prop} (l : Launch) (B : Wb) (C0 : Cx p s m args meth c cX12_keep 2 RX12) : ∀ (n : Nat) (x1 : Int32) (σ : Mem) (o : Mem) (H : Heap) (locs : List Loc) (ls : Array Slot), f_X12_keep_51 n x1 σ = some o → Wx B σ s H locs → lv_has ls 2 [(0, .ref (wA B 224)), (1, .int x1)] → (∀ (H : Heap) (locs : List Loc) (ls : Array Slot), Wx B o s H locs → lv_has ls 2 [(0, .ref (wA B 224))] → W p l e rm_X12_keep s m args below meth c H locs 0 0 Q (F0 m 85 ls [])) → W p l e rm_X12_keep s m args below meth c H locs 0 0 Q (F0 m 51 ls []) := by
  have hx := C0.1.1
  have hb := C0.1.2.1
  intro n
  induction n with
  | zero =>
    intro x1 σ o H locs ls hf w hl hK
    cases hf
  | succ n ih =>
    intro x1 σ o H locs ls hf w hl hK
    rw [f_X12_keep_51] at hf
    refine lv_iload_n hx hb dX12_keep_51 rfl (lv_at hl 1 rfl) ?_
    refine lv_sipush (v := 200) hx hb dX12_keep_52 (by decide) ?_
    refine lv_icmp_ge (tgt := 85) hx hb dX12_keep_55 (by decide) (fun c1 => ?_) (fun c1 => ?_)
    · rw [if_pos c1] at hf
      obtain rfl := Option.some.inj hf
      exact hK _ _ _ w (lv_sub hl [0] rfl)
    · rw [if_neg c1] at hf
      refine lv_aload_n hx hb dX12_keep_58 rfl (lv_at hl 0 rfl) ?_
      refine gR C0 w 226 fk_X12_13 (by decide +kernel) dX12_keep_59 ?_
      refine lv_sipush (v := 200) hx hb dX12_keep_62 (by decide) ?_
      refine lv_aload_n hx hb dX12_keep_65 rfl (lv_at hl 0 rfl) ?_
      refine gI C0 w fk_X12_66 (by decide +kernel) dX12_keep_66 ?_
      refine lv_imul hx hb dX12_keep_69 ?_
      refine lv_iload_n hx hb dX12_keep_70 rfl (lv_at hl 1 rfl) ?_
      refine lv_iadd hx hb dX12_keep_71 ?_
      refine lv_aload_n hx hb dX12_keep_72 rfl (lv_at hl 0 rfl) ?_
      refine gR C0 w 225 fk_X12_7 (by decide +kernel) dX12_keep_73 ?_
      refine lv_iload_n hx hb dX12_keep_76 rfl (lv_at hl 1 rfl) ?_
      obtain ⟨g2, hf⟩ := gdE hf
      refine aL C0 w (n := 200) (by decide +kernel) (inbE g2) dX12_keep_77 ?_
      obtain ⟨g3, hf⟩ := gdE hf
      refine sL C0 w (n := 800) (by decide +kernel) (inbE g3) dX12_keep_78 (fun H locs w => ?_)
      refine lv_iinc (k := 1) (v := x1 + 1) (lv' := [(1, .int (x1 + 1)), (0, .ref (wA B 224))]) hx hb dX12_keep_79 hl rfl (by rfl) (by decide) rfl (fun ls hl => ?_)
      refine lv_goto (tgt := 51) hx hb dX12_keep_82 (by decide) ?_
      exact ih (x1 + 1) (setL σ 226 (((200 * (σ.1 224 2)) + x1).toNatClampNeg) (σ.2 225 x1.toNatClampNeg)) _ _ _ _ hf w (lv_sub hl [1, 0] rfl) hK
set_option maxHeartbeats 4000000 in
set_option maxRecDepth 100000 in
theorem m_X12_keep (l : Launch) (B : Wb) (sz : Nat) (σ : Mem) (q : Mem) (hf : f_X12_keep σ = some q) : MetC l yX12_keep cX12_keep 2 none rm_X12_keep B sz σ q [.ref (wA B 224)] (none) := by
  refine met_in (by decide +kernel) (Nat.le_of_ble_eq_true rfl) ?_
  intro p e s m below meth c C0 hr w hsz ls hl
  have hx := C0.1.1
  have hb := C0.1.2.1
  unfold f_X12_keep at hf
  refine lv_aload_n hx hb dX12_keep_0 rfl (lv_at hl 0 rfl) ?_
  refine gI C0 w fk_X12_66 (by decide +kernel) dX12_keep_1 ?_
  refine lv_iconst (v := 4) hx hb dX12_keep_4 (by decide) ?_
  refine lv_icmp_ne (tgt := 49) hx hb dX12_keep_5 (by decide) (fun c1 => ?_) (fun c1 => ?_)
  · rw [if_neg c1] at hf
    refine lv_iconst (v := 0) hx hb dX12_keep_49 (by decide) ?_
    refine lv_istore_n (lv' := [(1, .int 0), (0, .ref (wA B 224))]) hx hb dX12_keep_50 rfl hl (by decide) rfl (fun ls hl => ?_)
    obtain ⟨q2, h3, hf⟩ := bdE hf
    refine lp_X12_keep_51 l B C0 100000 0 σ q2 _ _ _ h3 w (lv_sub hl [1, 0] rfl) (fun H locs ls w hl => ?_)
    refine lv_aload_n hx hb dX12_keep_85 rfl (lv_at hl 0 rfl) ?_
    refine lv_dup hx hb dX12_keep_86 rfl ?_
    refine gI C0 w fk_X12_66 (by decide +kernel) dX12_keep_87 ?_
    refine lv_iconst (v := 1) hx hb dX12_keep_90 (by decide) ?_
    refine lv_iadd hx hb dX12_keep_91 ?_
    refine pI C0 w fk_X12_66 fp_X12_2 (by decide +kernel) dX12_keep_92 (fun H locs w => ?_)
    obtain rfl := Option.some.inj hf
    exact eV C0 hr w dX12_keep_95
  · rw [if_pos c1] at hf
    refine lv_iconst (v := 0) hx hb dX12_keep_8 (by decide) ?_
    refine lv_istore_n (lv' := [(1, .int 0), (0, .ref (wA B 224))]) hx hb dX12_keep_9 rfl hl (by decide) rfl (fun ls hl => ?_)
    obtain ⟨q4, h5, hf⟩ := bdE hf
    refine lp_X12_keep_10 l B C0 100000 0 σ q4 _ _ _ h5 w (lv_sub hl [1, 0] rfl) (fun H locs ls w hl => ?_)
    refine lv_aload_n hx hb dX12_keep_39 rfl (lv_at hl 0 rfl) ?_
    refine lv_dup hx hb dX12_keep_40 rfl ?_
    refine gI C0 w fk_X12_66 (by decide +kernel) dX12_keep_41 ?_
    refine lv_iconst (v := 1) hx hb dX12_keep_44 (by decide) ?_
    refine lv_isub hx hb dX12_keep_45 ?_
    refine pI C0 w fk_X12_66 fp_X12_2 (by decide +kernel) dX12_keep_46 (fun H locs w => ?_)
    refine lv_iconst (v := 0) hx hb dX12_keep_49 (by decide) ?_
    refine lv_istore_n (lv' := [(1, .int 0), (0, .ref (wA B 224))]) hx hb dX12_keep_50 rfl hl (by decide) rfl (fun ls hl => ?_)
    obtain ⟨q6, h7, hf⟩ := bdE hf
    refine lp_X12_keep_51 l B C0 100000 0 (setI q4 224 2 ((q4.1 224 2) - 1)) q6 _ _ _ h7 w (lv_sub hl [1, 0] rfl) (fun H locs ls w hl => ?_)
    refine lv_aload_n hx hb dX12_keep_85 rfl (lv_at hl 0 rfl) ?_
    refine lv_dup hx hb dX12_keep_86 rfl ?_
    refine gI C0 w fk_X12_66 (by decide +kernel) dX12_keep_87 ?_
    refine lv_iconst (v := 1) hx hb dX12_keep_90 (by decide) ?_
    refine lv_iadd hx hb dX12_keep_91 ?_
    refine pI C0 w fk_X12_66 fp_X12_2 (by decide +kernel) dX12_keep_92 (fun H locs w => ?_)
    obtain rfl := Option.some.inj hf
    exact eV C0 hr w dX12_keep_95
def f_X12_columns (σ : Mem) : Option (Int32) :=
  some ((σ.2 225 (0 : Int32).toNatClampNeg).toInt32)
abbrev rm_X12_columns : Room := { frames := 0, cells := 0, slots := 0, locals := 0 }
set_option maxHeartbeats 4000000 in
set_option maxRecDepth 100000 in
theorem m_X12_columns (l : Launch) (B : Wb) (sz : Nat) (σ : Mem) (q : Int32) (hf : f_X12_columns σ = some q) : MetC l yX12_columns cX12_columns 1 (some .int) rm_X12_columns B sz σ σ [.ref (wA B 224)] (some (.int q)) := by
  refine met_in (by decide +kernel) (Nat.le_of_ble_eq_true rfl) ?_
  intro p e s m below meth c C0 hr w hsz ls hl
  have hx := C0.1.1
  have hb := C0.1.2.1
  unfold f_X12_columns at hf
  refine lv_aload_n hx hb dX12_columns_0 rfl (lv_at hl 0 rfl) ?_
  refine gR C0 w 225 fk_X12_7 (by decide +kernel) dX12_columns_1 ?_
  refine lv_iconst (v := 0) hx hb dX12_columns_4 (by decide) ?_
  refine aL C0 w (n := 200) (by decide +kernel) (inbE (by decide)) dX12_columns_5 ?_
  refine lv_l2i hx hb dX12_columns_6 rfl ?_
  obtain rfl := Option.some.inj hf
  exact eI C0 hr w rfl dX12_columns_7
def f_X12_rows (σ : Mem) : Option (Int32) :=
  some ((σ.2 225 (1 : Int32).toNatClampNeg).toInt32)
abbrev rm_X12_rows : Room := { frames := 0, cells := 0, slots := 0, locals := 0 }
set_option maxHeartbeats 4000000 in
set_option maxRecDepth 100000 in
theorem m_X12_rows (l : Launch) (B : Wb) (sz : Nat) (σ : Mem) (q : Int32) (hf : f_X12_rows σ = some q) : MetC l yX12_rows cX12_rows 1 (some .int) rm_X12_rows B sz σ σ [.ref (wA B 224)] (some (.int q)) := by
  refine met_in (by decide +kernel) (Nat.le_of_ble_eq_true rfl) ?_
  intro p e s m below meth c C0 hr w hsz ls hl
  have hx := C0.1.1
  have hb := C0.1.2.1
  unfold f_X12_rows at hf
  refine lv_aload_n hx hb dX12_rows_0 rfl (lv_at hl 0 rfl) ?_
  refine gR C0 w 225 fk_X12_7 (by decide +kernel) dX12_rows_1 ?_
  refine lv_iconst (v := 1) hx hb dX12_rows_4 (by decide) ?_
  refine aL C0 w (n := 200) (by decide +kernel) (inbE (by decide)) dX12_rows_5 ?_
  refine lv_l2i hx hb dX12_rows_6 rfl ?_
  obtain rfl := Option.some.inj hf
  exact eI C0 hr w rfl dX12_rows_7
def f_X12_cells (σ : Mem) : Option (Int32) :=
  bd (f_X12_columns σ) (fun q1 =>
  bd (f_X12_rows σ) (fun q3 =>
  some (q1 * q3)))
abbrev rm_X12_cells : Room := { frames := 1, cells := 0, slots := 0, locals := 20 }
set_option maxHeartbeats 4000000 in
set_option maxRecDepth 100000 in
theorem m_X12_cells (l : Launch) (B : Wb) (sz : Nat) (σ : Mem) (q : Int32) (hf : f_X12_cells σ = some q) : MetC l yX12_cells cX12_cells 1 (some .int) rm_X12_cells B sz σ σ [.ref (wA B 224)] (some (.int q)) := by
  refine met_in (by decide +kernel) (Nat.le_of_ble_eq_true rfl) ?_
  intro p e s m below meth c C0 hr w hsz ls hl
  have hx := C0.1.1
  have hb := C0.1.2.1
  unfold f_X12_cells at hf
  refine lv_aload_n hx hb dX12_cells_0 rfl (lv_at hl 0 rfl) ?_
  obtain ⟨q1, h2, hf⟩ := bdE hf
  refine cV (As := []) (rest := []) (k := 224) (ci := 10) (T := TX12) (N := 22) C0 w (m_X12_columns l B _ σ q1 h2) ky_X12_columns kv_X12_columns lk_X12_69 rfl (by decide +kernel) ⟨Nat.le_of_ble_eq_true rfl, Nat.le_of_ble_eq_true rfl⟩ ⟨Nat.le_of_ble_eq_true rfl, Nat.le_of_ble_eq_true rfl⟩ rfl (by rfl) (Nat.le_of_ble_eq_true rfl) hl.1 dX12_cells_1 (fun H locs w => ?_)
  refine lv_aload_n hx hb dX12_cells_4 rfl (lv_at hl 0 rfl) ?_
  obtain ⟨q3, h4, hf⟩ := bdE hf
  refine cV (As := []) (rest := [.int q1]) (k := 224) (ci := 10) (T := TX12) (N := 22) C0 w (m_X12_rows l B _ σ q3 h4) ky_X12_rows kv_X12_rows lk_X12_73 rfl (by decide +kernel) ⟨Nat.le_of_ble_eq_true rfl, Nat.le_of_ble_eq_true rfl⟩ ⟨Nat.le_of_ble_eq_true rfl, Nat.le_of_ble_eq_true rfl⟩ rfl (by rfl) (Nat.le_of_ble_eq_true rfl) hl.1 dX12_cells_5 (fun H locs w => ?_)
  refine lv_imul hx hb dX12_cells_8 ?_
  obtain rfl := Option.some.inj hf
  exact eI C0 hr w rfl dX12_cells_9
def f_X12_isCell (x1 : Int32) (σ : Mem) : Option (Int32) :=
  bd (f_X12_cells σ) (fun q1 =>
  bd (f_X12_in x1.toInt64 0 ((q1 - 1).toInt64) σ) (fun q3 =>
  gd (bz q3) (some q3)))
abbrev rm_X12_isCell : Room := { frames := 2, cells := 0, slots := 0, locals := 40 }
set_option maxHeartbeats 4000000 in
set_option maxRecDepth 100000 in
theorem m_X12_isCell (l : Launch) (B : Wb) (sz : Nat) (σ : Mem) (x1 : Int32) (q : Int32) (hf : f_X12_isCell x1 σ = some q) : MetC l yX12_isCell cX12_isCell 2 (some .boolean) rm_X12_isCell B sz σ σ [.ref (wA B 224), .int x1] (some (.int q)) := by
  refine met_in (by decide +kernel) (Nat.le_of_ble_eq_true rfl) ?_
  intro p e s m below meth c C0 hr w hsz ls hl
  have hx := C0.1.1
  have hb := C0.1.2.1
  unfold f_X12_isCell at hf
  refine lv_iload_n hx hb dX12_isCell_0 rfl (lv_at hl 1 rfl) ?_
  refine lv_i2l hx hb dX12_isCell_1 rfl ?_
  refine lv_lconst (v := 0) hx hb dX12_isCell_2 (by decide) ?_
  refine lv_aload_n hx hb dX12_isCell_3 rfl (lv_at hl 0 rfl) ?_
  obtain ⟨q1, h2, hf⟩ := bdE hf
  refine cV (As := []) (rest := [.long 0, .long x1.toInt64]) (k := 224) (ci := 10) (T := TX12) (N := 22) C0 w (m_X12_cells l B _ σ q1 h2) ky_X12_cells kv_X12_cells lk_X12_76 rfl (by decide +kernel) ⟨Nat.le_of_ble_eq_true rfl, Nat.le_of_ble_eq_true rfl⟩ ⟨Nat.le_of_ble_eq_true rfl, Nat.le_of_ble_eq_true rfl⟩ rfl (by rfl) (Nat.le_of_ble_eq_true rfl) hl.1 dX12_isCell_4 (fun H locs w => ?_)
  refine lv_iconst (v := 1) hx hb dX12_isCell_7 (by decide) ?_
  refine lv_isub hx hb dX12_isCell_8 ?_
  refine lv_i2l hx hb dX12_isCell_9 rfl ?_
  obtain ⟨q3, h4, hf⟩ := bdE hf
  refine cS (As := [.long x1.toInt64, .long 0, .long ((q1 - 1).toInt64)]) (rest := []) C0 w (m_X12_in l B _ σ x1.toInt64 0 ((q1 - 1).toInt64) q3 h4) ky_X12_in ks_X12_in lk_X12_79 ⟨Nat.le_of_ble_eq_true rfl, Nat.le_of_ble_eq_true rfl⟩ ⟨Nat.le_of_ble_eq_true rfl, Nat.le_of_ble_eq_true rfl⟩ rfl (by rfl) (Nat.le_of_ble_eq_true rfl) hl.1 dX12_isCell_10 (fun H locs w => ?_)
  obtain ⟨g5, hf⟩ := gdE hf
  obtain rfl := Option.some.inj hf
  exact eI C0 hr w (bzE g5) dX12_isCell_13
def f_X12_isRow (x1 : Int32) (σ : Mem) : Option (Int32) :=
  bd (f_X12_rows σ) (fun q1 =>
  bd (f_X12_in x1.toInt64 0 ((q1 - 1).toInt64) σ) (fun q3 =>
  gd (bz q3) (some q3)))
abbrev rm_X12_isRow : Room := { frames := 1, cells := 0, slots := 0, locals := 25 }
set_option maxHeartbeats 4000000 in
set_option maxRecDepth 100000 in
theorem m_X12_isRow (l : Launch) (B : Wb) (sz : Nat) (σ : Mem) (x1 : Int32) (q : Int32) (hf : f_X12_isRow x1 σ = some q) : MetC l yX12_isRow cX12_isRow 2 (some .boolean) rm_X12_isRow B sz σ σ [.ref (wA B 224), .int x1] (some (.int q)) := by
  refine met_in (by decide +kernel) (Nat.le_of_ble_eq_true rfl) ?_
  intro p e s m below meth c C0 hr w hsz ls hl
  have hx := C0.1.1
  have hb := C0.1.2.1
  unfold f_X12_isRow at hf
  refine lv_iload_n hx hb dX12_isRow_0 rfl (lv_at hl 1 rfl) ?_
  refine lv_i2l hx hb dX12_isRow_1 rfl ?_
  refine lv_lconst (v := 0) hx hb dX12_isRow_2 (by decide) ?_
  refine lv_aload_n hx hb dX12_isRow_3 rfl (lv_at hl 0 rfl) ?_
  obtain ⟨q1, h2, hf⟩ := bdE hf
  refine cV (As := []) (rest := [.long 0, .long x1.toInt64]) (k := 224) (ci := 10) (T := TX12) (N := 22) C0 w (m_X12_rows l B _ σ q1 h2) ky_X12_rows kv_X12_rows lk_X12_73 rfl (by decide +kernel) ⟨Nat.le_of_ble_eq_true rfl, Nat.le_of_ble_eq_true rfl⟩ ⟨Nat.le_of_ble_eq_true rfl, Nat.le_of_ble_eq_true rfl⟩ rfl (by rfl) (Nat.le_of_ble_eq_true rfl) hl.1 dX12_isRow_4 (fun H locs w => ?_)
  refine lv_iconst (v := 1) hx hb dX12_isRow_7 (by decide) ?_
  refine lv_isub hx hb dX12_isRow_8 ?_
  refine lv_i2l hx hb dX12_isRow_9 rfl ?_
  obtain ⟨q3, h4, hf⟩ := bdE hf
  refine cS (As := [.long x1.toInt64, .long 0, .long ((q1 - 1).toInt64)]) (rest := []) C0 w (m_X12_in l B _ σ x1.toInt64 0 ((q1 - 1).toInt64) q3 h4) ky_X12_in ks_X12_in lk_X12_79 ⟨Nat.le_of_ble_eq_true rfl, Nat.le_of_ble_eq_true rfl⟩ ⟨Nat.le_of_ble_eq_true rfl, Nat.le_of_ble_eq_true rfl⟩ rfl (by rfl) (Nat.le_of_ble_eq_true rfl) hl.1 dX12_isRow_10 (fun H locs w => ?_)
  obtain ⟨g5, hf⟩ := gdE hf
  obtain rfl := Option.some.inj hf
  exact eI C0 hr w (bzE g5) dX12_isRow_13
def f_X12_isSlowness (x0 : Int32) (σ : Mem) : Option (Int32) :=
  bd (f_X12_in x0.toInt64 1 100000 σ) (fun q1 =>
  gd (bz q1) (some q1))
abbrev rm_X12_isSlowness : Room := { frames := 1, cells := 0, slots := 0, locals := 25 }
set_option maxHeartbeats 4000000 in
set_option maxRecDepth 100000 in
theorem m_X12_isSlowness (l : Launch) (B : Wb) (sz : Nat) (σ : Mem) (x0 : Int32) (q : Int32) (hf : f_X12_isSlowness x0 σ = some q) : MetC l yX12_isSlowness cX12_isSlowness 1 (some .boolean) rm_X12_isSlowness B sz σ σ [.int x0] (some (.int q)) := by
  refine met_in (by decide +kernel) (Nat.le_of_ble_eq_true rfl) ?_
  intro p e s m below meth c C0 hr w hsz ls hl
  have hx := C0.1.1
  have hb := C0.1.2.1
  unfold f_X12_isSlowness at hf
  refine lv_iload_n hx hb dX12_isSlowness_0 rfl (lv_at hl 0 rfl) ?_
  refine lv_i2l hx hb dX12_isSlowness_1 rfl ?_
  refine lv_lconst (v := 1) hx hb dX12_isSlowness_2 (by decide) ?_
  refine kLg C0 100000 kc_X12_54 dX12_isSlowness_3 ?_
  obtain ⟨q1, h2, hf⟩ := bdE hf
  refine cS (As := [.long x0.toInt64, .long 1, .long 100000]) (rest := []) C0 w (m_X12_in l B _ σ x0.toInt64 1 100000 q1 h2) ky_X12_in ks_X12_in lk_X12_79 ⟨Nat.le_of_ble_eq_true rfl, Nat.le_of_ble_eq_true rfl⟩ ⟨Nat.le_of_ble_eq_true rfl, Nat.le_of_ble_eq_true rfl⟩ rfl (by rfl) (Nat.le_of_ble_eq_true rfl) hl.1 dX12_isSlowness_6 (fun H locs w => ?_)
  obtain ⟨g3, hf⟩ := gdE hf
  obtain rfl := Option.some.inj hf
  exact eI C0 hr w (bzE g3) dX12_isSlowness_9
def f_X12_isRay (x1 : Int32) (σ : Mem) : Option (Int32) :=
  bd (f_X12_in x1.toInt64 0 ((σ.2 225 (7 : Int32).toNatClampNeg) - 1) σ) (fun q2 =>
  gd (bz q2) (some q2))
abbrev rm_X12_isRay : Room := { frames := 1, cells := 0, slots := 0, locals := 25 }
set_option maxHeartbeats 4000000 in
set_option maxRecDepth 100000 in
theorem m_X12_isRay (l : Launch) (B : Wb) (sz : Nat) (σ : Mem) (x1 : Int32) (q : Int32) (hf : f_X12_isRay x1 σ = some q) : MetC l yX12_isRay cX12_isRay 2 (some .boolean) rm_X12_isRay B sz σ σ [.ref (wA B 224), .int x1] (some (.int q)) := by
  refine met_in (by decide +kernel) (Nat.le_of_ble_eq_true rfl) ?_
  intro p e s m below meth c C0 hr w hsz ls hl
  have hx := C0.1.1
  have hb := C0.1.2.1
  unfold f_X12_isRay at hf
  refine lv_iload_n hx hb dX12_isRay_0 rfl (lv_at hl 1 rfl) ?_
  refine lv_i2l hx hb dX12_isRay_1 rfl ?_
  refine lv_lconst (v := 0) hx hb dX12_isRay_2 (by decide) ?_
  refine lv_aload_n hx hb dX12_isRay_3 rfl (lv_at hl 0 rfl) ?_
  refine gR C0 w 225 fk_X12_7 (by decide +kernel) dX12_isRay_4 ?_
  refine lv_bipush (v := 7) hx hb dX12_isRay_7 (by decide) ?_
  refine aL C0 w (n := 200) (by decide +kernel) (inbE (by decide)) dX12_isRay_9 ?_
  refine lv_lconst (v := 1) hx hb dX12_isRay_10 (by decide) ?_
  refine lv_lsub hx hb dX12_isRay_11 ?_
  obtain ⟨q2, h3, hf⟩ := bdE hf
  refine cS (As := [.long x1.toInt64, .long 0, .long ((σ.2 225 (7 : Int32).toNatClampNeg) - 1)]) (rest := []) C0 w (m_X12_in l B _ σ x1.toInt64 0 ((σ.2 225 (7 : Int32).toNatClampNeg) - 1) q2 h3) ky_X12_in ks_X12_in lk_X12_79 ⟨Nat.le_of_ble_eq_true rfl, Nat.le_of_ble_eq_true rfl⟩ ⟨Nat.le_of_ble_eq_true rfl, Nat.le_of_ble_eq_true rfl⟩ rfl (by rfl) (Nat.le_of_ble_eq_true rfl) hl.1 dX12_isRay_12 (fun H locs w => ?_)
  obtain ⟨g4, hf⟩ := gdE hf
  obtain rfl := Option.some.inj hf
  exact eI C0 hr w (bzE g4) dX12_isRay_15
def f_X12_of (x1 : Int32) (x2 : Int32) (σ : Mem) : Option (Int64) :=
  gd (inb ((136 + (4 * x1)) + x2) 200) (
  some (σ.2 225 ((136 + (4 * x1)) + x2).toNatClampNeg))
abbrev rm_X12_of : Room := { frames := 0, cells := 0, slots := 0, locals := 0 }
set_option maxHeartbeats 4000000 in
set_option maxRecDepth 100000 in
theorem m_X12_of (l : Launch) (B : Wb) (sz : Nat) (σ : Mem) (x1 : Int32) (x2 : Int32) (q : Int64) (hf : f_X12_of x1 x2 σ = some q) : MetC l yX12_of cX12_of 3 (some .long) rm_X12_of B sz σ σ [.ref (wA B 224), .int x1, .int x2] (some (.long q)) := by
  refine met_in (by decide +kernel) (Nat.le_of_ble_eq_true rfl) ?_
  intro p e s m below meth c C0 hr w hsz ls hl
  have hx := C0.1.1
  have hb := C0.1.2.1
  unfold f_X12_of at hf
  refine lv_aload_n hx hb dX12_of_0 rfl (lv_at hl 0 rfl) ?_
  refine gR C0 w 225 fk_X12_7 (by decide +kernel) dX12_of_1 ?_
  refine lv_sipush (v := 136) hx hb dX12_of_4 (by decide) ?_
  refine lv_iconst (v := 4) hx hb dX12_of_7 (by decide) ?_
  refine lv_iload_n hx hb dX12_of_8 rfl (lv_at hl 1 rfl) ?_
  refine lv_imul hx hb dX12_of_9 ?_
  refine lv_iadd hx hb dX12_of_10 ?_
  refine lv_iload_n hx hb dX12_of_11 rfl (lv_at hl 2 rfl) ?_
  refine lv_iadd hx hb dX12_of_12 ?_
  obtain ⟨g1, hf⟩ := gdE hf
  refine aL C0 w (n := 200) (by decide +kernel) (inbE g1) dX12_of_13 ?_
  obtain rfl := Option.some.inj hf
  exact eL C0 hr w dX12_of_14
def f_X12_put (x1 : Int32) (x2 : Int32) (x3 : Int64) (σ : Mem) : Option (Mem) :=
  gd (inb ((136 + (4 * x1)) + x2) 200) (
  some (setL σ 225 (((136 + (4 * x1)) + x2).toNatClampNeg) x3))
abbrev rm_X12_put : Room := { frames := 0, cells := 0, slots := 0, locals := 0 }
set_option maxHeartbeats 4000000 in
set_option maxRecDepth 100000 in
theorem m_X12_put (l : Launch) (B : Wb) (sz : Nat) (σ : Mem) (x1 : Int32) (x2 : Int32) (x3 : Int64) (q : Mem) (hf : f_X12_put x1 x2 x3 σ = some q) : MetC l yX12_put cX12_put 5 none rm_X12_put B sz σ q [.ref (wA B 224), .int x1, .int x2, .long x3] (none) := by
  refine met_in (by decide +kernel) (Nat.le_of_ble_eq_true rfl) ?_
  intro p e s m below meth c C0 hr w hsz ls hl
  have hx := C0.1.1
  have hb := C0.1.2.1
  unfold f_X12_put at hf
  refine lv_aload_n hx hb dX12_put_0 rfl (lv_at hl 0 rfl) ?_
  refine gR C0 w 225 fk_X12_7 (by decide +kernel) dX12_put_1 ?_
  refine lv_sipush (v := 136) hx hb dX12_put_4 (by decide) ?_
  refine lv_iconst (v := 4) hx hb dX12_put_7 (by decide) ?_
  refine lv_iload_n hx hb dX12_put_8 rfl (lv_at hl 1 rfl) ?_
  refine lv_imul hx hb dX12_put_9 ?_
  refine lv_iadd hx hb dX12_put_10 ?_
  refine lv_iload_n hx hb dX12_put_11 rfl (lv_at hl 2 rfl) ?_
  refine lv_iadd hx hb dX12_put_12 ?_
  refine lv_lload_n hx hb dX12_put_13 rfl (lv_at hl 3 rfl) ?_
  obtain ⟨g1, hf⟩ := gdE hf
  refine sL C0 w (n := 200) (by decide +kernel) (inbE g1) dX12_put_14 (fun H locs w => ?_)
  obtain rfl := Option.some.inj hf
  exact eV C0 hr w dX12_put_15
def f_X12_isActive (x1 : Int32) (σ : Mem) : Option (Int32) :=
  bd (f_X12_of x1 2 σ) (fun q1 =>
  if q1 = 1 then (
    bd (f_X12_of x1 3 σ) (fun q4 =>
    if q4 = ((-1 : Int64)) then (
      some 0)
    else (
      some 1)))
  else (
    some 0))
abbrev rm_X12_isActive : Room := { frames := 1, cells := 0, slots := 0, locals := 22 }
set_option maxHeartbeats 4000000 in
set_option maxRecDepth 100000 in
theorem m_X12_isActive (l : Launch) (B : Wb) (sz : Nat) (σ : Mem) (x1 : Int32) (q : Int32) (hf : f_X12_isActive x1 σ = some q) : MetC l yX12_isActive cX12_isActive 2 (some .boolean) rm_X12_isActive B sz σ σ [.ref (wA B 224), .int x1] (some (.int q)) := by
  refine met_in (by decide +kernel) (Nat.le_of_ble_eq_true rfl) ?_
  intro p e s m below meth c C0 hr w hsz ls hl
  have hx := C0.1.1
  have hb := C0.1.2.1
  unfold f_X12_isActive at hf
  refine lv_aload_n hx hb dX12_isActive_0 rfl (lv_at hl 0 rfl) ?_
  refine lv_iload_n hx hb dX12_isActive_1 rfl (lv_at hl 1 rfl) ?_
  refine lv_iconst (v := 2) hx hb dX12_isActive_2 (by decide) ?_
  obtain ⟨q1, h2, hf⟩ := bdE hf
  refine cV (As := [.int x1, .int 2]) (rest := []) (k := 224) (ci := 10) (T := TX12) (N := 22) C0 w (m_X12_of l B _ σ x1 2 q1 h2) ky_X12_of kv_X12_of lk_X12_83 rfl (by decide +kernel) ⟨Nat.le_of_ble_eq_true rfl, Nat.le_of_ble_eq_true rfl⟩ ⟨Nat.le_of_ble_eq_true rfl, Nat.le_of_ble_eq_true rfl⟩ rfl (by rfl) (Nat.le_of_ble_eq_true rfl) hl.1 dX12_isActive_3 (fun H locs w => ?_)
  refine lv_lconst (v := 1) hx hb dX12_isActive_6 (by decide) ?_
  refine lc_ne (tgt := 28) C0 dX12_isActive_7 dX12_isActive_8 (by decide) (fun c3 => ?_) (fun c3 => ?_)
  · rw [if_neg c3] at hf
    refine lv_iconst (v := 0) hx hb dX12_isActive_28 (by decide) ?_
    obtain rfl := Option.some.inj hf
    exact eI C0 hr w (bzE (x := 0) (by decide)) dX12_isActive_29
  · rw [if_pos c3] at hf
    refine lv_aload_n hx hb dX12_isActive_11 rfl (lv_at hl 0 rfl) ?_
    refine lv_iload_n hx hb dX12_isActive_12 rfl (lv_at hl 1 rfl) ?_
    refine lv_iconst (v := 3) hx hb dX12_isActive_13 (by decide) ?_
    obtain ⟨q4, h5, hf⟩ := bdE hf
    refine cV (As := [.int x1, .int 3]) (rest := []) (k := 224) (ci := 10) (T := TX12) (N := 22) C0 w (m_X12_of l B _ σ x1 3 q4 h5) ky_X12_of kv_X12_of lk_X12_83 rfl (by decide +kernel) ⟨Nat.le_of_ble_eq_true rfl, Nat.le_of_ble_eq_true rfl⟩ ⟨Nat.le_of_ble_eq_true rfl, Nat.le_of_ble_eq_true rfl⟩ rfl (by rfl) (Nat.le_of_ble_eq_true rfl) hl.1 dX12_isActive_14 (fun H locs w => ?_)
    refine kLg C0 (-1) kc_X12_87 dX12_isActive_17 ?_
    refine lc_eq (tgt := 28) C0 dX12_isActive_20 dX12_isActive_21 (by decide) (fun c6 => ?_) (fun c6 => ?_)
    · rw [if_pos c6] at hf
      refine lv_iconst (v := 0) hx hb dX12_isActive_28 (by decide) ?_
      obtain rfl := Option.some.inj hf
      exact eI C0 hr w (bzE (x := 0) (by decide)) dX12_isActive_29
    · rw [if_neg c6] at hf
      refine lv_iconst (v := 1) hx hb dX12_isActive_24 (by decide) ?_
      refine lv_goto (tgt := 29) hx hb dX12_isActive_25 (by decide) ?_
      obtain rfl := Option.some.inj hf
      exact eI C0 hr w (bzE (x := 1) (by decide)) dX12_isActive_29
def f_X12_actives_4 (σ : Mem) : Nat → Int32 → Int32 → Option (Int32)
  | 0, _, _ => none
  | n + 1, x1, x2 =>
    if (σ.2 225 (7 : Int32).toNatClampNeg) ≤ x2.toInt64 then (
      some x1)
    else (
      bd (f_X12_isActive x2 σ) (fun q3 =>
      if q3 = 0 then (
        f_X12_actives_4 σ n (x1 + 0) (x2 + 1))
      else (
        f_X12_actives_4 σ n (x1 + 1) (x2 + 1))))
def f_X12_actives (σ : Mem) : Option (Int32) :=
  bd (f_X12_actives_4 σ 100000 0 0) (fun q1 =>
  some q1)
abbrev rm_X12_actives : Room := { frames := 2, cells := 0, slots := 0, locals := 43 }
set_option maxHeartbeats 4000000 in
set_option maxRecDepth 100000 in
theorem lp_X12_actives_4 {p : Program} {e : Env} {s : State} {m : MethodId} {args : Array Value} {below : List Frame} {meth : Method} {c : Code} {Q : State → Prop} (l : Launch) (B : Wb) (C0 : Cx p s m args meth c cX12_actives 3 RX12) : ∀ (n : Nat) (x1 : Int32) (x2 : Int32) (σ : Mem) (o : Int32) (H : Heap) (locs : List Loc) (ls : Array Slot), f_X12_actives_4 σ n x1 x2 = some o → Wx B σ s H locs → lv_has ls 3 [(0, .ref (wA B 224)), (1, .int x1), (2, .int x2)] → (∀ (H : Heap) (locs : List Loc) (ls : Array Slot), Wx B σ s H locs → lv_has ls 3 [(1, .int o)] → W p l e rm_X12_actives s m args below meth c H locs 0 0 Q (F0 m 39 ls [])) → W p l e rm_X12_actives s m args below meth c H locs 0 0 Q (F0 m 4 ls []) := by
  have hx := C0.1.1
  have hb := C0.1.2.1
  intro n
  induction n with
  | zero =>
    intro x1 x2 σ o H locs ls hf w hl hK
    cases hf
  | succ n ih =>
    intro x1 x2 σ o H locs ls hf w hl hK
    rw [f_X12_actives_4] at hf
    refine lv_iload_n hx hb dX12_actives_4 rfl (lv_at hl 2 rfl) ?_
    refine lv_i2l hx hb dX12_actives_5 rfl ?_
    refine lv_aload_n hx hb dX12_actives_6 rfl (lv_at hl 0 rfl) ?_
    refine gR C0 w 225 fk_X12_7 (by decide +kernel) dX12_actives_7 ?_
    refine lv_bipush (v := 7) hx hb dX12_actives_10 (by decide) ?_
    refine aL C0 w (n := 200) (by decide +kernel) (inbE (by decide)) dX12_actives_12 ?_
    refine lc_ge (tgt := 39) C0 dX12_actives_13 dX12_actives_14 (by decide) (fun c2 => ?_) (fun c2 => ?_)
    · rw [if_pos c2] at hf
      obtain rfl := Option.some.inj hf
      exact hK _ _ _ w (lv_sub hl [1] rfl)
    · rw [if_neg c2] at hf
      refine lv_iload_n hx hb dX12_actives_17 rfl (lv_at hl 1 rfl) ?_
      refine lv_aload_n hx hb dX12_actives_18 rfl (lv_at hl 0 rfl) ?_
      refine lv_iload_n hx hb dX12_actives_19 rfl (lv_at hl 2 rfl) ?_
      obtain ⟨q3, h4, hf⟩ := bdE hf
      refine cV (As := [.int x2]) (rest := [.int x1]) (k := 224) (ci := 10) (T := TX12) (N := 22) C0 w (m_X12_isActive l B _ σ x2 q3 h4) ky_X12_isActive kv_X12_isActive lk_X12_89 rfl (by decide +kernel) ⟨Nat.le_of_ble_eq_true rfl, Nat.le_of_ble_eq_true rfl⟩ ⟨Nat.le_of_ble_eq_true rfl, Nat.le_of_ble_eq_true rfl⟩ rfl (by rfl) (Nat.le_of_ble_eq_true rfl) hl.1 dX12_actives_20 (fun H locs w => ?_)
      refine lv_if_eq (tgt := 30) hx hb dX12_actives_23 (by decide) (fun c5 => ?_) (fun c5 => ?_)
      · rw [if_pos c5] at hf
        refine lv_iconst (v := 0) hx hb dX12_actives_30 (by decide) ?_
        refine lv_iadd hx hb dX12_actives_31 ?_
        refine lv_istore_n (lv' := [(1, .int (x1 + 0)), (0, .ref (wA B 224)), (2, .int x2)]) hx hb dX12_actives_32 rfl hl (by decide) rfl (fun ls hl => ?_)
        refine lv_iinc (k := 2) (v := x2 + 1) (lv' := [(2, .int (x2 + 1)), (1, .int (x1 + 0)), (0, .ref (wA B 224))]) hx hb dX12_actives_33 hl rfl (by rfl) (by decide) rfl (fun ls hl => ?_)
        refine lv_goto (tgt := 4) hx hb dX12_actives_36 (by decide) ?_
        exact ih (x1 + 0) (x2 + 1) σ _ _ _ _ hf w (lv_sub hl [2, 1, 0] rfl) hK
      · rw [if_neg c5] at hf
        refine lv_iconst (v := 1) hx hb dX12_actives_26 (by decide) ?_
        refine lv_goto (tgt := 31) hx hb dX12_actives_27 (by decide) ?_
        refine lv_iadd hx hb dX12_actives_31 ?_
        refine lv_istore_n (lv' := [(1, .int (x1 + 1)), (0, .ref (wA B 224)), (2, .int x2)]) hx hb dX12_actives_32 rfl hl (by decide) rfl (fun ls hl => ?_)
        refine lv_iinc (k := 2) (v := x2 + 1) (lv' := [(2, .int (x2 + 1)), (1, .int (x1 + 1)), (0, .ref (wA B 224))]) hx hb dX12_actives_33 hl rfl (by rfl) (by decide) rfl (fun ls hl => ?_)
        refine lv_goto (tgt := 4) hx hb dX12_actives_36 (by decide) ?_
        exact ih (x1 + 1) (x2 + 1) σ _ _ _ _ hf w (lv_sub hl [2, 1, 0] rfl) hK
set_option maxHeartbeats 4000000 in
set_option maxRecDepth 100000 in
theorem m_X12_actives (l : Launch) (B : Wb) (sz : Nat) (σ : Mem) (q : Int32) (hf : f_X12_actives σ = some q) : MetC l yX12_actives cX12_actives 3 (some .int) rm_X12_actives B sz σ σ [.ref (wA B 224)] (some (.int q)) := by
  refine met_in (by decide +kernel) (Nat.le_of_ble_eq_true rfl) ?_
  intro p e s m below meth c C0 hr w hsz ls hl
  have hx := C0.1.1
  have hb := C0.1.2.1
  unfold f_X12_actives at hf
  refine lv_iconst (v := 0) hx hb dX12_actives_0 (by decide) ?_
  refine lv_istore_n (lv' := [(1, .int 0), (0, .ref (wA B 224))]) hx hb dX12_actives_1 rfl hl (by decide) rfl (fun ls hl => ?_)
  refine lv_iconst (v := 0) hx hb dX12_actives_2 (by decide) ?_
  refine lv_istore_n (lv' := [(2, .int 0), (1, .int 0), (0, .ref (wA B 224))]) hx hb dX12_actives_3 rfl hl (by decide) rfl (fun ls hl => ?_)
  obtain ⟨q1, h2, hf⟩ := bdE hf
  refine lp_X12_actives_4 l B C0 100000 0 0 σ q1 _ _ _ h2 w (lv_sub hl [2, 1, 0] rfl) (fun H locs ls w hl => ?_)
  refine lv_iload_n hx hb dX12_actives_39 rfl (lv_at hl 0 rfl) ?_
  obtain rfl := Option.some.inj hf
  exact eI C0 hr w rfl dX12_actives_40
def f_X12_abs (x0 : Int64) (σ : Mem) : Option (Int64) :=
  if 0 ≤ x0 then (
    some x0)
  else (
    some (-x0))
abbrev rm_X12_abs : Room := { frames := 0, cells := 0, slots := 0, locals := 0 }
set_option maxHeartbeats 4000000 in
set_option maxRecDepth 100000 in
theorem m_X12_abs (l : Launch) (B : Wb) (sz : Nat) (σ : Mem) (x0 : Int64) (q : Int64) (hf : f_X12_abs x0 σ = some q) : MetC l yX12_abs cX12_abs 2 (some .long) rm_X12_abs B sz σ σ [.long x0] (some (.long q)) := by
  refine met_in (by decide +kernel) (Nat.le_of_ble_eq_true rfl) ?_
  intro p e s m below meth c C0 hr w hsz ls hl
  have hx := C0.1.1
  have hb := C0.1.2.1
  unfold f_X12_abs at hf
  refine lv_lload_n hx hb dX12_abs_0 rfl (lv_at hl 0 rfl) ?_
  refine lv_lconst (v := 0) hx hb dX12_abs_1 (by decide) ?_
  refine lc_ge (tgt := 11) C0 dX12_abs_2 dX12_abs_3 (by decide) (fun c1 => ?_) (fun c1 => ?_)
  · rw [if_pos c1] at hf
    refine lv_lload_n hx hb dX12_abs_11 rfl (lv_at hl 0 rfl) ?_
    obtain rfl := Option.some.inj hf
    exact eL C0 hr w dX12_abs_12
  · rw [if_neg c1] at hf
    refine lv_lload_n hx hb dX12_abs_6 rfl (lv_at hl 0 rfl) ?_
    refine lv_lneg hx hb dX12_abs_7 ?_
    refine lv_goto (tgt := 12) hx hb dX12_abs_8 (by decide) ?_
    obtain rfl := Option.some.inj hf
    exact eL C0 hr w dX12_abs_12
def f_X12_rounded (x0 : Int64) (x2 : Int64) (σ : Mem) : Option (Int64) :=
  gd (nz8 (2 * x2)) (
  if (((((2 * x0) + x2) / (2 * x2)) * 2) * x2) ≤ ((2 * x0) + x2) then (
    some (((2 * x0) + x2) / (2 * x2)))
  else (
    some ((((2 * x0) + x2) / (2 * x2)) - 1)))
abbrev rm_X12_rounded : Room := { frames := 0, cells := 0, slots := 0, locals := 0 }
set_option maxHeartbeats 4000000 in
set_option maxRecDepth 100000 in
theorem m_X12_rounded (l : Launch) (B : Wb) (sz : Nat) (σ : Mem) (x0 : Int64) (x2 : Int64) (q : Int64) (hf : f_X12_rounded x0 x2 σ = some q) : MetC l yX12_rounded cX12_rounded 8 (some .long) rm_X12_rounded B sz σ σ [.long x0, .long x2] (some (.long q)) := by
  refine met_in (by decide +kernel) (Nat.le_of_ble_eq_true rfl) ?_
  intro p e s m below meth c C0 hr w hsz ls hl
  have hx := C0.1.1
  have hb := C0.1.2.1
  unfold f_X12_rounded at hf
  refine kLg C0 2 kc_X12_93 dX12_rounded_0 ?_
  refine lv_lload_n hx hb dX12_rounded_3 rfl (lv_at hl 0 rfl) ?_
  refine lv_lmul hx hb dX12_rounded_4 ?_
  refine lv_lload_n hx hb dX12_rounded_5 rfl (lv_at hl 1 rfl) ?_
  refine lv_ladd hx hb dX12_rounded_6 ?_
  refine lv_lstore (lv' := [(4, .long ((2 * x0) + x2)), (0, .long x0), (2, .long x2)]) hx hb dX12_rounded_7 hl (by decide) rfl (fun ls hl => ?_)
  refine lv_lload hx hb dX12_rounded_9 (lv_at hl 0 rfl) ?_
  refine kLg C0 2 kc_X12_93 dX12_rounded_11 ?_
  refine lv_lload_n hx hb dX12_rounded_14 rfl (lv_at hl 2 rfl) ?_
  refine lv_lmul hx hb dX12_rounded_15 ?_
  obtain ⟨g1, hf⟩ := gdE hf
  refine lv_ldiv hx hb dX12_rounded_16 (nz8E g1) ?_
  refine lv_lstore (lv' := [(6, .long (((2 * x0) + x2) / (2 * x2))), (4, .long ((2 * x0) + x2)), (0, .long x0), (2, .long x2)]) hx hb dX12_rounded_17 hl (by decide) rfl (fun ls hl => ?_)
  refine lv_lload hx hb dX12_rounded_19 (lv_at hl 0 rfl) ?_
  refine kLg C0 2 kc_X12_93 dX12_rounded_21 ?_
  refine lv_lmul hx hb dX12_rounded_24 ?_
  refine lv_lload_n hx hb dX12_rounded_25 rfl (lv_at hl 3 rfl) ?_
  refine lv_lmul hx hb dX12_rounded_26 ?_
  refine lv_lload hx hb dX12_rounded_27 (lv_at hl 1 rfl) ?_
  refine lc_le (tgt := 40) C0 dX12_rounded_29 dX12_rounded_30 (by decide) (fun c2 => ?_) (fun c2 => ?_)
  · rw [if_pos c2] at hf
    refine lv_lload hx hb dX12_rounded_40 (lv_at hl 0 rfl) ?_
    obtain rfl := Option.some.inj hf
    exact eL C0 hr w dX12_rounded_42
  · rw [if_neg c2] at hf
    refine lv_lload hx hb dX12_rounded_33 (lv_at hl 0 rfl) ?_
    refine lv_lconst (v := 1) hx hb dX12_rounded_35 (by decide) ?_
    refine lv_lsub hx hb dX12_rounded_36 ?_
    refine lv_goto (tgt := 42) hx hb dX12_rounded_37 (by decide) ?_
    obtain rfl := Option.some.inj hf
    exact eL C0 hr w dX12_rounded_42
def f_X12_move (x1 : Int32) (x2 : Int32) (σ : Mem) : Option (Int32) :=
  bd (f_X12_columns σ) (fun q1 =>
  gd (nz4 q1) (
  bd (f_X12_columns σ) (fun q4 =>
  gd (nz4 q4) (
  bd (f_X12_columns σ) (fun q7 =>
  gd (nz4 q7) (
  bd (f_X12_columns σ) (fun q10 =>
  gd (nz4 q10) (
  bd (f_X12_in (((x1 - x1 / q1 * q1) - (x2 - x2 / q4 * q4)).toInt64) ((-1 : Int64)) 1 σ) (fun q13 =>
  if q13 = 0 then (
    some 0)
  else (
    bd (f_X12_in (((x1 / q7) - (x2 / q10)).toInt64) ((-1 : Int64)) 1 σ) (fun q16 =>
    if q16 = 0 then (
      some 0)
    else (
      if x1 = x2 then (
        some 0)
      else (
        if ((x1 - x1 / q1 * q1) - (x2 - x2 / q4 * q4)) = 0 then (
          some 1000)
        else (
          if ((x1 / q7) - (x2 / q10)) = 0 then (
            some 1000)
          else (
            some 1414)))))))))))))))
abbrev rm_X12_move : Room := { frames := 1, cells := 0, slots := 0, locals := 25 }
set_option maxHeartbeats 4000000 in
set_option maxRecDepth 100000 in
theorem m_X12_move (l : Launch) (B : Wb) (sz : Nat) (σ : Mem) (x1 : Int32) (x2 : Int32) (q : Int32) (hf : f_X12_move x1 x2 σ = some q) : MetC l yX12_move cX12_move 5 (some .int) rm_X12_move B sz σ σ [.ref (wA B 224), .int x1, .int x2] (some (.int q)) := by
  refine met_in (by decide +kernel) (Nat.le_of_ble_eq_true rfl) ?_
  intro p e s m below meth c C0 hr w hsz ls hl
  have hx := C0.1.1
  have hb := C0.1.2.1
  unfold f_X12_move at hf
  refine lv_iload_n hx hb dX12_move_0 rfl (lv_at hl 1 rfl) ?_
  refine lv_aload_n hx hb dX12_move_1 rfl (lv_at hl 0 rfl) ?_
  obtain ⟨q1, h2, hf⟩ := bdE hf
  refine cV (As := []) (rest := [.int x1]) (k := 224) (ci := 10) (T := TX12) (N := 22) C0 w (m_X12_columns l B _ σ q1 h2) ky_X12_columns kv_X12_columns lk_X12_69 rfl (by decide +kernel) ⟨Nat.le_of_ble_eq_true rfl, Nat.le_of_ble_eq_true rfl⟩ ⟨Nat.le_of_ble_eq_true rfl, Nat.le_of_ble_eq_true rfl⟩ rfl (by rfl) (Nat.le_of_ble_eq_true rfl) hl.1 dX12_move_2 (fun H locs w => ?_)
  obtain ⟨g3, hf⟩ := gdE hf
  refine lv_irem hx hb dX12_move_5 (nz4E g3) ?_
  refine lv_iload_n hx hb dX12_move_6 rfl (lv_at hl 2 rfl) ?_
  refine lv_aload_n hx hb dX12_move_7 rfl (lv_at hl 0 rfl) ?_
  obtain ⟨q4, h5, hf⟩ := bdE hf
  refine cV (As := []) (rest := [.int x2, .int (x1 - x1 / q1 * q1)]) (k := 224) (ci := 10) (T := TX12) (N := 22) C0 w (m_X12_columns l B _ σ q4 h5) ky_X12_columns kv_X12_columns lk_X12_69 rfl (by decide +kernel) ⟨Nat.le_of_ble_eq_true rfl, Nat.le_of_ble_eq_true rfl⟩ ⟨Nat.le_of_ble_eq_true rfl, Nat.le_of_ble_eq_true rfl⟩ rfl (by rfl) (Nat.le_of_ble_eq_true rfl) hl.1 dX12_move_8 (fun H locs w => ?_)
  obtain ⟨g6, hf⟩ := gdE hf
  refine lv_irem hx hb dX12_move_11 (nz4E g6) ?_
  refine lv_isub hx hb dX12_move_12 ?_
  refine lv_istore_n (lv' := [(3, .int ((x1 - x1 / q1 * q1) - (x2 - x2 / q4 * q4))), (0, .ref (wA B 224)), (1, .int x1), (2, .int x2)]) hx hb dX12_move_13 rfl hl (by decide) rfl (fun ls hl => ?_)
  refine lv_iload_n hx hb dX12_move_14 rfl (lv_at hl 2 rfl) ?_
  refine lv_aload_n hx hb dX12_move_15 rfl (lv_at hl 1 rfl) ?_
  obtain ⟨q7, h8, hf⟩ := bdE hf
  refine cV (As := []) (rest := [.int x1]) (k := 224) (ci := 10) (T := TX12) (N := 22) C0 w (m_X12_columns l B _ σ q7 h8) ky_X12_columns kv_X12_columns lk_X12_69 rfl (by decide +kernel) ⟨Nat.le_of_ble_eq_true rfl, Nat.le_of_ble_eq_true rfl⟩ ⟨Nat.le_of_ble_eq_true rfl, Nat.le_of_ble_eq_true rfl⟩ rfl (by rfl) (Nat.le_of_ble_eq_true rfl) hl.1 dX12_move_16 (fun H locs w => ?_)
  obtain ⟨g9, hf⟩ := gdE hf
  refine lv_idiv hx hb dX12_move_19 (nz4E g9) ?_
  refine lv_iload_n hx hb dX12_move_20 rfl (lv_at hl 3 rfl) ?_
  refine lv_aload_n hx hb dX12_move_21 rfl (lv_at hl 1 rfl) ?_
  obtain ⟨q10, h11, hf⟩ := bdE hf
  refine cV (As := []) (rest := [.int x2, .int (x1 / q7)]) (k := 224) (ci := 10) (T := TX12) (N := 22) C0 w (m_X12_columns l B _ σ q10 h11) ky_X12_columns kv_X12_columns lk_X12_69 rfl (by decide +kernel) ⟨Nat.le_of_ble_eq_true rfl, Nat.le_of_ble_eq_true rfl⟩ ⟨Nat.le_of_ble_eq_true rfl, Nat.le_of_ble_eq_true rfl⟩ rfl (by rfl) (Nat.le_of_ble_eq_true rfl) hl.1 dX12_move_22 (fun H locs w => ?_)
  obtain ⟨g12, hf⟩ := gdE hf
  refine lv_idiv hx hb dX12_move_25 (nz4E g12) ?_
  refine lv_isub hx hb dX12_move_26 ?_
  refine lv_istore (lv' := [(4, .int ((x1 / q7) - (x2 / q10))), (3, .int ((x1 - x1 / q1 * q1) - (x2 - x2 / q4 * q4))), (0, .ref (wA B 224)), (1, .int x1), (2, .int x2)]) hx hb dX12_move_27 hl (by decide) rfl (fun ls hl => ?_)
  refine lv_iload_n hx hb dX12_move_29 rfl (lv_at hl 1 rfl) ?_
  refine lv_i2l hx hb dX12_move_30 rfl ?_
  refine kLg C0 (-1) kc_X12_87 dX12_move_31 ?_
  refine lv_lconst (v := 1) hx hb dX12_move_34 (by decide) ?_
  obtain ⟨q13, h14, hf⟩ := bdE hf
  refine cS (As := [.long (((x1 - x1 / q1 * q1) - (x2 - x2 / q4 * q4)).toInt64), .long ((-1 : Int64)), .long 1]) (rest := []) C0 w (m_X12_in l B _ σ (((x1 - x1 / q1 * q1) - (x2 - x2 / q4 * q4)).toInt64) ((-1 : Int64)) 1 q13 h14) ky_X12_in ks_X12_in lk_X12_79 ⟨Nat.le_of_ble_eq_true rfl, Nat.le_of_ble_eq_true rfl⟩ ⟨Nat.le_of_ble_eq_true rfl, Nat.le_of_ble_eq_true rfl⟩ rfl (by rfl) (Nat.le_of_ble_eq_true rfl) hl.1 dX12_move_35 (fun H locs w => ?_)
  refine lv_if_eq (tgt := 59) hx hb dX12_move_38 (by decide) (fun c15 => ?_) (fun c15 => ?_)
  · rw [if_pos c15] at hf
    refine lv_iconst (v := 0) hx hb dX12_move_59 (by decide) ?_
    obtain rfl := Option.some.inj hf
    exact eI C0 hr w rfl dX12_move_60
  · rw [if_neg c15] at hf
    refine lv_iload hx hb dX12_move_41 (lv_at hl 0 rfl) ?_
    refine lv_i2l hx hb dX12_move_43 rfl ?_
    refine kLg C0 (-1) kc_X12_87 dX12_move_44 ?_
    refine lv_lconst (v := 1) hx hb dX12_move_47 (by decide) ?_
    obtain ⟨q16, h17, hf⟩ := bdE hf
    refine cS (As := [.long (((x1 / q7) - (x2 / q10)).toInt64), .long ((-1 : Int64)), .long 1]) (rest := []) C0 w (m_X12_in l B _ σ (((x1 / q7) - (x2 / q10)).toInt64) ((-1 : Int64)) 1 q16 h17) ky_X12_in ks_X12_in lk_X12_79 ⟨Nat.le_of_ble_eq_true rfl, Nat.le_of_ble_eq_true rfl⟩ ⟨Nat.le_of_ble_eq_true rfl, Nat.le_of_ble_eq_true rfl⟩ rfl (by rfl) (Nat.le_of_ble_eq_true rfl) hl.1 dX12_move_48 (fun H locs w => ?_)
    refine lv_if_eq (tgt := 59) hx hb dX12_move_51 (by decide) (fun c18 => ?_) (fun c18 => ?_)
    · rw [if_pos c18] at hf
      refine lv_iconst (v := 0) hx hb dX12_move_59 (by decide) ?_
      obtain rfl := Option.some.inj hf
      exact eI C0 hr w rfl dX12_move_60
    · rw [if_neg c18] at hf
      refine lv_iload_n hx hb dX12_move_54 rfl (lv_at hl 3 rfl) ?_
      refine lv_iload_n hx hb dX12_move_55 rfl (lv_at hl 4 rfl) ?_
      refine lv_icmp_ne (tgt := 61) hx hb dX12_move_56 (by decide) (fun c19 => ?_) (fun c19 => ?_)
      · rw [if_neg c19] at hf
        refine lv_iload_n hx hb dX12_move_61 rfl (lv_at hl 1 rfl) ?_
        refine lv_if_eq (tgt := 70) hx hb dX12_move_62 (by decide) (fun c20 => ?_) (fun c20 => ?_)
        · rw [if_pos c20] at hf
          refine lv_sipush (v := 1000) hx hb dX12_move_70 (by decide) ?_
          refine lv_goto (tgt := 79) hx hb dX12_move_73 (by decide) ?_
          obtain rfl := Option.some.inj hf
          exact eI C0 hr w rfl dX12_move_79
        · rw [if_neg c20] at hf
          refine lv_iload hx hb dX12_move_65 (lv_at hl 0 rfl) ?_
          refine lv_if_ne (tgt := 76) hx hb dX12_move_67 (by decide) (fun c21 => ?_) (fun c21 => ?_)
          · rw [if_neg c21] at hf
            refine lv_sipush (v := 1414) hx hb dX12_move_76 (by decide) ?_
            obtain rfl := Option.some.inj hf
            exact eI C0 hr w rfl dX12_move_79
          · rw [if_pos c21] at hf
            refine lv_sipush (v := 1000) hx hb dX12_move_70 (by decide) ?_
            refine lv_goto (tgt := 79) hx hb dX12_move_73 (by decide) ?_
            obtain rfl := Option.some.inj hf
            exact eI C0 hr w rfl dX12_move_79
      · rw [if_pos c19] at hf
        refine lv_iconst (v := 0) hx hb dX12_move_59 (by decide) ?_
        obtain rfl := Option.some.inj hf
        exact eI C0 hr w rfl dX12_move_60
def f_X12_reachFrom_2 (x1 : Int32) (x2 : Int32) : Nat → Int32 → Mem → Option (Mem)
  | 0, _, _ => none
  | n + 1, x3, σ =>
    bd (f_X12_cells σ) (fun q1 =>
    if q1 ≤ x3 then (
      some σ)
    else (
      bd (f_X12_move x1 x3 σ) (fun q4 =>
      gd (inb x1 64) (
      gd (inb (x2 + x1) 200) (
      gd (inb (x2 + x3) 200) (
      if q4 ≤ 0 then (
        gd (inb x3 64) (
        gd (inb x3 64) (
        f_X12_reachFrom_2 x1 x2 n (x3 + 1) (setL σ 228 x3.toNatClampNeg (σ.2 228 x3.toNatClampNeg)))))
      else (
        gd (inb x3 64) (
        if (σ.2 228 x3.toNatClampNeg) ≤ ((σ.2 228 x1.toNatClampNeg) + (q4.toInt64 * ((σ.2 225 (x2 + x1).toNatClampNeg) + (σ.2 225 (x2 + x3).toNatClampNeg)))) then (
          gd (inb x3 64) (
          gd (inb x3 64) (
          f_X12_reachFrom_2 x1 x2 n (x3 + 1) (setL σ 228 x3.toNatClampNeg (σ.2 228 x3.toNatClampNeg)))))
        else (
          gd (inb x3 64) (
          bd (some (setL σ 228 x3.toNatClampNeg ((σ.2 228 x1.toNatClampNeg) + (q4.toInt64 * ((σ.2 225 (x2 + x1).toNatClampNeg) + (σ.2 225 (x2 + x3).toNatClampNeg)))))) (fun q17 =>
          f_X12_reachFrom_2 x1 x2 n (x3 + 1) q17)))))))))))
def f_X12_reachFrom (x1 : Int32) (x2 : Int32) (σ : Mem) : Option (Mem) :=
  bd (f_X12_reachFrom_2 x1 x2 100000 0 σ) (fun q1 =>
  some q1)
abbrev rm_X12_reachFrom : Room := { frames := 2, cells := 0, slots := 0, locals := 49 }
set_option maxHeartbeats 4000000 in
set_option maxRecDepth 100000 in
theorem lp_X12_reachFrom_2 {p : Program} {e : Env} {s : State} {m : MethodId} {args : Array Value} {below : List Frame} {meth : Method} {c : Code} {Q : State → Prop} (l : Launch) (B : Wb) (C0 : Cx p s m args meth c cX12_reachFrom 7 RX12) (x1 : Int32) (x2 : Int32) : ∀ (n : Nat) (x3 : Int32) (σ : Mem) (o : Mem) (H : Heap) (locs : List Loc) (ls : Array Slot), f_X12_reachFrom_2 x1 x2 n x3 σ = some o → Wx B σ s H locs → lv_has ls 7 [(0, .ref (wA B 224)), (1, .int x1), (2, .int x2), (3, .int x3)] → (∀ (H : Heap) (locs : List Loc) (ls : Array Slot), Wx B o s H locs → lv_has ls 7 [] → W p l e rm_X12_reachFrom s m args below meth c H locs 0 0 Q (F0 m 88 ls [])) → W p l e rm_X12_reachFrom s m args below meth c H locs 0 0 Q (F0 m 2 ls []) := by
  have hx := C0.1.1
  have hb := C0.1.2.1
  intro n
  induction n with
  | zero =>
    intro x3 σ o H locs ls hf w hl hK
    cases hf
  | succ n ih =>
    intro x3 σ o H locs ls hf w hl hK
    rw [f_X12_reachFrom_2] at hf
    refine lv_iload_n hx hb dX12_reachFrom_2 rfl (lv_at hl 3 rfl) ?_
    refine lv_aload_n hx hb dX12_reachFrom_3 rfl (lv_at hl 0 rfl) ?_
    obtain ⟨q1, h2, hf⟩ := bdE hf
    refine cV (As := []) (rest := [.int x3]) (k := 224) (ci := 10) (T := TX12) (N := 22) C0 w (m_X12_cells l B _ σ q1 h2) ky_X12_cells kv_X12_cells lk_X12_76 rfl (by decide +kernel) ⟨Nat.le_of_ble_eq_true rfl, Nat.le_of_ble_eq_true rfl⟩ ⟨Nat.le_of_ble_eq_true rfl, Nat.le_of_ble_eq_true rfl⟩ rfl (by rfl) (Nat.le_of_ble_eq_true rfl) hl.1 dX12_reachFrom_4 (fun H locs w => ?_)
    refine lv_icmp_ge (tgt := 88) hx hb dX12_reachFrom_7 (by decide) (fun c3 => ?_) (fun c3 => ?_)
    · rw [if_pos c3] at hf
      obtain rfl := Option.some.inj hf
      exact hK _ _ _ w (lv_sub hl [] rfl)
    · rw [if_neg c3] at hf
      refine lv_aload_n hx hb dX12_reachFrom_10 rfl (lv_at hl 0 rfl) ?_
      refine lv_iload_n hx hb dX12_reachFrom_11 rfl (lv_at hl 1 rfl) ?_
      refine lv_iload_n hx hb dX12_reachFrom_12 rfl (lv_at hl 3 rfl) ?_
      obtain ⟨q4, h5, hf⟩ := bdE hf
      refine cV (As := [.int x1, .int x3]) (rest := []) (k := 224) (ci := 10) (T := TX12) (N := 22) C0 w (m_X12_move l B _ σ x1 x3 q4 h5) ky_X12_move kv_X12_move lk_X12_100 rfl (by decide +kernel) ⟨Nat.le_of_ble_eq_true rfl, Nat.le_of_ble_eq_true rfl⟩ ⟨Nat.le_of_ble_eq_true rfl, Nat.le_of_ble_eq_true rfl⟩ rfl (by rfl) (Nat.le_of_ble_eq_true rfl) hl.1 dX12_reachFrom_13 (fun H locs w => ?_)
      refine lv_istore (lv' := [(4, .int q4), (0, .ref (wA B 224)), (1, .int x1), (2, .int x2), (3, .int x3)]) hx hb dX12_reachFrom_16 hl (by decide) rfl (fun ls hl => ?_)
      refine lv_aload_n hx hb dX12_reachFrom_18 rfl (lv_at hl 1 rfl) ?_
      refine gR C0 w 228 fk_X12_20 (by decide +kernel) dX12_reachFrom_19 ?_
      refine lv_iload_n hx hb dX12_reachFrom_22 rfl (lv_at hl 2 rfl) ?_
      obtain ⟨g6, hf⟩ := gdE hf
      refine aL C0 w (n := 64) (by decide +kernel) (inbE g6) dX12_reachFrom_23 ?_
      refine lv_iload hx hb dX12_reachFrom_24 (lv_at hl 0 rfl) ?_
      refine lv_i2l hx hb dX12_reachFrom_26 rfl ?_
      refine lv_aload_n hx hb dX12_reachFrom_27 rfl (lv_at hl 1 rfl) ?_
      refine gR C0 w 225 fk_X12_7 (by decide +kernel) dX12_reachFrom_28 ?_
      refine lv_iload_n hx hb dX12_reachFrom_31 rfl (lv_at hl 3 rfl) ?_
      refine lv_iload_n hx hb dX12_reachFrom_32 rfl (lv_at hl 2 rfl) ?_
      refine lv_iadd hx hb dX12_reachFrom_33 ?_
      obtain ⟨g7, hf⟩ := gdE hf
      refine aL C0 w (n := 200) (by decide +kernel) (inbE g7) dX12_reachFrom_34 ?_
      refine lv_aload_n hx hb dX12_reachFrom_35 rfl (lv_at hl 1 rfl) ?_
      refine gR C0 w 225 fk_X12_7 (by decide +kernel) dX12_reachFrom_36 ?_
      refine lv_iload_n hx hb dX12_reachFrom_39 rfl (lv_at hl 3 rfl) ?_
      refine lv_iload_n hx hb dX12_reachFrom_40 rfl (lv_at hl 4 rfl) ?_
      refine lv_iadd hx hb dX12_reachFrom_41 ?_
      obtain ⟨g8, hf⟩ := gdE hf
      refine aL C0 w (n := 200) (by decide +kernel) (inbE g8) dX12_reachFrom_42 ?_
      refine lv_ladd hx hb dX12_reachFrom_43 ?_
      refine lv_lmul hx hb dX12_reachFrom_44 ?_
      refine lv_ladd hx hb dX12_reachFrom_45 ?_
      refine lv_lstore (lv' := [(5, .long ((σ.2 228 x1.toNatClampNeg) + (q4.toInt64 * ((σ.2 225 (x2 + x1).toNatClampNeg) + (σ.2 225 (x2 + x3).toNatClampNeg))))), (4, .int q4), (0, .ref (wA B 224)), (1, .int x1), (2, .int x2), (3, .int x3)]) hx hb dX12_reachFrom_46 hl (by decide) rfl (fun ls hl => ?_)
      refine lv_aload_n hx hb dX12_reachFrom_48 rfl (lv_at hl 2 rfl) ?_
      refine gR C0 w 228 fk_X12_20 (by decide +kernel) dX12_reachFrom_49 ?_
      refine lv_iload_n hx hb dX12_reachFrom_52 rfl (lv_at hl 5 rfl) ?_
      refine lv_iload hx hb dX12_reachFrom_53 (lv_at hl 1 rfl) ?_
      refine lv_if_le (tgt := 75) hx hb dX12_reachFrom_55 (by decide) (fun c9 => ?_) (fun c9 => ?_)
      · rw [if_pos c9] at hf
        refine lv_aload_n hx hb dX12_reachFrom_75 rfl (lv_at hl 2 rfl) ?_
        refine gR C0 w 228 fk_X12_20 (by decide +kernel) dX12_reachFrom_76 ?_
        refine lv_iload_n hx hb dX12_reachFrom_79 rfl (lv_at hl 5 rfl) ?_
        obtain ⟨g10, hf⟩ := gdE hf
        refine aL C0 w (n := 64) (by decide +kernel) (inbE g10) dX12_reachFrom_80 ?_
        obtain ⟨g11, hf⟩ := gdE hf
        refine sL C0 w (n := 64) (by decide +kernel) (inbE g11) dX12_reachFrom_81 (fun H locs w => ?_)
        refine lv_iinc (k := 5) (v := x3 + 1) (lv' := [(3, .int (x3 + 1)), (5, .long ((σ.2 228 x1.toNatClampNeg) + (q4.toInt64 * ((σ.2 225 (x2 + x1).toNatClampNeg) + (σ.2 225 (x2 + x3).toNatClampNeg))))), (4, .int q4), (0, .ref (wA B 224)), (1, .int x1), (2, .int x2)]) hx hb dX12_reachFrom_82 hl rfl (by rfl) (by decide) rfl (fun ls hl => ?_)
        refine lv_goto (tgt := 2) hx hb dX12_reachFrom_85 (by decide) ?_
        exact ih (x3 + 1) (setL σ 228 x3.toNatClampNeg (σ.2 228 x3.toNatClampNeg)) _ _ _ _ hf w (lv_sub hl [3, 4, 5, 0] rfl) hK
      · rw [if_neg c9] at hf
        refine lv_lload hx hb dX12_reachFrom_58 (lv_at hl 0 rfl) ?_
        refine lv_aload_n hx hb dX12_reachFrom_60 rfl (lv_at hl 2 rfl) ?_
        refine gR C0 w 228 fk_X12_20 (by decide +kernel) dX12_reachFrom_61 ?_
        refine lv_iload_n hx hb dX12_reachFrom_64 rfl (lv_at hl 5 rfl) ?_
        obtain ⟨g12, hf⟩ := gdE hf
        refine aL C0 w (n := 64) (by decide +kernel) (inbE g12) dX12_reachFrom_65 ?_
        refine lc_ge (tgt := 75) C0 dX12_reachFrom_66 dX12_reachFrom_67 (by decide) (fun c13 => ?_) (fun c13 => ?_)
        · rw [if_pos c13] at hf
          refine lv_aload_n hx hb dX12_reachFrom_75 rfl (lv_at hl 2 rfl) ?_
          refine gR C0 w 228 fk_X12_20 (by decide +kernel) dX12_reachFrom_76 ?_
          refine lv_iload_n hx hb dX12_reachFrom_79 rfl (lv_at hl 5 rfl) ?_
          obtain ⟨g14, hf⟩ := gdE hf
          refine aL C0 w (n := 64) (by decide +kernel) (inbE g14) dX12_reachFrom_80 ?_
          obtain ⟨g15, hf⟩ := gdE hf
          refine sL C0 w (n := 64) (by decide +kernel) (inbE g15) dX12_reachFrom_81 (fun H locs w => ?_)
          refine lv_iinc (k := 5) (v := x3 + 1) (lv' := [(3, .int (x3 + 1)), (5, .long ((σ.2 228 x1.toNatClampNeg) + (q4.toInt64 * ((σ.2 225 (x2 + x1).toNatClampNeg) + (σ.2 225 (x2 + x3).toNatClampNeg))))), (4, .int q4), (0, .ref (wA B 224)), (1, .int x1), (2, .int x2)]) hx hb dX12_reachFrom_82 hl rfl (by rfl) (by decide) rfl (fun ls hl => ?_)
          refine lv_goto (tgt := 2) hx hb dX12_reachFrom_85 (by decide) ?_
          exact ih (x3 + 1) (setL σ 228 x3.toNatClampNeg (σ.2 228 x3.toNatClampNeg)) _ _ _ _ hf w (lv_sub hl [3, 4, 5, 0] rfl) hK
        · rw [if_neg c13] at hf
          refine lv_lload hx hb dX12_reachFrom_70 (lv_at hl 0 rfl) ?_
          refine lv_goto (tgt := 81) hx hb dX12_reachFrom_72 (by decide) ?_
          obtain ⟨g16, hf⟩ := gdE hf
          refine sL C0 w (n := 64) (by decide +kernel) (inbE g16) dX12_reachFrom_81 (fun H locs w => ?_)
          obtain ⟨q17, h18, hf⟩ := bdE hf
          have w : Wx B q17 s H locs := by rw [← Option.some.inj h18]; exact w
          refine lv_iinc (k := 5) (v := x3 + 1) (lv' := [(3, .int (x3 + 1)), (5, .long ((σ.2 228 x1.toNatClampNeg) + (q4.toInt64 * ((σ.2 225 (x2 + x1).toNatClampNeg) + (σ.2 225 (x2 + x3).toNatClampNeg))))), (4, .int q4), (0, .ref (wA B 224)), (1, .int x1), (2, .int x2)]) hx hb dX12_reachFrom_82 hl rfl (by rfl) (by decide) rfl (fun ls hl => ?_)
          refine lv_goto (tgt := 2) hx hb dX12_reachFrom_85 (by decide) ?_
          exact ih (x3 + 1) q17 _ _ _ _ hf w (lv_sub hl [3, 4, 5, 0] rfl) hK
set_option maxHeartbeats 4000000 in
set_option maxRecDepth 100000 in
theorem m_X12_reachFrom (l : Launch) (B : Wb) (sz : Nat) (σ : Mem) (x1 : Int32) (x2 : Int32) (q : Mem) (hf : f_X12_reachFrom x1 x2 σ = some q) : MetC l yX12_reachFrom cX12_reachFrom 7 none rm_X12_reachFrom B sz σ q [.ref (wA B 224), .int x1, .int x2] (none) := by
  refine met_in (by decide +kernel) (Nat.le_of_ble_eq_true rfl) ?_
  intro p e s m below meth c C0 hr w hsz ls hl
  have hx := C0.1.1
  have hb := C0.1.2.1
  unfold f_X12_reachFrom at hf
  refine lv_iconst (v := 0) hx hb dX12_reachFrom_0 (by decide) ?_
  refine lv_istore_n (lv' := [(3, .int 0), (0, .ref (wA B 224)), (1, .int x1), (2, .int x2)]) hx hb dX12_reachFrom_1 rfl hl (by decide) rfl (fun ls hl => ?_)
  obtain ⟨q1, h2, hf⟩ := bdE hf
  refine lp_X12_reachFrom_2 l B C0 x1 x2 100000 0 σ q1 _ _ _ h2 w (lv_sub hl [1, 2, 3, 0] rfl) (fun H locs ls w hl => ?_)
  obtain rfl := Option.some.inj hf
  exact eV C0 hr w dX12_reachFrom_88
def f_X12_spread_2 (x1 : Int32) (x2 : Int32) : Nat → Int32 → Mem → Option (Mem)
  | 0, _, _ => none
  | n + 1, x3, σ =>
    bd (f_X12_cells σ) (fun q1 =>
    if q1 ≤ x3 then (
      some σ)
    else (
      if x3 = x1 then (
        gd (inb x3 64) (
        gd (inb x3 64) (
        f_X12_spread_2 x1 x2 n (x3 + 1) (setI (setL σ 228 x3.toNatClampNeg 0) 229 x3.toNatClampNeg 0))))
      else (
        gd (inb x3 64) (
        gd (inb x3 64) (
        f_X12_spread_2 x1 x2 n (x3 + 1) (setI (setL σ 228 x3.toNatClampNeg 1000000000000000) 229 x3.toNatClampNeg 0))))))
def f_X12_spread_57 (x2 : Int32) (x3 : Int32) (σ : Mem) : Nat → Int32 → Int32 → Option (Int32)
  | 0, _, _ => none
  | n + 1, x4, x5 =>
    bd (f_X12_cells σ) (fun q1 =>
    if q1 ≤ x5 then (
      some x4)
    else (
      gd (inb x5 64) (
      if (σ.1 229 x5.toNatClampNeg) = 0 then (
        if x4 = ((-1 : Int32)) then (
          f_X12_spread_57 x2 x3 σ n x5 (x5 + 1))
        else (
          gd (inb x5 64) (
          gd (inb x4 64) (
          if (σ.2 228 x4.toNatClampNeg) ≤ (σ.2 228 x5.toNatClampNeg) then (
            f_X12_spread_57 x2 x3 σ n x4 (x5 + 1))
          else (
            f_X12_spread_57 x2 x3 σ n x5 (x5 + 1))))))
      else (
        f_X12_spread_57 x2 x3 σ n x4 (x5 + 1)))))
def f_X12_spread_43 (x2 : Int32) : Nat → Int32 → Mem → Option (Mem)
  | 0, _, _ => none
  | n + 1, x3, σ =>
    bd (f_X12_cells σ) (fun q1 =>
    if q1 ≤ x3 then (
      some σ)
    else (
      bd (f_X12_spread_57 x2 x3 σ 100000 ((-1 : Int32)) 0) (fun q4 =>
      gd (inb q4 64) (
      bd (f_X12_reachFrom q4 x2 (setI σ 229 q4.toNatClampNeg 1)) (fun q7 =>
      f_X12_spread_43 x2 n (x3 + 1) q7)))))
def f_X12_spread (x1 : Int32) (x2 : Int32) (σ : Mem) : Option (Mem) :=
  bd (f_X12_spread_2 x1 x2 100000 0 σ) (fun q1 =>
  bd (f_X12_spread_43 x2 100000 0 q1) (fun q3 =>
  some q3))
abbrev rm_X12_spread : Room := { frames := 3, cells := 0, slots := 0, locals := 75 }
set_option maxHeartbeats 4000000 in
set_option maxRecDepth 100000 in
theorem lp_X12_spread_2 {p : Program} {e : Env} {s : State} {m : MethodId} {args : Array Value} {below : List Frame} {meth : Method} {c : Code} {Q : State → Prop} (l : Launch) (B : Wb) (C0 : Cx p s m args meth c cX12_spread 6 RX12) (x1 : Int32) (x2 : Int32) : ∀ (n : Nat) (x3 : Int32) (σ : Mem) (o : Mem) (H : Heap) (locs : List Loc) (ls : Array Slot), f_X12_spread_2 x1 x2 n x3 σ = some o → Wx B σ s H locs → lv_has ls 6 [(0, .ref (wA B 224)), (1, .int x1), (2, .int x2), (3, .int x3)] → (∀ (H : Heap) (locs : List Loc) (ls : Array Slot), Wx B o s H locs → lv_has ls 6 [(0, .ref (wA B 224)), (2, .int x2)] → W p l e rm_X12_spread s m args below meth c H locs 0 0 Q (F0 m 41 ls [])) → W p l e rm_X12_spread s m args below meth c H locs 0 0 Q (F0 m 2 ls []) := by
  have hx := C0.1.1
  have hb := C0.1.2.1
  intro n
  induction n with
  | zero =>
    intro x3 σ o H locs ls hf w hl hK
    cases hf
  | succ n ih =>
    intro x3 σ o H locs ls hf w hl hK
    rw [f_X12_spread_2] at hf
    refine lv_iload_n hx hb dX12_spread_2 rfl (lv_at hl 3 rfl) ?_
    refine lv_aload_n hx hb dX12_spread_3 rfl (lv_at hl 0 rfl) ?_
    obtain ⟨q1, h2, hf⟩ := bdE hf
    refine cV (As := []) (rest := [.int x3]) (k := 224) (ci := 10) (T := TX12) (N := 22) C0 w (m_X12_cells l B _ σ q1 h2) ky_X12_cells kv_X12_cells lk_X12_76 rfl (by decide +kernel) ⟨Nat.le_of_ble_eq_true rfl, Nat.le_of_ble_eq_true rfl⟩ ⟨Nat.le_of_ble_eq_true rfl, Nat.le_of_ble_eq_true rfl⟩ rfl (by rfl) (Nat.le_of_ble_eq_true rfl) hl.1 dX12_spread_4 (fun H locs w => ?_)
    refine lv_icmp_ge (tgt := 41) hx hb dX12_spread_7 (by decide) (fun c3 => ?_) (fun c3 => ?_)
    · rw [if_pos c3] at hf
      obtain rfl := Option.some.inj hf
      exact hK _ _ _ w (lv_sub hl [0, 2] rfl)
    · rw [if_neg c3] at hf
      refine lv_aload_n hx hb dX12_spread_10 rfl (lv_at hl 0 rfl) ?_
      refine gR C0 w 228 fk_X12_20 (by decide +kernel) dX12_spread_11 ?_
      refine lv_iload_n hx hb dX12_spread_14 rfl (lv_at hl 3 rfl) ?_
      refine lv_iload_n hx hb dX12_spread_15 rfl (lv_at hl 3 rfl) ?_
      refine lv_iload_n hx hb dX12_spread_16 rfl (lv_at hl 1 rfl) ?_
      refine lv_icmp_ne (tgt := 24) hx hb dX12_spread_17 (by decide) (fun c4 => ?_) (fun c4 => ?_)
      · rw [if_neg c4] at hf
        refine kLg C0 1000000000000000 kc_X12_95 dX12_spread_24 ?_
        obtain ⟨g5, hf⟩ := gdE hf
        refine sL C0 w (n := 64) (by decide +kernel) (inbE g5) dX12_spread_27 (fun H locs w => ?_)
        refine lv_aload_n hx hb dX12_spread_28 rfl (lv_at hl 0 rfl) ?_
        refine gR C0 w 229 fk_X12_23 (by decide +kernel) dX12_spread_29 ?_
        refine lv_iload_n hx hb dX12_spread_32 rfl (lv_at hl 3 rfl) ?_
        refine lv_iconst (v := 0) hx hb dX12_spread_33 (by decide) ?_
        obtain ⟨g6, hf⟩ := gdE hf
        refine sZ C0 w (n := 64) (by decide +kernel) (inbE g6) (bzV (by decide)) dX12_spread_34 (fun H locs w => ?_)
        refine lv_iinc (k := 3) (v := x3 + 1) (lv' := [(3, .int (x3 + 1)), (0, .ref (wA B 224)), (1, .int x1), (2, .int x2)]) hx hb dX12_spread_35 hl rfl (by rfl) (by decide) rfl (fun ls hl => ?_)
        refine lv_goto (tgt := 2) hx hb dX12_spread_38 (by decide) ?_
        exact ih (x3 + 1) (setI (setL σ 228 x3.toNatClampNeg 1000000000000000) 229 x3.toNatClampNeg 0) _ _ _ _ hf w (lv_sub hl [1, 2, 3, 0] rfl) hK
      · rw [if_pos c4] at hf
        refine lv_lconst (v := 0) hx hb dX12_spread_20 (by decide) ?_
        refine lv_goto (tgt := 27) hx hb dX12_spread_21 (by decide) ?_
        obtain ⟨g7, hf⟩ := gdE hf
        refine sL C0 w (n := 64) (by decide +kernel) (inbE g7) dX12_spread_27 (fun H locs w => ?_)
        refine lv_aload_n hx hb dX12_spread_28 rfl (lv_at hl 0 rfl) ?_
        refine gR C0 w 229 fk_X12_23 (by decide +kernel) dX12_spread_29 ?_
        refine lv_iload_n hx hb dX12_spread_32 rfl (lv_at hl 3 rfl) ?_
        refine lv_iconst (v := 0) hx hb dX12_spread_33 (by decide) ?_
        obtain ⟨g8, hf⟩ := gdE hf
        refine sZ C0 w (n := 64) (by decide +kernel) (inbE g8) (bzV (by decide)) dX12_spread_34 (fun H locs w => ?_)
        refine lv_iinc (k := 3) (v := x3 + 1) (lv' := [(3, .int (x3 + 1)), (0, .ref (wA B 224)), (1, .int x1), (2, .int x2)]) hx hb dX12_spread_35 hl rfl (by rfl) (by decide) rfl (fun ls hl => ?_)
        refine lv_goto (tgt := 2) hx hb dX12_spread_38 (by decide) ?_
        exact ih (x3 + 1) (setI (setL σ 228 x3.toNatClampNeg 0) 229 x3.toNatClampNeg 0) _ _ _ _ hf w (lv_sub hl [1, 2, 3, 0] rfl) hK
set_option maxHeartbeats 4000000 in
set_option maxRecDepth 100000 in
theorem lp_X12_spread_57 {p : Program} {e : Env} {s : State} {m : MethodId} {args : Array Value} {below : List Frame} {meth : Method} {c : Code} {Q : State → Prop} (l : Launch) (B : Wb) (C0 : Cx p s m args meth c cX12_spread 6 RX12) (x2 : Int32) (x3 : Int32) : ∀ (n : Nat) (x4 : Int32) (x5 : Int32) (σ : Mem) (o : Int32) (H : Heap) (locs : List Loc) (ls : Array Slot), f_X12_spread_57 x2 x3 σ n x4 x5 = some o → Wx B σ s H locs → lv_has ls 6 [(0, .ref (wA B 224)), (2, .int x2), (3, .int x3), (4, .int x4), (5, .int x5)] → (∀ (H : Heap) (locs : List Loc) (ls : Array Slot), Wx B σ s H locs → lv_has ls 6 [(0, .ref (wA B 224)), (2, .int x2), (3, .int x3), (4, .int o)] → W p l e rm_X12_spread s m args below meth c H locs 0 0 Q (F0 m 115 ls [])) → W p l e rm_X12_spread s m args below meth c H locs 0 0 Q (F0 m 57 ls []) := by
  have hx := C0.1.1
  have hb := C0.1.2.1
  intro n
  induction n with
  | zero =>
    intro x4 x5 σ o H locs ls hf w hl hK
    cases hf
  | succ n ih =>
    intro x4 x5 σ o H locs ls hf w hl hK
    rw [f_X12_spread_57] at hf
    refine lv_iload hx hb dX12_spread_57 (lv_at hl 4 rfl) ?_
    refine lv_aload_n hx hb dX12_spread_59 rfl (lv_at hl 0 rfl) ?_
    obtain ⟨q1, h2, hf⟩ := bdE hf
    refine cV (As := []) (rest := [.int x5]) (k := 224) (ci := 10) (T := TX12) (N := 22) C0 w (m_X12_cells l B _ σ q1 h2) ky_X12_cells kv_X12_cells lk_X12_76 rfl (by decide +kernel) ⟨Nat.le_of_ble_eq_true rfl, Nat.le_of_ble_eq_true rfl⟩ ⟨Nat.le_of_ble_eq_true rfl, Nat.le_of_ble_eq_true rfl⟩ rfl (by rfl) (Nat.le_of_ble_eq_true rfl) hl.1 dX12_spread_60 (fun H locs w => ?_)
    refine lv_icmp_ge (tgt := 115) hx hb dX12_spread_63 (by decide) (fun c3 => ?_) (fun c3 => ?_)
    · rw [if_pos c3] at hf
      obtain rfl := Option.some.inj hf
      exact hK _ _ _ w (lv_sub hl [0, 1, 2, 3] rfl)
    · rw [if_neg c3] at hf
      refine lv_aload_n hx hb dX12_spread_66 rfl (lv_at hl 0 rfl) ?_
      refine gR C0 w 229 fk_X12_23 (by decide +kernel) dX12_spread_67 ?_
      refine lv_iload hx hb dX12_spread_70 (lv_at hl 4 rfl) ?_
      obtain ⟨g4, hf⟩ := gdE hf
      refine aZ C0 w (n := 64) (by decide +kernel) (inbE g4) dX12_spread_72 ?_
      refine lv_if_ne (tgt := 105) hx hb dX12_spread_73 (by decide) (fun c5 => ?_) (fun c5 => ?_)
      · rw [if_neg c5] at hf
        refine lv_iload hx hb dX12_spread_105 (lv_at hl 3 rfl) ?_
        refine lv_istore (lv' := [(4, .int x4), (0, .ref (wA B 224)), (2, .int x2), (3, .int x3), (5, .int x5)]) hx hb dX12_spread_107 hl (by decide) rfl (fun ls hl => ?_)
        refine lv_iinc (k := 4) (v := x5 + 1) (lv' := [(5, .int (x5 + 1)), (4, .int x4), (0, .ref (wA B 224)), (2, .int x2), (3, .int x3)]) hx hb dX12_spread_109 hl rfl (by rfl) (by decide) rfl (fun ls hl => ?_)
        refine lv_goto (tgt := 57) hx hb dX12_spread_112 (by decide) ?_
        exact ih x4 (x5 + 1) σ _ _ _ _ hf w (lv_sub hl [2, 3, 4, 1, 0] rfl) hK
      · rw [if_pos c5] at hf
        refine lv_iload hx hb dX12_spread_76 (lv_at hl 3 rfl) ?_
        refine lv_iconst (v := (-1)) hx hb dX12_spread_78 (by decide) ?_
        refine lv_icmp_eq (tgt := 100) hx hb dX12_spread_79 (by decide) (fun c6 => ?_) (fun c6 => ?_)
        · rw [if_pos c6] at hf
          refine lv_iload hx hb dX12_spread_100 (lv_at hl 4 rfl) ?_
          refine lv_goto (tgt := 107) hx hb dX12_spread_102 (by decide) ?_
          refine lv_istore (lv' := [(4, .int x5), (0, .ref (wA B 224)), (2, .int x2), (3, .int x3), (5, .int x5)]) hx hb dX12_spread_107 hl (by decide) rfl (fun ls hl => ?_)
          refine lv_iinc (k := 4) (v := x5 + 1) (lv' := [(5, .int (x5 + 1)), (4, .int x5), (0, .ref (wA B 224)), (2, .int x2), (3, .int x3)]) hx hb dX12_spread_109 hl rfl (by rfl) (by decide) rfl (fun ls hl => ?_)
          refine lv_goto (tgt := 57) hx hb dX12_spread_112 (by decide) ?_
          exact ih x5 (x5 + 1) σ _ _ _ _ hf w (lv_sub hl [2, 3, 4, 1, 0] rfl) hK
        · rw [if_neg c6] at hf
          refine lv_aload_n hx hb dX12_spread_82 rfl (lv_at hl 0 rfl) ?_
          refine gR C0 w 228 fk_X12_20 (by decide +kernel) dX12_spread_83 ?_
          refine lv_iload hx hb dX12_spread_86 (lv_at hl 4 rfl) ?_
          obtain ⟨g7, hf⟩ := gdE hf
          refine aL C0 w (n := 64) (by decide +kernel) (inbE g7) dX12_spread_88 ?_
          refine lv_aload_n hx hb dX12_spread_89 rfl (lv_at hl 0 rfl) ?_
          refine gR C0 w 228 fk_X12_20 (by decide +kernel) dX12_spread_90 ?_
          refine lv_iload hx hb dX12_spread_93 (lv_at hl 3 rfl) ?_
          obtain ⟨g8, hf⟩ := gdE hf
          refine aL C0 w (n := 64) (by decide +kernel) (inbE g8) dX12_spread_95 ?_
          refine lc_ge (tgt := 105) C0 dX12_spread_96 dX12_spread_97 (by decide) (fun c9 => ?_) (fun c9 => ?_)
          · rw [if_pos c9] at hf
            refine lv_iload hx hb dX12_spread_105 (lv_at hl 3 rfl) ?_
            refine lv_istore (lv' := [(4, .int x4), (0, .ref (wA B 224)), (2, .int x2), (3, .int x3), (5, .int x5)]) hx hb dX12_spread_107 hl (by decide) rfl (fun ls hl => ?_)
            refine lv_iinc (k := 4) (v := x5 + 1) (lv' := [(5, .int (x5 + 1)), (4, .int x4), (0, .ref (wA B 224)), (2, .int x2), (3, .int x3)]) hx hb dX12_spread_109 hl rfl (by rfl) (by decide) rfl (fun ls hl => ?_)
            refine lv_goto (tgt := 57) hx hb dX12_spread_112 (by decide) ?_
            exact ih x4 (x5 + 1) σ _ _ _ _ hf w (lv_sub hl [2, 3, 4, 1, 0] rfl) hK
          · rw [if_neg c9] at hf
            refine lv_iload hx hb dX12_spread_100 (lv_at hl 4 rfl) ?_
            refine lv_goto (tgt := 107) hx hb dX12_spread_102 (by decide) ?_
            refine lv_istore (lv' := [(4, .int x5), (0, .ref (wA B 224)), (2, .int x2), (3, .int x3), (5, .int x5)]) hx hb dX12_spread_107 hl (by decide) rfl (fun ls hl => ?_)
            refine lv_iinc (k := 4) (v := x5 + 1) (lv' := [(5, .int (x5 + 1)), (4, .int x5), (0, .ref (wA B 224)), (2, .int x2), (3, .int x3)]) hx hb dX12_spread_109 hl rfl (by rfl) (by decide) rfl (fun ls hl => ?_)
            refine lv_goto (tgt := 57) hx hb dX12_spread_112 (by decide) ?_
            exact ih x5 (x5 + 1) σ _ _ _ _ hf w (lv_sub hl [2, 3, 4, 1, 0] rfl) hK
set_option maxHeartbeats 4000000 in
set_option maxRecDepth 100000 in
theorem lp_X12_spread_43 {p : Program} {e : Env} {s : State} {m : MethodId} {args : Array Value} {below : List Frame} {meth : Method} {c : Code} {Q : State → Prop} (l : Launch) (B : Wb) (C0 : Cx p s m args meth c cX12_spread 6 RX12) (x2 : Int32) : ∀ (n : Nat) (x3 : Int32) (σ : Mem) (o : Mem) (H : Heap) (locs : List Loc) (ls : Array Slot), f_X12_spread_43 x2 n x3 σ = some o → Wx B σ s H locs → lv_has ls 6 [(0, .ref (wA B 224)), (2, .int x2), (3, .int x3)] → (∀ (H : Heap) (locs : List Loc) (ls : Array Slot), Wx B o s H locs → lv_has ls 6 [] → W p l e rm_X12_spread s m args below meth c H locs 0 0 Q (F0 m 136 ls [])) → W p l e rm_X12_spread s m args below meth c H locs 0 0 Q (F0 m 43 ls []) := by
  have hx := C0.1.1
  have hb := C0.1.2.1
  intro n
  induction n with
  | zero =>
    intro x3 σ o H locs ls hf w hl hK
    cases hf
  | succ n ih =>
    intro x3 σ o H locs ls hf w hl hK
    rw [f_X12_spread_43] at hf
    refine lv_iload_n hx hb dX12_spread_43 rfl (lv_at hl 2 rfl) ?_
    refine lv_aload_n hx hb dX12_spread_44 rfl (lv_at hl 0 rfl) ?_
    obtain ⟨q1, h2, hf⟩ := bdE hf
    refine cV (As := []) (rest := [.int x3]) (k := 224) (ci := 10) (T := TX12) (N := 22) C0 w (m_X12_cells l B _ σ q1 h2) ky_X12_cells kv_X12_cells lk_X12_76 rfl (by decide +kernel) ⟨Nat.le_of_ble_eq_true rfl, Nat.le_of_ble_eq_true rfl⟩ ⟨Nat.le_of_ble_eq_true rfl, Nat.le_of_ble_eq_true rfl⟩ rfl (by rfl) (Nat.le_of_ble_eq_true rfl) hl.1 dX12_spread_45 (fun H locs w => ?_)
    refine lv_icmp_ge (tgt := 136) hx hb dX12_spread_48 (by decide) (fun c3 => ?_) (fun c3 => ?_)
    · rw [if_pos c3] at hf
      obtain rfl := Option.some.inj hf
      exact hK _ _ _ w (lv_sub hl [] rfl)
    · rw [if_neg c3] at hf
      refine lv_iconst (v := (-1)) hx hb dX12_spread_51 (by decide) ?_
      refine lv_istore (lv' := [(4, .int ((-1 : Int32))), (0, .ref (wA B 224)), (2, .int x2), (3, .int x3)]) hx hb dX12_spread_52 hl (by decide) rfl (fun ls hl => ?_)
      refine lv_iconst (v := 0) hx hb dX12_spread_54 (by decide) ?_
      refine lv_istore (lv' := [(5, .int 0), (4, .int ((-1 : Int32))), (0, .ref (wA B 224)), (2, .int x2), (3, .int x3)]) hx hb dX12_spread_55 hl (by decide) rfl (fun ls hl => ?_)
      obtain ⟨q4, h5, hf⟩ := bdE hf
      refine lp_X12_spread_57 l B C0 x2 x3 100000 ((-1 : Int32)) 0 σ q4 _ _ _ h5 w (lv_sub hl [2, 3, 4, 1, 0] rfl) (fun H locs ls w hl => ?_)
      refine lv_aload_n hx hb dX12_spread_115 rfl (lv_at hl 0 rfl) ?_
      refine gR C0 w 229 fk_X12_23 (by decide +kernel) dX12_spread_116 ?_
      refine lv_iload hx hb dX12_spread_119 (lv_at hl 3 rfl) ?_
      refine lv_iconst (v := 1) hx hb dX12_spread_121 (by decide) ?_
      obtain ⟨g6, hf⟩ := gdE hf
      refine sZ C0 w (n := 64) (by decide +kernel) (inbE g6) (bzV (by decide)) dX12_spread_122 (fun H locs w => ?_)
      refine lv_aload_n hx hb dX12_spread_123 rfl (lv_at hl 0 rfl) ?_
      refine lv_iload hx hb dX12_spread_124 (lv_at hl 3 rfl) ?_
      refine lv_iload_n hx hb dX12_spread_126 rfl (lv_at hl 1 rfl) ?_
      obtain ⟨q7, h8, hf⟩ := bdE hf
      refine cV (As := [.int q4, .int x2]) (rest := []) (k := 224) (ci := 10) (T := TX12) (N := 22) C0 w (m_X12_reachFrom l B _ (setI σ 229 q4.toNatClampNeg 1) q4 x2 q7 h8) ky_X12_reachFrom kv_X12_reachFrom lk_X12_97 rfl (by decide +kernel) ⟨Nat.le_of_ble_eq_true rfl, Nat.le_of_ble_eq_true rfl⟩ ⟨Nat.le_of_ble_eq_true rfl, Nat.le_of_ble_eq_true rfl⟩ rfl (by rfl) (Nat.le_of_ble_eq_true rfl) hl.1 dX12_spread_127 (fun H locs w => ?_)
      refine lv_iinc (k := 2) (v := x3 + 1) (lv' := [(3, .int (x3 + 1)), (0, .ref (wA B 224)), (2, .int x2), (4, .int q4)]) hx hb dX12_spread_130 hl rfl (by rfl) (by decide) rfl (fun ls hl => ?_)
      refine lv_goto (tgt := 43) hx hb dX12_spread_133 (by decide) ?_
      exact ih (x3 + 1) q7 _ _ _ _ hf w (lv_sub hl [1, 2, 0] rfl) hK
set_option maxHeartbeats 4000000 in
set_option maxRecDepth 100000 in
theorem m_X12_spread (l : Launch) (B : Wb) (sz : Nat) (σ : Mem) (x1 : Int32) (x2 : Int32) (q : Mem) (hf : f_X12_spread x1 x2 σ = some q) : MetC l yX12_spread cX12_spread 6 none rm_X12_spread B sz σ q [.ref (wA B 224), .int x1, .int x2] (none) := by
  refine met_in (by decide +kernel) (Nat.le_of_ble_eq_true rfl) ?_
  intro p e s m below meth c C0 hr w hsz ls hl
  have hx := C0.1.1
  have hb := C0.1.2.1
  unfold f_X12_spread at hf
  refine lv_iconst (v := 0) hx hb dX12_spread_0 (by decide) ?_
  refine lv_istore_n (lv' := [(3, .int 0), (0, .ref (wA B 224)), (1, .int x1), (2, .int x2)]) hx hb dX12_spread_1 rfl hl (by decide) rfl (fun ls hl => ?_)
  obtain ⟨q1, h2, hf⟩ := bdE hf
  refine lp_X12_spread_2 l B C0 x1 x2 100000 0 σ q1 _ _ _ h2 w (lv_sub hl [1, 2, 3, 0] rfl) (fun H locs ls w hl => ?_)
  refine lv_iconst (v := 0) hx hb dX12_spread_41 (by decide) ?_
  refine lv_istore_n (lv' := [(3, .int 0), (0, .ref (wA B 224)), (2, .int x2)]) hx hb dX12_spread_42 rfl hl (by decide) rfl (fun ls hl => ?_)
  obtain ⟨q3, h4, hf⟩ := bdE hf
  refine lp_X12_spread_43 l B C0 x2 100000 0 q1 q3 _ _ _ h4 w (lv_sub hl [1, 2, 0] rfl) (fun H locs ls w hl => ?_)
  obtain rfl := Option.some.inj hf
  exact eV C0 hr w dX12_spread_136
def f_X12_first (x1 : Int32) (σ : Mem) : Option (Int32) :=
  bd (f_X12_of x1 0 σ) (fun q1 =>
  bd (f_X12_columns σ) (fun q3 =>
  some (q1.toInt32 * q3)))
abbrev rm_X12_first : Room := { frames := 1, cells := 0, slots := 0, locals := 22 }
set_option maxHeartbeats 4000000 in
set_option maxRecDepth 100000 in
theorem m_X12_first (l : Launch) (B : Wb) (sz : Nat) (σ : Mem) (x1 : Int32) (q : Int32) (hf : f_X12_first x1 σ = some q) : MetC l yX12_first cX12_first 2 (some .int) rm_X12_first B sz σ σ [.ref (wA B 224), .int x1] (some (.int q)) := by
  refine met_in (by decide +kernel) (Nat.le_of_ble_eq_true rfl) ?_
  intro p e s m below meth c C0 hr w hsz ls hl
  have hx := C0.1.1
  have hb := C0.1.2.1
  unfold f_X12_first at hf
  refine lv_aload_n hx hb dX12_first_0 rfl (lv_at hl 0 rfl) ?_
  refine lv_iload_n hx hb dX12_first_1 rfl (lv_at hl 1 rfl) ?_
  refine lv_iconst (v := 0) hx hb dX12_first_2 (by decide) ?_
  obtain ⟨q1, h2, hf⟩ := bdE hf
  refine cV (As := [.int x1, .int 0]) (rest := []) (k := 224) (ci := 10) (T := TX12) (N := 22) C0 w (m_X12_of l B _ σ x1 0 q1 h2) ky_X12_of kv_X12_of lk_X12_83 rfl (by decide +kernel) ⟨Nat.le_of_ble_eq_true rfl, Nat.le_of_ble_eq_true rfl⟩ ⟨Nat.le_of_ble_eq_true rfl, Nat.le_of_ble_eq_true rfl⟩ rfl (by rfl) (Nat.le_of_ble_eq_true rfl) hl.1 dX12_first_3 (fun H locs w => ?_)
  refine lv_l2i hx hb dX12_first_6 rfl ?_
  refine lv_aload_n hx hb dX12_first_7 rfl (lv_at hl 0 rfl) ?_
  obtain ⟨q3, h4, hf⟩ := bdE hf
  refine cV (As := []) (rest := [.int q1.toInt32]) (k := 224) (ci := 10) (T := TX12) (N := 22) C0 w (m_X12_columns l B _ σ q3 h4) ky_X12_columns kv_X12_columns lk_X12_69 rfl (by decide +kernel) ⟨Nat.le_of_ble_eq_true rfl, Nat.le_of_ble_eq_true rfl⟩ ⟨Nat.le_of_ble_eq_true rfl, Nat.le_of_ble_eq_true rfl⟩ rfl (by rfl) (Nat.le_of_ble_eq_true rfl) hl.1 dX12_first_8 (fun H locs w => ?_)
  refine lv_imul hx hb dX12_first_11 ?_
  obtain rfl := Option.some.inj hf
  exact eI C0 hr w rfl dX12_first_12
def f_X12_last (x1 : Int32) (σ : Mem) : Option (Int32) :=
  bd (f_X12_of x1 1 σ) (fun q1 =>
  bd (f_X12_columns σ) (fun q3 =>
  bd (f_X12_columns σ) (fun q5 =>
  some (((q1.toInt32 * q3) + q5) - 1))))
abbrev rm_X12_last : Room := { frames := 1, cells := 0, slots := 0, locals := 22 }
set_option maxHeartbeats 4000000 in
set_option maxRecDepth 100000 in
theorem m_X12_last (l : Launch) (B : Wb) (sz : Nat) (σ : Mem) (x1 : Int32) (q : Int32) (hf : f_X12_last x1 σ = some q) : MetC l yX12_last cX12_last 2 (some .int) rm_X12_last B sz σ σ [.ref (wA B 224), .int x1] (some (.int q)) := by
  refine met_in (by decide +kernel) (Nat.le_of_ble_eq_true rfl) ?_
  intro p e s m below meth c C0 hr w hsz ls hl
  have hx := C0.1.1
  have hb := C0.1.2.1
  unfold f_X12_last at hf
  refine lv_aload_n hx hb dX12_last_0 rfl (lv_at hl 0 rfl) ?_
  refine lv_iload_n hx hb dX12_last_1 rfl (lv_at hl 1 rfl) ?_
  refine lv_iconst (v := 1) hx hb dX12_last_2 (by decide) ?_
  obtain ⟨q1, h2, hf⟩ := bdE hf
  refine cV (As := [.int x1, .int 1]) (rest := []) (k := 224) (ci := 10) (T := TX12) (N := 22) C0 w (m_X12_of l B _ σ x1 1 q1 h2) ky_X12_of kv_X12_of lk_X12_83 rfl (by decide +kernel) ⟨Nat.le_of_ble_eq_true rfl, Nat.le_of_ble_eq_true rfl⟩ ⟨Nat.le_of_ble_eq_true rfl, Nat.le_of_ble_eq_true rfl⟩ rfl (by rfl) (Nat.le_of_ble_eq_true rfl) hl.1 dX12_last_3 (fun H locs w => ?_)
  refine lv_l2i hx hb dX12_last_6 rfl ?_
  refine lv_aload_n hx hb dX12_last_7 rfl (lv_at hl 0 rfl) ?_
  obtain ⟨q3, h4, hf⟩ := bdE hf
  refine cV (As := []) (rest := [.int q1.toInt32]) (k := 224) (ci := 10) (T := TX12) (N := 22) C0 w (m_X12_columns l B _ σ q3 h4) ky_X12_columns kv_X12_columns lk_X12_69 rfl (by decide +kernel) ⟨Nat.le_of_ble_eq_true rfl, Nat.le_of_ble_eq_true rfl⟩ ⟨Nat.le_of_ble_eq_true rfl, Nat.le_of_ble_eq_true rfl⟩ rfl (by rfl) (Nat.le_of_ble_eq_true rfl) hl.1 dX12_last_8 (fun H locs w => ?_)
  refine lv_imul hx hb dX12_last_11 ?_
  refine lv_aload_n hx hb dX12_last_12 rfl (lv_at hl 0 rfl) ?_
  obtain ⟨q5, h6, hf⟩ := bdE hf
  refine cV (As := []) (rest := [.int (q1.toInt32 * q3)]) (k := 224) (ci := 10) (T := TX12) (N := 22) C0 w (m_X12_columns l B _ σ q5 h6) ky_X12_columns kv_X12_columns lk_X12_69 rfl (by decide +kernel) ⟨Nat.le_of_ble_eq_true rfl, Nat.le_of_ble_eq_true rfl⟩ ⟨Nat.le_of_ble_eq_true rfl, Nat.le_of_ble_eq_true rfl⟩ rfl (by rfl) (Nat.le_of_ble_eq_true rfl) hl.1 dX12_last_13 (fun H locs w => ?_)
  refine lv_iadd hx hb dX12_last_16 ?_
  refine lv_iconst (v := 1) hx hb dX12_last_17 (by decide) ?_
  refine lv_isub hx hb dX12_last_18 ?_
  obtain rfl := Option.some.inj hf
  exact eI C0 hr w rfl dX12_last_19
def f_X12_findWay_29 (x1 : Int32) (x2 : Int32) : Nat → Int32 → Mem → Option (Mem)
  | 0, _, _ => none
  | n + 1, x3, σ =>
    if 64 ≤ x3 then (
      some σ)
    else (
      gd (inb x3 64) (
      f_X12_findWay_29 x1 x2 n (x3 + 1) (setI σ 231 x3.toNatClampNeg 0)))
def f_X12_findWay_71 (x1 : Int32) (x2 : Int32) (σ : Mem) : Nat → Int32 → Option (Int32)
  | 0, _ => none
  | n + 1, x3 =>
    bd (f_X12_move x3 x2 σ) (fun q1 =>
    if q1 = 0 then (
      f_X12_findWay_71 x1 x2 σ n (x3 + 1))
    else (
      gd (inb x3 64) (
      bd (f_X12_move x3 x2 σ) (fun q5 =>
      gd (inb (8 + x3) 200) (
      gd (inb (8 + x2) 200) (
      gd (inb x2 64) (
      if ((σ.2 228 x3.toNatClampNeg) + (q5.toInt64 * ((σ.2 225 (8 + x3).toNatClampNeg) + (σ.2 225 (8 + x2).toNatClampNeg)))) = (σ.2 228 x2.toNatClampNeg) then (
        some x3)
      else (
        f_X12_findWay_71 x1 x2 σ n (x3 + 1)))))))))
def f_X12_findWay_60 (x1 : Int32) : Nat → Int32 → Mem → Option (Mem)
  | 0, _, _ => none
  | n + 1, x2, σ =>
    bd (f_X12_first x1 σ) (fun q1 =>
    if x2 = q1 then (
      some σ)
    else (
      bd (f_X12_findWay_71 x1 x2 σ 100000 0) (fun q4 =>
      gd (inb x2 64) (
      bd (f_X12_move q4 x2 σ) (fun q7 =>
      gd (inb x2 64) (
      gd (inb q4 64) (
      bd (f_X12_move q4 x2 (setI σ 231 x2.toNatClampNeg ((σ.1 231 x2.toNatClampNeg) + q7))) (fun q11 =>
      gd (inb q4 64) (
      bd (some (setI (setI σ 231 x2.toNatClampNeg ((σ.1 231 x2.toNatClampNeg) + q7)) 231 q4.toNatClampNeg (((setI σ 231 x2.toNatClampNeg ((σ.1 231 x2.toNatClampNeg) + q7)).1 231 q4.toNatClampNeg) + q11))) (fun q14 =>
      gd (inb (q14.1 224 9) 64) (
      f_X12_findWay_60 x1 n q4 (setI (setI q14 230 ((q14.1 224 9).toNatClampNeg) q4) 224 9 (((setI q14 230 ((q14.1 224 9).toNatClampNeg) q4).1 224 9) + 1)))))))))))))
def f_X12_findWay (x1 : Int32) (σ : Mem) : Option (Mem) :=
  bd (f_X12_first x1 σ) (fun q1 =>
  bd (f_X12_spread q1 8 σ) (fun q3 =>
  bd (f_X12_last x1 q3) (fun q5 =>
  gd (inb q5 64) (
  bd (f_X12_findWay_29 x1 q5 100000 0 (setL q3 224 11 (q3.2 228 q5.toNatClampNeg))) (fun q8 =>
  bd (f_X12_findWay_60 x1 100000 q5 (setI (setI q8 230 ((0 : Int32).toNatClampNeg) q5) 224 9 1)) (fun q11 =>
  some q11))))))
abbrev rm_X12_findWay : Room := { frames := 4, cells := 0, slots := 0, locals := 100 }
set_option maxHeartbeats 4000000 in
set_option maxRecDepth 100000 in
theorem lp_X12_findWay_29 {p : Program} {e : Env} {s : State} {m : MethodId} {args : Array Value} {below : List Frame} {meth : Method} {c : Code} {Q : State → Prop} (l : Launch) (B : Wb) (C0 : Cx p s m args meth c cX12_findWay 4 RX12) (x1 : Int32) (x2 : Int32) : ∀ (n : Nat) (x3 : Int32) (σ : Mem) (o : Mem) (H : Heap) (locs : List Loc) (ls : Array Slot), f_X12_findWay_29 x1 x2 n x3 σ = some o → Wx B σ s H locs → lv_has ls 4 [(0, .ref (wA B 224)), (1, .int x1), (2, .int x2), (3, .int x3)] → (∀ (H : Heap) (locs : List Loc) (ls : Array Slot), Wx B o s H locs → lv_has ls 4 [(0, .ref (wA B 224)), (1, .int x1), (2, .int x2)] → W p l e rm_X12_findWay s m args below meth c H locs 0 0 Q (F0 m 48 ls [])) → W p l e rm_X12_findWay s m args below meth c H locs 0 0 Q (F0 m 29 ls []) := by
  have hx := C0.1.1
  have hb := C0.1.2.1
  intro n
  induction n with
  | zero =>
    intro x3 σ o H locs ls hf w hl hK
    cases hf
  | succ n ih =>
    intro x3 σ o H locs ls hf w hl hK
    rw [f_X12_findWay_29] at hf
    refine lv_iload_n hx hb dX12_findWay_29 rfl (lv_at hl 3 rfl) ?_
    refine lv_bipush (v := 64) hx hb dX12_findWay_30 (by decide) ?_
    refine lv_icmp_ge (tgt := 48) hx hb dX12_findWay_32 (by decide) (fun c1 => ?_) (fun c1 => ?_)
    · rw [if_pos c1] at hf
      obtain rfl := Option.some.inj hf
      exact hK _ _ _ w (lv_sub hl [0, 1, 2] rfl)
    · rw [if_neg c1] at hf
      refine lv_aload_n hx hb dX12_findWay_35 rfl (lv_at hl 0 rfl) ?_
      refine gR C0 w 231 fk_X12_30 (by decide +kernel) dX12_findWay_36 ?_
      refine lv_iload_n hx hb dX12_findWay_39 rfl (lv_at hl 3 rfl) ?_
      refine lv_iconst (v := 0) hx hb dX12_findWay_40 (by decide) ?_
      obtain ⟨g2, hf⟩ := gdE hf
      refine sI C0 w (n := 64) (by decide +kernel) (inbE g2) dX12_findWay_41 (fun H locs w => ?_)
      refine lv_iinc (k := 3) (v := x3 + 1) (lv' := [(3, .int (x3 + 1)), (0, .ref (wA B 224)), (1, .int x1), (2, .int x2)]) hx hb dX12_findWay_42 hl rfl (by rfl) (by decide) rfl (fun ls hl => ?_)
      refine lv_goto (tgt := 29) hx hb dX12_findWay_45 (by decide) ?_
      exact ih (x3 + 1) (setI σ 231 x3.toNatClampNeg 0) _ _ _ _ hf w (lv_sub hl [1, 2, 3, 0] rfl) hK
set_option maxHeartbeats 4000000 in
set_option maxRecDepth 100000 in
theorem lp_X12_findWay_71 {p : Program} {e : Env} {s : State} {m : MethodId} {args : Array Value} {below : List Frame} {meth : Method} {c : Code} {Q : State → Prop} (l : Launch) (B : Wb) (C0 : Cx p s m args meth c cX12_findWay 4 RX12) (x1 : Int32) (x2 : Int32) : ∀ (n : Nat) (x3 : Int32) (σ : Mem) (o : Int32) (H : Heap) (locs : List Loc) (ls : Array Slot), f_X12_findWay_71 x1 x2 σ n x3 = some o → Wx B σ s H locs → lv_has ls 4 [(0, .ref (wA B 224)), (1, .int x1), (2, .int x2), (3, .int x3)] → (∀ (H : Heap) (locs : List Loc) (ls : Array Slot), Wx B σ s H locs → lv_has ls 4 [(0, .ref (wA B 224)), (1, .int x1), (2, .int x2), (3, .int o)] → W p l e rm_X12_findWay s m args below meth c H locs 0 0 Q (F0 m 130 ls [])) → W p l e rm_X12_findWay s m args below meth c H locs 0 0 Q (F0 m 71 ls []) := by
  have hx := C0.1.1
  have hb := C0.1.2.1
  intro n
  induction n with
  | zero =>
    intro x3 σ o H locs ls hf w hl hK
    cases hf
  | succ n ih =>
    intro x3 σ o H locs ls hf w hl hK
    rw [f_X12_findWay_71] at hf
    refine lv_aload_n hx hb dX12_findWay_71 rfl (lv_at hl 0 rfl) ?_
    refine lv_iload_n hx hb dX12_findWay_72 rfl (lv_at hl 3 rfl) ?_
    refine lv_iload_n hx hb dX12_findWay_73 rfl (lv_at hl 2 rfl) ?_
    obtain ⟨q1, h2, hf⟩ := bdE hf
    refine cV (As := [.int x3, .int x2]) (rest := []) (k := 224) (ci := 10) (T := TX12) (N := 22) C0 w (m_X12_move l B _ σ x3 x2 q1 h2) ky_X12_move kv_X12_move lk_X12_100 rfl (by decide +kernel) ⟨Nat.le_of_ble_eq_true rfl, Nat.le_of_ble_eq_true rfl⟩ ⟨Nat.le_of_ble_eq_true rfl, Nat.le_of_ble_eq_true rfl⟩ rfl (by rfl) (Nat.le_of_ble_eq_true rfl) hl.1 dX12_findWay_74 (fun H locs w => ?_)
    refine lv_if_eq (tgt := 124) hx hb dX12_findWay_77 (by decide) (fun c3 => ?_) (fun c3 => ?_)
    · rw [if_pos c3] at hf
      refine lv_iinc (k := 3) (v := x3 + 1) (lv' := [(3, .int (x3 + 1)), (0, .ref (wA B 224)), (1, .int x1), (2, .int x2)]) hx hb dX12_findWay_124 hl rfl (by rfl) (by decide) rfl (fun ls hl => ?_)
      refine lv_goto (tgt := 71) hx hb dX12_findWay_127 (by decide) ?_
      exact ih (x3 + 1) σ _ _ _ _ hf w (lv_sub hl [1, 2, 3, 0] rfl) hK
    · rw [if_neg c3] at hf
      refine lv_aload_n hx hb dX12_findWay_80 rfl (lv_at hl 0 rfl) ?_
      refine gR C0 w 228 fk_X12_20 (by decide +kernel) dX12_findWay_81 ?_
      refine lv_iload_n hx hb dX12_findWay_84 rfl (lv_at hl 3 rfl) ?_
      obtain ⟨g4, hf⟩ := gdE hf
      refine aL C0 w (n := 64) (by decide +kernel) (inbE g4) dX12_findWay_85 ?_
      refine lv_aload_n hx hb dX12_findWay_86 rfl (lv_at hl 0 rfl) ?_
      refine lv_iload_n hx hb dX12_findWay_87 rfl (lv_at hl 3 rfl) ?_
      refine lv_iload_n hx hb dX12_findWay_88 rfl (lv_at hl 2 rfl) ?_
      obtain ⟨q5, h6, hf⟩ := bdE hf
      refine cV (As := [.int x3, .int x2]) (rest := [.long (σ.2 228 x3.toNatClampNeg)]) (k := 224) (ci := 10) (T := TX12) (N := 22) C0 w (m_X12_move l B _ σ x3 x2 q5 h6) ky_X12_move kv_X12_move lk_X12_100 rfl (by decide +kernel) ⟨Nat.le_of_ble_eq_true rfl, Nat.le_of_ble_eq_true rfl⟩ ⟨Nat.le_of_ble_eq_true rfl, Nat.le_of_ble_eq_true rfl⟩ rfl (by rfl) (Nat.le_of_ble_eq_true rfl) hl.1 dX12_findWay_89 (fun H locs w => ?_)
      refine lv_i2l hx hb dX12_findWay_92 rfl ?_
      refine lv_aload_n hx hb dX12_findWay_93 rfl (lv_at hl 0 rfl) ?_
      refine gR C0 w 225 fk_X12_7 (by decide +kernel) dX12_findWay_94 ?_
      refine lv_bipush (v := 8) hx hb dX12_findWay_97 (by decide) ?_
      refine lv_iload_n hx hb dX12_findWay_99 rfl (lv_at hl 3 rfl) ?_
      refine lv_iadd hx hb dX12_findWay_100 ?_
      obtain ⟨g7, hf⟩ := gdE hf
      refine aL C0 w (n := 200) (by decide +kernel) (inbE g7) dX12_findWay_101 ?_
      refine lv_aload_n hx hb dX12_findWay_102 rfl (lv_at hl 0 rfl) ?_
      refine gR C0 w 225 fk_X12_7 (by decide +kernel) dX12_findWay_103 ?_
      refine lv_bipush (v := 8) hx hb dX12_findWay_106 (by decide) ?_
      refine lv_iload_n hx hb dX12_findWay_108 rfl (lv_at hl 2 rfl) ?_
      refine lv_iadd hx hb dX12_findWay_109 ?_
      obtain ⟨g8, hf⟩ := gdE hf
      refine aL C0 w (n := 200) (by decide +kernel) (inbE g8) dX12_findWay_110 ?_
      refine lv_ladd hx hb dX12_findWay_111 ?_
      refine lv_lmul hx hb dX12_findWay_112 ?_
      refine lv_ladd hx hb dX12_findWay_113 ?_
      refine lv_aload_n hx hb dX12_findWay_114 rfl (lv_at hl 0 rfl) ?_
      refine gR C0 w 228 fk_X12_20 (by decide +kernel) dX12_findWay_115 ?_
      refine lv_iload_n hx hb dX12_findWay_118 rfl (lv_at hl 2 rfl) ?_
      obtain ⟨g9, hf⟩ := gdE hf
      refine aL C0 w (n := 64) (by decide +kernel) (inbE g9) dX12_findWay_119 ?_
      refine lc_eq (tgt := 130) C0 dX12_findWay_120 dX12_findWay_121 (by decide) (fun c10 => ?_) (fun c10 => ?_)
      · rw [if_pos c10] at hf
        obtain rfl := Option.some.inj hf
        exact hK _ _ _ w (lv_sub hl [0, 1, 2, 3] rfl)
      · rw [if_neg c10] at hf
        refine lv_iinc (k := 3) (v := x3 + 1) (lv' := [(3, .int (x3 + 1)), (0, .ref (wA B 224)), (1, .int x1), (2, .int x2)]) hx hb dX12_findWay_124 hl rfl (by rfl) (by decide) rfl (fun ls hl => ?_)
        refine lv_goto (tgt := 71) hx hb dX12_findWay_127 (by decide) ?_
        exact ih (x3 + 1) σ _ _ _ _ hf w (lv_sub hl [1, 2, 3, 0] rfl) hK
set_option maxHeartbeats 4000000 in
set_option maxRecDepth 100000 in
theorem lp_X12_findWay_60 {p : Program} {e : Env} {s : State} {m : MethodId} {args : Array Value} {below : List Frame} {meth : Method} {c : Code} {Q : State → Prop} (l : Launch) (B : Wb) (C0 : Cx p s m args meth c cX12_findWay 4 RX12) (x1 : Int32) : ∀ (n : Nat) (x2 : Int32) (σ : Mem) (o : Mem) (H : Heap) (locs : List Loc) (ls : Array Slot), f_X12_findWay_60 x1 n x2 σ = some o → Wx B σ s H locs → lv_has ls 4 [(0, .ref (wA B 224)), (1, .int x1), (2, .int x2)] → (∀ (H : Heap) (locs : List Loc) (ls : Array Slot), Wx B o s H locs → lv_has ls 4 [] → W p l e rm_X12_findWay s m args below meth c H locs 0 0 Q (F0 m 185 ls [])) → W p l e rm_X12_findWay s m args below meth c H locs 0 0 Q (F0 m 60 ls []) := by
  have hx := C0.1.1
  have hb := C0.1.2.1
  intro n
  induction n with
  | zero =>
    intro x2 σ o H locs ls hf w hl hK
    cases hf
  | succ n ih =>
    intro x2 σ o H locs ls hf w hl hK
    rw [f_X12_findWay_60] at hf
    refine lv_iload_n hx hb dX12_findWay_60 rfl (lv_at hl 2 rfl) ?_
    refine lv_aload_n hx hb dX12_findWay_61 rfl (lv_at hl 0 rfl) ?_
    refine lv_iload_n hx hb dX12_findWay_62 rfl (lv_at hl 1 rfl) ?_
    obtain ⟨q1, h2, hf⟩ := bdE hf
    refine cV (As := [.int x1]) (rest := [.int x2]) (k := 224) (ci := 10) (T := TX12) (N := 22) C0 w (m_X12_first l B _ σ x1 q1 h2) ky_X12_first kv_X12_first lk_X12_104 rfl (by decide +kernel) ⟨Nat.le_of_ble_eq_true rfl, Nat.le_of_ble_eq_true rfl⟩ ⟨Nat.le_of_ble_eq_true rfl, Nat.le_of_ble_eq_true rfl⟩ rfl (by rfl) (Nat.le_of_ble_eq_true rfl) hl.1 dX12_findWay_63 (fun H locs w => ?_)
    refine lv_icmp_eq (tgt := 185) hx hb dX12_findWay_66 (by decide) (fun c3 => ?_) (fun c3 => ?_)
    · rw [if_pos c3] at hf
      obtain rfl := Option.some.inj hf
      exact hK _ _ _ w (lv_sub hl [] rfl)
    · rw [if_neg c3] at hf
      refine lv_iconst (v := 0) hx hb dX12_findWay_69 (by decide) ?_
      refine lv_istore_n (lv' := [(3, .int 0), (0, .ref (wA B 224)), (1, .int x1), (2, .int x2)]) hx hb dX12_findWay_70 rfl hl (by decide) rfl (fun ls hl => ?_)
      obtain ⟨q4, h5, hf⟩ := bdE hf
      refine lp_X12_findWay_71 l B C0 x1 x2 100000 0 σ q4 _ _ _ h5 w (lv_sub hl [1, 2, 3, 0] rfl) (fun H locs ls w hl => ?_)
      refine lv_aload_n hx hb dX12_findWay_130 rfl (lv_at hl 0 rfl) ?_
      refine gR C0 w 231 fk_X12_30 (by decide +kernel) dX12_findWay_131 ?_
      refine lv_iload_n hx hb dX12_findWay_134 rfl (lv_at hl 2 rfl) ?_
      refine lv_dup2_11 hx hb dX12_findWay_135 rfl rfl ?_
      obtain ⟨g6, hf⟩ := gdE hf
      refine aI C0 w (n := 64) (by decide +kernel) (inbE g6) dX12_findWay_136 ?_
      refine lv_aload_n hx hb dX12_findWay_137 rfl (lv_at hl 0 rfl) ?_
      refine lv_iload_n hx hb dX12_findWay_138 rfl (lv_at hl 3 rfl) ?_
      refine lv_iload_n hx hb dX12_findWay_139 rfl (lv_at hl 2 rfl) ?_
      obtain ⟨q7, h8, hf⟩ := bdE hf
      refine cV (As := [.int q4, .int x2]) (rest := [.int (σ.1 231 x2.toNatClampNeg), .int x2, .ref (wA B 231)]) (k := 224) (ci := 10) (T := TX12) (N := 22) C0 w (m_X12_move l B _ σ q4 x2 q7 h8) ky_X12_move kv_X12_move lk_X12_100 rfl (by decide +kernel) ⟨Nat.le_of_ble_eq_true rfl, Nat.le_of_ble_eq_true rfl⟩ ⟨Nat.le_of_ble_eq_true rfl, Nat.le_of_ble_eq_true rfl⟩ rfl (by rfl) (Nat.le_of_ble_eq_true rfl) hl.1 dX12_findWay_140 (fun H locs w => ?_)
      refine lv_iadd hx hb dX12_findWay_143 ?_
      obtain ⟨g9, hf⟩ := gdE hf
      refine sI C0 w (n := 64) (by decide +kernel) (inbE g9) dX12_findWay_144 (fun H locs w => ?_)
      refine lv_aload_n hx hb dX12_findWay_145 rfl (lv_at hl 0 rfl) ?_
      refine gR C0 w 231 fk_X12_30 (by decide +kernel) dX12_findWay_146 ?_
      refine lv_iload_n hx hb dX12_findWay_149 rfl (lv_at hl 3 rfl) ?_
      refine lv_dup2_11 hx hb dX12_findWay_150 rfl rfl ?_
      obtain ⟨g10, hf⟩ := gdE hf
      refine aI C0 w (n := 64) (by decide +kernel) (inbE g10) dX12_findWay_151 ?_
      refine lv_aload_n hx hb dX12_findWay_152 rfl (lv_at hl 0 rfl) ?_
      refine lv_iload_n hx hb dX12_findWay_153 rfl (lv_at hl 3 rfl) ?_
      refine lv_iload_n hx hb dX12_findWay_154 rfl (lv_at hl 2 rfl) ?_
      obtain ⟨q11, h12, hf⟩ := bdE hf
      refine cV (As := [.int q4, .int x2]) (rest := [.int ((setI σ 231 x2.toNatClampNeg ((σ.1 231 x2.toNatClampNeg) + q7)).1 231 q4.toNatClampNeg), .int q4, .ref (wA B 231)]) (k := 224) (ci := 10) (T := TX12) (N := 22) C0 w (m_X12_move l B _ (setI σ 231 x2.toNatClampNeg ((σ.1 231 x2.toNatClampNeg) + q7)) q4 x2 q11 h12) ky_X12_move kv_X12_move lk_X12_100 rfl (by decide +kernel) ⟨Nat.le_of_ble_eq_true rfl, Nat.le_of_ble_eq_true rfl⟩ ⟨Nat.le_of_ble_eq_true rfl, Nat.le_of_ble_eq_true rfl⟩ rfl (by rfl) (Nat.le_of_ble_eq_true rfl) hl.1 dX12_findWay_155 (fun H locs w => ?_)
      refine lv_iadd hx hb dX12_findWay_158 ?_
      obtain ⟨g13, hf⟩ := gdE hf
      refine sI C0 w (n := 64) (by decide +kernel) (inbE g13) dX12_findWay_159 (fun H locs w => ?_)
      obtain ⟨q14, h15, hf⟩ := bdE hf
      have w : Wx B q14 s H locs := by rw [← Option.some.inj h15]; exact w
      refine lv_iload_n hx hb dX12_findWay_160 rfl (lv_at hl 3 rfl) ?_
      refine lv_istore_n (lv' := [(2, .int q4), (0, .ref (wA B 224)), (1, .int x1), (3, .int q4)]) hx hb dX12_findWay_161 rfl hl (by decide) rfl (fun ls hl => ?_)
      refine lv_aload_n hx hb dX12_findWay_162 rfl (lv_at hl 1 rfl) ?_
      refine gR C0 w 230 fk_X12_27 (by decide +kernel) dX12_findWay_163 ?_
      refine lv_aload_n hx hb dX12_findWay_166 rfl (lv_at hl 1 rfl) ?_
      refine gI C0 w fk_X12_118 (by decide +kernel) dX12_findWay_167 ?_
      refine lv_iload_n hx hb dX12_findWay_170 rfl (lv_at hl 0 rfl) ?_
      obtain ⟨g16, hf⟩ := gdE hf
      refine sI C0 w (n := 64) (by decide +kernel) (inbE g16) dX12_findWay_171 (fun H locs w => ?_)
      refine lv_aload_n hx hb dX12_findWay_172 rfl (lv_at hl 1 rfl) ?_
      refine lv_dup hx hb dX12_findWay_173 rfl ?_
      refine gI C0 w fk_X12_118 (by decide +kernel) dX12_findWay_174 ?_
      refine lv_iconst (v := 1) hx hb dX12_findWay_177 (by decide) ?_
      refine lv_iadd hx hb dX12_findWay_178 ?_
      refine pI C0 w fk_X12_118 fp_X12_9 (by decide +kernel) dX12_findWay_179 (fun H locs w => ?_)
      refine lv_goto (tgt := 60) hx hb dX12_findWay_182 (by decide) ?_
      exact ih q4 (setI (setI q14 230 ((q14.1 224 9).toNatClampNeg) q4) 224 9 (((setI q14 230 ((q14.1 224 9).toNatClampNeg) q4).1 224 9) + 1)) _ _ _ _ hf w (lv_sub hl [1, 2, 0] rfl) hK
set_option maxHeartbeats 4000000 in
set_option maxRecDepth 100000 in
theorem m_X12_findWay (l : Launch) (B : Wb) (sz : Nat) (σ : Mem) (x1 : Int32) (q : Mem) (hf : f_X12_findWay x1 σ = some q) : MetC l yX12_findWay cX12_findWay 4 none rm_X12_findWay B sz σ q [.ref (wA B 224), .int x1] (none) := by
  refine met_in (by decide +kernel) (Nat.le_of_ble_eq_true rfl) ?_
  intro p e s m below meth c C0 hr w hsz ls hl
  have hx := C0.1.1
  have hb := C0.1.2.1
  unfold f_X12_findWay at hf
  refine lv_aload_n hx hb dX12_findWay_0 rfl (lv_at hl 0 rfl) ?_
  refine lv_aload_n hx hb dX12_findWay_1 rfl (lv_at hl 0 rfl) ?_
  refine lv_iload_n hx hb dX12_findWay_2 rfl (lv_at hl 1 rfl) ?_
  obtain ⟨q1, h2, hf⟩ := bdE hf
  refine cV (As := [.int x1]) (rest := [.ref (wA B 224)]) (k := 224) (ci := 10) (T := TX12) (N := 22) C0 w (m_X12_first l B _ σ x1 q1 h2) ky_X12_first kv_X12_first lk_X12_104 rfl (by decide +kernel) ⟨Nat.le_of_ble_eq_true rfl, Nat.le_of_ble_eq_true rfl⟩ ⟨Nat.le_of_ble_eq_true rfl, Nat.le_of_ble_eq_true rfl⟩ rfl (by rfl) (Nat.le_of_ble_eq_true rfl) hl.1 dX12_findWay_3 (fun H locs w => ?_)
  refine lv_bipush (v := 8) hx hb dX12_findWay_6 (by decide) ?_
  obtain ⟨q3, h4, hf⟩ := bdE hf
  refine cV (As := [.int q1, .int 8]) (rest := []) (k := 224) (ci := 10) (T := TX12) (N := 22) C0 w (m_X12_spread l B _ σ q1 8 q3 h4) ky_X12_spread kv_X12_spread lk_X12_108 rfl (by decide +kernel) ⟨Nat.le_of_ble_eq_true rfl, Nat.le_of_ble_eq_true rfl⟩ ⟨Nat.le_of_ble_eq_true rfl, Nat.le_of_ble_eq_true rfl⟩ rfl (by rfl) (Nat.le_of_ble_eq_true rfl) hl.1 dX12_findWay_8 (fun H locs w => ?_)
  refine lv_aload_n hx hb dX12_findWay_11 rfl (lv_at hl 0 rfl) ?_
  refine lv_iload_n hx hb dX12_findWay_12 rfl (lv_at hl 1 rfl) ?_
  obtain ⟨q5, h6, hf⟩ := bdE hf
  refine cV (As := [.int x1]) (rest := []) (k := 224) (ci := 10) (T := TX12) (N := 22) C0 w (m_X12_last l B _ q3 x1 q5 h6) ky_X12_last kv_X12_last lk_X12_111 rfl (by decide +kernel) ⟨Nat.le_of_ble_eq_true rfl, Nat.le_of_ble_eq_true rfl⟩ ⟨Nat.le_of_ble_eq_true rfl, Nat.le_of_ble_eq_true rfl⟩ rfl (by rfl) (Nat.le_of_ble_eq_true rfl) hl.1 dX12_findWay_13 (fun H locs w => ?_)
  refine lv_istore_n (lv' := [(2, .int q5), (0, .ref (wA B 224)), (1, .int x1)]) hx hb dX12_findWay_16 rfl hl (by decide) rfl (fun ls hl => ?_)
  refine lv_aload_n hx hb dX12_findWay_17 rfl (lv_at hl 1 rfl) ?_
  refine lv_aload_n hx hb dX12_findWay_18 rfl (lv_at hl 1 rfl) ?_
  refine gR C0 w 228 fk_X12_20 (by decide +kernel) dX12_findWay_19 ?_
  refine lv_iload_n hx hb dX12_findWay_22 rfl (lv_at hl 0 rfl) ?_
  obtain ⟨g7, hf⟩ := gdE hf
  refine aL C0 w (n := 64) (by decide +kernel) (inbE g7) dX12_findWay_23 ?_
  refine pL C0 w fk_X12_114 fp_X12_11 (by decide +kernel) dX12_findWay_24 (fun H locs w => ?_)
  refine lv_iconst (v := 0) hx hb dX12_findWay_27 (by decide) ?_
  refine lv_istore_n (lv' := [(3, .int 0), (2, .int q5), (0, .ref (wA B 224)), (1, .int x1)]) hx hb dX12_findWay_28 rfl hl (by decide) rfl (fun ls hl => ?_)
  obtain ⟨q8, h9, hf⟩ := bdE hf
  refine lp_X12_findWay_29 l B C0 x1 q5 100000 0 (setL q3 224 11 (q3.2 228 q5.toNatClampNeg)) q8 _ _ _ h9 w (lv_sub hl [2, 3, 1, 0] rfl) (fun H locs ls w hl => ?_)
  refine lv_aload_n hx hb dX12_findWay_48 rfl (lv_at hl 0 rfl) ?_
  refine gR C0 w 230 fk_X12_27 (by decide +kernel) dX12_findWay_49 ?_
  refine lv_iconst (v := 0) hx hb dX12_findWay_52 (by decide) ?_
  refine lv_iload_n hx hb dX12_findWay_53 rfl (lv_at hl 2 rfl) ?_
  refine sI C0 w (n := 64) (by decide +kernel) (inbE (by decide)) dX12_findWay_54 (fun H locs w => ?_)
  refine lv_aload_n hx hb dX12_findWay_55 rfl (lv_at hl 0 rfl) ?_
  refine lv_iconst (v := 1) hx hb dX12_findWay_56 (by decide) ?_
  refine pI C0 w fk_X12_118 fp_X12_9 (by decide +kernel) dX12_findWay_57 (fun H locs w => ?_)
  obtain ⟨q11, h12, hf⟩ := bdE hf
  refine lp_X12_findWay_60 l B C0 x1 100000 q5 (setI (setI q8 230 ((0 : Int32).toNatClampNeg) q5) 224 9 1) q11 _ _ _ h12 w (lv_sub hl [0, 1, 2] rfl) (fun H locs ls w hl => ?_)
  obtain rfl := Option.some.inj hf
  exact eV C0 hr w dX12_findWay_185
