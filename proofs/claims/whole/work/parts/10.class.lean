def f_X9_forgetAll_2 : Nat → Int32 → Mem → Option (Mem)
  | 0, _, _ => none
  | n + 1, x1, σ =>
    if 16 ≤ x1 then (
      some σ)
    else (
      gd (inb x1 16) (
      f_X9_forgetAll_2 n (x1 + 1) (setI σ 144 x1.toNatClampNeg 0)))
def f_X9_forgetAll (σ : Mem) : Option (Mem) :=
  bd (f_X9_forgetAll_2 100000 0 σ) (fun q1 =>
  some q1)
abbrev rm_X9_forgetAll : Room := { frames := 0, cells := 0, slots := 0, locals := 0 }
set_option maxHeartbeats 4000000 in
set_option maxRecDepth 100000 in
theorem lp_X9_forgetAll_2 {p : Program} {e : Env} {s : State} {m : MethodId} {args : Array Value} {below : List Frame} {meth : Method} {c : Code} {Q : State → Prop} (l : Launch) (B : Wb) (C0 : Cx p s m args meth c cX9_forgetAll 2 RX9) : ∀ (n : Nat) (x1 : Int32) (σ : Mem) (o : Mem) (H : Heap) (locs : List Loc) (ls : Array Slot), f_X9_forgetAll_2 n x1 σ = some o → Wx B σ s H locs → lv_has ls 2 [(0, .ref (wA B 143)), (1, .int x1)] → (∀ (H : Heap) (locs : List Loc) (ls : Array Slot), Wx B o s H locs → lv_has ls 2 [] → W p l e rm_X9_forgetAll s m args below meth c H locs 0 0 Q (F0 m 21 ls [])) → W p l e rm_X9_forgetAll s m args below meth c H locs 0 0 Q (F0 m 2 ls []) := by
  have hx := C0.1.1
  have hb := C0.1.2.1
  intro n
  induction n with
  | zero =>
    intro x1 σ o H locs ls hf w hl hK
    cases hf
  | succ n ih =>
    intro x1 σ o H locs ls hf w hl hK
    rw [f_X9_forgetAll_2] at hf
    refine lv_iload_n hx hb dX9_forgetAll_2 rfl (lv_at hl 1 rfl) ?_
    refine lv_bipush (v := 16) hx hb dX9_forgetAll_3 (by decide) ?_
    refine lv_icmp_ge (tgt := 21) hx hb dX9_forgetAll_5 (by decide) (fun c1 => ?_) (fun c1 => ?_)
    · rw [if_pos c1] at hf
      obtain rfl := Option.some.inj hf
      exact hK _ _ _ w (lv_sub hl [] rfl)
    · rw [if_neg c1] at hf
      refine lv_aload_n hx hb dX9_forgetAll_8 rfl (lv_at hl 0 rfl) ?_
      refine gR C0 w 144 fk_X9_9 (by decide +kernel) dX9_forgetAll_9 ?_
      refine lv_iload_n hx hb dX9_forgetAll_12 rfl (lv_at hl 1 rfl) ?_
      refine lv_iconst (v := 0) hx hb dX9_forgetAll_13 (by decide) ?_
      obtain ⟨g2, hf⟩ := gdE hf
      refine sZ C0 w (n := 16) (by decide +kernel) (inbE g2) (bzV (by decide)) dX9_forgetAll_14 (fun H locs w => ?_)
      refine lv_iinc (k := 1) (v := x1 + 1) (lv' := [(1, .int (x1 + 1)), (0, .ref (wA B 143))]) hx hb dX9_forgetAll_15 hl rfl (by rfl) (by decide) rfl (fun ls hl => ?_)
      refine lv_goto (tgt := 2) hx hb dX9_forgetAll_18 (by decide) ?_
      exact ih (x1 + 1) (setI σ 144 x1.toNatClampNeg 0) _ _ _ _ hf w (lv_sub hl [1, 0] rfl) hK
set_option maxHeartbeats 4000000 in
set_option maxRecDepth 100000 in
theorem m_X9_forgetAll (l : Launch) (B : Wb) (sz : Nat) (σ : Mem) (q : Mem) (hf : f_X9_forgetAll σ = some q) : MetC l yX9_forgetAll cX9_forgetAll 2 none rm_X9_forgetAll B sz σ q [.ref (wA B 143)] (none) := by
  refine met_in (by decide +kernel) (Nat.le_of_ble_eq_true rfl) ?_
  intro p e s m below meth c C0 hr w hsz ls hl
  have hx := C0.1.1
  have hb := C0.1.2.1
  unfold f_X9_forgetAll at hf
  refine lv_iconst (v := 0) hx hb dX9_forgetAll_0 (by decide) ?_
  refine lv_istore_n (lv' := [(1, .int 0), (0, .ref (wA B 143))]) hx hb dX9_forgetAll_1 rfl hl (by decide) rfl (fun ls hl => ?_)
  obtain ⟨q1, h2, hf⟩ := bdE hf
  refine lp_X9_forgetAll_2 l B C0 100000 0 σ q1 _ _ _ h2 w (lv_sub hl [1, 0] rfl) (fun H locs ls w hl => ?_)
  obtain rfl := Option.some.inj hf
  exact eV C0 hr w dX9_forgetAll_21
def f_X1_putSlowness (x1 : Int32) (x2 : Int32) (σ : Mem) : Option (Mem) :=
  gd (inb x1 64) (
  bd (f_X9_forgetAll (setI σ 2 x1.toNatClampNeg x2)) (fun q2 =>
  some q2))
abbrev rm_X1_putSlowness : Room := { frames := 1, cells := 0, slots := 0, locals := 21 }
set_option maxHeartbeats 4000000 in
set_option maxRecDepth 100000 in
theorem m_X1_putSlowness (l : Launch) (B : Wb) (sz : Nat) (σ : Mem) (x1 : Int32) (x2 : Int32) (q : Mem) (hf : f_X1_putSlowness x1 x2 σ = some q) : MetC l yX1_putSlowness cX1_putSlowness 3 none rm_X1_putSlowness B sz σ q [.ref (wA B 183), .int x1, .int x2] (none) := by
  refine met_in (by decide +kernel) (Nat.le_of_ble_eq_true rfl) ?_
  intro p e s m below meth c C0 hr w hsz ls hl
  have hx := C0.1.1
  have hb := C0.1.2.1
  unfold f_X1_putSlowness at hf
  refine lv_aload_n hx hb dX1_putSlowness_0 rfl (lv_at hl 0 rfl) ?_
  refine gR C0 w 1 fk_X1_18 (by decide +kernel) dX1_putSlowness_1 ?_
  refine gR C0 w 2 fk_X1_38 (by decide +kernel) dX1_putSlowness_4 ?_
  refine lv_iload_n hx hb dX1_putSlowness_7 rfl (lv_at hl 1 rfl) ?_
  refine lv_iload_n hx hb dX1_putSlowness_8 rfl (lv_at hl 2 rfl) ?_
  obtain ⟨g1, hf⟩ := gdE hf
  refine sI C0 w (n := 64) (by decide +kernel) (inbE g1) dX1_putSlowness_9 (fun H locs w => ?_)
  refine lv_aload_n hx hb dX1_putSlowness_10 rfl (lv_at hl 0 rfl) ?_
  refine gR C0 w 143 fk_X1_30 (by decide +kernel) dX1_putSlowness_11 ?_
  obtain ⟨q2, h3, hf⟩ := bdE hf
  refine cV (As := []) (rest := []) (k := 143) (ci := 8) (T := TX9) (N := 9) C0 w (m_X9_forgetAll l B _ (setI σ 2 x1.toNatClampNeg x2) q2 h3) ky_X9_forgetAll kv_X9_forgetAll lk_X1_43 rfl (by decide +kernel) ⟨Nat.le_of_ble_eq_true rfl, Nat.le_of_ble_eq_true rfl⟩ ⟨Nat.le_of_ble_eq_true rfl, Nat.le_of_ble_eq_true rfl⟩ rfl (by rfl) (Nat.le_of_ble_eq_true rfl) hl.1 dX1_putSlowness_14 (fun H locs w => ?_)
  obtain rfl := Option.some.inj hf
  exact eV C0 hr w dX1_putSlowness_17
def f_X11_clamped (x0 : Int64) (x2 : Int32) (x3 : Int32) (σ : Mem) : Option (Int32) :=
  if x2.toInt64 ≤ x0 then (
    if x0 ≤ x3.toInt64 then (
      some x0.toInt32)
    else (
      some x3))
  else (
    some x2)
abbrev rm_X11_clamped : Room := { frames := 0, cells := 0, slots := 0, locals := 0 }
set_option maxHeartbeats 4000000 in
set_option maxRecDepth 100000 in
theorem m_X11_clamped (l : Launch) (B : Wb) (sz : Nat) (σ : Mem) (x0 : Int64) (x2 : Int32) (x3 : Int32) (q : Int32) (hf : f_X11_clamped x0 x2 x3 σ = some q) : MetC l yX11_clamped cX11_clamped 4 (some .int) rm_X11_clamped B sz σ σ [.long x0, .int x2, .int x3] (some (.int q)) := by
  refine met_in (by decide +kernel) (Nat.le_of_ble_eq_true rfl) ?_
  intro p e s m below meth c C0 hr w hsz ls hl
  have hx := C0.1.1
  have hb := C0.1.2.1
  unfold f_X11_clamped at hf
  refine lv_lload_n hx hb dX11_clamped_0 rfl (lv_at hl 0 rfl) ?_
  refine lv_iload_n hx hb dX11_clamped_1 rfl (lv_at hl 1 rfl) ?_
  refine lv_i2l hx hb dX11_clamped_2 rfl ?_
  refine lc_ge (tgt := 9) C0 dX11_clamped_3 dX11_clamped_4 (by decide) (fun c1 => ?_) (fun c1 => ?_)
  · rw [if_pos c1] at hf
    refine lv_lload_n hx hb dX11_clamped_9 rfl (lv_at hl 0 rfl) ?_
    refine lv_iload_n hx hb dX11_clamped_10 rfl (lv_at hl 2 rfl) ?_
    refine lv_i2l hx hb dX11_clamped_11 rfl ?_
    refine lc_le (tgt := 20) C0 dX11_clamped_12 dX11_clamped_13 (by decide) (fun c2 => ?_) (fun c2 => ?_)
    · rw [if_pos c2] at hf
      refine lv_lload_n hx hb dX11_clamped_20 rfl (lv_at hl 0 rfl) ?_
      refine lv_l2i hx hb dX11_clamped_21 rfl ?_
      obtain rfl := Option.some.inj hf
      exact eI C0 hr w rfl dX11_clamped_22
    · rw [if_neg c2] at hf
      refine lv_iload_n hx hb dX11_clamped_16 rfl (lv_at hl 2 rfl) ?_
      refine lv_goto (tgt := 22) hx hb dX11_clamped_17 (by decide) ?_
      obtain rfl := Option.some.inj hf
      exact eI C0 hr w rfl dX11_clamped_22
  · rw [if_neg c1] at hf
    refine lv_iload_n hx hb dX11_clamped_7 rfl (lv_at hl 1 rfl) ?_
    obtain rfl := Option.some.inj hf
    exact eI C0 hr w rfl dX11_clamped_8
def f_X7_cellCount (σ : Mem) : Option (Int32) :=
  some ((σ.1 1 0) * (σ.1 1 1))
abbrev rm_X7_cellCount : Room := { frames := 0, cells := 0, slots := 0, locals := 0 }
set_option maxHeartbeats 4000000 in
set_option maxRecDepth 100000 in
theorem m_X7_cellCount (l : Launch) (B : Wb) (sz : Nat) (σ : Mem) (q : Int32) (hf : f_X7_cellCount σ = some q) : MetC l yX7_cellCount cX7_cellCount 1 (some .int) rm_X7_cellCount B sz σ σ [.ref (wA B 1)] (some (.int q)) := by
  refine met_in (by decide +kernel) (Nat.le_of_ble_eq_true rfl) ?_
  intro p e s m below meth c C0 hr w hsz ls hl
  have hx := C0.1.1
  have hb := C0.1.2.1
  unfold f_X7_cellCount at hf
  refine lv_aload_n hx hb dX7_cellCount_0 rfl (lv_at hl 0 rfl) ?_
  refine gI C0 w fk_X7_9 (by decide +kernel) dX7_cellCount_1 ?_
  refine lv_aload_n hx hb dX7_cellCount_4 rfl (lv_at hl 0 rfl) ?_
  refine gI C0 w fk_X7_15 (by decide +kernel) dX7_cellCount_5 ?_
  refine lv_imul hx hb dX7_cellCount_8 ?_
  obtain rfl := Option.some.inj hf
  exact eI C0 hr w rfl dX7_cellCount_9
def f_X1_takeOver_4 (x1 : Nat) : Nat → Int32 → Int32 → Mem → Option (Int32 × Mem)
  | 0, _, _, _ => none
  | n + 1, x2, x3, σ =>
    bd (f_X7_cellCount σ) (fun q1 =>
    if q1 ≤ x3 then (
      some ((x2, σ)))
    else (
      gd (shA x1 1 (aln x1)) (
      gd (inb x3 (aln x1)) (
      gd (inb x3 64) (
      if (σ.1 x1 x3.toNatClampNeg) = (σ.1 184 x3.toNatClampNeg) then (
        f_X1_takeOver_4 x1 n x2 (x3 + 1) σ)
      else (
        gd (inb x3 64) (
        gd (shA x1 1 (aln x1)) (
        gd (inb x3 (aln x1)) (
        f_X1_takeOver_4 x1 n (x2 + 1) (x3 + 1) (setI σ x1 x3.toNatClampNeg (σ.1 184 x3.toNatClampNeg)))))))))))
def f_X1_takeOver (x1 : Nat) (σ : Mem) : Option (Int32 × Mem) :=
  bd (f_X1_takeOver_4 x1 100000 0 0 σ) (fun q1 =>
  bd (f_X9_forgetAll q1.2) (fun q3 =>
  some ((q1.1, q3))))
abbrev rm_X1_takeOver : Room := { frames := 1, cells := 0, slots := 0, locals := 21 }
set_option maxHeartbeats 4000000 in
set_option maxRecDepth 100000 in
theorem lp_X1_takeOver_4 {p : Program} {e : Env} {s : State} {m : MethodId} {args : Array Value} {below : List Frame} {meth : Method} {c : Code} {Q : State → Prop} (l : Launch) (B : Wb) (C0 : Cx p s m args meth c cX1_takeOver 4 RX1) (x1 : Nat) : ∀ (n : Nat) (x2 : Int32) (x3 : Int32) (σ : Mem) (o : Int32 × Mem) (H : Heap) (locs : List Loc) (ls : Array Slot), f_X1_takeOver_4 x1 n x2 x3 σ = some o → Wx B σ s H locs → lv_has ls 4 [(0, .ref (wA B 183)), (1, .ref (wA B x1)), (2, .int x2), (3, .int x3)] → (∀ (H : Heap) (locs : List Loc) (ls : Array Slot), Wx B o.2 s H locs → lv_has ls 4 [(0, .ref (wA B 183)), (2, .int o.1)] → W p l e rm_X1_takeOver s m args below meth c H locs 0 0 Q (F0 m 45 ls [])) → W p l e rm_X1_takeOver s m args below meth c H locs 0 0 Q (F0 m 4 ls []) := by
  have hx := C0.1.1
  have hb := C0.1.2.1
  intro n
  induction n with
  | zero =>
    intro x2 x3 σ o H locs ls hf w hl hK
    cases hf
  | succ n ih =>
    intro x2 x3 σ o H locs ls hf w hl hK
    rw [f_X1_takeOver_4] at hf
    refine lv_iload_n hx hb dX1_takeOver_4 rfl (lv_at hl 3 rfl) ?_
    refine lv_aload_n hx hb dX1_takeOver_5 rfl (lv_at hl 0 rfl) ?_
    refine gR C0 w 1 fk_X1_18 (by decide +kernel) dX1_takeOver_6 ?_
    obtain ⟨q1, h2, hf⟩ := bdE hf
    refine cV (As := []) (rest := [.int x3]) (k := 1) (ci := 6) (T := TX7) (N := 14) C0 w (m_X7_cellCount l B _ σ q1 h2) ky_X7_cellCount kv_X7_cellCount lk_X1_67 rfl (by decide +kernel) ⟨Nat.le_of_ble_eq_true rfl, Nat.le_of_ble_eq_true rfl⟩ ⟨Nat.le_of_ble_eq_true rfl, Nat.le_of_ble_eq_true rfl⟩ rfl (by rfl) (Nat.le_of_ble_eq_true rfl) hl.1 dX1_takeOver_9 (fun H locs w => ?_)
    refine lv_icmp_ge (tgt := 45) hx hb dX1_takeOver_12 (by decide) (fun c3 => ?_) (fun c3 => ?_)
    · rw [if_pos c3] at hf
      obtain rfl := Option.some.inj hf
      exact hK _ _ _ w (lv_sub hl [0, 2] rfl)
    · rw [if_neg c3] at hf
      refine lv_aload_n hx hb dX1_takeOver_15 rfl (lv_at hl 1 rfl) ?_
      refine lv_iload_n hx hb dX1_takeOver_16 rfl (lv_at hl 3 rfl) ?_
      obtain ⟨g4, hf⟩ := gdE hf
      obtain ⟨g5, hf⟩ := gdE hf
      refine aI C0 w g4 (inbE g5) dX1_takeOver_17 ?_
      refine lv_aload_n hx hb dX1_takeOver_18 rfl (lv_at hl 0 rfl) ?_
      refine gR C0 w 184 fk_X1_9 (by decide +kernel) dX1_takeOver_19 ?_
      refine lv_iload_n hx hb dX1_takeOver_22 rfl (lv_at hl 3 rfl) ?_
      obtain ⟨g6, hf⟩ := gdE hf
      refine aI C0 w (n := 64) (by decide +kernel) (inbE g6) dX1_takeOver_23 ?_
      refine lv_icmp_eq (tgt := 39) hx hb dX1_takeOver_24 (by decide) (fun c7 => ?_) (fun c7 => ?_)
      · rw [if_pos c7] at hf
        refine lv_iinc (k := 3) (v := x3 + 1) (lv' := [(3, .int (x3 + 1)), (0, .ref (wA B 183)), (1, .ref (wA B x1)), (2, .int x2)]) hx hb dX1_takeOver_39 hl rfl (by rfl) (by decide) rfl (fun ls hl => ?_)
        refine lv_goto (tgt := 4) hx hb dX1_takeOver_42 (by decide) ?_
        exact ih x2 (x3 + 1) σ _ _ _ _ hf w (lv_sub hl [1, 2, 3, 0] rfl) hK
      · rw [if_neg c7] at hf
        refine lv_aload_n hx hb dX1_takeOver_27 rfl (lv_at hl 1 rfl) ?_
        refine lv_iload_n hx hb dX1_takeOver_28 rfl (lv_at hl 3 rfl) ?_
        refine lv_aload_n hx hb dX1_takeOver_29 rfl (lv_at hl 0 rfl) ?_
        refine gR C0 w 184 fk_X1_9 (by decide +kernel) dX1_takeOver_30 ?_
        refine lv_iload_n hx hb dX1_takeOver_33 rfl (lv_at hl 3 rfl) ?_
        obtain ⟨g8, hf⟩ := gdE hf
        refine aI C0 w (n := 64) (by decide +kernel) (inbE g8) dX1_takeOver_34 ?_
        obtain ⟨g9, hf⟩ := gdE hf
        obtain ⟨g10, hf⟩ := gdE hf
        refine sI C0 w g9 (inbE g10) dX1_takeOver_35 (fun H locs w => ?_)
        refine lv_iinc (k := 2) (v := x2 + 1) (lv' := [(2, .int (x2 + 1)), (0, .ref (wA B 183)), (1, .ref (wA B x1)), (3, .int x3)]) hx hb dX1_takeOver_36 hl rfl (by rfl) (by decide) rfl (fun ls hl => ?_)
        refine lv_iinc (k := 3) (v := x3 + 1) (lv' := [(3, .int (x3 + 1)), (2, .int (x2 + 1)), (0, .ref (wA B 183)), (1, .ref (wA B x1))]) hx hb dX1_takeOver_39 hl rfl (by rfl) (by decide) rfl (fun ls hl => ?_)
        refine lv_goto (tgt := 4) hx hb dX1_takeOver_42 (by decide) ?_
        exact ih (x2 + 1) (x3 + 1) (setI σ x1 x3.toNatClampNeg (σ.1 184 x3.toNatClampNeg)) _ _ _ _ hf w (lv_sub hl [2, 3, 1, 0] rfl) hK
set_option maxHeartbeats 4000000 in
set_option maxRecDepth 100000 in
theorem m_X1_takeOver (l : Launch) (B : Wb) (sz : Nat) (σ : Mem) (x1 : Nat) (q : Int32 × Mem) (hf : f_X1_takeOver x1 σ = some q) : MetC l yX1_takeOver cX1_takeOver 4 (some .int) rm_X1_takeOver B sz σ q.2 [.ref (wA B 183), .ref (wA B x1)] (some (.int q.1)) := by
  refine met_in (by decide +kernel) (Nat.le_of_ble_eq_true rfl) ?_
  intro p e s m below meth c C0 hr w hsz ls hl
  have hx := C0.1.1
  have hb := C0.1.2.1
  unfold f_X1_takeOver at hf
  refine lv_iconst (v := 0) hx hb dX1_takeOver_0 (by decide) ?_
  refine lv_istore_n (lv' := [(2, .int 0), (0, .ref (wA B 183)), (1, .ref (wA B x1))]) hx hb dX1_takeOver_1 rfl hl (by decide) rfl (fun ls hl => ?_)
  refine lv_iconst (v := 0) hx hb dX1_takeOver_2 (by decide) ?_
  refine lv_istore_n (lv' := [(3, .int 0), (2, .int 0), (0, .ref (wA B 183)), (1, .ref (wA B x1))]) hx hb dX1_takeOver_3 rfl hl (by decide) rfl (fun ls hl => ?_)
  obtain ⟨q1, h2, hf⟩ := bdE hf
  refine lp_X1_takeOver_4 l B C0 x1 100000 0 0 σ q1 _ _ _ h2 w (lv_sub hl [2, 3, 1, 0] rfl) (fun H locs ls w hl => ?_)
  refine lv_aload_n hx hb dX1_takeOver_45 rfl (lv_at hl 0 rfl) ?_
  refine gR C0 w 143 fk_X1_30 (by decide +kernel) dX1_takeOver_46 ?_
  obtain ⟨q3, h4, hf⟩ := bdE hf
  refine cV (As := []) (rest := []) (k := 143) (ci := 8) (T := TX9) (N := 9) C0 w (m_X9_forgetAll l B _ q1.2 q3 h4) ky_X9_forgetAll kv_X9_forgetAll lk_X1_43 rfl (by decide +kernel) ⟨Nat.le_of_ble_eq_true rfl, Nat.le_of_ble_eq_true rfl⟩ ⟨Nat.le_of_ble_eq_true rfl, Nat.le_of_ble_eq_true rfl⟩ rfl (by rfl) (Nat.le_of_ble_eq_true rfl) hl.1 dX1_takeOver_49 (fun H locs w => ?_)
  refine lv_iload_n hx hb dX1_takeOver_52 rfl (lv_at hl 1 rfl) ?_
  obtain rfl := Option.some.inj hf
  exact eI C0 hr w rfl dX1_takeOver_53
def f_X1_incline_18 (x1 : Int32) (x2 : Int32) (x3 : Int32) (x4 : Int32) (x5 : Int32) : Nat → Int32 → Mem → Option (Mem)
  | 0, _, _ => none
  | n + 1, x6, σ =>
    if (σ.1 1 0) ≤ x6 then (
      some σ)
    else (
      bd (f_X11_clamped (((x2 + (x3 * x6)) + (x4 * x5)).toInt64) 1 100000 σ) (fun q2 =>
      gd (inb (((σ.1 1 0) * x5) + x6) 64) (
      f_X1_incline_18 x1 x2 x3 x4 x5 n (x6 + 1) (setI σ 184 ((((σ.1 1 0) * x5) + x6).toNatClampNeg) q2))))
def f_X1_incline_3 (x1 : Int32) (x2 : Int32) (x3 : Int32) (x4 : Int32) : Nat → Int32 → Mem → Option (Mem)
  | 0, _, _ => none
  | n + 1, x5, σ =>
    if (σ.1 1 1) ≤ x5 then (
      some σ)
    else (
      bd (f_X1_incline_18 x1 x2 x3 x4 x5 100000 0 σ) (fun q2 =>
      f_X1_incline_3 x1 x2 x3 x4 n (x5 + 1) q2))
def f_X1_incline (x1 : Int32) (x2 : Int32) (x3 : Int32) (x4 : Int32) (σ : Mem) : Option (Int32 × Mem) :=
  bd (f_X1_incline_3 x1 x2 x3 x4 100000 0 σ) (fun q1 =>
  if x1 = 0 then (
    bd (f_X1_takeOver 2 q1) (fun q4 =>
    some ((q4.1, q4.2))))
  else (
    bd (f_X1_takeOver 3 q1) (fun q6 =>
    some ((q6.1, q6.2)))))
abbrev rm_X1_incline : Room := { frames := 2, cells := 0, slots := 0, locals := 44 }
set_option maxHeartbeats 4000000 in
set_option maxRecDepth 100000 in
theorem lp_X1_incline_18 {p : Program} {e : Env} {s : State} {m : MethodId} {args : Array Value} {below : List Frame} {meth : Method} {c : Code} {Q : State → Prop} (l : Launch) (B : Wb) (C0 : Cx p s m args meth c cX1_incline 7 RX1) (x1 : Int32) (x2 : Int32) (x3 : Int32) (x4 : Int32) (x5 : Int32) : ∀ (n : Nat) (x6 : Int32) (σ : Mem) (o : Mem) (H : Heap) (locs : List Loc) (ls : Array Slot), f_X1_incline_18 x1 x2 x3 x4 x5 n x6 σ = some o → Wx B σ s H locs → lv_has ls 7 [(0, .ref (wA B 183)), (1, .int x1), (2, .int x2), (3, .int x3), (4, .int x4), (5, .int x5), (6, .int x6)] → (∀ (H : Heap) (locs : List Loc) (ls : Array Slot), Wx B o s H locs → lv_has ls 7 [(0, .ref (wA B 183)), (1, .int x1), (2, .int x2), (3, .int x3), (4, .int x4), (5, .int x5)] → W p l e rm_X1_incline s m args below meth c H locs 0 0 Q (F0 m 73 ls [])) → W p l e rm_X1_incline s m args below meth c H locs 0 0 Q (F0 m 18 ls []) := by
  have hx := C0.1.1
  have hb := C0.1.2.1
  intro n
  induction n with
  | zero =>
    intro x6 σ o H locs ls hf w hl hK
    cases hf
  | succ n ih =>
    intro x6 σ o H locs ls hf w hl hK
    rw [f_X1_incline_18] at hf
    refine lv_iload hx hb dX1_incline_18 (lv_at hl 6 rfl) ?_
    refine lv_aload_n hx hb dX1_incline_20 rfl (lv_at hl 0 rfl) ?_
    refine gR C0 w 1 fk_X1_18 (by decide +kernel) dX1_incline_21 ?_
    refine gI C0 w fk_X1_52 (by decide +kernel) dX1_incline_24 ?_
    refine lv_icmp_ge (tgt := 73) hx hb dX1_incline_27 (by decide) (fun c1 => ?_) (fun c1 => ?_)
    · rw [if_pos c1] at hf
      obtain rfl := Option.some.inj hf
      exact hK _ _ _ w (lv_sub hl [0, 1, 2, 3, 4, 5] rfl)
    · rw [if_neg c1] at hf
      refine lv_aload_n hx hb dX1_incline_30 rfl (lv_at hl 0 rfl) ?_
      refine gR C0 w 184 fk_X1_9 (by decide +kernel) dX1_incline_31 ?_
      refine lv_aload_n hx hb dX1_incline_34 rfl (lv_at hl 0 rfl) ?_
      refine gR C0 w 1 fk_X1_18 (by decide +kernel) dX1_incline_35 ?_
      refine gI C0 w fk_X1_52 (by decide +kernel) dX1_incline_38 ?_
      refine lv_iload hx hb dX1_incline_41 (lv_at hl 5 rfl) ?_
      refine lv_imul hx hb dX1_incline_43 ?_
      refine lv_iload hx hb dX1_incline_44 (lv_at hl 6 rfl) ?_
      refine lv_iadd hx hb dX1_incline_46 ?_
      refine lv_iload_n hx hb dX1_incline_47 rfl (lv_at hl 2 rfl) ?_
      refine lv_iload_n hx hb dX1_incline_48 rfl (lv_at hl 3 rfl) ?_
      refine lv_iload hx hb dX1_incline_49 (lv_at hl 6 rfl) ?_
      refine lv_imul hx hb dX1_incline_51 ?_
      refine lv_iadd hx hb dX1_incline_52 ?_
      refine lv_iload hx hb dX1_incline_53 (lv_at hl 4 rfl) ?_
      refine lv_iload hx hb dX1_incline_55 (lv_at hl 5 rfl) ?_
      refine lv_imul hx hb dX1_incline_57 ?_
      refine lv_iadd hx hb dX1_incline_58 ?_
      refine lv_i2l hx hb dX1_incline_59 rfl ?_
      refine lv_iconst (v := 1) hx hb dX1_incline_60 (by decide) ?_
      refine kIn C0 100000 kc_X1_55 dX1_incline_61 ?_
      obtain ⟨q2, h3, hf⟩ := bdE hf
      refine cN (As := [.long (((x2 + (x3 * x6)) + (x4 * x5)).toInt64), .int 1, .int 100000]) (rest := [.int (((σ.1 1 0) * x5) + x6), .ref (wA B 184)]) (host := RX11) (idx := 56) C0 w (m_X11_clamped l B _ σ (((x2 + (x3 * x6)) + (x4 * x5)).toInt64) 1 100000 q2 h3) ky_X11_clamped ks_X11_clamped (by decide) ⟨Nat.le_of_ble_eq_true rfl, Nat.le_of_ble_eq_true rfl⟩ ⟨Nat.le_of_ble_eq_true rfl, Nat.le_of_ble_eq_true rfl⟩ rfl (by rfl) (Nat.le_of_ble_eq_true rfl) hl.1 dX1_incline_63 (fun H locs w => ?_)
      obtain ⟨g4, hf⟩ := gdE hf
      refine sI C0 w (n := 64) (by decide +kernel) (inbE g4) dX1_incline_66 (fun H locs w => ?_)
      refine lv_iinc (k := 6) (v := x6 + 1) (lv' := [(6, .int (x6 + 1)), (0, .ref (wA B 183)), (1, .int x1), (2, .int x2), (3, .int x3), (4, .int x4), (5, .int x5)]) hx hb dX1_incline_67 hl rfl (by rfl) (by decide) rfl (fun ls hl => ?_)
      refine lv_goto (tgt := 18) hx hb dX1_incline_70 (by decide) ?_
      exact ih (x6 + 1) (setI σ 184 ((((σ.1 1 0) * x5) + x6).toNatClampNeg) q2) _ _ _ _ hf w (lv_sub hl [1, 2, 3, 4, 5, 6, 0] rfl) hK
set_option maxHeartbeats 4000000 in
set_option maxRecDepth 100000 in
theorem lp_X1_incline_3 {p : Program} {e : Env} {s : State} {m : MethodId} {args : Array Value} {below : List Frame} {meth : Method} {c : Code} {Q : State → Prop} (l : Launch) (B : Wb) (C0 : Cx p s m args meth c cX1_incline 7 RX1) (x1 : Int32) (x2 : Int32) (x3 : Int32) (x4 : Int32) : ∀ (n : Nat) (x5 : Int32) (σ : Mem) (o : Mem) (H : Heap) (locs : List Loc) (ls : Array Slot), f_X1_incline_3 x1 x2 x3 x4 n x5 σ = some o → Wx B σ s H locs → lv_has ls 7 [(0, .ref (wA B 183)), (1, .int x1), (2, .int x2), (3, .int x3), (4, .int x4), (5, .int x5)] → (∀ (H : Heap) (locs : List Loc) (ls : Array Slot), Wx B o s H locs → lv_has ls 7 [(0, .ref (wA B 183)), (1, .int x1)] → W p l e rm_X1_incline s m args below meth c H locs 0 0 Q (F0 m 79 ls [])) → W p l e rm_X1_incline s m args below meth c H locs 0 0 Q (F0 m 3 ls []) := by
  have hx := C0.1.1
  have hb := C0.1.2.1
  intro n
  induction n with
  | zero =>
    intro x5 σ o H locs ls hf w hl hK
    cases hf
  | succ n ih =>
    intro x5 σ o H locs ls hf w hl hK
    rw [f_X1_incline_3] at hf
    refine lv_iload hx hb dX1_incline_3 (lv_at hl 5 rfl) ?_
    refine lv_aload_n hx hb dX1_incline_5 rfl (lv_at hl 0 rfl) ?_
    refine gR C0 w 1 fk_X1_18 (by decide +kernel) dX1_incline_6 ?_
    refine gI C0 w fk_X1_48 (by decide +kernel) dX1_incline_9 ?_
    refine lv_icmp_ge (tgt := 79) hx hb dX1_incline_12 (by decide) (fun c1 => ?_) (fun c1 => ?_)
    · rw [if_pos c1] at hf
      obtain rfl := Option.some.inj hf
      exact hK _ _ _ w (lv_sub hl [0, 1] rfl)
    · rw [if_neg c1] at hf
      refine lv_iconst (v := 0) hx hb dX1_incline_15 (by decide) ?_
      refine lv_istore (lv' := [(6, .int 0), (0, .ref (wA B 183)), (1, .int x1), (2, .int x2), (3, .int x3), (4, .int x4), (5, .int x5)]) hx hb dX1_incline_16 hl (by decide) rfl (fun ls hl => ?_)
      obtain ⟨q2, h3, hf⟩ := bdE hf
      refine lp_X1_incline_18 l B C0 x1 x2 x3 x4 x5 100000 0 σ q2 _ _ _ h3 w (lv_sub hl [1, 2, 3, 4, 5, 6, 0] rfl) (fun H locs ls w hl => ?_)
      refine lv_iinc (k := 5) (v := x5 + 1) (lv' := [(5, .int (x5 + 1)), (0, .ref (wA B 183)), (1, .int x1), (2, .int x2), (3, .int x3), (4, .int x4)]) hx hb dX1_incline_73 hl rfl (by rfl) (by decide) rfl (fun ls hl => ?_)
      refine lv_goto (tgt := 3) hx hb dX1_incline_76 (by decide) ?_
      exact ih (x5 + 1) q2 _ _ _ _ hf w (lv_sub hl [1, 2, 3, 4, 5, 0] rfl) hK
set_option maxHeartbeats 4000000 in
set_option maxRecDepth 100000 in
theorem m_X1_incline (l : Launch) (B : Wb) (sz : Nat) (σ : Mem) (x1 : Int32) (x2 : Int32) (x3 : Int32) (x4 : Int32) (q : Int32 × Mem) (hf : f_X1_incline x1 x2 x3 x4 σ = some q) : MetC l yX1_incline cX1_incline 7 (some .int) rm_X1_incline B sz σ q.2 [.ref (wA B 183), .int x1, .int x2, .int x3, .int x4] (some (.int q.1)) := by
  refine met_in (by decide +kernel) (Nat.le_of_ble_eq_true rfl) ?_
  intro p e s m below meth c C0 hr w hsz ls hl
  have hx := C0.1.1
  have hb := C0.1.2.1
  unfold f_X1_incline at hf
  refine lv_iconst (v := 0) hx hb dX1_incline_0 (by decide) ?_
  refine lv_istore (lv' := [(5, .int 0), (0, .ref (wA B 183)), (1, .int x1), (2, .int x2), (3, .int x3), (4, .int x4)]) hx hb dX1_incline_1 hl (by decide) rfl (fun ls hl => ?_)
  obtain ⟨q1, h2, hf⟩ := bdE hf
  refine lp_X1_incline_3 l B C0 x1 x2 x3 x4 100000 0 σ q1 _ _ _ h2 w (lv_sub hl [1, 2, 3, 4, 5, 0] rfl) (fun H locs ls w hl => ?_)
  refine lv_aload_n hx hb dX1_incline_79 rfl (lv_at hl 0 rfl) ?_
  refine lv_iload_n hx hb dX1_incline_80 rfl (lv_at hl 1 rfl) ?_
  refine lv_if_eq (tgt := 94) hx hb dX1_incline_81 (by decide) (fun c3 => ?_) (fun c3 => ?_)
  · rw [if_pos c3] at hf
    refine lv_aload_n hx hb dX1_incline_94 rfl (lv_at hl 0 rfl) ?_
    refine gR C0 w 1 fk_X1_18 (by decide +kernel) dX1_incline_95 ?_
    refine gR C0 w 2 fk_X1_38 (by decide +kernel) dX1_incline_98 ?_
    obtain ⟨q4, h5, hf⟩ := bdE hf
    refine cV (As := [.ref (wA B 2)]) (rest := []) (k := 183) (ci := 0) (T := TX1) (N := 7) C0 w (m_X1_takeOver l B _ q1 2 q4 h5) ky_X1_takeOver kv_X1_takeOver lk_X1_63 rfl (by decide +kernel) ⟨Nat.le_of_ble_eq_true rfl, Nat.le_of_ble_eq_true rfl⟩ ⟨Nat.le_of_ble_eq_true rfl, Nat.le_of_ble_eq_true rfl⟩ rfl (by rfl) (Nat.le_of_ble_eq_true rfl) hl.1 dX1_incline_101 (fun H locs w => ?_)
    obtain rfl := Option.some.inj hf
    exact eI C0 hr w rfl dX1_incline_104
  · rw [if_neg c3] at hf
    refine lv_aload_n hx hb dX1_incline_84 rfl (lv_at hl 0 rfl) ?_
    refine gR C0 w 1 fk_X1_18 (by decide +kernel) dX1_incline_85 ?_
    refine gR C0 w 3 fk_X1_60 (by decide +kernel) dX1_incline_88 ?_
    refine lv_goto (tgt := 101) hx hb dX1_incline_91 (by decide) ?_
    obtain ⟨q6, h7, hf⟩ := bdE hf
    refine cV (As := [.ref (wA B 3)]) (rest := []) (k := 183) (ci := 0) (T := TX1) (N := 7) C0 w (m_X1_takeOver l B _ q1 3 q6 h7) ky_X1_takeOver kv_X1_takeOver lk_X1_63 rfl (by decide +kernel) ⟨Nat.le_of_ble_eq_true rfl, Nat.le_of_ble_eq_true rfl⟩ ⟨Nat.le_of_ble_eq_true rfl, Nat.le_of_ble_eq_true rfl⟩ rfl (by rfl) (Nat.le_of_ble_eq_true rfl) hl.1 dX1_incline_101 (fun H locs w => ?_)
    obtain rfl := Option.some.inj hf
    exact eI C0 hr w rfl dX1_incline_104
def f_X7_sourceCell (x1 : Int32) (σ : Mem) : Option (Int32) :=
  gd (inb x1 16) (
  some ((σ.1 1 0) * (σ.1 4 x1.toNatClampNeg)))
abbrev rm_X7_sourceCell : Room := { frames := 0, cells := 0, slots := 0, locals := 0 }
set_option maxHeartbeats 4000000 in
set_option maxRecDepth 100000 in
theorem m_X7_sourceCell (l : Launch) (B : Wb) (sz : Nat) (σ : Mem) (x1 : Int32) (q : Int32) (hf : f_X7_sourceCell x1 σ = some q) : MetC l yX7_sourceCell cX7_sourceCell 2 (some .int) rm_X7_sourceCell B sz σ σ [.ref (wA B 1), .int x1] (some (.int q)) := by
  refine met_in (by decide +kernel) (Nat.le_of_ble_eq_true rfl) ?_
  intro p e s m below meth c C0 hr w hsz ls hl
  have hx := C0.1.1
  have hb := C0.1.2.1
  unfold f_X7_sourceCell at hf
  refine lv_aload_n hx hb dX7_sourceCell_0 rfl (lv_at hl 0 rfl) ?_
  refine gI C0 w fk_X7_9 (by decide +kernel) dX7_sourceCell_1 ?_
  refine lv_aload_n hx hb dX7_sourceCell_4 rfl (lv_at hl 0 rfl) ?_
  refine gR C0 w 4 fk_X7_38 (by decide +kernel) dX7_sourceCell_5 ?_
  refine lv_iload_n hx hb dX7_sourceCell_8 rfl (lv_at hl 1 rfl) ?_
  obtain ⟨g1, hf⟩ := gdE hf
  refine aI C0 w (n := 16) (by decide +kernel) (inbE g1) dX7_sourceCell_9 ?_
  refine lv_imul hx hb dX7_sourceCell_10 ?_
  obtain rfl := Option.some.inj hf
  exact eI C0 hr w rfl dX7_sourceCell_11
def f_X7_receiverCell (x1 : Int32) (σ : Mem) : Option (Int32) :=
  gd (inb x1 16) (
  some ((((σ.1 1 0) * (σ.1 5 x1.toNatClampNeg)) + (σ.1 1 0)) - 1))
abbrev rm_X7_receiverCell : Room := { frames := 0, cells := 0, slots := 0, locals := 0 }
set_option maxHeartbeats 4000000 in
set_option maxRecDepth 100000 in
theorem m_X7_receiverCell (l : Launch) (B : Wb) (sz : Nat) (σ : Mem) (x1 : Int32) (q : Int32) (hf : f_X7_receiverCell x1 σ = some q) : MetC l yX7_receiverCell cX7_receiverCell 2 (some .int) rm_X7_receiverCell B sz σ σ [.ref (wA B 1), .int x1] (some (.int q)) := by
  refine met_in (by decide +kernel) (Nat.le_of_ble_eq_true rfl) ?_
  intro p e s m below meth c C0 hr w hsz ls hl
  have hx := C0.1.1
  have hb := C0.1.2.1
  unfold f_X7_receiverCell at hf
  refine lv_aload_n hx hb dX7_receiverCell_0 rfl (lv_at hl 0 rfl) ?_
  refine gI C0 w fk_X7_9 (by decide +kernel) dX7_receiverCell_1 ?_
  refine lv_aload_n hx hb dX7_receiverCell_4 rfl (lv_at hl 0 rfl) ?_
  refine gR C0 w 5 fk_X7_41 (by decide +kernel) dX7_receiverCell_5 ?_
  refine lv_iload_n hx hb dX7_receiverCell_8 rfl (lv_at hl 1 rfl) ?_
  obtain ⟨g1, hf⟩ := gdE hf
  refine aI C0 w (n := 16) (by decide +kernel) (inbE g1) dX7_receiverCell_9 ?_
  refine lv_imul hx hb dX7_receiverCell_10 ?_
  refine lv_aload_n hx hb dX7_receiverCell_11 rfl (lv_at hl 0 rfl) ?_
  refine gI C0 w fk_X7_9 (by decide +kernel) dX7_receiverCell_12 ?_
  refine lv_iadd hx hb dX7_receiverCell_15 ?_
  refine lv_iconst (v := 1) hx hb dX7_receiverCell_16 (by decide) ?_
  refine lv_isub hx hb dX7_receiverCell_17 ?_
  obtain rfl := Option.some.inj hf
  exact eI C0 hr w rfl dX7_receiverCell_18
def f_J7_fill_d0a16_6 (x0 : Nat) (x1 : Int64) (x4 : Int32) : Nat → Int32 → Mem → Option (Mem)
  | 0, _, _ => none
  | n + 1, x3, σ =>
    if x4 ≤ x3 then (
      some σ)
    else (
      gd (shA x0 2 (aln x0)) (
      gd (inb x3 (aln x0)) (
      f_J7_fill_d0a16_6 x0 x1 x4 n (x3 + 1) (setL σ x0 x3.toNatClampNeg x1))))
def f_J7_fill_d0a16 (x0 : Nat) (x1 : Int64) (σ : Mem) : Option (Mem) :=
  gd (shA x0 2 (aln x0)) (
  bd (f_J7_fill_d0a16_6 x0 x1 (Int32.ofNat (aln x0)) 100000 0 σ) (fun q2 =>
  some q2))
abbrev rm_J7_fill_d0a16 : Room := { frames := 0, cells := 0, slots := 0, locals := 0 }
set_option maxHeartbeats 4000000 in
set_option maxRecDepth 100000 in
theorem lp_J7_fill_d0a16_6 {p : Program} {e : Env} {s : State} {m : MethodId} {args : Array Value} {below : List Frame} {meth : Method} {c : Code} {Q : State → Prop} (l : Launch) (B : Wb) (C0 : Cx p s m args meth c cJ7_fill_d0a16 5 RJ7) (x0 : Nat) (x1 : Int64) (x4 : Int32) : ∀ (n : Nat) (x3 : Int32) (σ : Mem) (o : Mem) (H : Heap) (locs : List Loc) (ls : Array Slot), f_J7_fill_d0a16_6 x0 x1 x4 n x3 σ = some o → Wx B σ s H locs → lv_has ls 5 [(0, .ref (wA B x0)), (1, .long x1), (3, .int x3), (4, .int x4)] → (∀ (H : Heap) (locs : List Loc) (ls : Array Slot), Wx B o s H locs → lv_has ls 5 [] → W p l e rm_J7_fill_d0a16 s m args below meth c H locs 0 0 Q (F0 m 22 ls [])) → W p l e rm_J7_fill_d0a16 s m args below meth c H locs 0 0 Q (F0 m 6 ls []) := by
  have hx := C0.1.1
  have hb := C0.1.2.1
  intro n
  induction n with
  | zero =>
    intro x3 σ o H locs ls hf w hl hK
    cases hf
  | succ n ih =>
    intro x3 σ o H locs ls hf w hl hK
    rw [f_J7_fill_d0a16_6] at hf
    refine lv_iload_n hx hb dJ7_fill_d0a16_6 rfl (lv_at hl 2 rfl) ?_
    refine lv_iload hx hb dJ7_fill_d0a16_7 (lv_at hl 3 rfl) ?_
    refine lv_icmp_ge (tgt := 22) hx hb dJ7_fill_d0a16_9 (by decide) (fun c1 => ?_) (fun c1 => ?_)
    · rw [if_pos c1] at hf
      obtain rfl := Option.some.inj hf
      exact hK _ _ _ w (lv_sub hl [] rfl)
    · rw [if_neg c1] at hf
      refine lv_aload_n hx hb dJ7_fill_d0a16_12 rfl (lv_at hl 0 rfl) ?_
      refine lv_iload_n hx hb dJ7_fill_d0a16_13 rfl (lv_at hl 2 rfl) ?_
      refine lv_lload_n hx hb dJ7_fill_d0a16_14 rfl (lv_at hl 1 rfl) ?_
      obtain ⟨g2, hf⟩ := gdE hf
      obtain ⟨g3, hf⟩ := gdE hf
      refine sL C0 w g2 (inbE g3) dJ7_fill_d0a16_15 (fun H locs w => ?_)
      refine lv_iinc (k := 2) (v := x3 + 1) (lv' := [(3, .int (x3 + 1)), (0, .ref (wA B x0)), (1, .long x1), (4, .int x4)]) hx hb dJ7_fill_d0a16_16 hl rfl (by rfl) (by decide) rfl (fun ls hl => ?_)
      refine lv_goto (tgt := 6) hx hb dJ7_fill_d0a16_19 (by decide) ?_
      exact ih (x3 + 1) (setL σ x0 x3.toNatClampNeg x1) _ _ _ _ hf w (lv_sub hl [1, 2, 0, 3] rfl) hK
set_option maxHeartbeats 4000000 in
set_option maxRecDepth 100000 in
theorem m_J7_fill_d0a16 (l : Launch) (B : Wb) (sz : Nat) (σ : Mem) (x0 : Nat) (x1 : Int64) (q : Mem) (hf : f_J7_fill_d0a16 x0 x1 σ = some q) : MetC l yJ7_fill_d0a16 cJ7_fill_d0a16 5 none rm_J7_fill_d0a16 B sz σ q [.ref (wA B x0), .long x1] (none) := by
  refine met_in (by decide +kernel) (Nat.le_of_ble_eq_true rfl) ?_
  intro p e s m below meth c C0 hr w hsz ls hl
  have hx := C0.1.1
  have hb := C0.1.2.1
  unfold f_J7_fill_d0a16 at hf
  refine lv_iconst (v := 0) hx hb dJ7_fill_d0a16_0 (by decide) ?_
  refine lv_istore_n (lv' := [(3, .int 0), (0, .ref (wA B x0)), (1, .long x1)]) hx hb dJ7_fill_d0a16_1 rfl hl (by decide) rfl (fun ls hl => ?_)
  refine lv_aload_n hx hb dJ7_fill_d0a16_2 rfl (lv_at hl 1 rfl) ?_
  obtain ⟨g1, hf⟩ := gdE hf
  refine r_lenL C0 w g1 dJ7_fill_d0a16_3 ?_
  refine lv_istore (lv' := [(4, .int (Int32.ofNat (aln x0))), (3, .int 0), (0, .ref (wA B x0)), (1, .long x1)]) hx hb dJ7_fill_d0a16_4 hl (by decide) rfl (fun ls hl => ?_)
  obtain ⟨q2, h3, hf⟩ := bdE hf
  refine lp_J7_fill_d0a16_6 l B C0 x0 x1 (Int32.ofNat (aln x0)) 100000 0 σ q2 _ _ _ h3 w (lv_sub hl [2, 3, 1, 0] rfl) (fun H locs ls w hl => ?_)
  obtain rfl := Option.some.inj hf
  exact eV C0 hr w dJ7_fill_d0a16_22
def f_X6_takeNearest_17 (σ : Mem) : Nat → Int32 → Int64 → Int32 → Option (Int32)
  | 0, _, _, _ => none
  | n + 1, x1, x2, x4 =>
    if (σ.1 140 3) ≤ x4 then (
      some x1)
    else (
      gd (inb x4 64) (
      gd (inb (σ.1 142 x4.toNatClampNeg) 64) (
      if x2 ≤ (σ.2 141 (σ.1 142 x4.toNatClampNeg).toNatClampNeg) then (
        f_X6_takeNearest_17 σ n x1 x2 (x4 + 1))
      else (
        f_X6_takeNearest_17 σ n x4 (σ.2 141 (σ.1 142 x4.toNatClampNeg).toNatClampNeg) (x4 + 1)))))
def f_X6_takeNearest (σ : Mem) : Option (Int32 × Mem) :=
  gd (inb (σ.1 142 (0 : Int32).toNatClampNeg) 64) (
  bd (f_X6_takeNearest_17 σ 100000 0 (σ.2 141 (σ.1 142 (0 : Int32).toNatClampNeg).toNatClampNeg) 1) (fun q3 =>
  gd (inb q3 64) (
  gd (inb ((setI σ 140 3 ((σ.1 140 3) - 1)).1 140 3) 64) (
  gd (inb q3 64) (
  bd (some (setI (setI σ 140 3 ((σ.1 140 3) - 1)) 142 q3.toNatClampNeg ((setI σ 140 3 ((σ.1 140 3) - 1)).1 142 ((setI σ 140 3 ((σ.1 140 3) - 1)).1 140 3).toNatClampNeg))) (fun q8 =>
  some ((σ.1 142 q3.toNatClampNeg, q8))))))))
abbrev rm_X6_takeNearest : Room := { frames := 0, cells := 0, slots := 0, locals := 0 }
set_option maxHeartbeats 4000000 in
set_option maxRecDepth 100000 in
theorem lp_X6_takeNearest_17 {p : Program} {e : Env} {s : State} {m : MethodId} {args : Array Value} {below : List Frame} {meth : Method} {c : Code} {Q : State → Prop} (l : Launch) (B : Wb) (C0 : Cx p s m args meth c cX6_takeNearest 7 RX6) : ∀ (n : Nat) (x1 : Int32) (x2 : Int64) (x4 : Int32) (σ : Mem) (o : Int32) (H : Heap) (locs : List Loc) (ls : Array Slot), f_X6_takeNearest_17 σ n x1 x2 x4 = some o → Wx B σ s H locs → lv_has ls 7 [(0, .ref (wA B 140)), (1, .int x1), (2, .long x2), (4, .int x4)] → (∀ (H : Heap) (locs : List Loc) (ls : Array Slot), Wx B σ s H locs → lv_has ls 7 [(0, .ref (wA B 140)), (1, .int o)] → W p l e rm_X6_takeNearest s m args below meth c H locs 0 0 Q (F0 m 59 ls [])) → W p l e rm_X6_takeNearest s m args below meth c H locs 0 0 Q (F0 m 17 ls []) := by
  have hx := C0.1.1
  have hb := C0.1.2.1
  intro n
  induction n with
  | zero =>
    intro x1 x2 x4 σ o H locs ls hf w hl hK
    cases hf
  | succ n ih =>
    intro x1 x2 x4 σ o H locs ls hf w hl hK
    rw [f_X6_takeNearest_17] at hf
    refine lv_iload hx hb dX6_takeNearest_17 (lv_at hl 3 rfl) ?_
    refine lv_aload_n hx hb dX6_takeNearest_19 rfl (lv_at hl 0 rfl) ?_
    refine gI C0 w fk_X6_31 (by decide +kernel) dX6_takeNearest_20 ?_
    refine lv_icmp_ge (tgt := 59) hx hb dX6_takeNearest_23 (by decide) (fun c1 => ?_) (fun c1 => ?_)
    · rw [if_pos c1] at hf
      obtain rfl := Option.some.inj hf
      exact hK _ _ _ w (lv_sub hl [0, 1] rfl)
    · rw [if_neg c1] at hf
      refine lv_aload_n hx hb dX6_takeNearest_26 rfl (lv_at hl 0 rfl) ?_
      refine gR C0 w 141 fk_X6_9 (by decide +kernel) dX6_takeNearest_27 ?_
      refine lv_aload_n hx hb dX6_takeNearest_30 rfl (lv_at hl 0 rfl) ?_
      refine gR C0 w 142 fk_X6_15 (by decide +kernel) dX6_takeNearest_31 ?_
      refine lv_iload hx hb dX6_takeNearest_34 (lv_at hl 3 rfl) ?_
      obtain ⟨g2, hf⟩ := gdE hf
      refine aI C0 w (n := 64) (by decide +kernel) (inbE g2) dX6_takeNearest_36 ?_
      obtain ⟨g3, hf⟩ := gdE hf
      refine aL C0 w (n := 64) (by decide +kernel) (inbE g3) dX6_takeNearest_37 ?_
      refine lv_lstore (lv' := [(5, .long (σ.2 141 (σ.1 142 x4.toNatClampNeg).toNatClampNeg)), (0, .ref (wA B 140)), (1, .int x1), (2, .long x2), (4, .int x4)]) hx hb dX6_takeNearest_38 hl (by decide) rfl (fun ls hl => ?_)
      refine lv_lload hx hb dX6_takeNearest_40 (lv_at hl 0 rfl) ?_
      refine lv_lload_n hx hb dX6_takeNearest_42 rfl (lv_at hl 3 rfl) ?_
      refine lc_ge (tgt := 53) C0 dX6_takeNearest_43 dX6_takeNearest_44 (by decide) (fun c4 => ?_) (fun c4 => ?_)
      · rw [if_pos c4] at hf
        refine lv_iinc (k := 4) (v := x4 + 1) (lv' := [(4, .int (x4 + 1)), (5, .long (σ.2 141 (σ.1 142 x4.toNatClampNeg).toNatClampNeg)), (0, .ref (wA B 140)), (1, .int x1), (2, .long x2)]) hx hb dX6_takeNearest_53 hl rfl (by rfl) (by decide) rfl (fun ls hl => ?_)
        refine lv_goto (tgt := 17) hx hb dX6_takeNearest_56 (by decide) ?_
        exact ih x1 x2 (x4 + 1) σ _ _ _ _ hf w (lv_sub hl [2, 3, 4, 0] rfl) hK
      · rw [if_neg c4] at hf
        refine lv_lload hx hb dX6_takeNearest_47 (lv_at hl 0 rfl) ?_
        refine lv_lstore_n (lv' := [(2, .long (σ.2 141 (σ.1 142 x4.toNatClampNeg).toNatClampNeg)), (5, .long (σ.2 141 (σ.1 142 x4.toNatClampNeg).toNatClampNeg)), (0, .ref (wA B 140)), (1, .int x1), (4, .int x4)]) hx hb dX6_takeNearest_49 rfl hl (by decide) rfl (fun ls hl => ?_)
        refine lv_iload hx hb dX6_takeNearest_50 (lv_at hl 4 rfl) ?_
        refine lv_istore_n (lv' := [(1, .int x4), (2, .long (σ.2 141 (σ.1 142 x4.toNatClampNeg).toNatClampNeg)), (5, .long (σ.2 141 (σ.1 142 x4.toNatClampNeg).toNatClampNeg)), (0, .ref (wA B 140)), (4, .int x4)]) hx hb dX6_takeNearest_52 rfl hl (by decide) rfl (fun ls hl => ?_)
        refine lv_iinc (k := 4) (v := x4 + 1) (lv' := [(4, .int (x4 + 1)), (1, .int x4), (2, .long (σ.2 141 (σ.1 142 x4.toNatClampNeg).toNatClampNeg)), (5, .long (σ.2 141 (σ.1 142 x4.toNatClampNeg).toNatClampNeg)), (0, .ref (wA B 140))]) hx hb dX6_takeNearest_53 hl rfl (by rfl) (by decide) rfl (fun ls hl => ?_)
        refine lv_goto (tgt := 17) hx hb dX6_takeNearest_56 (by decide) ?_
        exact ih x4 (σ.2 141 (σ.1 142 x4.toNatClampNeg).toNatClampNeg) (x4 + 1) σ _ _ _ _ hf w (lv_sub hl [4, 1, 2, 0] rfl) hK
set_option maxHeartbeats 4000000 in
set_option maxRecDepth 100000 in
theorem m_X6_takeNearest (l : Launch) (B : Wb) (sz : Nat) (σ : Mem) (q : Int32 × Mem) (hf : f_X6_takeNearest σ = some q) : MetC l yX6_takeNearest cX6_takeNearest 7 (some .int) rm_X6_takeNearest B sz σ q.2 [.ref (wA B 140)] (some (.int q.1)) := by
  refine met_in (by decide +kernel) (Nat.le_of_ble_eq_true rfl) ?_
  intro p e s m below meth c C0 hr w hsz ls hl
  have hx := C0.1.1
  have hb := C0.1.2.1
  unfold f_X6_takeNearest at hf
  refine lv_iconst (v := 0) hx hb dX6_takeNearest_0 (by decide) ?_
  refine lv_istore_n (lv' := [(1, .int 0), (0, .ref (wA B 140))]) hx hb dX6_takeNearest_1 rfl hl (by decide) rfl (fun ls hl => ?_)
  refine lv_aload_n hx hb dX6_takeNearest_2 rfl (lv_at hl 1 rfl) ?_
  refine gR C0 w 141 fk_X6_9 (by decide +kernel) dX6_takeNearest_3 ?_
  refine lv_aload_n hx hb dX6_takeNearest_6 rfl (lv_at hl 1 rfl) ?_
  refine gR C0 w 142 fk_X6_15 (by decide +kernel) dX6_takeNearest_7 ?_
  refine lv_iconst (v := 0) hx hb dX6_takeNearest_10 (by decide) ?_
  refine aI C0 w (n := 64) (by decide +kernel) (inbE (by decide)) dX6_takeNearest_11 ?_
  obtain ⟨g2, hf⟩ := gdE hf
  refine aL C0 w (n := 64) (by decide +kernel) (inbE g2) dX6_takeNearest_12 ?_
  refine lv_lstore_n (lv' := [(2, .long (σ.2 141 (σ.1 142 (0 : Int32).toNatClampNeg).toNatClampNeg)), (1, .int 0), (0, .ref (wA B 140))]) hx hb dX6_takeNearest_13 rfl hl (by decide) rfl (fun ls hl => ?_)
  refine lv_iconst (v := 1) hx hb dX6_takeNearest_14 (by decide) ?_
  refine lv_istore (lv' := [(4, .int 1), (2, .long (σ.2 141 (σ.1 142 (0 : Int32).toNatClampNeg).toNatClampNeg)), (1, .int 0), (0, .ref (wA B 140))]) hx hb dX6_takeNearest_15 hl (by decide) rfl (fun ls hl => ?_)
  obtain ⟨q3, h4, hf⟩ := bdE hf
  refine lp_X6_takeNearest_17 l B C0 100000 0 (σ.2 141 (σ.1 142 (0 : Int32).toNatClampNeg).toNatClampNeg) 1 σ q3 _ _ _ h4 w (lv_sub hl [3, 2, 1, 0] rfl) (fun H locs ls w hl => ?_)
  refine lv_aload_n hx hb dX6_takeNearest_59 rfl (lv_at hl 0 rfl) ?_
  refine gR C0 w 142 fk_X6_15 (by decide +kernel) dX6_takeNearest_60 ?_
  refine lv_iload_n hx hb dX6_takeNearest_63 rfl (lv_at hl 1 rfl) ?_
  obtain ⟨g5, hf⟩ := gdE hf
  refine aI C0 w (n := 64) (by decide +kernel) (inbE g5) dX6_takeNearest_64 ?_
  refine lv_istore (lv' := [(4, .int (σ.1 142 q3.toNatClampNeg)), (0, .ref (wA B 140)), (1, .int q3)]) hx hb dX6_takeNearest_65 hl (by decide) rfl (fun ls hl => ?_)
  refine lv_aload_n hx hb dX6_takeNearest_67 rfl (lv_at hl 1 rfl) ?_
  refine lv_dup hx hb dX6_takeNearest_68 rfl ?_
  refine gI C0 w fk_X6_31 (by decide +kernel) dX6_takeNearest_69 ?_
  refine lv_iconst (v := 1) hx hb dX6_takeNearest_72 (by decide) ?_
  refine lv_isub hx hb dX6_takeNearest_73 ?_
  refine pI C0 w fk_X6_31 fp_X6_3 (by decide +kernel) dX6_takeNearest_74 (fun H locs w => ?_)
  refine lv_aload_n hx hb dX6_takeNearest_77 rfl (lv_at hl 1 rfl) ?_
  refine gR C0 w 142 fk_X6_15 (by decide +kernel) dX6_takeNearest_78 ?_
  refine lv_iload_n hx hb dX6_takeNearest_81 rfl (lv_at hl 2 rfl) ?_
  refine lv_aload_n hx hb dX6_takeNearest_82 rfl (lv_at hl 1 rfl) ?_
  refine gR C0 w 142 fk_X6_15 (by decide +kernel) dX6_takeNearest_83 ?_
  refine lv_aload_n hx hb dX6_takeNearest_86 rfl (lv_at hl 1 rfl) ?_
  refine gI C0 w fk_X6_31 (by decide +kernel) dX6_takeNearest_87 ?_
  obtain ⟨g6, hf⟩ := gdE hf
  refine aI C0 w (n := 64) (by decide +kernel) (inbE g6) dX6_takeNearest_90 ?_
  obtain ⟨g7, hf⟩ := gdE hf
  refine sI C0 w (n := 64) (by decide +kernel) (inbE g7) dX6_takeNearest_91 (fun H locs w => ?_)
  obtain ⟨q8, h9, hf⟩ := bdE hf
  have w : Wx B q8 s H locs := by rw [← Option.some.inj h9]; exact w
  refine lv_iload hx hb dX6_takeNearest_92 (lv_at hl 0 rfl) ?_
  obtain rfl := Option.some.inj hf
  exact eI C0 hr w rfl dX6_takeNearest_94
def f_X6_reachNeighbours_43 (x1 : Nat) (x2 : Int32) (x3 : Nat) (x4 : Nat) (x5 : Int32) (x6 : Int64) : Nat → Int32 → Mem → Option (Mem)
  | 0, _, _ => none
  | n + 1, x8, σ =>
    if x5 ≤ x8 then (
      some σ)
    else (
      gd (shA x3 1 (aln x3)) (
      gd (inb x8 (aln x3)) (
      gd (shA x4 1 (aln x4)) (
      gd (inb x8 (aln x4)) (
      gd (shA x1 1 (aln x1)) (
      gd (inb x2 (aln x1)) (
      gd (shA x1 1 (aln x1)) (
      gd (inb (σ.1 x3 x8.toNatClampNeg) (aln x1)) (
      gd (inb (σ.1 x3 x8.toNatClampNeg) 64) (
      if (σ.2 141 (σ.1 x3 x8.toNatClampNeg).toNatClampNeg) ≤ (x6 + (((σ.1 x4 x8.toNatClampNeg).toInt64) * (((σ.1 x1 x2.toNatClampNeg) + (σ.1 x1 (σ.1 x3 x8.toNatClampNeg).toNatClampNeg)).toInt64))) then (
        f_X6_reachNeighbours_43 x1 x2 x3 x4 x5 x6 n (x8 + 1) σ)
      else (
        gd (inb (σ.1 x3 x8.toNatClampNeg) 64) (
        if (σ.2 141 (σ.1 x3 x8.toNatClampNeg).toNatClampNeg) = 1152921504606846976 then (
          if 64 ≤ (σ.1 140 3) then (
            gd (inb (σ.1 x3 x8.toNatClampNeg) 64) (
            bd (some (setL σ 141 ((σ.1 x3 x8.toNatClampNeg).toNatClampNeg) (x6 + (((σ.1 x4 x8.toNatClampNeg).toInt64) * (((σ.1 x1 x2.toNatClampNeg) + (σ.1 x1 (σ.1 x3 x8.toNatClampNeg).toNatClampNeg)).toInt64))))) (fun q19 =>
            f_X6_reachNeighbours_43 x1 x2 x3 x4 x5 x6 n (x8 + 1) q19)))
          else (
            gd (inb (σ.1 140 3) 64) (
            bd (some (setI (setI σ 142 ((σ.1 140 3).toNatClampNeg) (σ.1 x3 x8.toNatClampNeg)) 140 3 (((setI σ 142 ((σ.1 140 3).toNatClampNeg) (σ.1 x3 x8.toNatClampNeg)).1 140 3) + 1))) (fun q22 =>
            gd (inb (σ.1 x3 x8.toNatClampNeg) 64) (
            bd (some (setL q22 141 ((σ.1 x3 x8.toNatClampNeg).toNatClampNeg) (x6 + (((σ.1 x4 x8.toNatClampNeg).toInt64) * (((σ.1 x1 x2.toNatClampNeg) + (σ.1 x1 (σ.1 x3 x8.toNatClampNeg).toNatClampNeg)).toInt64))))) (fun q25 =>
            f_X6_reachNeighbours_43 x1 x2 x3 x4 x5 x6 n (x8 + 1) q25))))))
        else (
          gd (inb (σ.1 x3 x8.toNatClampNeg) 64) (
          bd (some (setL σ 141 ((σ.1 x3 x8.toNatClampNeg).toNatClampNeg) (x6 + (((σ.1 x4 x8.toNatClampNeg).toInt64) * (((σ.1 x1 x2.toNatClampNeg) + (σ.1 x1 (σ.1 x3 x8.toNatClampNeg).toNatClampNeg)).toInt64))))) (fun q15 =>
          f_X6_reachNeighbours_43 x1 x2 x3 x4 x5 x6 n (x8 + 1) q15)))))))))))))))
def f_X6_reachNeighbours (x1 : Nat) (x2 : Int32) (σ : Mem) : Option (Mem) :=
  gd (inb x2 64) (
  gd (inb x2 64) (
  gd (inb x2 64) (
  gd (inb x2 64) (
  bd (f_X6_reachNeighbours_43 x1 x2 (11 + 1 * x2.toNatClampNeg) (76 + 1 * x2.toNatClampNeg) (σ.1 9 x2.toNatClampNeg) (σ.2 141 x2.toNatClampNeg) 100000 0 σ) (fun q5 =>
  some q5)))))
abbrev rm_X6_reachNeighbours : Room := { frames := 0, cells := 0, slots := 0, locals := 0 }
set_option maxHeartbeats 4000000 in
set_option maxRecDepth 100000 in
theorem lp_X6_reachNeighbours_43 {p : Program} {e : Env} {s : State} {m : MethodId} {args : Array Value} {below : List Frame} {meth : Method} {c : Code} {Q : State → Prop} (l : Launch) (B : Wb) (C0 : Cx p s m args meth c cX6_reachNeighbours 12 RX6) (x1 : Nat) (x2 : Int32) (x3 : Nat) (x4 : Nat) (x5 : Int32) (x6 : Int64) : ∀ (n : Nat) (x8 : Int32) (σ : Mem) (o : Mem) (H : Heap) (locs : List Loc) (ls : Array Slot), f_X6_reachNeighbours_43 x1 x2 x3 x4 x5 x6 n x8 σ = some o → Wx B σ s H locs → lv_has ls 12 [(0, .ref (wA B 140)), (1, .ref (wA B x1)), (2, .int x2), (3, .ref (wA B x3)), (4, .ref (wA B x4)), (5, .int x5), (6, .long x6), (8, .int x8)] → (∀ (H : Heap) (locs : List Loc) (ls : Array Slot), Wx B o s H locs → lv_has ls 12 [] → W p l e rm_X6_reachNeighbours s m args below meth c H locs 0 0 Q (F0 m 149 ls [])) → W p l e rm_X6_reachNeighbours s m args below meth c H locs 0 0 Q (F0 m 43 ls []) := by
  have hx := C0.1.1
  have hb := C0.1.2.1
  intro n
  induction n with
  | zero =>
    intro x8 σ o H locs ls hf w hl hK
    cases hf
  | succ n ih =>
    intro x8 σ o H locs ls hf w hl hK
    rw [f_X6_reachNeighbours_43] at hf
    refine lv_iload hx hb dX6_reachNeighbours_43 (lv_at hl 7 rfl) ?_
    refine lv_iload hx hb dX6_reachNeighbours_45 (lv_at hl 5 rfl) ?_
    refine lv_icmp_ge (tgt := 149) hx hb dX6_reachNeighbours_47 (by decide) (fun c1 => ?_) (fun c1 => ?_)
    · rw [if_pos c1] at hf
      obtain rfl := Option.some.inj hf
      exact hK _ _ _ w (lv_sub hl [] rfl)
    · rw [if_neg c1] at hf
      refine lv_aload_n hx hb dX6_reachNeighbours_50 rfl (lv_at hl 3 rfl) ?_
      refine lv_iload hx hb dX6_reachNeighbours_51 (lv_at hl 7 rfl) ?_
      obtain ⟨g2, hf⟩ := gdE hf
      obtain ⟨g3, hf⟩ := gdE hf
      refine aI C0 w g2 (inbE g3) dX6_reachNeighbours_53 ?_
      refine lv_istore (lv' := [(9, .int (σ.1 x3 x8.toNatClampNeg)), (0, .ref (wA B 140)), (1, .ref (wA B x1)), (2, .int x2), (3, .ref (wA B x3)), (4, .ref (wA B x4)), (5, .int x5), (6, .long x6), (8, .int x8)]) hx hb dX6_reachNeighbours_54 hl (by decide) rfl (fun ls hl => ?_)
      refine lv_lload hx hb dX6_reachNeighbours_56 (lv_at hl 7 rfl) ?_
      refine lv_aload hx hb dX6_reachNeighbours_58 (lv_at hl 5 rfl) ?_
      refine lv_iload hx hb dX6_reachNeighbours_60 (lv_at hl 8 rfl) ?_
      obtain ⟨g4, hf⟩ := gdE hf
      obtain ⟨g5, hf⟩ := gdE hf
      refine aI C0 w g4 (inbE g5) dX6_reachNeighbours_62 ?_
      refine lv_i2l hx hb dX6_reachNeighbours_63 rfl ?_
      refine lv_aload_n hx hb dX6_reachNeighbours_64 rfl (lv_at hl 2 rfl) ?_
      refine lv_iload_n hx hb dX6_reachNeighbours_65 rfl (lv_at hl 3 rfl) ?_
      obtain ⟨g6, hf⟩ := gdE hf
      obtain ⟨g7, hf⟩ := gdE hf
      refine aI C0 w g6 (inbE g7) dX6_reachNeighbours_66 ?_
      refine lv_aload_n hx hb dX6_reachNeighbours_67 rfl (lv_at hl 2 rfl) ?_
      refine lv_iload hx hb dX6_reachNeighbours_68 (lv_at hl 0 rfl) ?_
      obtain ⟨g8, hf⟩ := gdE hf
      obtain ⟨g9, hf⟩ := gdE hf
      refine aI C0 w g8 (inbE g9) dX6_reachNeighbours_70 ?_
      refine lv_iadd hx hb dX6_reachNeighbours_71 ?_
      refine lv_i2l hx hb dX6_reachNeighbours_72 rfl ?_
      refine lv_lmul hx hb dX6_reachNeighbours_73 ?_
      refine lv_ladd hx hb dX6_reachNeighbours_74 ?_
      refine lv_lstore (lv' := [(10, .long (x6 + (((σ.1 x4 x8.toNatClampNeg).toInt64) * (((σ.1 x1 x2.toNatClampNeg) + (σ.1 x1 (σ.1 x3 x8.toNatClampNeg).toNatClampNeg)).toInt64)))), (9, .int (σ.1 x3 x8.toNatClampNeg)), (0, .ref (wA B 140)), (1, .ref (wA B x1)), (2, .int x2), (3, .ref (wA B x3)), (4, .ref (wA B x4)), (5, .int x5), (6, .long x6), (8, .int x8)]) hx hb dX6_reachNeighbours_75 hl (by decide) rfl (fun ls hl => ?_)
      refine lv_lload hx hb dX6_reachNeighbours_77 (lv_at hl 0 rfl) ?_
      refine lv_aload_n hx hb dX6_reachNeighbours_79 rfl (lv_at hl 2 rfl) ?_
      refine gR C0 w 141 fk_X6_9 (by decide +kernel) dX6_reachNeighbours_80 ?_
      refine lv_iload hx hb dX6_reachNeighbours_83 (lv_at hl 1 rfl) ?_
      obtain ⟨g10, hf⟩ := gdE hf
      refine aL C0 w (n := 64) (by decide +kernel) (inbE g10) dX6_reachNeighbours_85 ?_
      refine lc_ge (tgt := 143) C0 dX6_reachNeighbours_86 dX6_reachNeighbours_87 (by decide) (fun c11 => ?_) (fun c11 => ?_)
      · rw [if_pos c11] at hf
        refine lv_iinc (k := 9) (v := x8 + 1) (lv' := [(8, .int (x8 + 1)), (10, .long (x6 + (((σ.1 x4 x8.toNatClampNeg).toInt64) * (((σ.1 x1 x2.toNatClampNeg) + (σ.1 x1 (σ.1 x3 x8.toNatClampNeg).toNatClampNeg)).toInt64)))), (9, .int (σ.1 x3 x8.toNatClampNeg)), (0, .ref (wA B 140)), (1, .ref (wA B x1)), (2, .int x2), (3, .ref (wA B x3)), (4, .ref (wA B x4)), (5, .int x5), (6, .long x6)]) hx hb dX6_reachNeighbours_143 hl rfl (by rfl) (by decide) rfl (fun ls hl => ?_)
        refine lv_goto (tgt := 43) hx hb dX6_reachNeighbours_146 (by decide) ?_
        exact ih (x8 + 1) σ _ _ _ _ hf w (lv_sub hl [3, 4, 5, 6, 7, 8, 9, 0] rfl) hK
      · rw [if_neg c11] at hf
        refine lv_aload_n hx hb dX6_reachNeighbours_90 rfl (lv_at hl 2 rfl) ?_
        refine gR C0 w 141 fk_X6_9 (by decide +kernel) dX6_reachNeighbours_91 ?_
        refine lv_iload hx hb dX6_reachNeighbours_94 (lv_at hl 1 rfl) ?_
        obtain ⟨g12, hf⟩ := gdE hf
        refine aL C0 w (n := 64) (by decide +kernel) (inbE g12) dX6_reachNeighbours_96 ?_
        refine kLg C0 1152921504606846976 kc_X6_23 dX6_reachNeighbours_97 ?_
        refine lc_ne (tgt := 134) C0 dX6_reachNeighbours_100 dX6_reachNeighbours_101 (by decide) (fun c13 => ?_) (fun c13 => ?_)
        · rw [if_neg c13] at hf
          refine lv_aload_n hx hb dX6_reachNeighbours_134 rfl (lv_at hl 2 rfl) ?_
          refine gR C0 w 141 fk_X6_9 (by decide +kernel) dX6_reachNeighbours_135 ?_
          refine lv_iload hx hb dX6_reachNeighbours_138 (lv_at hl 1 rfl) ?_
          refine lv_lload hx hb dX6_reachNeighbours_140 (lv_at hl 0 rfl) ?_
          obtain ⟨g14, hf⟩ := gdE hf
          refine sL C0 w (n := 64) (by decide +kernel) (inbE g14) dX6_reachNeighbours_142 (fun H locs w => ?_)
          obtain ⟨q15, h16, hf⟩ := bdE hf
          have w : Wx B q15 s H locs := by rw [← Option.some.inj h16]; exact w
          refine lv_iinc (k := 9) (v := x8 + 1) (lv' := [(8, .int (x8 + 1)), (10, .long (x6 + (((σ.1 x4 x8.toNatClampNeg).toInt64) * (((σ.1 x1 x2.toNatClampNeg) + (σ.1 x1 (σ.1 x3 x8.toNatClampNeg).toNatClampNeg)).toInt64)))), (9, .int (σ.1 x3 x8.toNatClampNeg)), (0, .ref (wA B 140)), (1, .ref (wA B x1)), (2, .int x2), (3, .ref (wA B x3)), (4, .ref (wA B x4)), (5, .int x5), (6, .long x6)]) hx hb dX6_reachNeighbours_143 hl rfl (by rfl) (by decide) rfl (fun ls hl => ?_)
          refine lv_goto (tgt := 43) hx hb dX6_reachNeighbours_146 (by decide) ?_
          exact ih (x8 + 1) q15 _ _ _ _ hf w (lv_sub hl [3, 4, 5, 6, 7, 8, 9, 0] rfl) hK
        · rw [if_pos c13] at hf
          refine lv_aload_n hx hb dX6_reachNeighbours_104 rfl (lv_at hl 2 rfl) ?_
          refine gI C0 w fk_X6_31 (by decide +kernel) dX6_reachNeighbours_105 ?_
          refine lv_bipush (v := 64) hx hb dX6_reachNeighbours_108 (by decide) ?_
          refine lv_icmp_ge (tgt := 134) hx hb dX6_reachNeighbours_110 (by decide) (fun c17 => ?_) (fun c17 => ?_)
          · rw [if_pos c17] at hf
            refine lv_aload_n hx hb dX6_reachNeighbours_134 rfl (lv_at hl 2 rfl) ?_
            refine gR C0 w 141 fk_X6_9 (by decide +kernel) dX6_reachNeighbours_135 ?_
            refine lv_iload hx hb dX6_reachNeighbours_138 (lv_at hl 1 rfl) ?_
            refine lv_lload hx hb dX6_reachNeighbours_140 (lv_at hl 0 rfl) ?_
            obtain ⟨g18, hf⟩ := gdE hf
            refine sL C0 w (n := 64) (by decide +kernel) (inbE g18) dX6_reachNeighbours_142 (fun H locs w => ?_)
            obtain ⟨q19, h20, hf⟩ := bdE hf
            have w : Wx B q19 s H locs := by rw [← Option.some.inj h20]; exact w
            refine lv_iinc (k := 9) (v := x8 + 1) (lv' := [(8, .int (x8 + 1)), (10, .long (x6 + (((σ.1 x4 x8.toNatClampNeg).toInt64) * (((σ.1 x1 x2.toNatClampNeg) + (σ.1 x1 (σ.1 x3 x8.toNatClampNeg).toNatClampNeg)).toInt64)))), (9, .int (σ.1 x3 x8.toNatClampNeg)), (0, .ref (wA B 140)), (1, .ref (wA B x1)), (2, .int x2), (3, .ref (wA B x3)), (4, .ref (wA B x4)), (5, .int x5), (6, .long x6)]) hx hb dX6_reachNeighbours_143 hl rfl (by rfl) (by decide) rfl (fun ls hl => ?_)
            refine lv_goto (tgt := 43) hx hb dX6_reachNeighbours_146 (by decide) ?_
            exact ih (x8 + 1) q19 _ _ _ _ hf w (lv_sub hl [3, 4, 5, 6, 7, 8, 9, 0] rfl) hK
          · rw [if_neg c17] at hf
            refine lv_aload_n hx hb dX6_reachNeighbours_113 rfl (lv_at hl 2 rfl) ?_
            refine gR C0 w 142 fk_X6_15 (by decide +kernel) dX6_reachNeighbours_114 ?_
            refine lv_aload_n hx hb dX6_reachNeighbours_117 rfl (lv_at hl 2 rfl) ?_
            refine gI C0 w fk_X6_31 (by decide +kernel) dX6_reachNeighbours_118 ?_
            refine lv_iload hx hb dX6_reachNeighbours_121 (lv_at hl 1 rfl) ?_
            obtain ⟨g21, hf⟩ := gdE hf
            refine sI C0 w (n := 64) (by decide +kernel) (inbE g21) dX6_reachNeighbours_123 (fun H locs w => ?_)
            refine lv_aload_n hx hb dX6_reachNeighbours_124 rfl (lv_at hl 2 rfl) ?_
            refine lv_dup hx hb dX6_reachNeighbours_125 rfl ?_
            refine gI C0 w fk_X6_31 (by decide +kernel) dX6_reachNeighbours_126 ?_
            refine lv_iconst (v := 1) hx hb dX6_reachNeighbours_129 (by decide) ?_
            refine lv_iadd hx hb dX6_reachNeighbours_130 ?_
            refine pI C0 w fk_X6_31 fp_X6_3 (by decide +kernel) dX6_reachNeighbours_131 (fun H locs w => ?_)
            obtain ⟨q22, h23, hf⟩ := bdE hf
            have w : Wx B q22 s H locs := by rw [← Option.some.inj h23]; exact w
            refine lv_aload_n hx hb dX6_reachNeighbours_134 rfl (lv_at hl 2 rfl) ?_
            refine gR C0 w 141 fk_X6_9 (by decide +kernel) dX6_reachNeighbours_135 ?_
            refine lv_iload hx hb dX6_reachNeighbours_138 (lv_at hl 1 rfl) ?_
            refine lv_lload hx hb dX6_reachNeighbours_140 (lv_at hl 0 rfl) ?_
            obtain ⟨g24, hf⟩ := gdE hf
            refine sL C0 w (n := 64) (by decide +kernel) (inbE g24) dX6_reachNeighbours_142 (fun H locs w => ?_)
            obtain ⟨q25, h26, hf⟩ := bdE hf
            have w : Wx B q25 s H locs := by rw [← Option.some.inj h26]; exact w
            refine lv_iinc (k := 9) (v := x8 + 1) (lv' := [(8, .int (x8 + 1)), (10, .long (x6 + (((σ.1 x4 x8.toNatClampNeg).toInt64) * (((σ.1 x1 x2.toNatClampNeg) + (σ.1 x1 (σ.1 x3 x8.toNatClampNeg).toNatClampNeg)).toInt64)))), (9, .int (σ.1 x3 x8.toNatClampNeg)), (0, .ref (wA B 140)), (1, .ref (wA B x1)), (2, .int x2), (3, .ref (wA B x3)), (4, .ref (wA B x4)), (5, .int x5), (6, .long x6)]) hx hb dX6_reachNeighbours_143 hl rfl (by rfl) (by decide) rfl (fun ls hl => ?_)
            refine lv_goto (tgt := 43) hx hb dX6_reachNeighbours_146 (by decide) ?_
            exact ih (x8 + 1) q25 _ _ _ _ hf w (lv_sub hl [3, 4, 5, 6, 7, 8, 9, 0] rfl) hK
set_option maxHeartbeats 4000000 in
set_option maxRecDepth 100000 in
theorem m_X6_reachNeighbours (l : Launch) (B : Wb) (sz : Nat) (σ : Mem) (x1 : Nat) (x2 : Int32) (q : Mem) (hf : f_X6_reachNeighbours x1 x2 σ = some q) : MetC l yX6_reachNeighbours cX6_reachNeighbours 12 none rm_X6_reachNeighbours B sz σ q [.ref (wA B 140), .ref (wA B x1), .int x2] (none) := by
  refine met_in (by decide +kernel) (Nat.le_of_ble_eq_true rfl) ?_
  intro p e s m below meth c C0 hr w hsz ls hl
  have hx := C0.1.1
  have hb := C0.1.2.1
  unfold f_X6_reachNeighbours at hf
  refine lv_aload_n hx hb dX6_reachNeighbours_0 rfl (lv_at hl 0 rfl) ?_
  refine gR C0 w 8 fk_X6_19 (by decide +kernel) dX6_reachNeighbours_1 ?_
  refine gR C0 w 10 fk_X6_48 (by decide +kernel) dX6_reachNeighbours_4 ?_
  refine lv_iload_n hx hb dX6_reachNeighbours_7 rfl (lv_at hl 2 rfl) ?_
  obtain ⟨g1, hf⟩ := gdE hf
  refine aG C0 w (n := 64) 11 1 (by decide +kernel) rfl (inbE g1) dX6_reachNeighbours_8 ?_
  refine lv_astore_n (lv' := [(3, .ref (wA B (11 + 1 * x2.toNatClampNeg))), (0, .ref (wA B 140)), (1, .ref (wA B x1)), (2, .int x2)]) hx hb dX6_reachNeighbours_9 rfl hl (by decide) rfl (fun ls hl => ?_)
  refine lv_aload_n hx hb dX6_reachNeighbours_10 rfl (lv_at hl 1 rfl) ?_
  refine gR C0 w 8 fk_X6_19 (by decide +kernel) dX6_reachNeighbours_11 ?_
  refine gR C0 w 75 fk_X6_52 (by decide +kernel) dX6_reachNeighbours_14 ?_
  refine lv_iload_n hx hb dX6_reachNeighbours_17 rfl (lv_at hl 3 rfl) ?_
  obtain ⟨g2, hf⟩ := gdE hf
  refine aG C0 w (n := 64) 76 1 (by decide +kernel) rfl (inbE g2) dX6_reachNeighbours_18 ?_
  refine lv_astore (lv' := [(4, .ref (wA B (76 + 1 * x2.toNatClampNeg))), (3, .ref (wA B (11 + 1 * x2.toNatClampNeg))), (0, .ref (wA B 140)), (1, .ref (wA B x1)), (2, .int x2)]) hx hb dX6_reachNeighbours_19 hl (by decide) rfl (fun ls hl => ?_)
  refine lv_aload_n hx hb dX6_reachNeighbours_21 rfl (lv_at hl 2 rfl) ?_
  refine gR C0 w 8 fk_X6_19 (by decide +kernel) dX6_reachNeighbours_22 ?_
  refine gR C0 w 9 fk_X6_55 (by decide +kernel) dX6_reachNeighbours_25 ?_
  refine lv_iload_n hx hb dX6_reachNeighbours_28 rfl (lv_at hl 4 rfl) ?_
  obtain ⟨g3, hf⟩ := gdE hf
  refine aI C0 w (n := 64) (by decide +kernel) (inbE g3) dX6_reachNeighbours_29 ?_
  refine lv_istore (lv' := [(5, .int (σ.1 9 x2.toNatClampNeg)), (4, .ref (wA B (76 + 1 * x2.toNatClampNeg))), (3, .ref (wA B (11 + 1 * x2.toNatClampNeg))), (0, .ref (wA B 140)), (1, .ref (wA B x1)), (2, .int x2)]) hx hb dX6_reachNeighbours_30 hl (by decide) rfl (fun ls hl => ?_)
  refine lv_aload_n hx hb dX6_reachNeighbours_32 rfl (lv_at hl 3 rfl) ?_
  refine gR C0 w 141 fk_X6_9 (by decide +kernel) dX6_reachNeighbours_33 ?_
  refine lv_iload_n hx hb dX6_reachNeighbours_36 rfl (lv_at hl 5 rfl) ?_
  obtain ⟨g4, hf⟩ := gdE hf
  refine aL C0 w (n := 64) (by decide +kernel) (inbE g4) dX6_reachNeighbours_37 ?_
  refine lv_lstore (lv' := [(6, .long (σ.2 141 x2.toNatClampNeg)), (5, .int (σ.1 9 x2.toNatClampNeg)), (4, .ref (wA B (76 + 1 * x2.toNatClampNeg))), (3, .ref (wA B (11 + 1 * x2.toNatClampNeg))), (0, .ref (wA B 140)), (1, .ref (wA B x1)), (2, .int x2)]) hx hb dX6_reachNeighbours_38 hl (by decide) rfl (fun ls hl => ?_)
  refine lv_iconst (v := 0) hx hb dX6_reachNeighbours_40 (by decide) ?_
  refine lv_istore (lv' := [(8, .int 0), (6, .long (σ.2 141 x2.toNatClampNeg)), (5, .int (σ.1 9 x2.toNatClampNeg)), (4, .ref (wA B (76 + 1 * x2.toNatClampNeg))), (3, .ref (wA B (11 + 1 * x2.toNatClampNeg))), (0, .ref (wA B 140)), (1, .ref (wA B x1)), (2, .int x2)]) hx hb dX6_reachNeighbours_41 hl (by decide) rfl (fun ls hl => ?_)
  obtain ⟨q5, h6, hf⟩ := bdE hf
  refine lp_X6_reachNeighbours_43 l B C0 x1 x2 (11 + 1 * x2.toNatClampNeg) (76 + 1 * x2.toNatClampNeg) (σ.1 9 x2.toNatClampNeg) (σ.2 141 x2.toNatClampNeg) 100000 0 σ q5 _ _ _ h6 w (lv_sub hl [5, 6, 7, 4, 3, 2, 1, 0] rfl) (fun H locs ls w hl => ?_)
  obtain rfl := Option.some.inj hf
  exact eV C0 hr w dX6_reachNeighbours_149
def f_X6_leastTime_32 (x1 : Nat) (x3 : Int32) : Nat → Int32 → Mem → Option (Mem)
  | 0, _, _ => none
  | n + 1, x4, σ =>
    if (σ.1 8 0) ≤ x4 then (
      some σ)
    else (
      if (σ.1 140 3) ≤ 0 then (
        some σ)
      else (
        bd (f_X6_takeNearest σ) (fun q3 =>
        if q3.1 = x3 then (
          some q3.2)
        else (
          bd (f_X6_reachNeighbours x1 q3.1 q3.2) (fun q6 =>
          f_X6_leastTime_32 x1 x3 n (x4 + 1) q6)))))
def f_X6_leastTime (x1 : Nat) (x2 : Int32) (x3 : Int32) (σ : Mem) : Option (Int64 × Mem) :=
  bd (f_J7_fill_d0a16 141 1152921504606846976 σ) (fun q1 =>
  gd (inb x2 64) (
  bd (f_X6_leastTime_32 x1 x3 100000 0 (setI (setI (setL q1 141 x2.toNatClampNeg 0) 142 ((0 : Int32).toNatClampNeg) x2) 140 3 1)) (fun q5 =>
  gd (inb x3 64) (
  some ((q5.2 141 x3.toNatClampNeg, q5))))))
abbrev rm_X6_leastTime : Room := { frames := 1, cells := 0, slots := 0, locals := 31 }
set_option maxHeartbeats 4000000 in
set_option maxRecDepth 100000 in
theorem lp_X6_leastTime_32 {p : Program} {e : Env} {s : State} {m : MethodId} {args : Array Value} {below : List Frame} {meth : Method} {c : Code} {Q : State → Prop} (l : Launch) (B : Wb) (C0 : Cx p s m args meth c cX6_leastTime 6 RX6) (x1 : Nat) (x3 : Int32) : ∀ (n : Nat) (x4 : Int32) (σ : Mem) (o : Mem) (H : Heap) (locs : List Loc) (ls : Array Slot), f_X6_leastTime_32 x1 x3 n x4 σ = some o → Wx B σ s H locs → lv_has ls 6 [(0, .ref (wA B 140)), (1, .ref (wA B x1)), (3, .int x3), (4, .int x4)] → (∀ (H : Heap) (locs : List Loc) (ls : Array Slot), Wx B o s H locs → lv_has ls 6 [(0, .ref (wA B 140)), (3, .int x3)] → W p l e rm_X6_leastTime s m args below meth c H locs 0 0 Q (F0 m 79 ls [])) → W p l e rm_X6_leastTime s m args below meth c H locs 0 0 Q (F0 m 32 ls []) := by
  have hx := C0.1.1
  have hb := C0.1.2.1
  intro n
  induction n with
  | zero =>
    intro x4 σ o H locs ls hf w hl hK
    cases hf
  | succ n ih =>
    intro x4 σ o H locs ls hf w hl hK
    rw [f_X6_leastTime_32] at hf
    refine lv_iload hx hb dX6_leastTime_32 (lv_at hl 3 rfl) ?_
    refine lv_aload_n hx hb dX6_leastTime_34 rfl (lv_at hl 0 rfl) ?_
    refine gR C0 w 8 fk_X6_19 (by decide +kernel) dX6_leastTime_35 ?_
    refine gI C0 w fk_X6_35 (by decide +kernel) dX6_leastTime_38 ?_
    refine lv_icmp_ge (tgt := 79) hx hb dX6_leastTime_41 (by decide) (fun c1 => ?_) (fun c1 => ?_)
    · rw [if_pos c1] at hf
      obtain rfl := Option.some.inj hf
      exact hK _ _ _ w (lv_sub hl [0, 2] rfl)
    · rw [if_neg c1] at hf
      refine lv_aload_n hx hb dX6_leastTime_44 rfl (lv_at hl 0 rfl) ?_
      refine gI C0 w fk_X6_31 (by decide +kernel) dX6_leastTime_45 ?_
      refine lv_if_le (tgt := 79) hx hb dX6_leastTime_48 (by decide) (fun c2 => ?_) (fun c2 => ?_)
      · rw [if_pos c2] at hf
        obtain rfl := Option.some.inj hf
        exact hK _ _ _ w (lv_sub hl [0, 2] rfl)
      · rw [if_neg c2] at hf
        refine lv_aload_n hx hb dX6_leastTime_51 rfl (lv_at hl 0 rfl) ?_
        obtain ⟨q3, h4, hf⟩ := bdE hf
        refine cV (As := []) (rest := []) (k := 140) (ci := 5) (T := TX6) (N := 4) C0 w (m_X6_takeNearest l B _ σ q3 h4) ky_X6_takeNearest kv_X6_takeNearest lk_X6_40 rfl (by decide +kernel) ⟨Nat.le_of_ble_eq_true rfl, Nat.le_of_ble_eq_true rfl⟩ ⟨Nat.le_of_ble_eq_true rfl, Nat.le_of_ble_eq_true rfl⟩ rfl (by rfl) (Nat.le_of_ble_eq_true rfl) hl.1 dX6_leastTime_52 (fun H locs w => ?_)
        refine lv_istore (lv' := [(5, .int q3.1), (0, .ref (wA B 140)), (1, .ref (wA B x1)), (3, .int x3), (4, .int x4)]) hx hb dX6_leastTime_55 hl (by decide) rfl (fun ls hl => ?_)
        refine lv_iload hx hb dX6_leastTime_57 (lv_at hl 0 rfl) ?_
        refine lv_iload_n hx hb dX6_leastTime_59 rfl (lv_at hl 3 rfl) ?_
        refine lv_icmp_ne (tgt := 66) hx hb dX6_leastTime_60 (by decide) (fun c5 => ?_) (fun c5 => ?_)
        · rw [if_neg c5] at hf
          refine lv_aload_n hx hb dX6_leastTime_66 rfl (lv_at hl 1 rfl) ?_
          refine lv_aload_n hx hb dX6_leastTime_67 rfl (lv_at hl 2 rfl) ?_
          refine lv_iload hx hb dX6_leastTime_68 (lv_at hl 0 rfl) ?_
          obtain ⟨q6, h7, hf⟩ := bdE hf
          refine cV (As := [.ref (wA B x1), .int q3.1]) (rest := []) (k := 140) (ci := 5) (T := TX6) (N := 4) C0 w (m_X6_reachNeighbours l B _ q3.2 x1 q3.1 q6 h7) ky_X6_reachNeighbours kv_X6_reachNeighbours lk_X6_44 rfl (by decide +kernel) ⟨Nat.le_of_ble_eq_true rfl, Nat.le_of_ble_eq_true rfl⟩ ⟨Nat.le_of_ble_eq_true rfl, Nat.le_of_ble_eq_true rfl⟩ rfl (by rfl) (Nat.le_of_ble_eq_true rfl) hl.1 dX6_leastTime_70 (fun H locs w => ?_)
          refine lv_iinc (k := 4) (v := x4 + 1) (lv' := [(4, .int (x4 + 1)), (5, .int q3.1), (0, .ref (wA B 140)), (1, .ref (wA B x1)), (3, .int x3)]) hx hb dX6_leastTime_73 hl rfl (by rfl) (by decide) rfl (fun ls hl => ?_)
          refine lv_goto (tgt := 32) hx hb dX6_leastTime_76 (by decide) ?_
          exact ih (x4 + 1) q6 _ _ _ _ hf w (lv_sub hl [2, 3, 4, 0] rfl) hK
        · rw [if_pos c5] at hf
          refine lv_goto (tgt := 79) hx hb dX6_leastTime_63 (by decide) ?_
          obtain rfl := Option.some.inj hf
          exact hK _ _ _ w (lv_sub hl [1, 3] rfl)
set_option maxHeartbeats 4000000 in
set_option maxRecDepth 100000 in
theorem m_X6_leastTime (l : Launch) (B : Wb) (sz : Nat) (σ : Mem) (x1 : Nat) (x2 : Int32) (x3 : Int32) (q : Int64 × Mem) (hf : f_X6_leastTime x1 x2 x3 σ = some q) : MetC l yX6_leastTime cX6_leastTime 6 (some .long) rm_X6_leastTime B sz σ q.2 [.ref (wA B 140), .ref (wA B x1), .int x2, .int x3] (some (.long q.1)) := by
  refine met_in (by decide +kernel) (Nat.le_of_ble_eq_true rfl) ?_
  intro p e s m below meth c C0 hr w hsz ls hl
  have hx := C0.1.1
  have hb := C0.1.2.1
  unfold f_X6_leastTime at hf
  refine lv_aload_n hx hb dX6_leastTime_0 rfl (lv_at hl 0 rfl) ?_
  refine gR C0 w 141 fk_X6_9 (by decide +kernel) dX6_leastTime_1 ?_
  refine kLg C0 1152921504606846976 kc_X6_23 dX6_leastTime_4 ?_
  obtain ⟨q1, h2, hf⟩ := bdE hf
  refine cS (As := [.ref (wA B 141), .long 1152921504606846976]) (rest := []) C0 w (m_J7_fill_d0a16 l B _ σ 141 1152921504606846976 q1 h2) ky_J7_fill_d0a16 ks_J7_fill_d0a16 lk_X6_25 ⟨Nat.le_of_ble_eq_true rfl, Nat.le_of_ble_eq_true rfl⟩ ⟨Nat.le_of_ble_eq_true rfl, Nat.le_of_ble_eq_true rfl⟩ rfl (by rfl) (Nat.le_of_ble_eq_true rfl) hl.1 dX6_leastTime_7 (fun H locs w => ?_)
  refine lv_aload_n hx hb dX6_leastTime_10 rfl (lv_at hl 0 rfl) ?_
  refine gR C0 w 141 fk_X6_9 (by decide +kernel) dX6_leastTime_11 ?_
  refine lv_iload_n hx hb dX6_leastTime_14 rfl (lv_at hl 2 rfl) ?_
  refine lv_lconst (v := 0) hx hb dX6_leastTime_15 (by decide) ?_
  obtain ⟨g3, hf⟩ := gdE hf
  refine sL C0 w (n := 64) (by decide +kernel) (inbE g3) dX6_leastTime_16 (fun H locs w => ?_)
  refine lv_aload_n hx hb dX6_leastTime_17 rfl (lv_at hl 0 rfl) ?_
  refine gR C0 w 142 fk_X6_15 (by decide +kernel) dX6_leastTime_18 ?_
  refine lv_iconst (v := 0) hx hb dX6_leastTime_21 (by decide) ?_
  refine lv_iload_n hx hb dX6_leastTime_22 rfl (lv_at hl 2 rfl) ?_
  refine sI C0 w (n := 64) (by decide +kernel) (inbE (by decide)) dX6_leastTime_23 (fun H locs w => ?_)
  refine lv_aload_n hx hb dX6_leastTime_24 rfl (lv_at hl 0 rfl) ?_
  refine lv_iconst (v := 1) hx hb dX6_leastTime_25 (by decide) ?_
  refine pI C0 w fk_X6_31 fp_X6_3 (by decide +kernel) dX6_leastTime_26 (fun H locs w => ?_)
  refine lv_iconst (v := 0) hx hb dX6_leastTime_29 (by decide) ?_
  refine lv_istore (lv' := [(4, .int 0), (0, .ref (wA B 140)), (1, .ref (wA B x1)), (2, .int x2), (3, .int x3)]) hx hb dX6_leastTime_30 hl (by decide) rfl (fun ls hl => ?_)
  obtain ⟨q5, h6, hf⟩ := bdE hf
  refine lp_X6_leastTime_32 l B C0 x1 x3 100000 0 (setI (setI (setL q1 141 x2.toNatClampNeg 0) 142 ((0 : Int32).toNatClampNeg) x2) 140 3 1) q5 _ _ _ h6 w (lv_sub hl [1, 2, 4, 0] rfl) (fun H locs ls w hl => ?_)
  refine lv_aload_n hx hb dX6_leastTime_79 rfl (lv_at hl 0 rfl) ?_
  refine gR C0 w 141 fk_X6_9 (by decide +kernel) dX6_leastTime_80 ?_
  refine lv_iload_n hx hb dX6_leastTime_83 rfl (lv_at hl 1 rfl) ?_
  obtain ⟨g7, hf⟩ := gdE hf
  refine aL C0 w (n := 64) (by decide +kernel) (inbE g7) dX6_leastTime_84 ?_
  obtain rfl := Option.some.inj hf
  exact eL C0 hr w dX6_leastTime_85
def f_X11_nextChance (x0 : Int64) (σ : Mem) : Option (Int64) :=
  some (((1103515245 * x0) + 12345) - ((1103515245 * x0) + 12345) / 2147483648 * 2147483648)
abbrev rm_X11_nextChance : Room := { frames := 0, cells := 0, slots := 0, locals := 0 }
set_option maxHeartbeats 4000000 in
set_option maxRecDepth 100000 in
theorem m_X11_nextChance (l : Launch) (B : Wb) (sz : Nat) (σ : Mem) (x0 : Int64) (q : Int64) (hf : f_X11_nextChance x0 σ = some q) : MetC l yX11_nextChance cX11_nextChance 2 (some .long) rm_X11_nextChance B sz σ σ [.long x0] (some (.long q)) := by
  refine met_in (by decide +kernel) (Nat.le_of_ble_eq_true rfl) ?_
  intro p e s m below meth c C0 hr w hsz ls hl
  have hx := C0.1.1
  have hb := C0.1.2.1
  unfold f_X11_nextChance at hf
  refine kLg C0 1103515245 kc_X11_385 dX11_nextChance_0 ?_
  refine lv_lload_n hx hb dX11_nextChance_3 rfl (lv_at hl 0 rfl) ?_
  refine lv_lmul hx hb dX11_nextChance_4 ?_
  refine kLg C0 12345 kc_X11_387 dX11_nextChance_5 ?_
  refine lv_ladd hx hb dX11_nextChance_8 ?_
  refine kLg C0 2147483648 kc_X11_389 dX11_nextChance_9 ?_
  refine lv_lrem hx hb dX11_nextChance_12 (by decide) ?_
  obtain rfl := Option.some.inj hf
  exact eL C0 hr w dX11_nextChance_13
def f_X11_leadingPart (x0 : Int64) (σ : Mem) : Option (Int64) :=
  some (x0 / 65536)
abbrev rm_X11_leadingPart : Room := { frames := 0, cells := 0, slots := 0, locals := 0 }
set_option maxHeartbeats 4000000 in
set_option maxRecDepth 100000 in
theorem m_X11_leadingPart (l : Launch) (B : Wb) (sz : Nat) (σ : Mem) (x0 : Int64) (q : Int64) (hf : f_X11_leadingPart x0 σ = some q) : MetC l yX11_leadingPart cX11_leadingPart 2 (some .long) rm_X11_leadingPart B sz σ σ [.long x0] (some (.long q)) := by
  refine met_in (by decide +kernel) (Nat.le_of_ble_eq_true rfl) ?_
  intro p e s m below meth c C0 hr w hsz ls hl
  have hx := C0.1.1
  have hb := C0.1.2.1
  unfold f_X11_leadingPart at hf
  refine lv_lload_n hx hb dX11_leadingPart_0 rfl (lv_at hl 0 rfl) ?_
  refine kLg C0 65536 kc_X11_391 dX11_leadingPart_1 ?_
  refine lv_ldiv hx hb dX11_leadingPart_4 (by decide) ?_
  obtain rfl := Option.some.inj hf
  exact eL C0 hr w dX11_leadingPart_5
def f_X1_takeTimes_6 (x1 : Int32) : Nat → Int64 → Int32 → Mem → Option (Mem)
  | 0, _, _, _ => none
  | n + 1, x3, x5, σ =>
    if (σ.1 1 7) ≤ x5 then (
      some σ)
    else (
      bd (f_X7_sourceCell x5 σ) (fun q2 =>
      bd (f_X7_receiverCell x5 σ) (fun q4 =>
      bd (f_X6_leastTime 3 q2 q4 σ) (fun q6 =>
      bd (f_X11_nextChance x3 q6.2) (fun q8 =>
      bd (f_X11_leadingPart q8 q6.2) (fun q10 =>
      gd (nz8 (((2 * x1) + 1).toInt64)) (
      gd (inb x5 16) (
      bd (some (setL q6.2 6 x5.toNatClampNeg ((if 0 < (q6.1 + (1000 * ((q10 - q10 / (((2 * x1) + 1).toInt64) * (((2 * x1) + 1).toInt64)) - x1.toInt64))) then (q6.1 + (1000 * ((q10 - q10 / (((2 * x1) + 1).toInt64) * (((2 * x1) + 1).toInt64)) - x1.toInt64))) else 0)))) (fun q14 =>
      f_X1_takeTimes_6 x1 n q8 (x5 + 1) q14)))))))))
def f_X1_takeTimes (x1 : Int32) (x2 : Int32) (σ : Mem) : Option (Mem) :=
  bd (f_X1_takeTimes_6 x1 100000 x2.toInt64 0 σ) (fun q1 =>
  some q1)
abbrev rm_X1_takeTimes : Room := { frames := 2, cells := 0, slots := 0, locals := 56 }
set_option maxHeartbeats 4000000 in
set_option maxRecDepth 100000 in
theorem lp_X1_takeTimes_6 {p : Program} {e : Env} {s : State} {m : MethodId} {args : Array Value} {below : List Frame} {meth : Method} {c : Code} {Q : State → Prop} (l : Launch) (B : Wb) (C0 : Cx p s m args meth c cX1_takeTimes 10 RX1) (x1 : Int32) : ∀ (n : Nat) (x3 : Int64) (x5 : Int32) (σ : Mem) (o : Mem) (H : Heap) (locs : List Loc) (ls : Array Slot), f_X1_takeTimes_6 x1 n x3 x5 σ = some o → Wx B σ s H locs → lv_has ls 10 [(0, .ref (wA B 183)), (1, .int x1), (3, .long x3), (5, .int x5)] → (∀ (H : Heap) (locs : List Loc) (ls : Array Slot), Wx B o s H locs → lv_has ls 10 [] → W p l e rm_X1_takeTimes s m args below meth c H locs 0 0 Q (F0 m 102 ls [])) → W p l e rm_X1_takeTimes s m args below meth c H locs 0 0 Q (F0 m 6 ls []) := by
  have hx := C0.1.1
  have hb := C0.1.2.1
  intro n
  induction n with
  | zero =>
    intro x3 x5 σ o H locs ls hf w hl hK
    cases hf
  | succ n ih =>
    intro x3 x5 σ o H locs ls hf w hl hK
    rw [f_X1_takeTimes_6] at hf
    refine lv_iload hx hb dX1_takeTimes_6 (lv_at hl 3 rfl) ?_
    refine lv_aload_n hx hb dX1_takeTimes_8 rfl (lv_at hl 0 rfl) ?_
    refine gR C0 w 1 fk_X1_18 (by decide +kernel) dX1_takeTimes_9 ?_
    refine gI C0 w fk_X1_71 (by decide +kernel) dX1_takeTimes_12 ?_
    refine lv_icmp_ge (tgt := 102) hx hb dX1_takeTimes_15 (by decide) (fun c1 => ?_) (fun c1 => ?_)
    · rw [if_pos c1] at hf
      obtain rfl := Option.some.inj hf
      exact hK _ _ _ w (lv_sub hl [] rfl)
    · rw [if_neg c1] at hf
      refine lv_aload_n hx hb dX1_takeTimes_18 rfl (lv_at hl 0 rfl) ?_
      refine gR C0 w 140 fk_X1_26 (by decide +kernel) dX1_takeTimes_19 ?_
      refine lv_aload_n hx hb dX1_takeTimes_22 rfl (lv_at hl 0 rfl) ?_
      refine gR C0 w 1 fk_X1_18 (by decide +kernel) dX1_takeTimes_23 ?_
      refine gR C0 w 3 fk_X1_60 (by decide +kernel) dX1_takeTimes_26 ?_
      refine lv_aload_n hx hb dX1_takeTimes_29 rfl (lv_at hl 0 rfl) ?_
      refine gR C0 w 1 fk_X1_18 (by decide +kernel) dX1_takeTimes_30 ?_
      refine lv_iload hx hb dX1_takeTimes_33 (lv_at hl 3 rfl) ?_
      obtain ⟨q2, h3, hf⟩ := bdE hf
      refine cV (As := [.int x5]) (rest := [.ref (wA B 3), .ref (wA B 140)]) (k := 1) (ci := 6) (T := TX7) (N := 14) C0 w (m_X7_sourceCell l B _ σ x5 q2 h3) ky_X7_sourceCell kv_X7_sourceCell lk_X1_74 rfl (by decide +kernel) ⟨Nat.le_of_ble_eq_true rfl, Nat.le_of_ble_eq_true rfl⟩ ⟨Nat.le_of_ble_eq_true rfl, Nat.le_of_ble_eq_true rfl⟩ rfl (by rfl) (Nat.le_of_ble_eq_true rfl) hl.1 dX1_takeTimes_35 (fun H locs w => ?_)
      refine lv_aload_n hx hb dX1_takeTimes_38 rfl (lv_at hl 0 rfl) ?_
      refine gR C0 w 1 fk_X1_18 (by decide +kernel) dX1_takeTimes_39 ?_
      refine lv_iload hx hb dX1_takeTimes_42 (lv_at hl 3 rfl) ?_
      obtain ⟨q4, h5, hf⟩ := bdE hf
      refine cV (As := [.int x5]) (rest := [.int q2, .ref (wA B 3), .ref (wA B 140)]) (k := 1) (ci := 6) (T := TX7) (N := 14) C0 w (m_X7_receiverCell l B _ σ x5 q4 h5) ky_X7_receiverCell kv_X7_receiverCell lk_X1_78 rfl (by decide +kernel) ⟨Nat.le_of_ble_eq_true rfl, Nat.le_of_ble_eq_true rfl⟩ ⟨Nat.le_of_ble_eq_true rfl, Nat.le_of_ble_eq_true rfl⟩ rfl (by rfl) (Nat.le_of_ble_eq_true rfl) hl.1 dX1_takeTimes_44 (fun H locs w => ?_)
      obtain ⟨q6, h7, hf⟩ := bdE hf
      refine cV (As := [.ref (wA B 3), .int q2, .int q4]) (rest := []) (k := 140) (ci := 5) (T := TX6) (N := 4) C0 w (m_X6_leastTime l B _ σ 3 q2 q4 q6 h7) ky_X6_leastTime kv_X6_leastTime lk_X1_81 rfl (by decide +kernel) ⟨Nat.le_of_ble_eq_true rfl, Nat.le_of_ble_eq_true rfl⟩ ⟨Nat.le_of_ble_eq_true rfl, Nat.le_of_ble_eq_true rfl⟩ rfl (by rfl) (Nat.le_of_ble_eq_true rfl) hl.1 dX1_takeTimes_47 (fun H locs w => ?_)
      refine lv_lstore (lv' := [(6, .long q6.1), (0, .ref (wA B 183)), (1, .int x1), (3, .long x3), (5, .int x5)]) hx hb dX1_takeTimes_50 hl (by decide) rfl (fun ls hl => ?_)
      refine lv_lload_n hx hb dX1_takeTimes_52 rfl (lv_at hl 3 rfl) ?_
      obtain ⟨q8, h9, hf⟩ := bdE hf
      refine cN (As := [.long x3]) (rest := []) (host := RX11) (idx := 87) C0 w (m_X11_nextChance l B _ q6.2 x3 q8 h9) ky_X11_nextChance ks_X11_nextChance (by decide) ⟨Nat.le_of_ble_eq_true rfl, Nat.le_of_ble_eq_true rfl⟩ ⟨Nat.le_of_ble_eq_true rfl, Nat.le_of_ble_eq_true rfl⟩ rfl (by rfl) (Nat.le_of_ble_eq_true rfl) hl.1 dX1_takeTimes_53 (fun H locs w => ?_)
      refine lv_lstore_n (lv' := [(3, .long q8), (6, .long q6.1), (0, .ref (wA B 183)), (1, .int x1), (5, .int x5)]) hx hb dX1_takeTimes_56 rfl hl (by decide) rfl (fun ls hl => ?_)
      refine kLg C0 1000 kc_X1_91 dX1_takeTimes_57 ?_
      refine lv_lload_n hx hb dX1_takeTimes_60 rfl (lv_at hl 0 rfl) ?_
      obtain ⟨q10, h11, hf⟩ := bdE hf
      refine cN (As := [.long q8]) (rest := [.long 1000]) (host := RX11) (idx := 93) C0 w (m_X11_leadingPart l B _ q6.2 q8 q10 h11) ky_X11_leadingPart ks_X11_leadingPart (by decide) ⟨Nat.le_of_ble_eq_true rfl, Nat.le_of_ble_eq_true rfl⟩ ⟨Nat.le_of_ble_eq_true rfl, Nat.le_of_ble_eq_true rfl⟩ rfl (by rfl) (Nat.le_of_ble_eq_true rfl) hl.1 dX1_takeTimes_61 (fun H locs w => ?_)
      refine lv_iconst (v := 2) hx hb dX1_takeTimes_64 (by decide) ?_
      refine lv_iload_n hx hb dX1_takeTimes_65 rfl (lv_at hl 3 rfl) ?_
      refine lv_imul hx hb dX1_takeTimes_66 ?_
      refine lv_iconst (v := 1) hx hb dX1_takeTimes_67 (by decide) ?_
      refine lv_iadd hx hb dX1_takeTimes_68 ?_
      refine lv_i2l hx hb dX1_takeTimes_69 rfl ?_
      obtain ⟨g12, hf⟩ := gdE hf
      refine lv_lrem hx hb dX1_takeTimes_70 (nz8E g12) ?_
      refine lv_iload_n hx hb dX1_takeTimes_71 rfl (lv_at hl 3 rfl) ?_
      refine lv_i2l hx hb dX1_takeTimes_72 rfl ?_
      refine lv_lsub hx hb dX1_takeTimes_73 ?_
      refine lv_lmul hx hb dX1_takeTimes_74 ?_
      refine lv_lstore (lv' := [(8, .long (1000 * ((q10 - q10 / (((2 * x1) + 1).toInt64) * (((2 * x1) + 1).toInt64)) - x1.toInt64))), (3, .long q8), (6, .long q6.1), (0, .ref (wA B 183)), (1, .int x1), (5, .int x5)]) hx hb dX1_takeTimes_75 hl (by decide) rfl (fun ls hl => ?_)
      refine lv_aload_n hx hb dX1_takeTimes_77 rfl (lv_at hl 3 rfl) ?_
      refine gR C0 w 1 fk_X1_18 (by decide +kernel) dX1_takeTimes_78 ?_
      refine gR C0 w 6 fk_X1_96 (by decide +kernel) dX1_takeTimes_81 ?_
      refine lv_iload hx hb dX1_takeTimes_84 (lv_at hl 5 rfl) ?_
      refine lv_lload hx hb dX1_takeTimes_86 (lv_at hl 2 rfl) ?_
      refine lv_lload hx hb dX1_takeTimes_88 (lv_at hl 0 rfl) ?_
      refine lv_ladd hx hb dX1_takeTimes_90 ?_
      refine lv_lconst (v := 0) hx hb dX1_takeTimes_91 (by decide) ?_
      refine mMaxL C0 lk_X1_100 ms_maxl mi_Math mc_maxl hl.1 (Nat.le_of_ble_eq_true rfl) (Nat.le_of_ble_eq_true rfl) (Nat.zero_le _) (Nat.zero_le _) dX1_takeTimes_92 ?_
      obtain ⟨g13, hf⟩ := gdE hf
      refine sL C0 w (n := 16) (by decide +kernel) (inbE g13) dX1_takeTimes_95 (fun H locs w => ?_)
      obtain ⟨q14, h15, hf⟩ := bdE hf
      have w : Wx B q14 s H locs := by rw [← Option.some.inj h15]; exact w
      refine lv_iinc (k := 5) (v := x5 + 1) (lv' := [(5, .int (x5 + 1)), (8, .long (1000 * ((q10 - q10 / (((2 * x1) + 1).toInt64) * (((2 * x1) + 1).toInt64)) - x1.toInt64))), (3, .long q8), (6, .long q6.1), (0, .ref (wA B 183)), (1, .int x1)]) hx hb dX1_takeTimes_96 hl rfl (by rfl) (by decide) rfl (fun ls hl => ?_)
      refine lv_goto (tgt := 6) hx hb dX1_takeTimes_99 (by decide) ?_
      exact ih q8 (x5 + 1) q14 _ _ _ _ hf w (lv_sub hl [4, 5, 2, 0] rfl) hK
set_option maxHeartbeats 4000000 in
set_option maxRecDepth 100000 in
theorem m_X1_takeTimes (l : Launch) (B : Wb) (sz : Nat) (σ : Mem) (x1 : Int32) (x2 : Int32) (q : Mem) (hf : f_X1_takeTimes x1 x2 σ = some q) : MetC l yX1_takeTimes cX1_takeTimes 10 none rm_X1_takeTimes B sz σ q [.ref (wA B 183), .int x1, .int x2] (none) := by
  refine met_in (by decide +kernel) (Nat.le_of_ble_eq_true rfl) ?_
  intro p e s m below meth c C0 hr w hsz ls hl
  have hx := C0.1.1
  have hb := C0.1.2.1
  unfold f_X1_takeTimes at hf
  refine lv_iload_n hx hb dX1_takeTimes_0 rfl (lv_at hl 2 rfl) ?_
  refine lv_i2l hx hb dX1_takeTimes_1 rfl ?_
  refine lv_lstore_n (lv' := [(3, .long x2.toInt64), (0, .ref (wA B 183)), (1, .int x1), (2, .int x2)]) hx hb dX1_takeTimes_2 rfl hl (by decide) rfl (fun ls hl => ?_)
  refine lv_iconst (v := 0) hx hb dX1_takeTimes_3 (by decide) ?_
  refine lv_istore (lv' := [(5, .int 0), (3, .long x2.toInt64), (0, .ref (wA B 183)), (1, .int x1), (2, .int x2)]) hx hb dX1_takeTimes_4 hl (by decide) rfl (fun ls hl => ?_)
  obtain ⟨q1, h2, hf⟩ := bdE hf
  refine lp_X1_takeTimes_6 l B C0 x1 100000 x2.toInt64 0 σ q1 _ _ _ h2 w (lv_sub hl [2, 3, 1, 0] rfl) (fun H locs ls w hl => ?_)
  obtain rfl := Option.some.inj hf
  exact eV C0 hr w dX1_takeTimes_102
def f_J7_fill_53178_5 (x0 : Nat) (x1 : Int32) (x3 : Int32) : Nat → Int32 → Mem → Option (Mem)
  | 0, _, _ => none
  | n + 1, x2, σ =>
    if x3 ≤ x2 then (
      some σ)
    else (
      gd (shA x0 1 (aln x0)) (
      gd (inb x2 (aln x0)) (
      f_J7_fill_53178_5 x0 x1 x3 n (x2 + 1) (setI σ x0 x2.toNatClampNeg x1))))
def f_J7_fill_53178 (x0 : Nat) (x1 : Int32) (σ : Mem) : Option (Mem) :=
  gd (shA x0 1 (aln x0)) (
  bd (f_J7_fill_53178_5 x0 x1 (Int32.ofNat (aln x0)) 100000 0 σ) (fun q2 =>
  some q2))
abbrev rm_J7_fill_53178 : Room := { frames := 0, cells := 0, slots := 0, locals := 0 }
set_option maxHeartbeats 4000000 in
set_option maxRecDepth 100000 in
theorem lp_J7_fill_53178_5 {p : Program} {e : Env} {s : State} {m : MethodId} {args : Array Value} {below : List Frame} {meth : Method} {c : Code} {Q : State → Prop} (l : Launch) (B : Wb) (C0 : Cx p s m args meth c cJ7_fill_53178 4 RJ7) (x0 : Nat) (x1 : Int32) (x3 : Int32) : ∀ (n : Nat) (x2 : Int32) (σ : Mem) (o : Mem) (H : Heap) (locs : List Loc) (ls : Array Slot), f_J7_fill_53178_5 x0 x1 x3 n x2 σ = some o → Wx B σ s H locs → lv_has ls 4 [(0, .ref (wA B x0)), (1, .int x1), (2, .int x2), (3, .int x3)] → (∀ (H : Heap) (locs : List Loc) (ls : Array Slot), Wx B o s H locs → lv_has ls 4 [] → W p l e rm_J7_fill_53178 s m args below meth c H locs 0 0 Q (F0 m 20 ls [])) → W p l e rm_J7_fill_53178 s m args below meth c H locs 0 0 Q (F0 m 5 ls []) := by
  have hx := C0.1.1
  have hb := C0.1.2.1
  intro n
  induction n with
  | zero =>
    intro x2 σ o H locs ls hf w hl hK
    cases hf
  | succ n ih =>
    intro x2 σ o H locs ls hf w hl hK
    rw [f_J7_fill_53178_5] at hf
    refine lv_iload_n hx hb dJ7_fill_53178_5 rfl (lv_at hl 2 rfl) ?_
    refine lv_iload_n hx hb dJ7_fill_53178_6 rfl (lv_at hl 3 rfl) ?_
    refine lv_icmp_ge (tgt := 20) hx hb dJ7_fill_53178_7 (by decide) (fun c1 => ?_) (fun c1 => ?_)
    · rw [if_pos c1] at hf
      obtain rfl := Option.some.inj hf
      exact hK _ _ _ w (lv_sub hl [] rfl)
    · rw [if_neg c1] at hf
      refine lv_aload_n hx hb dJ7_fill_53178_10 rfl (lv_at hl 0 rfl) ?_
      refine lv_iload_n hx hb dJ7_fill_53178_11 rfl (lv_at hl 2 rfl) ?_
      refine lv_iload_n hx hb dJ7_fill_53178_12 rfl (lv_at hl 1 rfl) ?_
      obtain ⟨g2, hf⟩ := gdE hf
      obtain ⟨g3, hf⟩ := gdE hf
      refine sI C0 w g2 (inbE g3) dJ7_fill_53178_13 (fun H locs w => ?_)
      refine lv_iinc (k := 2) (v := x2 + 1) (lv' := [(2, .int (x2 + 1)), (0, .ref (wA B x0)), (1, .int x1), (3, .int x3)]) hx hb dJ7_fill_53178_14 hl rfl (by rfl) (by decide) rfl (fun ls hl => ?_)
      refine lv_goto (tgt := 5) hx hb dJ7_fill_53178_17 (by decide) ?_
      exact ih (x2 + 1) (setI σ x0 x2.toNatClampNeg x1) _ _ _ _ hf w (lv_sub hl [1, 2, 0, 3] rfl) hK
set_option maxHeartbeats 4000000 in
set_option maxRecDepth 100000 in
theorem m_J7_fill_53178 (l : Launch) (B : Wb) (sz : Nat) (σ : Mem) (x0 : Nat) (x1 : Int32) (q : Mem) (hf : f_J7_fill_53178 x0 x1 σ = some q) : MetC l yJ7_fill_53178 cJ7_fill_53178 4 none rm_J7_fill_53178 B sz σ q [.ref (wA B x0), .int x1] (none) := by
  refine met_in (by decide +kernel) (Nat.le_of_ble_eq_true rfl) ?_
  intro p e s m below meth c C0 hr w hsz ls hl
  have hx := C0.1.1
  have hb := C0.1.2.1
  unfold f_J7_fill_53178 at hf
  refine lv_iconst (v := 0) hx hb dJ7_fill_53178_0 (by decide) ?_
  refine lv_istore_n (lv' := [(2, .int 0), (0, .ref (wA B x0)), (1, .int x1)]) hx hb dJ7_fill_53178_1 rfl hl (by decide) rfl (fun ls hl => ?_)
  refine lv_aload_n hx hb dJ7_fill_53178_2 rfl (lv_at hl 1 rfl) ?_
  obtain ⟨g1, hf⟩ := gdE hf
  refine r_len C0 w g1 dJ7_fill_53178_3 ?_
  refine lv_istore_n (lv' := [(3, .int (Int32.ofNat (aln x0))), (2, .int 0), (0, .ref (wA B x0)), (1, .int x1)]) hx hb dJ7_fill_53178_4 rfl hl (by decide) rfl (fun ls hl => ?_)
  obtain ⟨q2, h3, hf⟩ := bdE hf
  refine lp_J7_fill_53178_5 l B C0 x0 x1 (Int32.ofNat (aln x0)) 100000 0 σ q2 _ _ _ h3 w (lv_sub hl [2, 3, 1, 0] rfl) (fun H locs ls w hl => ?_)
  obtain rfl := Option.some.inj hf
  exact eV C0 hr w dJ7_fill_53178_20
def f_X6_placeBefore_2 (x1 : Nat) (x2 : Int32) (σ : Mem) : Nat → Int32 → Option (Int32 ⊕ (Unit))
  | 0, _ => none
  | n + 1, x3 =>
    gd (inb x2 64) (
    if (σ.1 9 x2.toNatClampNeg) ≤ x3 then (
      some (.inr (())))
    else (
      gd (inb x2 64) (
      gd (shA (11 + 1 * x2.toNatClampNeg) 1 (aln (11 + 1 * x2.toNatClampNeg))) (
      gd (inb x3 (aln (11 + 1 * x2.toNatClampNeg))) (
      gd (inb x2 64) (
      gd (shA (76 + 1 * x2.toNatClampNeg) 1 (aln (76 + 1 * x2.toNatClampNeg))) (
      gd (inb x3 (aln (76 + 1 * x2.toNatClampNeg))) (
      gd (shA x1 1 (aln x1)) (
      gd (inb x2 (aln x1)) (
      gd (shA x1 1 (aln x1)) (
      gd (inb (σ.1 (11 + 1 * x2.toNatClampNeg) x3.toNatClampNeg) (aln x1)) (
      gd (inb (σ.1 (11 + 1 * x2.toNatClampNeg) x3.toNatClampNeg) 64) (
      gd (inb x2 64) (
      if ((σ.2 141 (σ.1 (11 + 1 * x2.toNatClampNeg) x3.toNatClampNeg).toNatClampNeg) + (((σ.1 (76 + 1 * x2.toNatClampNeg) x3.toNatClampNeg).toInt64) * (((σ.1 x1 x2.toNatClampNeg) + (σ.1 x1 (σ.1 (11 + 1 * x2.toNatClampNeg) x3.toNatClampNeg).toNatClampNeg)).toInt64))) = (σ.2 141 x2.toNatClampNeg) then (
        some (.inl x3))
      else (
        f_X6_placeBefore_2 x1 x2 σ n (x3 + 1))))))))))))))))
def f_X6_placeBefore (x1 : Nat) (x2 : Int32) (σ : Mem) : Option (Int32) :=
  bd (f_X6_placeBefore_2 x1 x2 σ 100000 0) (fun q1 =>
  sm q1 (fun q3 =>
  some ((-1 : Int32))))
abbrev rm_X6_placeBefore : Room := { frames := 0, cells := 0, slots := 0, locals := 0 }
set_option maxHeartbeats 4000000 in
set_option maxRecDepth 100000 in
theorem lp_X6_placeBefore_2 {p : Program} {e : Env} {s : State} {m : MethodId} {args : Array Value} {below : List Frame} {meth : Method} {c : Code} {Q : State → Prop} (l : Launch) (B : Wb) (C0 : Cx p s m args meth c cX6_placeBefore 7 RX6) (hr : meth.sig.returnType = (some .int)) (x1 : Nat) (x2 : Int32) : ∀ (n : Nat) (x3 : Int32) (σ : Mem) (o : Int32 ⊕ (Unit)) (H : Heap) (locs : List Loc) (ls : Array Slot), f_X6_placeBefore_2 x1 x2 σ n x3 = some o → Wx B σ s H locs → lv_has ls 7 [(0, .ref (wA B 140)), (1, .ref (wA B x1)), (2, .int x2), (3, .int x3)] → (∀ r9, o = .inl r9 → Q = MQ below (Qo B σ (some (.int r9)) (own B s.heap.size)) args s 0 0 (own B s.heap.size)) → (∀ (o9 : Unit) (_ : o = .inr o9) (H : Heap) (locs : List Loc) (ls : Array Slot), Wx B σ s H locs → lv_has ls 7 [] → W p l e rm_X6_placeBefore s m args below meth c H locs 0 0 Q (F0 m 80 ls [])) → W p l e rm_X6_placeBefore s m args below meth c H locs 0 0 Q (F0 m 2 ls []) := by
  have hx := C0.1.1
  have hb := C0.1.2.1
  intro n
  induction n with
  | zero =>
    intro x3 σ o H locs ls hf w hl hR hK
    cases hf
  | succ n ih =>
    intro x3 σ o H locs ls hf w hl hR hK
    rw [f_X6_placeBefore_2] at hf
    refine lv_iload_n hx hb dX6_placeBefore_2 rfl (lv_at hl 3 rfl) ?_
    refine lv_aload_n hx hb dX6_placeBefore_3 rfl (lv_at hl 0 rfl) ?_
    refine gR C0 w 8 fk_X6_19 (by decide +kernel) dX6_placeBefore_4 ?_
    refine gR C0 w 9 fk_X6_55 (by decide +kernel) dX6_placeBefore_7 ?_
    refine lv_iload_n hx hb dX6_placeBefore_10 rfl (lv_at hl 2 rfl) ?_
    obtain ⟨g1, hf⟩ := gdE hf
    refine aI C0 w (n := 64) (by decide +kernel) (inbE g1) dX6_placeBefore_11 ?_
    refine lv_icmp_ge (tgt := 80) hx hb dX6_placeBefore_12 (by decide) (fun c2 => ?_) (fun c2 => ?_)
    · rw [if_pos c2] at hf
      obtain rfl := Option.some.inj hf
      exact hK _ rfl _ _ _ w (lv_sub hl [] rfl)
    · rw [if_neg c2] at hf
      refine lv_aload_n hx hb dX6_placeBefore_15 rfl (lv_at hl 0 rfl) ?_
      refine gR C0 w 8 fk_X6_19 (by decide +kernel) dX6_placeBefore_16 ?_
      refine gR C0 w 10 fk_X6_48 (by decide +kernel) dX6_placeBefore_19 ?_
      refine lv_iload_n hx hb dX6_placeBefore_22 rfl (lv_at hl 2 rfl) ?_
      obtain ⟨g3, hf⟩ := gdE hf
      refine aG C0 w (n := 64) 11 1 (by decide +kernel) rfl (inbE g3) dX6_placeBefore_23 ?_
      refine lv_iload_n hx hb dX6_placeBefore_24 rfl (lv_at hl 3 rfl) ?_
      obtain ⟨g4, hf⟩ := gdE hf
      obtain ⟨g5, hf⟩ := gdE hf
      refine aI C0 w g4 (inbE g5) dX6_placeBefore_25 ?_
      refine lv_istore (lv' := [(4, .int (σ.1 (11 + 1 * x2.toNatClampNeg) x3.toNatClampNeg)), (0, .ref (wA B 140)), (1, .ref (wA B x1)), (2, .int x2), (3, .int x3)]) hx hb dX6_placeBefore_26 hl (by decide) rfl (fun ls hl => ?_)
      refine lv_aload_n hx hb dX6_placeBefore_28 rfl (lv_at hl 1 rfl) ?_
      refine gR C0 w 8 fk_X6_19 (by decide +kernel) dX6_placeBefore_29 ?_
      refine gR C0 w 75 fk_X6_52 (by decide +kernel) dX6_placeBefore_32 ?_
      refine lv_iload_n hx hb dX6_placeBefore_35 rfl (lv_at hl 3 rfl) ?_
      obtain ⟨g6, hf⟩ := gdE hf
      refine aG C0 w (n := 64) 76 1 (by decide +kernel) rfl (inbE g6) dX6_placeBefore_36 ?_
      refine lv_iload_n hx hb dX6_placeBefore_37 rfl (lv_at hl 4 rfl) ?_
      obtain ⟨g7, hf⟩ := gdE hf
      obtain ⟨g8, hf⟩ := gdE hf
      refine aI C0 w g7 (inbE g8) dX6_placeBefore_38 ?_
      refine lv_i2l hx hb dX6_placeBefore_39 rfl ?_
      refine lv_aload_n hx hb dX6_placeBefore_40 rfl (lv_at hl 2 rfl) ?_
      refine lv_iload_n hx hb dX6_placeBefore_41 rfl (lv_at hl 3 rfl) ?_
      obtain ⟨g9, hf⟩ := gdE hf
      obtain ⟨g10, hf⟩ := gdE hf
      refine aI C0 w g9 (inbE g10) dX6_placeBefore_42 ?_
      refine lv_aload_n hx hb dX6_placeBefore_43 rfl (lv_at hl 2 rfl) ?_
      refine lv_iload hx hb dX6_placeBefore_44 (lv_at hl 0 rfl) ?_
      obtain ⟨g11, hf⟩ := gdE hf
      obtain ⟨g12, hf⟩ := gdE hf
      refine aI C0 w g11 (inbE g12) dX6_placeBefore_46 ?_
      refine lv_iadd hx hb dX6_placeBefore_47 ?_
      refine lv_i2l hx hb dX6_placeBefore_48 rfl ?_
      refine lv_lmul hx hb dX6_placeBefore_49 ?_
      refine lv_lstore (lv' := [(5, .long (((σ.1 (76 + 1 * x2.toNatClampNeg) x3.toNatClampNeg).toInt64) * (((σ.1 x1 x2.toNatClampNeg) + (σ.1 x1 (σ.1 (11 + 1 * x2.toNatClampNeg) x3.toNatClampNeg).toNatClampNeg)).toInt64))), (4, .int (σ.1 (11 + 1 * x2.toNatClampNeg) x3.toNatClampNeg)), (0, .ref (wA B 140)), (1, .ref (wA B x1)), (2, .int x2), (3, .int x3)]) hx hb dX6_placeBefore_50 hl (by decide) rfl (fun ls hl => ?_)
      refine lv_aload_n hx hb dX6_placeBefore_52 rfl (lv_at hl 2 rfl) ?_
      refine gR C0 w 141 fk_X6_9 (by decide +kernel) dX6_placeBefore_53 ?_
      refine lv_iload hx hb dX6_placeBefore_56 (lv_at hl 1 rfl) ?_
      obtain ⟨g13, hf⟩ := gdE hf
      refine aL C0 w (n := 64) (by decide +kernel) (inbE g13) dX6_placeBefore_58 ?_
      refine lv_lload hx hb dX6_placeBefore_59 (lv_at hl 0 rfl) ?_
      refine lv_ladd hx hb dX6_placeBefore_61 ?_
      refine lv_aload_n hx hb dX6_placeBefore_62 rfl (lv_at hl 2 rfl) ?_
      refine gR C0 w 141 fk_X6_9 (by decide +kernel) dX6_placeBefore_63 ?_
      refine lv_iload_n hx hb dX6_placeBefore_66 rfl (lv_at hl 4 rfl) ?_
      obtain ⟨g14, hf⟩ := gdE hf
      refine aL C0 w (n := 64) (by decide +kernel) (inbE g14) dX6_placeBefore_67 ?_
      refine lc_ne (tgt := 74) C0 dX6_placeBefore_68 dX6_placeBefore_69 (by decide) (fun c15 => ?_) (fun c15 => ?_)
      · rw [if_neg c15] at hf
        refine lv_iinc (k := 5) (v := x3 + 1) (lv' := [(3, .int (x3 + 1)), (5, .long (((σ.1 (76 + 1 * x2.toNatClampNeg) x3.toNatClampNeg).toInt64) * (((σ.1 x1 x2.toNatClampNeg) + (σ.1 x1 (σ.1 (11 + 1 * x2.toNatClampNeg) x3.toNatClampNeg).toNatClampNeg)).toInt64))), (4, .int (σ.1 (11 + 1 * x2.toNatClampNeg) x3.toNatClampNeg)), (0, .ref (wA B 140)), (1, .ref (wA B x1)), (2, .int x2)]) hx hb dX6_placeBefore_74 hl rfl (by rfl) (by decide) rfl (fun ls hl => ?_)
        refine lv_goto (tgt := 2) hx hb dX6_placeBefore_77 (by decide) ?_
        exact ih (x3 + 1) σ _ _ _ _ hf w (lv_sub hl [3, 4, 5, 0] rfl) hR hK
      · rw [if_pos c15] at hf
        refine lv_iload_n hx hb dX6_placeBefore_72 rfl (lv_at hl 5 rfl) ?_
        obtain rfl := Option.some.inj hf
        rw [hR _ rfl]
        exact eI C0 hr w rfl dX6_placeBefore_73
set_option maxHeartbeats 4000000 in
set_option maxRecDepth 100000 in
theorem m_X6_placeBefore (l : Launch) (B : Wb) (sz : Nat) (σ : Mem) (x1 : Nat) (x2 : Int32) (q : Int32) (hf : f_X6_placeBefore x1 x2 σ = some q) : MetC l yX6_placeBefore cX6_placeBefore 7 (some .int) rm_X6_placeBefore B sz σ σ [.ref (wA B 140), .ref (wA B x1), .int x2] (some (.int q)) := by
  refine met_in (by decide +kernel) (Nat.le_of_ble_eq_true rfl) ?_
  intro p e s m below meth c C0 hr w hsz ls hl
  have hx := C0.1.1
  have hb := C0.1.2.1
  unfold f_X6_placeBefore at hf
  refine lv_iconst (v := 0) hx hb dX6_placeBefore_0 (by decide) ?_
  refine lv_istore_n (lv' := [(3, .int 0), (0, .ref (wA B 140)), (1, .ref (wA B x1)), (2, .int x2)]) hx hb dX6_placeBefore_1 rfl hl (by decide) rfl (fun ls hl => ?_)
  obtain ⟨q1, h2, hf⟩ := bdE hf
  refine lp_X6_placeBefore_2 l B C0 hr x1 x2 100000 0 σ q1 _ _ _ h2 w (lv_sub hl [1, 2, 3, 0] rfl) (fun r9 h9 => by subst h9; cases hf; rfl) (fun q3 h9 H locs ls w hl => ?_)
  subst h9
  have hf := smE hf
  refine lv_iconst (v := (-1)) hx hb dX6_placeBefore_80 (by decide) ?_
  obtain rfl := Option.some.inj hf
  exact eI C0 hr w rfl dX6_placeBefore_81
def f_X9_traceBack_33 (x1 : Int32) (x2 : Int32) (x4 : Nat) (x5 : Nat) : Nat → Int32 → Int32 → Mem → Option (Int32 × Mem)
  | 0, _, _, _ => none
  | n + 1, x6, x7, σ =>
    if x7 = x2 then (
      some ((x6, σ)))
    else (
      if 64 ≤ x6 then (
        some ((x6, σ)))
      else (
        bd (f_X6_placeBefore 2 x7 σ) (fun q3 =>
        if q3 = ((-1 : Int32)) then (
          some ((x6, σ)))
        else (
          gd (inb x7 64) (
          gd (shA (11 + 1 * x7.toNatClampNeg) 1 (aln (11 + 1 * x7.toNatClampNeg))) (
          gd (inb q3 (aln (11 + 1 * x7.toNatClampNeg))) (
          gd (inb x7 64) (
          gd (shA (76 + 1 * x7.toNatClampNeg) 1 (aln (76 + 1 * x7.toNatClampNeg))) (
          gd (inb q3 (aln (76 + 1 * x7.toNatClampNeg))) (
          gd (shA x5 1 (aln x5)) (
          gd (inb x7 (aln x5)) (
          gd (shA x5 1 (aln x5)) (
          gd (inb x7 (aln x5)) (
          gd (shA x5 1 (aln x5)) (
          gd (inb (σ.1 (11 + 1 * x7.toNatClampNeg) q3.toNatClampNeg) (aln x5)) (
          gd (shA x5 1 (aln x5)) (
          gd (inb (σ.1 (11 + 1 * x7.toNatClampNeg) q3.toNatClampNeg) (aln x5)) (
          bd (some (setI (setI σ x5 x7.toNatClampNeg ((σ.1 x5 x7.toNatClampNeg) + (σ.1 (76 + 1 * x7.toNatClampNeg) q3.toNatClampNeg))) x5 ((σ.1 (11 + 1 * x7.toNatClampNeg) q3.toNatClampNeg).toNatClampNeg) (((setI σ x5 x7.toNatClampNeg ((σ.1 x5 x7.toNatClampNeg) + (σ.1 (76 + 1 * x7.toNatClampNeg) q3.toNatClampNeg))).1 x5 (σ.1 (11 + 1 * x7.toNatClampNeg) q3.toNatClampNeg).toNatClampNeg) + (σ.1 (76 + 1 * x7.toNatClampNeg) q3.toNatClampNeg)))) (fun q20 =>
          gd (shA x4 1 (aln x4)) (
          gd (inb x6 (aln x4)) (
          f_X9_traceBack_33 x1 x2 x4 x5 n (x6 + 1) (σ.1 (11 + 1 * x7.toNatClampNeg) q3.toNatClampNeg) (setI q20 x4 x6.toNatClampNeg (σ.1 (11 + 1 * x7.toNatClampNeg) q3.toNatClampNeg)))))))))))))))))))))))
def f_X9_traceBack (x1 : Int32) (x2 : Int32) (x3 : Int32) (σ : Mem) : Option (Mem) :=
  gd (inb x1 16) (
  gd (inb x1 16) (
  bd (f_J7_fill_53178 (166 + 1 * x1.toNatClampNeg) 0 σ) (fun q3 =>
  gd (shA (149 + 1 * x1.toNatClampNeg) 1 (aln (149 + 1 * x1.toNatClampNeg))) (
  gd (inb 0 (aln (149 + 1 * x1.toNatClampNeg))) (
  bd (f_X9_traceBack_33 x1 x2 (149 + 1 * x1.toNatClampNeg) (166 + 1 * x1.toNatClampNeg) 100000 1 x3 (setI q3 (149 + 1 * x1.toNatClampNeg) ((0 : Int32).toNatClampNeg) x3)) (fun q7 =>
  gd (inb x1 16) (
  some (setI q7.2 147 x1.toNatClampNeg q7.1))))))))
abbrev rm_X9_traceBack : Room := { frames := 1, cells := 0, slots := 0, locals := 26 }
set_option maxHeartbeats 4000000 in
set_option maxRecDepth 100000 in
theorem lp_X9_traceBack_33 {p : Program} {e : Env} {s : State} {m : MethodId} {args : Array Value} {below : List Frame} {meth : Method} {c : Code} {Q : State → Prop} (l : Launch) (B : Wb) (C0 : Cx p s m args meth c cX9_traceBack 11 RX9) (x1 : Int32) (x2 : Int32) (x4 : Nat) (x5 : Nat) : ∀ (n : Nat) (x6 : Int32) (x7 : Int32) (σ : Mem) (o : Int32 × Mem) (H : Heap) (locs : List Loc) (ls : Array Slot), f_X9_traceBack_33 x1 x2 x4 x5 n x6 x7 σ = some o → Wx B σ s H locs → lv_has ls 11 [(0, .ref (wA B 143)), (1, .int x1), (2, .int x2), (4, .ref (wA B x4)), (5, .ref (wA B x5)), (6, .int x6), (7, .int x7)] → (∀ (H : Heap) (locs : List Loc) (ls : Array Slot), Wx B o.2 s H locs → lv_has ls 11 [(0, .ref (wA B 143)), (1, .int x1), (6, .int o.1)] → W p l e rm_X9_traceBack s m args below meth c H locs 0 0 Q (F0 m 140 ls [])) → W p l e rm_X9_traceBack s m args below meth c H locs 0 0 Q (F0 m 33 ls []) := by
  have hx := C0.1.1
  have hb := C0.1.2.1
  intro n
  induction n with
  | zero =>
    intro x6 x7 σ o H locs ls hf w hl hK
    cases hf
  | succ n ih =>
    intro x6 x7 σ o H locs ls hf w hl hK
    rw [f_X9_traceBack_33] at hf
    refine lv_iload hx hb dX9_traceBack_33 (lv_at hl 6 rfl) ?_
    refine lv_iload_n hx hb dX9_traceBack_35 rfl (lv_at hl 2 rfl) ?_
    refine lv_icmp_eq (tgt := 140) hx hb dX9_traceBack_36 (by decide) (fun c1 => ?_) (fun c1 => ?_)
    · rw [if_pos c1] at hf
      obtain rfl := Option.some.inj hf
      exact hK _ _ _ w (lv_sub hl [0, 1, 5] rfl)
    · rw [if_neg c1] at hf
      refine lv_iload hx hb dX9_traceBack_39 (lv_at hl 5 rfl) ?_
      refine lv_bipush (v := 64) hx hb dX9_traceBack_41 (by decide) ?_
      refine lv_icmp_ge (tgt := 140) hx hb dX9_traceBack_43 (by decide) (fun c2 => ?_) (fun c2 => ?_)
      · rw [if_pos c2] at hf
        obtain rfl := Option.some.inj hf
        exact hK _ _ _ w (lv_sub hl [0, 1, 5] rfl)
      · rw [if_neg c2] at hf
        refine lv_aload_n hx hb dX9_traceBack_46 rfl (lv_at hl 0 rfl) ?_
        refine gR C0 w 140 fk_X9_42 (by decide +kernel) dX9_traceBack_47 ?_
        refine lv_aload_n hx hb dX9_traceBack_50 rfl (lv_at hl 0 rfl) ?_
        refine gR C0 w 1 fk_X9_34 (by decide +kernel) dX9_traceBack_51 ?_
        refine gR C0 w 2 fk_X9_55 (by decide +kernel) dX9_traceBack_54 ?_
        refine lv_iload hx hb dX9_traceBack_57 (lv_at hl 6 rfl) ?_
        obtain ⟨q3, h4, hf⟩ := bdE hf
        refine cV (As := [.ref (wA B 2), .int x7]) (rest := []) (k := 140) (ci := 5) (T := TX6) (N := 4) C0 w (m_X6_placeBefore l B _ σ 2 x7 q3 h4) ky_X6_placeBefore kv_X6_placeBefore lk_X9_77 rfl (by decide +kernel) ⟨Nat.le_of_ble_eq_true rfl, Nat.le_of_ble_eq_true rfl⟩ ⟨Nat.le_of_ble_eq_true rfl, Nat.le_of_ble_eq_true rfl⟩ rfl (by rfl) (Nat.le_of_ble_eq_true rfl) hl.1 dX9_traceBack_59 (fun H locs w => ?_)
        refine lv_istore (lv' := [(8, .int q3), (0, .ref (wA B 143)), (1, .int x1), (2, .int x2), (4, .ref (wA B x4)), (5, .ref (wA B x5)), (6, .int x6), (7, .int x7)]) hx hb dX9_traceBack_62 hl (by decide) rfl (fun ls hl => ?_)
        refine lv_iload hx hb dX9_traceBack_64 (lv_at hl 0 rfl) ?_
        refine lv_iconst (v := (-1)) hx hb dX9_traceBack_66 (by decide) ?_
        refine lv_icmp_ne (tgt := 73) hx hb dX9_traceBack_67 (by decide) (fun c5 => ?_) (fun c5 => ?_)
        · rw [if_neg c5] at hf
          refine lv_aload_n hx hb dX9_traceBack_73 rfl (lv_at hl 1 rfl) ?_
          refine gR C0 w 8 fk_X9_38 (by decide +kernel) dX9_traceBack_74 ?_
          refine gR C0 w 10 fk_X9_81 (by decide +kernel) dX9_traceBack_77 ?_
          refine lv_iload hx hb dX9_traceBack_80 (lv_at hl 7 rfl) ?_
          obtain ⟨g6, hf⟩ := gdE hf
          refine aG C0 w (n := 64) 11 1 (by decide +kernel) rfl (inbE g6) dX9_traceBack_82 ?_
          refine lv_iload hx hb dX9_traceBack_83 (lv_at hl 0 rfl) ?_
          obtain ⟨g7, hf⟩ := gdE hf
          obtain ⟨g8, hf⟩ := gdE hf
          refine aI C0 w g7 (inbE g8) dX9_traceBack_85 ?_
          refine lv_istore (lv' := [(9, .int (σ.1 (11 + 1 * x7.toNatClampNeg) q3.toNatClampNeg)), (8, .int q3), (0, .ref (wA B 143)), (1, .int x1), (2, .int x2), (4, .ref (wA B x4)), (5, .ref (wA B x5)), (6, .int x6), (7, .int x7)]) hx hb dX9_traceBack_86 hl (by decide) rfl (fun ls hl => ?_)
          refine lv_aload_n hx hb dX9_traceBack_88 rfl (lv_at hl 2 rfl) ?_
          refine gR C0 w 8 fk_X9_38 (by decide +kernel) dX9_traceBack_89 ?_
          refine gR C0 w 75 fk_X9_86 (by decide +kernel) dX9_traceBack_92 ?_
          refine lv_iload hx hb dX9_traceBack_95 (lv_at hl 8 rfl) ?_
          obtain ⟨g9, hf⟩ := gdE hf
          refine aG C0 w (n := 64) 76 1 (by decide +kernel) rfl (inbE g9) dX9_traceBack_97 ?_
          refine lv_iload hx hb dX9_traceBack_98 (lv_at hl 1 rfl) ?_
          obtain ⟨g10, hf⟩ := gdE hf
          obtain ⟨g11, hf⟩ := gdE hf
          refine aI C0 w g10 (inbE g11) dX9_traceBack_100 ?_
          refine lv_istore (lv' := [(10, .int (σ.1 (76 + 1 * x7.toNatClampNeg) q3.toNatClampNeg)), (9, .int (σ.1 (11 + 1 * x7.toNatClampNeg) q3.toNatClampNeg)), (8, .int q3), (0, .ref (wA B 143)), (1, .int x1), (2, .int x2), (4, .ref (wA B x4)), (5, .ref (wA B x5)), (6, .int x6), (7, .int x7)]) hx hb dX9_traceBack_101 hl (by decide) rfl (fun ls hl => ?_)
          refine lv_aload hx hb dX9_traceBack_103 (lv_at hl 7 rfl) ?_
          refine lv_iload hx hb dX9_traceBack_105 (lv_at hl 9 rfl) ?_
          refine lv_dup2_11 hx hb dX9_traceBack_107 rfl rfl ?_
          obtain ⟨g12, hf⟩ := gdE hf
          obtain ⟨g13, hf⟩ := gdE hf
          refine aI C0 w g12 (inbE g13) dX9_traceBack_108 ?_
          refine lv_iload hx hb dX9_traceBack_109 (lv_at hl 0 rfl) ?_
          refine lv_iadd hx hb dX9_traceBack_111 ?_
          obtain ⟨g14, hf⟩ := gdE hf
          obtain ⟨g15, hf⟩ := gdE hf
          refine sI C0 w g14 (inbE g15) dX9_traceBack_112 (fun H locs w => ?_)
          refine lv_aload hx hb dX9_traceBack_113 (lv_at hl 7 rfl) ?_
          refine lv_iload hx hb dX9_traceBack_115 (lv_at hl 1 rfl) ?_
          refine lv_dup2_11 hx hb dX9_traceBack_117 rfl rfl ?_
          obtain ⟨g16, hf⟩ := gdE hf
          obtain ⟨g17, hf⟩ := gdE hf
          refine aI C0 w g16 (inbE g17) dX9_traceBack_118 ?_
          refine lv_iload hx hb dX9_traceBack_119 (lv_at hl 0 rfl) ?_
          refine lv_iadd hx hb dX9_traceBack_121 ?_
          obtain ⟨g18, hf⟩ := gdE hf
          obtain ⟨g19, hf⟩ := gdE hf
          refine sI C0 w g18 (inbE g19) dX9_traceBack_122 (fun H locs w => ?_)
          obtain ⟨q20, h21, hf⟩ := bdE hf
          have w : Wx B q20 s H locs := by rw [← Option.some.inj h21]; exact w
          refine lv_aload hx hb dX9_traceBack_123 (lv_at hl 6 rfl) ?_
          refine lv_iload hx hb dX9_traceBack_125 (lv_at hl 8 rfl) ?_
          refine lv_iload hx hb dX9_traceBack_127 (lv_at hl 1 rfl) ?_
          obtain ⟨g22, hf⟩ := gdE hf
          obtain ⟨g23, hf⟩ := gdE hf
          refine sI C0 w g22 (inbE g23) dX9_traceBack_129 (fun H locs w => ?_)
          refine lv_iinc (k := 8) (v := x6 + 1) (lv' := [(6, .int (x6 + 1)), (10, .int (σ.1 (76 + 1 * x7.toNatClampNeg) q3.toNatClampNeg)), (9, .int (σ.1 (11 + 1 * x7.toNatClampNeg) q3.toNatClampNeg)), (8, .int q3), (0, .ref (wA B 143)), (1, .int x1), (2, .int x2), (4, .ref (wA B x4)), (5, .ref (wA B x5)), (7, .int x7)]) hx hb dX9_traceBack_130 hl rfl (by rfl) (by decide) rfl (fun ls hl => ?_)
          refine lv_iload hx hb dX9_traceBack_133 (lv_at hl 2 rfl) ?_
          refine lv_istore (lv' := [(7, .int (σ.1 (11 + 1 * x7.toNatClampNeg) q3.toNatClampNeg)), (6, .int (x6 + 1)), (10, .int (σ.1 (76 + 1 * x7.toNatClampNeg) q3.toNatClampNeg)), (9, .int (σ.1 (11 + 1 * x7.toNatClampNeg) q3.toNatClampNeg)), (8, .int q3), (0, .ref (wA B 143)), (1, .int x1), (2, .int x2), (4, .ref (wA B x4)), (5, .ref (wA B x5))]) hx hb dX9_traceBack_135 hl (by decide) rfl (fun ls hl => ?_)
          refine lv_goto (tgt := 33) hx hb dX9_traceBack_137 (by decide) ?_
          exact ih (x6 + 1) (σ.1 (11 + 1 * x7.toNatClampNeg) q3.toNatClampNeg) (setI q20 x4 x6.toNatClampNeg (σ.1 (11 + 1 * x7.toNatClampNeg) q3.toNatClampNeg)) _ _ _ _ hf w (lv_sub hl [5, 6, 7, 8, 9, 1, 0] rfl) hK
        · rw [if_pos c5] at hf
          refine lv_goto (tgt := 140) hx hb dX9_traceBack_70 (by decide) ?_
          obtain rfl := Option.some.inj hf
          exact hK _ _ _ w (lv_sub hl [1, 2, 6] rfl)
set_option maxHeartbeats 4000000 in
set_option maxRecDepth 100000 in
theorem m_X9_traceBack (l : Launch) (B : Wb) (sz : Nat) (σ : Mem) (x1 : Int32) (x2 : Int32) (x3 : Int32) (q : Mem) (hf : f_X9_traceBack x1 x2 x3 σ = some q) : MetC l yX9_traceBack cX9_traceBack 11 none rm_X9_traceBack B sz σ q [.ref (wA B 143), .int x1, .int x2, .int x3] (none) := by
  refine met_in (by decide +kernel) (Nat.le_of_ble_eq_true rfl) ?_
  intro p e s m below meth c C0 hr w hsz ls hl
  have hx := C0.1.1
  have hb := C0.1.2.1
  unfold f_X9_traceBack at hf
  refine lv_aload_n hx hb dX9_traceBack_0 rfl (lv_at hl 0 rfl) ?_
  refine gR C0 w 148 fk_X9_28 (by decide +kernel) dX9_traceBack_1 ?_
  refine lv_iload_n hx hb dX9_traceBack_4 rfl (lv_at hl 1 rfl) ?_
  obtain ⟨g1, hf⟩ := gdE hf
  refine aG C0 w (n := 16) 149 1 (by decide +kernel) rfl (inbE g1) dX9_traceBack_5 ?_
  refine lv_astore (lv' := [(4, .ref (wA B (149 + 1 * x1.toNatClampNeg))), (0, .ref (wA B 143)), (1, .int x1), (2, .int x2), (3, .int x3)]) hx hb dX9_traceBack_6 hl (by decide) rfl (fun ls hl => ?_)
  refine lv_aload_n hx hb dX9_traceBack_8 rfl (lv_at hl 1 rfl) ?_
  refine gR C0 w 165 fk_X9_31 (by decide +kernel) dX9_traceBack_9 ?_
  refine lv_iload_n hx hb dX9_traceBack_12 rfl (lv_at hl 2 rfl) ?_
  obtain ⟨g2, hf⟩ := gdE hf
  refine aG C0 w (n := 16) 166 1 (by decide +kernel) rfl (inbE g2) dX9_traceBack_13 ?_
  refine lv_astore (lv' := [(5, .ref (wA B (166 + 1 * x1.toNatClampNeg))), (4, .ref (wA B (149 + 1 * x1.toNatClampNeg))), (0, .ref (wA B 143)), (1, .int x1), (2, .int x2), (3, .int x3)]) hx hb dX9_traceBack_14 hl (by decide) rfl (fun ls hl => ?_)
  refine lv_aload hx hb dX9_traceBack_16 (lv_at hl 0 rfl) ?_
  refine lv_iconst (v := 0) hx hb dX9_traceBack_18 (by decide) ?_
  obtain ⟨q3, h4, hf⟩ := bdE hf
  refine cS (As := [.ref (wA B (166 + 1 * x1.toNatClampNeg)), .int 0]) (rest := []) C0 w (m_J7_fill_53178 l B _ σ (166 + 1 * x1.toNatClampNeg) 0 q3 h4) ky_J7_fill_53178 ks_J7_fill_53178 lk_X9_72 ⟨Nat.le_of_ble_eq_true rfl, Nat.le_of_ble_eq_true rfl⟩ ⟨Nat.le_of_ble_eq_true rfl, Nat.le_of_ble_eq_true rfl⟩ rfl (by rfl) (Nat.le_of_ble_eq_true rfl) hl.1 dX9_traceBack_19 (fun H locs w => ?_)
  refine lv_aload hx hb dX9_traceBack_22 (lv_at hl 1 rfl) ?_
  refine lv_iconst (v := 0) hx hb dX9_traceBack_24 (by decide) ?_
  refine lv_iload_n hx hb dX9_traceBack_25 rfl (lv_at hl 5 rfl) ?_
  obtain ⟨g5, hf⟩ := gdE hf
  obtain ⟨g6, hf⟩ := gdE hf
  refine sI C0 w g5 (inbE g6) dX9_traceBack_26 (fun H locs w => ?_)
  refine lv_iconst (v := 1) hx hb dX9_traceBack_27 (by decide) ?_
  refine lv_istore (lv' := [(6, .int 1), (5, .ref (wA B (166 + 1 * x1.toNatClampNeg))), (4, .ref (wA B (149 + 1 * x1.toNatClampNeg))), (0, .ref (wA B 143)), (1, .int x1), (2, .int x2), (3, .int x3)]) hx hb dX9_traceBack_28 hl (by decide) rfl (fun ls hl => ?_)
  refine lv_iload_n hx hb dX9_traceBack_30 rfl (lv_at hl 6 rfl) ?_
  refine lv_istore (lv' := [(7, .int x3), (6, .int 1), (5, .ref (wA B (166 + 1 * x1.toNatClampNeg))), (4, .ref (wA B (149 + 1 * x1.toNatClampNeg))), (0, .ref (wA B 143)), (1, .int x1), (2, .int x2), (3, .int x3)]) hx hb dX9_traceBack_31 hl (by decide) rfl (fun ls hl => ?_)
  obtain ⟨q7, h8, hf⟩ := bdE hf
  refine lp_X9_traceBack_33 l B C0 x1 x2 (149 + 1 * x1.toNatClampNeg) (166 + 1 * x1.toNatClampNeg) 100000 1 x3 (setI q3 (149 + 1 * x1.toNatClampNeg) ((0 : Int32).toNatClampNeg) x3) q7 _ _ _ h8 w (lv_sub hl [4, 5, 6, 3, 2, 1, 0] rfl) (fun H locs ls w hl => ?_)
  refine lv_aload_n hx hb dX9_traceBack_140 rfl (lv_at hl 0 rfl) ?_
  refine gR C0 w 147 fk_X9_23 (by decide +kernel) dX9_traceBack_141 ?_
  refine lv_iload_n hx hb dX9_traceBack_144 rfl (lv_at hl 1 rfl) ?_
  refine lv_iload hx hb dX9_traceBack_145 (lv_at hl 2 rfl) ?_
  obtain ⟨g9, hf⟩ := gdE hf
  refine sI C0 w (n := 16) (by decide +kernel) (inbE g9) dX9_traceBack_147 (fun H locs w => ?_)
  obtain rfl := Option.some.inj hf
  exact eV C0 hr w dX9_traceBack_148
