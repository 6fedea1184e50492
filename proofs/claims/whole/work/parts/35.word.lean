def f_X5_append (x1 : Int32) (σ : Mem) : Option (Mem) :=
  if 120 ≤ (σ.1 219 1) then (
    some σ)
  else (
    gd (inb (σ.1 219 1) 120) (
    gd (byt x1.toInt8.toInt32) (
    bd (some (setI (setI σ 220 ((σ.1 219 1).toNatClampNeg) x1.toInt8.toInt32) 219 1 (((setI σ 220 ((σ.1 219 1).toNatClampNeg) x1.toInt8.toInt32).1 219 1) + 1))) (fun q4 =>
    some q4))))
abbrev rm_X5_append : Room := { frames := 0, cells := 0, slots := 0, locals := 0 }
set_option maxHeartbeats 4000000 in
set_option maxRecDepth 100000 in
theorem m_X5_append (l : Launch) (B : Wb) (sz : Nat) (σ : Mem) (x1 : Int32) (q : Mem) (hf : f_X5_append x1 σ = some q) : MetC l yX5_append cX5_append 2 none rm_X5_append B sz σ q [.ref (wA B 219), .int x1] (none) := by
  refine met_in (by decide +kernel) (Nat.le_of_ble_eq_true rfl) ?_
  intro p e s m below meth c C0 hr w hsz ls hl
  have hx := C0.1.1
  have hb := C0.1.2.1
  unfold f_X5_append at hf
  refine lv_aload_n hx hb dX5_append_0 rfl (lv_at hl 0 rfl) ?_
  refine gI C0 w fk_X5_28 (by decide +kernel) dX5_append_1 ?_
  refine lv_bipush (v := 120) hx hb dX5_append_4 (by decide) ?_
  refine lv_icmp_ge (tgt := 30) hx hb dX5_append_6 (by decide) (fun c1 => ?_) (fun c1 => ?_)
  · rw [if_pos c1] at hf
    obtain rfl := Option.some.inj hf
    exact eV C0 hr w dX5_append_30
  · rw [if_neg c1] at hf
    refine lv_aload_n hx hb dX5_append_9 rfl (lv_at hl 0 rfl) ?_
    refine gR C0 w 220 fk_X5_9 (by decide +kernel) dX5_append_10 ?_
    refine lv_aload_n hx hb dX5_append_13 rfl (lv_at hl 0 rfl) ?_
    refine gI C0 w fk_X5_28 (by decide +kernel) dX5_append_14 ?_
    refine lv_iload_n hx hb dX5_append_17 rfl (lv_at hl 1 rfl) ?_
    refine lv_i2b hx hb dX5_append_18 rfl ?_
    obtain ⟨g2, hf⟩ := gdE hf
    obtain ⟨g3, hf⟩ := gdE hf
    refine sB C0 w (n := 120) (by decide +kernel) (inbE g2) (bytE g3) dX5_append_19 (fun H locs w => ?_)
    refine lv_aload_n hx hb dX5_append_20 rfl (lv_at hl 0 rfl) ?_
    refine lv_dup hx hb dX5_append_21 rfl ?_
    refine gI C0 w fk_X5_28 (by decide +kernel) dX5_append_22 ?_
    refine lv_iconst (v := 1) hx hb dX5_append_25 (by decide) ?_
    refine lv_iadd hx hb dX5_append_26 ?_
    refine pI C0 w fk_X5_28 fp_X5_1 (by decide +kernel) dX5_append_27 (fun H locs w => ?_)
    obtain ⟨q4, h5, hf⟩ := bdE hf
    have w : Wx B q4 s H locs := by rw [← Option.some.inj h5]; exact w
    obtain rfl := Option.some.inj hf
    exact eV C0 hr w dX5_append_30
def f_X5_skipSpaces_5 (x1 : Int32) : Nat → Mem → Option (Mem)
  | 0, _ => none
  | n + 1, σ =>
    if (σ.1 219 1) ≤ (σ.1 219 6) then (
      some σ)
    else (
      gd (inb (σ.1 219 6) 120) (
      if (σ.1 220 (σ.1 219 6).toNatClampNeg) = 32 then (
        f_X5_skipSpaces_5 x1 n (setI σ 219 6 ((σ.1 219 6) + 1)))
      else (
        some σ)))
def f_X5_skipSpaces (σ : Mem) : Option (Int32 × Mem) :=
  bd (f_X5_skipSpaces_5 (σ.1 219 6) 100000 σ) (fun q1 =>
  if (q1.1 219 6) ≤ (σ.1 219 6) then (
    some ((0, q1)))
  else (
    some ((1, q1))))
abbrev rm_X5_skipSpaces : Room := { frames := 0, cells := 0, slots := 0, locals := 0 }
set_option maxHeartbeats 4000000 in
set_option maxRecDepth 100000 in
theorem lp_X5_skipSpaces_5 {p : Program} {e : Env} {s : State} {m : MethodId} {args : Array Value} {below : List Frame} {meth : Method} {c : Code} {Q : State → Prop} (l : Launch) (B : Wb) (C0 : Cx p s m args meth c cX5_skipSpaces 2 RX5) (x1 : Int32) : ∀ (n : Nat) (σ : Mem) (o : Mem) (H : Heap) (locs : List Loc) (ls : Array Slot), f_X5_skipSpaces_5 x1 n σ = some o → Wx B σ s H locs → lv_has ls 2 [(0, .ref (wA B 219)), (1, .int x1)] → (∀ (H : Heap) (locs : List Loc) (ls : Array Slot), Wx B o s H locs → lv_has ls 2 [(0, .ref (wA B 219)), (1, .int x1)] → W p l e rm_X5_skipSpaces s m args below meth c H locs 0 0 Q (F0 m 43 ls [])) → W p l e rm_X5_skipSpaces s m args below meth c H locs 0 0 Q (F0 m 5 ls []) := by
  have hx := C0.1.1
  have hb := C0.1.2.1
  intro n
  induction n with
  | zero =>
    intro σ o H locs ls hf w hl hK
    cases hf
  | succ n ih =>
    intro σ o H locs ls hf w hl hK
    rw [f_X5_skipSpaces_5] at hf
    refine lv_aload_n hx hb dX5_skipSpaces_5 rfl (lv_at hl 0 rfl) ?_
    refine gI C0 w fk_X5_32 (by decide +kernel) dX5_skipSpaces_6 ?_
    refine lv_aload_n hx hb dX5_skipSpaces_9 rfl (lv_at hl 0 rfl) ?_
    refine gI C0 w fk_X5_28 (by decide +kernel) dX5_skipSpaces_10 ?_
    refine lv_icmp_ge (tgt := 43) hx hb dX5_skipSpaces_13 (by decide) (fun c1 => ?_) (fun c1 => ?_)
    · rw [if_pos c1] at hf
      obtain rfl := Option.some.inj hf
      exact hK _ _ _ w (lv_sub hl [0, 1] rfl)
    · rw [if_neg c1] at hf
      refine lv_aload_n hx hb dX5_skipSpaces_16 rfl (lv_at hl 0 rfl) ?_
      refine gR C0 w 220 fk_X5_9 (by decide +kernel) dX5_skipSpaces_17 ?_
      refine lv_aload_n hx hb dX5_skipSpaces_20 rfl (lv_at hl 0 rfl) ?_
      refine gI C0 w fk_X5_32 (by decide +kernel) dX5_skipSpaces_21 ?_
      obtain ⟨g2, hf⟩ := gdE hf
      refine aB C0 w (n := 120) (by decide +kernel) (inbE g2) dX5_skipSpaces_24 ?_
      refine lv_bipush (v := 32) hx hb dX5_skipSpaces_25 (by decide) ?_
      refine lv_icmp_ne (tgt := 43) hx hb dX5_skipSpaces_27 (by decide) (fun c3 => ?_) (fun c3 => ?_)
      · rw [if_neg c3] at hf
        obtain rfl := Option.some.inj hf
        exact hK _ _ _ w (lv_sub hl [0, 1] rfl)
      · rw [if_pos c3] at hf
        refine lv_aload_n hx hb dX5_skipSpaces_30 rfl (lv_at hl 0 rfl) ?_
        refine lv_dup hx hb dX5_skipSpaces_31 rfl ?_
        refine gI C0 w fk_X5_32 (by decide +kernel) dX5_skipSpaces_32 ?_
        refine lv_iconst (v := 1) hx hb dX5_skipSpaces_35 (by decide) ?_
        refine lv_iadd hx hb dX5_skipSpaces_36 ?_
        refine pI C0 w fk_X5_32 fp_X5_6 (by decide +kernel) dX5_skipSpaces_37 (fun H locs w => ?_)
        refine lv_goto (tgt := 5) hx hb dX5_skipSpaces_40 (by decide) ?_
        exact ih (setI σ 219 6 ((σ.1 219 6) + 1)) _ _ _ _ hf w (lv_sub hl [0, 1] rfl) hK
set_option maxHeartbeats 4000000 in
set_option maxRecDepth 100000 in
theorem m_X5_skipSpaces (l : Launch) (B : Wb) (sz : Nat) (σ : Mem) (q : Int32 × Mem) (hf : f_X5_skipSpaces σ = some q) : MetC l yX5_skipSpaces cX5_skipSpaces 2 (some .boolean) rm_X5_skipSpaces B sz σ q.2 [.ref (wA B 219)] (some (.int q.1)) := by
  refine met_in (by decide +kernel) (Nat.le_of_ble_eq_true rfl) ?_
  intro p e s m below meth c C0 hr w hsz ls hl
  have hx := C0.1.1
  have hb := C0.1.2.1
  unfold f_X5_skipSpaces at hf
  refine lv_aload_n hx hb dX5_skipSpaces_0 rfl (lv_at hl 0 rfl) ?_
  refine gI C0 w fk_X5_32 (by decide +kernel) dX5_skipSpaces_1 ?_
  refine lv_istore_n (lv' := [(1, .int (σ.1 219 6)), (0, .ref (wA B 219))]) hx hb dX5_skipSpaces_4 rfl hl (by decide) rfl (fun ls hl => ?_)
  obtain ⟨q1, h2, hf⟩ := bdE hf
  refine lp_X5_skipSpaces_5 l B C0 (σ.1 219 6) 100000 σ q1 _ _ _ h2 w (lv_sub hl [1, 0] rfl) (fun H locs ls w hl => ?_)
  refine lv_aload_n hx hb dX5_skipSpaces_43 rfl (lv_at hl 0 rfl) ?_
  refine gI C0 w fk_X5_32 (by decide +kernel) dX5_skipSpaces_44 ?_
  refine lv_iload_n hx hb dX5_skipSpaces_47 rfl (lv_at hl 1 rfl) ?_
  refine lv_icmp_le (tgt := 55) hx hb dX5_skipSpaces_48 (by decide) (fun c3 => ?_) (fun c3 => ?_)
  · rw [if_pos c3] at hf
    refine lv_iconst (v := 0) hx hb dX5_skipSpaces_55 (by decide) ?_
    obtain rfl := Option.some.inj hf
    exact eI C0 hr w (bzE (x := 0) (by decide)) dX5_skipSpaces_56
  · rw [if_neg c3] at hf
    refine lv_iconst (v := 1) hx hb dX5_skipSpaces_51 (by decide) ?_
    refine lv_goto (tgt := 56) hx hb dX5_skipSpaces_52 (by decide) ?_
    obtain rfl := Option.some.inj hf
    exact eI C0 hr w (bzE (x := 1) (by decide)) dX5_skipSpaces_56
def f_X5_skipLetters_0 : Nat → Mem → Option (Mem)
  | 0, _ => none
  | n + 1, σ =>
    if (σ.1 219 1) ≤ (σ.1 219 6) then (
      some σ)
    else (
      gd (inb (σ.1 219 6) 120) (
      if (σ.1 220 (σ.1 219 6).toNatClampNeg) < 97 then (
        some σ)
      else (
        gd (inb (σ.1 219 6) 120) (
        if 122 < (σ.1 220 (σ.1 219 6).toNatClampNeg) then (
          some σ)
        else (
          f_X5_skipLetters_0 n (setI σ 219 6 ((σ.1 219 6) + 1)))))))
def f_X5_skipLetters (σ : Mem) : Option (Mem) :=
  bd (f_X5_skipLetters_0 100000 σ) (fun q1 =>
  some q1)
abbrev rm_X5_skipLetters : Room := { frames := 0, cells := 0, slots := 0, locals := 0 }
set_option maxHeartbeats 4000000 in
set_option maxRecDepth 100000 in
theorem lp_X5_skipLetters_0 {p : Program} {e : Env} {s : State} {m : MethodId} {args : Array Value} {below : List Frame} {meth : Method} {c : Code} {Q : State → Prop} (l : Launch) (B : Wb) (C0 : Cx p s m args meth c cX5_skipLetters 1 RX5) : ∀ (n : Nat) (σ : Mem) (o : Mem) (H : Heap) (locs : List Loc) (ls : Array Slot), f_X5_skipLetters_0 n σ = some o → Wx B σ s H locs → lv_has ls 1 [(0, .ref (wA B 219))] → (∀ (H : Heap) (locs : List Loc) (ls : Array Slot), Wx B o s H locs → lv_has ls 1 [] → W p l e rm_X5_skipLetters s m args below meth c H locs 0 0 Q (F0 m 52 ls [])) → W p l e rm_X5_skipLetters s m args below meth c H locs 0 0 Q (F0 m 0 ls []) := by
  have hx := C0.1.1
  have hb := C0.1.2.1
  intro n
  induction n with
  | zero =>
    intro σ o H locs ls hf w hl hK
    cases hf
  | succ n ih =>
    intro σ o H locs ls hf w hl hK
    rw [f_X5_skipLetters_0] at hf
    refine lv_aload_n hx hb dX5_skipLetters_0 rfl (lv_at hl 0 rfl) ?_
    refine gI C0 w fk_X5_32 (by decide +kernel) dX5_skipLetters_1 ?_
    refine lv_aload_n hx hb dX5_skipLetters_4 rfl (lv_at hl 0 rfl) ?_
    refine gI C0 w fk_X5_28 (by decide +kernel) dX5_skipLetters_5 ?_
    refine lv_icmp_ge (tgt := 52) hx hb dX5_skipLetters_8 (by decide) (fun c1 => ?_) (fun c1 => ?_)
    · rw [if_pos c1] at hf
      obtain rfl := Option.some.inj hf
      exact hK _ _ _ w (lv_sub hl [] rfl)
    · rw [if_neg c1] at hf
      refine lv_aload_n hx hb dX5_skipLetters_11 rfl (lv_at hl 0 rfl) ?_
      refine gR C0 w 220 fk_X5_9 (by decide +kernel) dX5_skipLetters_12 ?_
      refine lv_aload_n hx hb dX5_skipLetters_15 rfl (lv_at hl 0 rfl) ?_
      refine gI C0 w fk_X5_32 (by decide +kernel) dX5_skipLetters_16 ?_
      obtain ⟨g2, hf⟩ := gdE hf
      refine aB C0 w (n := 120) (by decide +kernel) (inbE g2) dX5_skipLetters_19 ?_
      refine lv_bipush (v := 97) hx hb dX5_skipLetters_20 (by decide) ?_
      refine lv_icmp_lt (tgt := 52) hx hb dX5_skipLetters_22 (by decide) (fun c3 => ?_) (fun c3 => ?_)
      · rw [if_pos c3] at hf
        obtain rfl := Option.some.inj hf
        exact hK _ _ _ w (lv_sub hl [] rfl)
      · rw [if_neg c3] at hf
        refine lv_aload_n hx hb dX5_skipLetters_25 rfl (lv_at hl 0 rfl) ?_
        refine gR C0 w 220 fk_X5_9 (by decide +kernel) dX5_skipLetters_26 ?_
        refine lv_aload_n hx hb dX5_skipLetters_29 rfl (lv_at hl 0 rfl) ?_
        refine gI C0 w fk_X5_32 (by decide +kernel) dX5_skipLetters_30 ?_
        obtain ⟨g4, hf⟩ := gdE hf
        refine aB C0 w (n := 120) (by decide +kernel) (inbE g4) dX5_skipLetters_33 ?_
        refine lv_bipush (v := 122) hx hb dX5_skipLetters_34 (by decide) ?_
        refine lv_icmp_gt (tgt := 52) hx hb dX5_skipLetters_36 (by decide) (fun c5 => ?_) (fun c5 => ?_)
        · rw [if_pos c5] at hf
          obtain rfl := Option.some.inj hf
          exact hK _ _ _ w (lv_sub hl [] rfl)
        · rw [if_neg c5] at hf
          refine lv_aload_n hx hb dX5_skipLetters_39 rfl (lv_at hl 0 rfl) ?_
          refine lv_dup hx hb dX5_skipLetters_40 rfl ?_
          refine gI C0 w fk_X5_32 (by decide +kernel) dX5_skipLetters_41 ?_
          refine lv_iconst (v := 1) hx hb dX5_skipLetters_44 (by decide) ?_
          refine lv_iadd hx hb dX5_skipLetters_45 ?_
          refine pI C0 w fk_X5_32 fp_X5_6 (by decide +kernel) dX5_skipLetters_46 (fun H locs w => ?_)
          refine lv_goto (tgt := 0) hx hb dX5_skipLetters_49 (by decide) ?_
          exact ih (setI σ 219 6 ((σ.1 219 6) + 1)) _ _ _ _ hf w (lv_sub hl [0] rfl) hK
set_option maxHeartbeats 4000000 in
set_option maxRecDepth 100000 in
theorem m_X5_skipLetters (l : Launch) (B : Wb) (sz : Nat) (σ : Mem) (q : Mem) (hf : f_X5_skipLetters σ = some q) : MetC l yX5_skipLetters cX5_skipLetters 1 none rm_X5_skipLetters B sz σ q [.ref (wA B 219)] (none) := by
  refine met_in (by decide +kernel) (Nat.le_of_ble_eq_true rfl) ?_
  intro p e s m below meth c C0 hr w hsz ls hl
  have hx := C0.1.1
  have hb := C0.1.2.1
  unfold f_X5_skipLetters at hf
  obtain ⟨q1, h2, hf⟩ := bdE hf
  refine lp_X5_skipLetters_0 l B C0 100000 σ q1 _ _ _ h2 w (lv_sub hl [0] rfl) (fun H locs ls w hl => ?_)
  obtain rfl := Option.some.inj hf
  exact eV C0 hr w dX5_skipLetters_52
def f_X5_isText_19 (x1 : Int32) (x2 : Int32) (σ : Mem) : Nat → Int32 → Option (Int32 ⊕ (Unit))
  | 0, _ => none
  | n + 1, x4 =>
    gd (inb x1 8) (
    bd (f_J0_length_8abf5 x1 σ) (fun q2 =>
    if q2 ≤ x4 then (
      some (.inr (())))
    else (
      gd (inb (x2 + x4) 120) (
      gd (inb x1 8) (
      bd (f_J0_charAt_5068e x1 x4 σ) (fun q7 =>
      if (σ.1 220 (x2 + x4).toNatClampNeg) = q7 then (
        f_X5_isText_19 x1 x2 σ n (x4 + 1))
      else (
        some (.inl 0))))))))
def f_X5_isText (x1 : Int32) (x2 : Int32) (x3 : Int32) (σ : Mem) : Option (Int32) :=
  gd (inb x1 8) (
  bd (f_J0_length_8abf5 x1 σ) (fun q2 =>
  if q2 = (x3 - x2) then (
    bd (f_X5_isText_19 x1 x2 σ 100000 0) (fun q5 =>
    sm q5 (fun q7 =>
    some 1)))
  else (
    some 0)))
abbrev rm_X5_isText : Room := { frames := 4, cells := 0, slots := 0, locals := 85 }
set_option maxHeartbeats 4000000 in
set_option maxRecDepth 100000 in
theorem lp_X5_isText_19 {p : Program} {e : Env} {s : State} {m : MethodId} {args : Array Value} {below : List Frame} {meth : Method} {c : Code} {Q : State → Prop} (l : Launch) (B : Wb) (C0 : Cx p s m args meth c cX5_isText 5 RX5) (hr : meth.sig.returnType = (some .boolean)) (x1 : Int32) (x2 : Int32) : ∀ (n : Nat) (x4 : Int32) (σ : Mem) (o : Int32 ⊕ (Unit)) (H : Heap) (locs : List Loc) (ls : Array Slot), f_X5_isText_19 x1 x2 σ n x4 = some o → Wx B σ s H locs → lv_has ls 5 [(0, .ref (wA B 219)), (1, .ref (wK B x1.toNatClampNeg)), (2, .int x2), (4, .int x4)] → (∀ r9, o = .inl r9 → Q = MQ below (Qo B σ (some (.int r9)) (own B s.heap.size)) args s 0 0 (own B s.heap.size)) → (∀ (o9 : Unit) (_ : o = .inr o9) (H : Heap) (locs : List Loc) (ls : Array Slot), Wx B σ s H locs → lv_has ls 5 [] → W p l e rm_X5_isText s m args below meth c H locs 0 0 Q (F0 m 54 ls [])) → W p l e rm_X5_isText s m args below meth c H locs 0 0 Q (F0 m 19 ls []) := by
  have hx := C0.1.1
  have hb := C0.1.2.1
  intro n
  induction n with
  | zero =>
    intro x4 σ o H locs ls hf w hl hR hK
    cases hf
  | succ n ih =>
    intro x4 σ o H locs ls hf w hl hR hK
    rw [f_X5_isText_19] at hf
    refine lv_iload hx hb dX5_isText_19 (lv_at hl 3 rfl) ?_
    refine lv_aload_n hx hb dX5_isText_21 rfl (lv_at hl 1 rfl) ?_
    obtain ⟨g1, hf⟩ := gdE hf
    obtain ⟨q2, h3, hf⟩ := bdE hf
    refine cR (As := []) (rest := [.int x4]) C0 w (m_J0_length_8abf5 l B _ σ x1 q2 h3) ky_J0_length_8abf5 kv_J0_length_8abf5 lk_X5_73 (shS w (inbL g1)) ⟨Nat.le_of_ble_eq_true rfl, Nat.le_of_ble_eq_true rfl⟩ ⟨Nat.le_of_ble_eq_true rfl, Nat.le_of_ble_eq_true rfl⟩ rfl (by rfl) (Nat.le_of_ble_eq_true rfl) hl.1 dX5_isText_22 (fun H locs w => ?_)
    refine lv_icmp_ge (tgt := 54) hx hb dX5_isText_25 (by decide) (fun c4 => ?_) (fun c4 => ?_)
    · rw [if_pos c4] at hf
      obtain rfl := Option.some.inj hf
      exact hK _ rfl _ _ _ w (lv_sub hl [] rfl)
    · rw [if_neg c4] at hf
      refine lv_aload_n hx hb dX5_isText_28 rfl (lv_at hl 0 rfl) ?_
      refine gR C0 w 220 fk_X5_9 (by decide +kernel) dX5_isText_29 ?_
      refine lv_iload_n hx hb dX5_isText_32 rfl (lv_at hl 2 rfl) ?_
      refine lv_iload hx hb dX5_isText_33 (lv_at hl 3 rfl) ?_
      refine lv_iadd hx hb dX5_isText_35 ?_
      obtain ⟨g5, hf⟩ := gdE hf
      refine aB C0 w (n := 120) (by decide +kernel) (inbE g5) dX5_isText_36 ?_
      refine lv_aload_n hx hb dX5_isText_37 rfl (lv_at hl 1 rfl) ?_
      refine lv_iload hx hb dX5_isText_38 (lv_at hl 3 rfl) ?_
      obtain ⟨g6, hf⟩ := gdE hf
      obtain ⟨q7, h8, hf⟩ := bdE hf
      refine cR (As := [.int x4]) (rest := [.int (σ.1 220 (x2 + x4).toNatClampNeg)]) C0 w (m_J0_charAt_5068e l B _ σ x1 x4 q7 h8) ky_J0_charAt_5068e kv_J0_charAt_5068e lk_X5_78 (shS w (inbL g6)) ⟨Nat.le_of_ble_eq_true rfl, Nat.le_of_ble_eq_true rfl⟩ ⟨Nat.le_of_ble_eq_true rfl, Nat.le_of_ble_eq_true rfl⟩ rfl (by rfl) (Nat.le_of_ble_eq_true rfl) hl.1 dX5_isText_40 (fun H locs w => ?_)
      refine lv_icmp_eq (tgt := 48) hx hb dX5_isText_43 (by decide) (fun c9 => ?_) (fun c9 => ?_)
      · rw [if_pos c9] at hf
        refine lv_iinc (k := 3) (v := x4 + 1) (lv' := [(4, .int (x4 + 1)), (0, .ref (wA B 219)), (1, .ref (wK B x1.toNatClampNeg)), (2, .int x2)]) hx hb dX5_isText_48 hl rfl (by rfl) (by decide) rfl (fun ls hl => ?_)
        refine lv_goto (tgt := 19) hx hb dX5_isText_51 (by decide) ?_
        exact ih (x4 + 1) σ _ _ _ _ hf w (lv_sub hl [1, 2, 3, 0] rfl) hR hK
      · rw [if_neg c9] at hf
        refine lv_iconst (v := 0) hx hb dX5_isText_46 (by decide) ?_
        obtain rfl := Option.some.inj hf
        rw [hR _ rfl]
        exact eI C0 hr w (bzE (x := 0) (by decide)) dX5_isText_47
set_option maxHeartbeats 4000000 in
set_option maxRecDepth 100000 in
theorem m_X5_isText (l : Launch) (B : Wb) (sz : Nat) (σ : Mem) (x1 : Int32) (x2 : Int32) (x3 : Int32) (q : Int32) (hf : f_X5_isText x1 x2 x3 σ = some q) : MetC l yX5_isText cX5_isText 5 (some .boolean) rm_X5_isText B sz σ σ [.ref (wA B 219), .ref (wK B x1.toNatClampNeg), .int x2, .int x3] (some (.int q)) := by
  refine met_in (by decide +kernel) (Nat.le_of_ble_eq_true rfl) ?_
  intro p e s m below meth c C0 hr w hsz ls hl
  have hx := C0.1.1
  have hb := C0.1.2.1
  unfold f_X5_isText at hf
  refine lv_aload_n hx hb dX5_isText_0 rfl (lv_at hl 1 rfl) ?_
  refine lv_ifnull hx hb dX5_isText_1 ?_
  refine lv_aload_n hx hb dX5_isText_4 rfl (lv_at hl 1 rfl) ?_
  obtain ⟨g1, hf⟩ := gdE hf
  obtain ⟨q2, h3, hf⟩ := bdE hf
  refine cR (As := []) (rest := []) C0 w (m_J0_length_8abf5 l B _ σ x1 q2 h3) ky_J0_length_8abf5 kv_J0_length_8abf5 lk_X5_73 (shS w (inbL g1)) ⟨Nat.le_of_ble_eq_true rfl, Nat.le_of_ble_eq_true rfl⟩ ⟨Nat.le_of_ble_eq_true rfl, Nat.le_of_ble_eq_true rfl⟩ rfl (by rfl) (Nat.le_of_ble_eq_true rfl) hl.1 dX5_isText_5 (fun H locs w => ?_)
  refine lv_iload_n hx hb dX5_isText_8 rfl (lv_at hl 3 rfl) ?_
  refine lv_iload_n hx hb dX5_isText_9 rfl (lv_at hl 2 rfl) ?_
  refine lv_isub hx hb dX5_isText_10 ?_
  refine lv_icmp_eq (tgt := 16) hx hb dX5_isText_11 (by decide) (fun c4 => ?_) (fun c4 => ?_)
  · rw [if_pos c4] at hf
    refine lv_iconst (v := 0) hx hb dX5_isText_16 (by decide) ?_
    refine lv_istore (lv' := [(4, .int 0), (0, .ref (wA B 219)), (1, .ref (wK B x1.toNatClampNeg)), (2, .int x2), (3, .int x3)]) hx hb dX5_isText_17 hl (by decide) rfl (fun ls hl => ?_)
    obtain ⟨q5, h6, hf⟩ := bdE hf
    refine lp_X5_isText_19 l B C0 hr x1 x2 100000 0 σ q5 _ _ _ h6 w (lv_sub hl [1, 2, 3, 0] rfl) (fun r9 h9 => by subst h9; cases hf; rfl) (fun q7 h9 H locs ls w hl => ?_)
    subst h9
    have hf := smE hf
    refine lv_iconst (v := 1) hx hb dX5_isText_54 (by decide) ?_
    obtain rfl := Option.some.inj hf
    exact eI C0 hr w (bzE (x := 1) (by decide)) dX5_isText_55
  · rw [if_neg c4] at hf
    refine lv_iconst (v := 0) hx hb dX5_isText_14 (by decide) ?_
    obtain rfl := Option.some.inj hf
    exact eI C0 hr w (bzE (x := 0) (by decide)) dX5_isText_15
def f_X5_wordBetween_2 (x1 : Int32) (x2 : Int32) (σ : Mem) : Nat → Int32 → Option (Int32 ⊕ (Unit))
  | 0, _ => none
  | n + 1, x3 =>
    if 8 ≤ x3 then (
      some (.inr (())))
    else (
      gd (inb x3 8) (
      gd (inb x3 8) (
      bd (f_X5_isText x3 x1 x2 σ) (fun q4 =>
      if q4 = 0 then (
        f_X5_wordBetween_2 x1 x2 σ n (x3 + 1))
      else (
        gd (inb x3 8) (some (.inl x3)))))))
def f_X5_wordBetween (x1 : Int32) (x2 : Int32) (σ : Mem) : Option (Int32) :=
  bd (f_X5_wordBetween_2 x1 x2 σ 100000 0) (fun q1 =>
  sm q1 (fun q3 =>
  some ((-1 : Int32))))
abbrev rm_X5_wordBetween : Room := { frames := 5, cells := 0, slots := 0, locals := 109 }
set_option maxHeartbeats 4000000 in
set_option maxRecDepth 100000 in
theorem lp_X5_wordBetween_2 {p : Program} {e : Env} {s : State} {m : MethodId} {args : Array Value} {below : List Frame} {meth : Method} {c : Code} {Q : State → Prop} (l : Launch) (B : Wb) (C0 : Cx p s m args meth c cX5_wordBetween 5 RX5) (hr : meth.sig.returnType = (some (.object "SlownessImager$Word"))) (x1 : Int32) (x2 : Int32) : ∀ (n : Nat) (x3 : Int32) (σ : Mem) (o : Int32 ⊕ (Unit)) (H : Heap) (locs : List Loc) (ls : Array Slot), f_X5_wordBetween_2 x1 x2 σ n x3 = some o → Wx B σ s H locs → lv_has ls 5 [(0, .ref (wA B 219)), (1, .int x1), (2, .int x2), (3, .int x3)] → (∀ r9, o = .inl r9 → Q = MQ below (Qo B σ (some (wv B r9)) (own B s.heap.size)) args s 0 0 (own B s.heap.size)) → (∀ (o9 : Unit) (_ : o = .inr o9) (H : Heap) (locs : List Loc) (ls : Array Slot), Wx B σ s H locs → lv_has ls 5 [] → W p l e rm_X5_wordBetween s m args below meth c H locs 0 0 Q (F0 m 45 ls [])) → W p l e rm_X5_wordBetween s m args below meth c H locs 0 0 Q (F0 m 2 ls []) := by
  have hx := C0.1.1
  have hb := C0.1.2.1
  intro n
  induction n with
  | zero =>
    intro x3 σ o H locs ls hf w hl hR hK
    cases hf
  | succ n ih =>
    intro x3 σ o H locs ls hf w hl hR hK
    rw [f_X5_wordBetween_2] at hf
    refine lv_iload_n hx hb dX5_wordBetween_2 rfl (lv_at hl 3 rfl) ?_
    refine zWORDS C0 w fk_X5_62 dX5_wordBetween_3 ?_
    refine zTlen C0 w dX5_wordBetween_6 ?_
    refine lv_icmp_ge (tgt := 45) hx hb dX5_wordBetween_7 (by decide) (fun c1 => ?_) (fun c1 => ?_)
    · rw [if_pos c1] at hf
      obtain rfl := Option.some.inj hf
      exact hK _ rfl _ _ _ w (lv_sub hl [] rfl)
    · rw [if_neg c1] at hf
      refine zWORDS C0 w fk_X5_62 dX5_wordBetween_10 ?_
      refine lv_iload_n hx hb dX5_wordBetween_13 rfl (lv_at hl 3 rfl) ?_
      obtain ⟨g2, hf⟩ := gdE hf
      refine zTat C0 w g2 dX5_wordBetween_14 ?_
      refine lv_astore (lv' := [(4, .ref (wE B x3.toNatClampNeg)), (0, .ref (wA B 219)), (1, .int x1), (2, .int x2), (3, .int x3)]) hx hb dX5_wordBetween_15 hl (by decide) rfl (fun ls hl => ?_)
      refine lv_aload hx hb dX5_wordBetween_17 (lv_at hl 0 rfl) ?_
      refine lv_ifnull hx hb dX5_wordBetween_19 ?_
      refine lv_aload_n hx hb dX5_wordBetween_22 rfl (lv_at hl 1 rfl) ?_
      refine lv_aload hx hb dX5_wordBetween_23 (lv_at hl 0 rfl) ?_
      obtain ⟨g3, hf⟩ := gdE hf
      refine zText (host := RX11) C0 w g3 (by decide +kernel) dX5_wordBetween_25 ?_
      refine lv_iload_n hx hb dX5_wordBetween_28 rfl (lv_at hl 2 rfl) ?_
      refine lv_iload_n hx hb dX5_wordBetween_29 rfl (lv_at hl 3 rfl) ?_
      obtain ⟨q4, h5, hf⟩ := bdE hf
      refine cV (As := [.ref (wK B x3.toNatClampNeg), .int x1, .int x2]) (rest := []) (k := 219) (ci := 4) (T := TX5) (N := 7) C0 w (m_X5_isText l B _ σ x3 x1 x2 q4 h5) ky_X5_isText kv_X5_isText lk_X5_69 rfl (by decide +kernel) ⟨Nat.le_of_ble_eq_true rfl, Nat.le_of_ble_eq_true rfl⟩ ⟨Nat.le_of_ble_eq_true rfl, Nat.le_of_ble_eq_true rfl⟩ rfl (by rfl) (Nat.le_of_ble_eq_true rfl) hl.1 dX5_wordBetween_30 (fun H locs w => ?_)
      refine lv_if_eq (tgt := 39) hx hb dX5_wordBetween_33 (by decide) (fun c6 => ?_) (fun c6 => ?_)
      · rw [if_pos c6] at hf
        refine lv_iinc (k := 4) (v := x3 + 1) (lv' := [(3, .int (x3 + 1)), (4, .ref (wE B x3.toNatClampNeg)), (0, .ref (wA B 219)), (1, .int x1), (2, .int x2)]) hx hb dX5_wordBetween_39 hl rfl (by rfl) (by decide) rfl (fun ls hl => ?_)
        refine lv_goto (tgt := 2) hx hb dX5_wordBetween_42 (by decide) ?_
        exact ih (x3 + 1) σ _ _ _ _ hf w (lv_sub hl [2, 3, 4, 0] rfl) hR hK
      · rw [if_neg c6] at hf
        refine lv_aload hx hb dX5_wordBetween_36 (lv_at hl 0 rfl) ?_
        obtain ⟨g7, hf⟩ := gdE hf
        obtain rfl := Option.some.inj hf
        rw [hR _ rfl]
        rw [wvI g7]
        exact eW C0 hr w (Or.inr ⟨_, rfl⟩) dX5_wordBetween_38
set_option maxHeartbeats 4000000 in
set_option maxRecDepth 100000 in
theorem m_X5_wordBetween (l : Launch) (B : Wb) (sz : Nat) (σ : Mem) (x1 : Int32) (x2 : Int32) (q : Int32) (hf : f_X5_wordBetween x1 x2 σ = some q) : MetC l yX5_wordBetween cX5_wordBetween 5 (some (.object "SlownessImager$Word")) rm_X5_wordBetween B sz σ σ [.ref (wA B 219), .int x1, .int x2] (some (wv B q)) := by
  refine met_in (by decide +kernel) (Nat.le_of_ble_eq_true rfl) ?_
  intro p e s m below meth c C0 hr w hsz ls hl
  have hx := C0.1.1
  have hb := C0.1.2.1
  unfold f_X5_wordBetween at hf
  refine lv_iconst (v := 0) hx hb dX5_wordBetween_0 (by decide) ?_
  refine lv_istore_n (lv' := [(3, .int 0), (0, .ref (wA B 219)), (1, .int x1), (2, .int x2)]) hx hb dX5_wordBetween_1 rfl hl (by decide) rfl (fun ls hl => ?_)
  obtain ⟨q1, h2, hf⟩ := bdE hf
  refine lp_X5_wordBetween_2 l B C0 hr x1 x2 100000 0 σ q1 _ _ _ h2 w (lv_sub hl [1, 2, 3, 0] rfl) (fun r9 h9 => by subst h9; cases hf; rfl) (fun q3 h9 H locs ls w hl => ?_)
  subst h9
  have hf := smE hf
  refine lv_null hx hb dX5_wordBetween_45 ?_
  obtain rfl := Option.some.inj hf
  rw [wvL (x := -1) (by decide)]
  exact eW C0 hr w (Or.inl rfl) dX5_wordBetween_46
def f_X5_isDigitNext (σ : Mem) : Option (Int32) :=
  if (σ.1 219 1) ≤ (σ.1 219 6) then (
    some 0)
  else (
    gd (inb (σ.1 219 6) 120) (
    if (σ.1 220 (σ.1 219 6).toNatClampNeg) < 48 then (
      some 0)
    else (
      gd (inb (σ.1 219 6) 120) (
      if 57 < (σ.1 220 (σ.1 219 6).toNatClampNeg) then (
        some 0)
      else (
        some 1)))))
abbrev rm_X5_isDigitNext : Room := { frames := 0, cells := 0, slots := 0, locals := 0 }
set_option maxHeartbeats 4000000 in
set_option maxRecDepth 100000 in
theorem m_X5_isDigitNext (l : Launch) (B : Wb) (sz : Nat) (σ : Mem) (q : Int32) (hf : f_X5_isDigitNext σ = some q) : MetC l yX5_isDigitNext cX5_isDigitNext 1 (some .boolean) rm_X5_isDigitNext B sz σ σ [.ref (wA B 219)] (some (.int q)) := by
  refine met_in (by decide +kernel) (Nat.le_of_ble_eq_true rfl) ?_
  intro p e s m below meth c C0 hr w hsz ls hl
  have hx := C0.1.1
  have hb := C0.1.2.1
  unfold f_X5_isDigitNext at hf
  refine lv_aload_n hx hb dX5_isDigitNext_0 rfl (lv_at hl 0 rfl) ?_
  refine gI C0 w fk_X5_32 (by decide +kernel) dX5_isDigitNext_1 ?_
  refine lv_aload_n hx hb dX5_isDigitNext_4 rfl (lv_at hl 0 rfl) ?_
  refine gI C0 w fk_X5_28 (by decide +kernel) dX5_isDigitNext_5 ?_
  refine lv_icmp_ge (tgt := 43) hx hb dX5_isDigitNext_8 (by decide) (fun c1 => ?_) (fun c1 => ?_)
  · rw [if_pos c1] at hf
    refine lv_iconst (v := 0) hx hb dX5_isDigitNext_43 (by decide) ?_
    obtain rfl := Option.some.inj hf
    exact eI C0 hr w (bzE (x := 0) (by decide)) dX5_isDigitNext_44
  · rw [if_neg c1] at hf
    refine lv_aload_n hx hb dX5_isDigitNext_11 rfl (lv_at hl 0 rfl) ?_
    refine gR C0 w 220 fk_X5_9 (by decide +kernel) dX5_isDigitNext_12 ?_
    refine lv_aload_n hx hb dX5_isDigitNext_15 rfl (lv_at hl 0 rfl) ?_
    refine gI C0 w fk_X5_32 (by decide +kernel) dX5_isDigitNext_16 ?_
    obtain ⟨g2, hf⟩ := gdE hf
    refine aB C0 w (n := 120) (by decide +kernel) (inbE g2) dX5_isDigitNext_19 ?_
    refine lv_bipush (v := 48) hx hb dX5_isDigitNext_20 (by decide) ?_
    refine lv_icmp_lt (tgt := 43) hx hb dX5_isDigitNext_22 (by decide) (fun c3 => ?_) (fun c3 => ?_)
    · rw [if_pos c3] at hf
      refine lv_iconst (v := 0) hx hb dX5_isDigitNext_43 (by decide) ?_
      obtain rfl := Option.some.inj hf
      exact eI C0 hr w (bzE (x := 0) (by decide)) dX5_isDigitNext_44
    · rw [if_neg c3] at hf
      refine lv_aload_n hx hb dX5_isDigitNext_25 rfl (lv_at hl 0 rfl) ?_
      refine gR C0 w 220 fk_X5_9 (by decide +kernel) dX5_isDigitNext_26 ?_
      refine lv_aload_n hx hb dX5_isDigitNext_29 rfl (lv_at hl 0 rfl) ?_
      refine gI C0 w fk_X5_32 (by decide +kernel) dX5_isDigitNext_30 ?_
      obtain ⟨g4, hf⟩ := gdE hf
      refine aB C0 w (n := 120) (by decide +kernel) (inbE g4) dX5_isDigitNext_33 ?_
      refine lv_bipush (v := 57) hx hb dX5_isDigitNext_34 (by decide) ?_
      refine lv_icmp_gt (tgt := 43) hx hb dX5_isDigitNext_36 (by decide) (fun c5 => ?_) (fun c5 => ?_)
      · rw [if_pos c5] at hf
        refine lv_iconst (v := 0) hx hb dX5_isDigitNext_43 (by decide) ?_
        obtain rfl := Option.some.inj hf
        exact eI C0 hr w (bzE (x := 0) (by decide)) dX5_isDigitNext_44
      · rw [if_neg c5] at hf
        refine lv_iconst (v := 1) hx hb dX5_isDigitNext_39 (by decide) ?_
        refine lv_goto (tgt := 44) hx hb dX5_isDigitNext_40 (by decide) ?_
        obtain rfl := Option.some.inj hf
        exact eI C0 hr w (bzE (x := 1) (by decide)) dX5_isDigitNext_44
def f_X5_readNumber_4 : Nat → Int32 → Int32 → Mem → Option (Int32 × Mem)
  | 0, _, _, _ => none
  | n + 1, x1, x2, σ =>
    if 6 ≤ x2 then (
      some ((x1, σ)))
    else (
      bd (f_X5_isDigitNext σ) (fun q2 =>
      if q2 = 0 then (
        some ((x1, σ)))
      else (
        gd (inb (σ.1 219 6) 120) (
        f_X5_readNumber_4 n (((10 * x1) + (σ.1 220 (σ.1 219 6).toNatClampNeg)) - 48) (x2 + 1) (setI σ 219 6 ((σ.1 219 6) + 1))))))
def f_X5_readNumber (σ : Mem) : Option (Int32 × Mem) :=
  bd (f_X5_readNumber_4 100000 0 0 σ) (fun q1 =>
  some ((q1.1, q1.2)))
abbrev rm_X5_readNumber : Room := { frames := 1, cells := 0, slots := 0, locals := 20 }
set_option maxHeartbeats 4000000 in
set_option maxRecDepth 100000 in
theorem lp_X5_readNumber_4 {p : Program} {e : Env} {s : State} {m : MethodId} {args : Array Value} {below : List Frame} {meth : Method} {c : Code} {Q : State → Prop} (l : Launch) (B : Wb) (C0 : Cx p s m args meth c cX5_readNumber 3 RX5) : ∀ (n : Nat) (x1 : Int32) (x2 : Int32) (σ : Mem) (o : Int32 × Mem) (H : Heap) (locs : List Loc) (ls : Array Slot), f_X5_readNumber_4 n x1 x2 σ = some o → Wx B σ s H locs → lv_has ls 3 [(0, .ref (wA B 219)), (1, .int x1), (2, .int x2)] → (∀ (H : Heap) (locs : List Loc) (ls : Array Slot), Wx B o.2 s H locs → lv_has ls 3 [(1, .int o.1)] → W p l e rm_X5_readNumber s m args below meth c H locs 0 0 Q (F0 m 51 ls [])) → W p l e rm_X5_readNumber s m args below meth c H locs 0 0 Q (F0 m 4 ls []) := by
  have hx := C0.1.1
  have hb := C0.1.2.1
  intro n
  induction n with
  | zero =>
    intro x1 x2 σ o H locs ls hf w hl hK
    cases hf
  | succ n ih =>
    intro x1 x2 σ o H locs ls hf w hl hK
    rw [f_X5_readNumber_4] at hf
    refine lv_iload_n hx hb dX5_readNumber_4 rfl (lv_at hl 2 rfl) ?_
    refine lv_bipush (v := 6) hx hb dX5_readNumber_5 (by decide) ?_
    refine lv_icmp_ge (tgt := 51) hx hb dX5_readNumber_7 (by decide) (fun c1 => ?_) (fun c1 => ?_)
    · rw [if_pos c1] at hf
      obtain rfl := Option.some.inj hf
      exact hK _ _ _ w (lv_sub hl [1] rfl)
    · rw [if_neg c1] at hf
      refine lv_aload_n hx hb dX5_readNumber_10 rfl (lv_at hl 0 rfl) ?_
      obtain ⟨q2, h3, hf⟩ := bdE hf
      refine cV (As := []) (rest := []) (k := 219) (ci := 4) (T := TX5) (N := 7) C0 w (m_X5_isDigitNext l B _ σ q2 h3) ky_X5_isDigitNext kv_X5_isDigitNext lk_X5_56 rfl (by decide +kernel) ⟨Nat.le_of_ble_eq_true rfl, Nat.le_of_ble_eq_true rfl⟩ ⟨Nat.le_of_ble_eq_true rfl, Nat.le_of_ble_eq_true rfl⟩ rfl (by rfl) (Nat.le_of_ble_eq_true rfl) hl.1 dX5_readNumber_11 (fun H locs w => ?_)
      refine lv_if_eq (tgt := 51) hx hb dX5_readNumber_14 (by decide) (fun c4 => ?_) (fun c4 => ?_)
      · rw [if_pos c4] at hf
        obtain rfl := Option.some.inj hf
        exact hK _ _ _ w (lv_sub hl [1] rfl)
      · rw [if_neg c4] at hf
        refine lv_bipush (v := 10) hx hb dX5_readNumber_17 (by decide) ?_
        refine lv_iload_n hx hb dX5_readNumber_19 rfl (lv_at hl 1 rfl) ?_
        refine lv_imul hx hb dX5_readNumber_20 ?_
        refine lv_aload_n hx hb dX5_readNumber_21 rfl (lv_at hl 0 rfl) ?_
        refine gR C0 w 220 fk_X5_9 (by decide +kernel) dX5_readNumber_22 ?_
        refine lv_aload_n hx hb dX5_readNumber_25 rfl (lv_at hl 0 rfl) ?_
        refine gI C0 w fk_X5_32 (by decide +kernel) dX5_readNumber_26 ?_
        obtain ⟨g5, hf⟩ := gdE hf
        refine aB C0 w (n := 120) (by decide +kernel) (inbE g5) dX5_readNumber_29 ?_
        refine lv_iadd hx hb dX5_readNumber_30 ?_
        refine lv_bipush (v := 48) hx hb dX5_readNumber_31 (by decide) ?_
        refine lv_isub hx hb dX5_readNumber_33 ?_
        refine lv_istore_n (lv' := [(1, .int (((10 * x1) + (σ.1 220 (σ.1 219 6).toNatClampNeg)) - 48)), (0, .ref (wA B 219)), (2, .int x2)]) hx hb dX5_readNumber_34 rfl hl (by decide) rfl (fun ls hl => ?_)
        refine lv_aload_n hx hb dX5_readNumber_35 rfl (lv_at hl 1 rfl) ?_
        refine lv_dup hx hb dX5_readNumber_36 rfl ?_
        refine gI C0 w fk_X5_32 (by decide +kernel) dX5_readNumber_37 ?_
        refine lv_iconst (v := 1) hx hb dX5_readNumber_40 (by decide) ?_
        refine lv_iadd hx hb dX5_readNumber_41 ?_
        refine pI C0 w fk_X5_32 fp_X5_6 (by decide +kernel) dX5_readNumber_42 (fun H locs w => ?_)
        refine lv_iinc (k := 2) (v := x2 + 1) (lv' := [(2, .int (x2 + 1)), (1, .int (((10 * x1) + (σ.1 220 (σ.1 219 6).toNatClampNeg)) - 48)), (0, .ref (wA B 219))]) hx hb dX5_readNumber_45 hl rfl (by rfl) (by decide) rfl (fun ls hl => ?_)
        refine lv_goto (tgt := 4) hx hb dX5_readNumber_48 (by decide) ?_
        exact ih (((10 * x1) + (σ.1 220 (σ.1 219 6).toNatClampNeg)) - 48) (x2 + 1) (setI σ 219 6 ((σ.1 219 6) + 1)) _ _ _ _ hf w (lv_sub hl [2, 1, 0] rfl) hK
set_option maxHeartbeats 4000000 in
set_option maxRecDepth 100000 in
theorem m_X5_readNumber (l : Launch) (B : Wb) (sz : Nat) (σ : Mem) (q : Int32 × Mem) (hf : f_X5_readNumber σ = some q) : MetC l yX5_readNumber cX5_readNumber 3 (some .int) rm_X5_readNumber B sz σ q.2 [.ref (wA B 219)] (some (.int q.1)) := by
  refine met_in (by decide +kernel) (Nat.le_of_ble_eq_true rfl) ?_
  intro p e s m below meth c C0 hr w hsz ls hl
  have hx := C0.1.1
  have hb := C0.1.2.1
  unfold f_X5_readNumber at hf
  refine lv_iconst (v := 0) hx hb dX5_readNumber_0 (by decide) ?_
  refine lv_istore_n (lv' := [(1, .int 0), (0, .ref (wA B 219))]) hx hb dX5_readNumber_1 rfl hl (by decide) rfl (fun ls hl => ?_)
  refine lv_iconst (v := 0) hx hb dX5_readNumber_2 (by decide) ?_
  refine lv_istore_n (lv' := [(2, .int 0), (1, .int 0), (0, .ref (wA B 219))]) hx hb dX5_readNumber_3 rfl hl (by decide) rfl (fun ls hl => ?_)
  obtain ⟨q1, h2, hf⟩ := bdE hf
  refine lp_X5_readNumber_4 l B C0 100000 0 0 σ q1 _ _ _ h2 w (lv_sub hl [2, 1, 0] rfl) (fun H locs ls w hl => ?_)
  refine lv_iload_n hx hb dX5_readNumber_51 rfl (lv_at hl 0 rfl) ?_
  obtain rfl := Option.some.inj hf
  exact eI C0 hr w rfl dX5_readNumber_52
def f_X5_readCommand_27 (x2 : Int32) : Nat → Int32 → Mem → Option ((Int32 × Mem) ⊕ (Mem))
  | 0, _, _ => none
  | n + 1, x3, σ =>
    gd (inb x2 8) (
    if (nums x2) ≤ x3 then (
      some (.inr σ))
    else (
      bd (f_X5_skipSpaces σ) (fun q3 =>
      if q3.1 = 0 then (
        some (.inl ((q3.2.1 219 6, q3.2))))
      else (
        bd (f_X5_isDigitNext q3.2) (fun q6 =>
        if q6 = 0 then (
          some (.inl ((q3.2.1 219 6, q3.2))))
        else (
          bd (f_X5_readNumber q3.2) (fun q9 =>
          if x3 = 0 then (
            gd (inb (q9.2.1 219 5) 120) (
            f_X5_readCommand_27 x2 n (x3 + 1) (setI q9.2 222 ((q9.2.1 219 5).toNatClampNeg) q9.1)))
          else (
            gd (inb (q9.2.1 219 5) 120) (
            f_X5_readCommand_27 x2 n (x3 + 1) (setI q9.2 223 ((q9.2.1 219 5).toNatClampNeg) q9.1))))))))))
def f_X5_readCommand (σ : Mem) : Option (Int32 × Mem) :=
  bd (f_X5_skipLetters σ) (fun q1 =>
  bd (f_X5_wordBetween (σ.1 219 6) (q1.1 219 6) q1) (fun q3 =>
  if q3 < 0 then (
    some ((σ.1 219 6, q1)))
  else (
    bd (f_X5_readCommand_27 q3 100000 0 q1) (fun q6 =>
    sm q6 (fun q8 =>
    bd (f_X5_skipSpaces q8) (fun q9 =>
    if (q9.2.1 219 1) ≤ (q9.2.1 219 6) then (
      some ((q9.2.1 219 6, q9.2)))
    else (
      gd (inb (q9.2.1 219 6) 120) (
      if (q9.2.1 220 (q9.2.1 219 6).toNatClampNeg) = 59 then (
        gd (inb ((setI q9.2 219 6 ((q9.2.1 219 6) + 1)).1 219 5) 120) (
        gd (inb q3 8) (
        bd (some (setI (setI (setI q9.2 219 6 ((q9.2.1 219 6) + 1)) 221 (((setI q9.2 219 6 ((q9.2.1 219 6) + 1)).1 219 5).toNatClampNeg) q3) 219 5 (((setI (setI q9.2 219 6 ((q9.2.1 219 6) + 1)) 221 (((setI q9.2 219 6 ((q9.2.1 219 6) + 1)).1 219 5).toNatClampNeg) q3).1 219 5) + 1))) (fun q16 =>
        some (((-1 : Int32), q16))))))
      else (
        some ((q9.2.1 219 6, q9.2)))))))))))
abbrev rm_X5_readCommand : Room := { frames := 6, cells := 0, slots := 0, locals := 133 }
set_option maxHeartbeats 4000000 in
set_option maxRecDepth 100000 in
theorem lp_X5_readCommand_27 {p : Program} {e : Env} {s : State} {m : MethodId} {args : Array Value} {below : List Frame} {meth : Method} {c : Code} {Q : State → Prop} (l : Launch) (B : Wb) (C0 : Cx p s m args meth c cX5_readCommand 5 RX5) (hr : meth.sig.returnType = (some .int)) (x2 : Int32) : ∀ (n : Nat) (x3 : Int32) (σ : Mem) (o : (Int32 × Mem) ⊕ (Mem)) (H : Heap) (locs : List Loc) (ls : Array Slot), f_X5_readCommand_27 x2 n x3 σ = some o → Wx B σ s H locs → lv_has ls 5 [(0, .ref (wA B 219)), (2, .ref (wE B x2.toNatClampNeg)), (3, .int x3)] → (∀ r9, o = .inl r9 → Q = MQ below (Qo B r9.2 (some (.int r9.1)) (own B s.heap.size)) args s 0 0 (own B s.heap.size)) → (∀ (o9 : Mem) (_ : o = .inr o9) (H : Heap) (locs : List Loc) (ls : Array Slot), Wx B o9 s H locs → lv_has ls 5 [(0, .ref (wA B 219)), (2, .ref (wE B x2.toNatClampNeg))] → W p l e rm_X5_readCommand s m args below meth c H locs 0 0 Q (F0 m 95 ls [])) → W p l e rm_X5_readCommand s m args below meth c H locs 0 0 Q (F0 m 27 ls []) := by
  have hx := C0.1.1
  have hb := C0.1.2.1
  intro n
  induction n with
  | zero =>
    intro x3 σ o H locs ls hf w hl hR hK
    cases hf
  | succ n ih =>
    intro x3 σ o H locs ls hf w hl hR hK
    rw [f_X5_readCommand_27] at hf
    refine lv_iload_n hx hb dX5_readCommand_27 rfl (lv_at hl 2 rfl) ?_
    refine lv_aload_n hx hb dX5_readCommand_28 rfl (lv_at hl 1 rfl) ?_
    obtain ⟨g1, hf⟩ := gdE hf
    refine zNums (host := RX11) C0 w g1 (by decide +kernel) dX5_readCommand_29 ?_
    refine lv_icmp_ge (tgt := 95) hx hb dX5_readCommand_32 (by decide) (fun c2 => ?_) (fun c2 => ?_)
    · rw [if_pos c2] at hf
      obtain rfl := Option.some.inj hf
      exact hK _ rfl _ _ _ w (lv_sub hl [0, 1] rfl)
    · rw [if_neg c2] at hf
      refine lv_aload_n hx hb dX5_readCommand_35 rfl (lv_at hl 0 rfl) ?_
      obtain ⟨q3, h4, hf⟩ := bdE hf
      refine cV (As := []) (rest := []) (k := 219) (ci := 4) (T := TX5) (N := 7) C0 w (m_X5_skipSpaces l B _ σ q3 h4) ky_X5_skipSpaces kv_X5_skipSpaces lk_X5_38 rfl (by decide +kernel) ⟨Nat.le_of_ble_eq_true rfl, Nat.le_of_ble_eq_true rfl⟩ ⟨Nat.le_of_ble_eq_true rfl, Nat.le_of_ble_eq_true rfl⟩ rfl (by rfl) (Nat.le_of_ble_eq_true rfl) hl.1 dX5_readCommand_36 (fun H locs w => ?_)
      refine lv_if_eq (tgt := 49) hx hb dX5_readCommand_39 (by decide) (fun c5 => ?_) (fun c5 => ?_)
      · rw [if_pos c5] at hf
        refine lv_aload_n hx hb dX5_readCommand_49 rfl (lv_at hl 0 rfl) ?_
        refine gI C0 w fk_X5_32 (by decide +kernel) dX5_readCommand_50 ?_
        obtain rfl := Option.some.inj hf
        rw [hR _ rfl]
        exact eI C0 hr w rfl dX5_readCommand_53
      · rw [if_neg c5] at hf
        refine lv_aload_n hx hb dX5_readCommand_42 rfl (lv_at hl 0 rfl) ?_
        obtain ⟨q6, h7, hf⟩ := bdE hf
        refine cV (As := []) (rest := []) (k := 219) (ci := 4) (T := TX5) (N := 7) C0 w (m_X5_isDigitNext l B _ q3.2 q6 h7) ky_X5_isDigitNext kv_X5_isDigitNext lk_X5_56 rfl (by decide +kernel) ⟨Nat.le_of_ble_eq_true rfl, Nat.le_of_ble_eq_true rfl⟩ ⟨Nat.le_of_ble_eq_true rfl, Nat.le_of_ble_eq_true rfl⟩ rfl (by rfl) (Nat.le_of_ble_eq_true rfl) hl.1 dX5_readCommand_43 (fun H locs w => ?_)
        refine lv_if_ne (tgt := 54) hx hb dX5_readCommand_46 (by decide) (fun c8 => ?_) (fun c8 => ?_)
        · rw [if_neg c8] at hf
          refine lv_aload_n hx hb dX5_readCommand_54 rfl (lv_at hl 0 rfl) ?_
          obtain ⟨q9, h10, hf⟩ := bdE hf
          refine cV (As := []) (rest := []) (k := 219) (ci := 4) (T := TX5) (N := 7) C0 w (m_X5_readNumber l B _ q3.2 q9 h10) ky_X5_readNumber kv_X5_readNumber lk_X5_59 rfl (by decide +kernel) ⟨Nat.le_of_ble_eq_true rfl, Nat.le_of_ble_eq_true rfl⟩ ⟨Nat.le_of_ble_eq_true rfl, Nat.le_of_ble_eq_true rfl⟩ rfl (by rfl) (Nat.le_of_ble_eq_true rfl) hl.1 dX5_readCommand_55 (fun H locs w => ?_)
          refine lv_istore (lv' := [(4, .int q9.1), (0, .ref (wA B 219)), (2, .ref (wE B x2.toNatClampNeg)), (3, .int x3)]) hx hb dX5_readCommand_58 hl (by decide) rfl (fun ls hl => ?_)
          refine lv_iload_n hx hb dX5_readCommand_60 rfl (lv_at hl 3 rfl) ?_
          refine lv_if_ne (tgt := 78) hx hb dX5_readCommand_61 (by decide) (fun c11 => ?_) (fun c11 => ?_)
          · rw [if_neg c11] at hf
            refine lv_aload_n hx hb dX5_readCommand_78 rfl (lv_at hl 1 rfl) ?_
            refine gR C0 w 223 fk_X5_25 (by decide +kernel) dX5_readCommand_79 ?_
            refine lv_aload_n hx hb dX5_readCommand_82 rfl (lv_at hl 1 rfl) ?_
            refine gI C0 w fk_X5_35 (by decide +kernel) dX5_readCommand_83 ?_
            refine lv_iload hx hb dX5_readCommand_86 (lv_at hl 0 rfl) ?_
            obtain ⟨g12, hf⟩ := gdE hf
            refine sI C0 w (n := 120) (by decide +kernel) (inbE g12) dX5_readCommand_88 (fun H locs w => ?_)
            refine lv_iinc (k := 3) (v := x3 + 1) (lv' := [(3, .int (x3 + 1)), (4, .int q9.1), (0, .ref (wA B 219)), (2, .ref (wE B x2.toNatClampNeg))]) hx hb dX5_readCommand_89 hl rfl (by rfl) (by decide) rfl (fun ls hl => ?_)
            refine lv_goto (tgt := 27) hx hb dX5_readCommand_92 (by decide) ?_
            exact ih (x3 + 1) (setI q9.2 223 ((q9.2.1 219 5).toNatClampNeg) q9.1) _ _ _ _ hf w (lv_sub hl [2, 3, 0] rfl) hR hK
          · rw [if_pos c11] at hf
            refine lv_aload_n hx hb dX5_readCommand_64 rfl (lv_at hl 1 rfl) ?_
            refine gR C0 w 222 fk_X5_21 (by decide +kernel) dX5_readCommand_65 ?_
            refine lv_aload_n hx hb dX5_readCommand_68 rfl (lv_at hl 1 rfl) ?_
            refine gI C0 w fk_X5_35 (by decide +kernel) dX5_readCommand_69 ?_
            refine lv_iload hx hb dX5_readCommand_72 (lv_at hl 0 rfl) ?_
            obtain ⟨g13, hf⟩ := gdE hf
            refine sI C0 w (n := 120) (by decide +kernel) (inbE g13) dX5_readCommand_74 (fun H locs w => ?_)
            refine lv_goto (tgt := 89) hx hb dX5_readCommand_75 (by decide) ?_
            refine lv_iinc (k := 3) (v := x3 + 1) (lv' := [(3, .int (x3 + 1)), (4, .int q9.1), (0, .ref (wA B 219)), (2, .ref (wE B x2.toNatClampNeg))]) hx hb dX5_readCommand_89 hl rfl (by rfl) (by decide) rfl (fun ls hl => ?_)
            refine lv_goto (tgt := 27) hx hb dX5_readCommand_92 (by decide) ?_
            exact ih (x3 + 1) (setI q9.2 222 ((q9.2.1 219 5).toNatClampNeg) q9.1) _ _ _ _ hf w (lv_sub hl [2, 3, 0] rfl) hR hK
        · rw [if_pos c8] at hf
          refine lv_aload_n hx hb dX5_readCommand_49 rfl (lv_at hl 0 rfl) ?_
          refine gI C0 w fk_X5_32 (by decide +kernel) dX5_readCommand_50 ?_
          obtain rfl := Option.some.inj hf
          rw [hR _ rfl]
          exact eI C0 hr w rfl dX5_readCommand_53
set_option maxHeartbeats 4000000 in
set_option maxRecDepth 100000 in
theorem m_X5_readCommand (l : Launch) (B : Wb) (sz : Nat) (σ : Mem) (q : Int32 × Mem) (hf : f_X5_readCommand σ = some q) : MetC l yX5_readCommand cX5_readCommand 5 (some .int) rm_X5_readCommand B sz σ q.2 [.ref (wA B 219)] (some (.int q.1)) := by
  refine met_in (by decide +kernel) (Nat.le_of_ble_eq_true rfl) ?_
  intro p e s m below meth c C0 hr w hsz ls hl
  have hx := C0.1.1
  have hb := C0.1.2.1
  unfold f_X5_readCommand at hf
  refine lv_aload_n hx hb dX5_readCommand_0 rfl (lv_at hl 0 rfl) ?_
  refine gI C0 w fk_X5_32 (by decide +kernel) dX5_readCommand_1 ?_
  refine lv_istore_n (lv' := [(1, .int (σ.1 219 6)), (0, .ref (wA B 219))]) hx hb dX5_readCommand_4 rfl hl (by decide) rfl (fun ls hl => ?_)
  refine lv_aload_n hx hb dX5_readCommand_5 rfl (lv_at hl 1 rfl) ?_
  obtain ⟨q1, h2, hf⟩ := bdE hf
  refine cV (As := []) (rest := []) (k := 219) (ci := 4) (T := TX5) (N := 7) C0 w (m_X5_skipLetters l B _ σ q1 h2) ky_X5_skipLetters kv_X5_skipLetters lk_X5_46 rfl (by decide +kernel) ⟨Nat.le_of_ble_eq_true rfl, Nat.le_of_ble_eq_true rfl⟩ ⟨Nat.le_of_ble_eq_true rfl, Nat.le_of_ble_eq_true rfl⟩ rfl (by rfl) (Nat.le_of_ble_eq_true rfl) hl.1 dX5_readCommand_6 (fun H locs w => ?_)
  refine lv_aload_n hx hb dX5_readCommand_9 rfl (lv_at hl 1 rfl) ?_
  refine lv_iload_n hx hb dX5_readCommand_10 rfl (lv_at hl 0 rfl) ?_
  refine lv_aload_n hx hb dX5_readCommand_11 rfl (lv_at hl 1 rfl) ?_
  refine gI C0 w fk_X5_32 (by decide +kernel) dX5_readCommand_12 ?_
  obtain ⟨q3, h4, hf⟩ := bdE hf
  refine cV (As := [.int (σ.1 219 6), .int (q1.1 219 6)]) (rest := []) (k := 219) (ci := 4) (T := TX5) (N := 7) C0 w (m_X5_wordBetween l B _ q1 (σ.1 219 6) (q1.1 219 6) q3 h4) ky_X5_wordBetween kv_X5_wordBetween lk_X5_49 rfl (by decide +kernel) ⟨Nat.le_of_ble_eq_true rfl, Nat.le_of_ble_eq_true rfl⟩ ⟨Nat.le_of_ble_eq_true rfl, Nat.le_of_ble_eq_true rfl⟩ rfl (by rfl) (Nat.le_of_ble_eq_true rfl) hl.1 dX5_readCommand_15 (fun H locs w => ?_)
  refine stW_n (lv' := [(2, wv B q3), (1, .int (σ.1 219 6)), (0, .ref (wA B 219))]) C0 dX5_readCommand_18 rfl hl (by decide) rfl (fun ls hl => ?_)
  refine ldW_n C0 dX5_readCommand_19 rfl (lv_at hl 0 rfl) ?_
  refine wNN (x := q3) (tgt := 25) C0 dX5_readCommand_20 (by decide) (fun c5 => ?_) (fun c5 => ?_)
  · rw [if_neg c5] at hf
    rw [wvR c5] at hl
    refine lv_iconst (v := 0) hx hb dX5_readCommand_25 (by decide) ?_
    refine lv_istore_n (lv' := [(3, .int 0), (2, .ref (wE B q3.toNatClampNeg)), (1, .int (σ.1 219 6)), (0, .ref (wA B 219))]) hx hb dX5_readCommand_26 rfl hl (by decide) rfl (fun ls hl => ?_)
    obtain ⟨q6, h7, hf⟩ := bdE hf
    refine lp_X5_readCommand_27 l B C0 hr q3 100000 0 q1 q6 _ _ _ h7 w (lv_sub hl [3, 1, 0] rfl) (fun r9 h9 => by subst h9; cases hf; rfl) (fun q8 h9 H locs ls w hl => ?_)
    subst h9
    have hf := smE hf
    refine lv_aload_n hx hb dX5_readCommand_95 rfl (lv_at hl 0 rfl) ?_
    obtain ⟨q9, h10, hf⟩ := bdE hf
    refine cV (As := []) (rest := []) (k := 219) (ci := 4) (T := TX5) (N := 7) C0 w (m_X5_skipSpaces l B _ q8 q9 h10) ky_X5_skipSpaces kv_X5_skipSpaces lk_X5_38 rfl (by decide +kernel) ⟨Nat.le_of_ble_eq_true rfl, Nat.le_of_ble_eq_true rfl⟩ ⟨Nat.le_of_ble_eq_true rfl, Nat.le_of_ble_eq_true rfl⟩ rfl (by rfl) (Nat.le_of_ble_eq_true rfl) hl.1 dX5_readCommand_96 (fun H locs w => ?_)
    refine lv_pop hx hb dX5_readCommand_99 rfl ?_
    refine lv_aload_n hx hb dX5_readCommand_100 rfl (lv_at hl 0 rfl) ?_
    refine gI C0 w fk_X5_32 (by decide +kernel) dX5_readCommand_101 ?_
    refine lv_aload_n hx hb dX5_readCommand_104 rfl (lv_at hl 0 rfl) ?_
    refine gI C0 w fk_X5_28 (by decide +kernel) dX5_readCommand_105 ?_
    refine lv_icmp_ge (tgt := 125) hx hb dX5_readCommand_108 (by decide) (fun c11 => ?_) (fun c11 => ?_)
    · rw [if_pos c11] at hf
      refine lv_aload_n hx hb dX5_readCommand_125 rfl (lv_at hl 0 rfl) ?_
      refine gI C0 w fk_X5_32 (by decide +kernel) dX5_readCommand_126 ?_
      obtain rfl := Option.some.inj hf
      exact eI C0 hr w rfl dX5_readCommand_129
    · rw [if_neg c11] at hf
      refine lv_aload_n hx hb dX5_readCommand_111 rfl (lv_at hl 0 rfl) ?_
      refine gR C0 w 220 fk_X5_9 (by decide +kernel) dX5_readCommand_112 ?_
      refine lv_aload_n hx hb dX5_readCommand_115 rfl (lv_at hl 0 rfl) ?_
      refine gI C0 w fk_X5_32 (by decide +kernel) dX5_readCommand_116 ?_
      obtain ⟨g12, hf⟩ := gdE hf
      refine aB C0 w (n := 120) (by decide +kernel) (inbE g12) dX5_readCommand_119 ?_
      refine lv_bipush (v := 59) hx hb dX5_readCommand_120 (by decide) ?_
      refine lv_icmp_eq (tgt := 130) hx hb dX5_readCommand_122 (by decide) (fun c13 => ?_) (fun c13 => ?_)
      · rw [if_pos c13] at hf
        refine lv_aload_n hx hb dX5_readCommand_130 rfl (lv_at hl 0 rfl) ?_
        refine lv_dup hx hb dX5_readCommand_131 rfl ?_
        refine gI C0 w fk_X5_32 (by decide +kernel) dX5_readCommand_132 ?_
        refine lv_iconst (v := 1) hx hb dX5_readCommand_135 (by decide) ?_
        refine lv_iadd hx hb dX5_readCommand_136 ?_
        refine pI C0 w fk_X5_32 fp_X5_6 (by decide +kernel) dX5_readCommand_137 (fun H locs w => ?_)
        refine lv_aload_n hx hb dX5_readCommand_140 rfl (lv_at hl 0 rfl) ?_
        refine gR C0 w 221 fk_X5_17 (by decide +kernel) dX5_readCommand_141 ?_
        refine lv_aload_n hx hb dX5_readCommand_144 rfl (lv_at hl 0 rfl) ?_
        refine gI C0 w fk_X5_35 (by decide +kernel) dX5_readCommand_145 ?_
        refine lv_aload_n hx hb dX5_readCommand_148 rfl (lv_at hl 1 rfl) ?_
        obtain ⟨g14, hf⟩ := gdE hf
        obtain ⟨g15, hf⟩ := gdE hf
        refine sW C0 w (n := 120) (by decide +kernel) (inbE g14) g15 dX5_readCommand_149 (fun H locs w => ?_)
        refine lv_aload_n hx hb dX5_readCommand_150 rfl (lv_at hl 0 rfl) ?_
        refine lv_dup hx hb dX5_readCommand_151 rfl ?_
        refine gI C0 w fk_X5_35 (by decide +kernel) dX5_readCommand_152 ?_
        refine lv_iconst (v := 1) hx hb dX5_readCommand_155 (by decide) ?_
        refine lv_iadd hx hb dX5_readCommand_156 ?_
        refine pI C0 w fk_X5_35 fp_X5_5 (by decide +kernel) dX5_readCommand_157 (fun H locs w => ?_)
        obtain ⟨q16, h17, hf⟩ := bdE hf
        have w : Wx B q16 s H locs := by rw [← Option.some.inj h17]; exact w
        refine lv_iconst (v := (-1)) hx hb dX5_readCommand_160 (by decide) ?_
        obtain rfl := Option.some.inj hf
        exact eI C0 hr w rfl dX5_readCommand_161
      · rw [if_neg c13] at hf
        refine lv_aload_n hx hb dX5_readCommand_125 rfl (lv_at hl 0 rfl) ?_
        refine gI C0 w fk_X5_32 (by decide +kernel) dX5_readCommand_126 ?_
        obtain rfl := Option.some.inj hf
        exact eI C0 hr w rfl dX5_readCommand_129
  · rw [if_pos c5] at hf
    refine lv_iload_n hx hb dX5_readCommand_23 rfl (lv_at hl 1 rfl) ?_
    obtain rfl := Option.some.inj hf
    exact eI C0 hr w rfl dX5_readCommand_24
def f_X5_parse_14 : Nat → Int32 → Int32 → Mem → Option (Int32 × Mem)
  | 0, _, _, _ => none
  | n + 1, x1, x2, σ =>
    if 120 ≤ x2 then (
      some ((x1, σ)))
    else (
      if x1 = ((-1 : Int32)) then (
        bd (f_X5_skipSpaces σ) (fun q3 =>
        if (q3.2.1 219 6) < (q3.2.1 219 1) then (
          bd (f_X5_readCommand q3.2) (fun q6 =>
          f_X5_parse_14 n q6.1 (x2 + 1) q6.2))
        else (
          some ((x1, q3.2)))))
      else (
        some ((x1, σ))))
def f_X5_parse (σ : Mem) : Option (Int32 × Mem) :=
  bd (f_X5_parse_14 100000 ((-1 : Int32)) 0 (setI (setI σ 219 6 0) 219 5 0)) (fun q1 =>
  some ((q1.1, q1.2)))
abbrev rm_X5_parse : Room := { frames := 7, cells := 0, slots := 0, locals := 157 }
set_option maxHeartbeats 4000000 in
set_option maxRecDepth 100000 in
theorem lp_X5_parse_14 {p : Program} {e : Env} {s : State} {m : MethodId} {args : Array Value} {below : List Frame} {meth : Method} {c : Code} {Q : State → Prop} (l : Launch) (B : Wb) (C0 : Cx p s m args meth c cX5_parse 3 RX5) : ∀ (n : Nat) (x1 : Int32) (x2 : Int32) (σ : Mem) (o : Int32 × Mem) (H : Heap) (locs : List Loc) (ls : Array Slot), f_X5_parse_14 n x1 x2 σ = some o → Wx B σ s H locs → lv_has ls 3 [(0, .ref (wA B 219)), (1, .int x1), (2, .int x2)] → (∀ (H : Heap) (locs : List Loc) (ls : Array Slot), Wx B o.2 s H locs → lv_has ls 3 [(1, .int o.1)] → W p l e rm_X5_parse s m args below meth c H locs 0 0 Q (F0 m 55 ls [])) → W p l e rm_X5_parse s m args below meth c H locs 0 0 Q (F0 m 14 ls []) := by
  have hx := C0.1.1
  have hb := C0.1.2.1
  intro n
  induction n with
  | zero =>
    intro x1 x2 σ o H locs ls hf w hl hK
    cases hf
  | succ n ih =>
    intro x1 x2 σ o H locs ls hf w hl hK
    rw [f_X5_parse_14] at hf
    refine lv_iload_n hx hb dX5_parse_14 rfl (lv_at hl 2 rfl) ?_
    refine lv_bipush (v := 120) hx hb dX5_parse_15 (by decide) ?_
    refine lv_icmp_ge (tgt := 55) hx hb dX5_parse_17 (by decide) (fun c1 => ?_) (fun c1 => ?_)
    · rw [if_pos c1] at hf
      obtain rfl := Option.some.inj hf
      exact hK _ _ _ w (lv_sub hl [1] rfl)
    · rw [if_neg c1] at hf
      refine lv_iload_n hx hb dX5_parse_20 rfl (lv_at hl 1 rfl) ?_
      refine lv_iconst (v := (-1)) hx hb dX5_parse_21 (by decide) ?_
      refine lv_icmp_ne (tgt := 55) hx hb dX5_parse_22 (by decide) (fun c2 => ?_) (fun c2 => ?_)
      · rw [if_neg c2] at hf
        obtain rfl := Option.some.inj hf
        exact hK _ _ _ w (lv_sub hl [1] rfl)
      · rw [if_pos c2] at hf
        refine lv_aload_n hx hb dX5_parse_25 rfl (lv_at hl 0 rfl) ?_
        obtain ⟨q3, h4, hf⟩ := bdE hf
        refine cV (As := []) (rest := []) (k := 219) (ci := 4) (T := TX5) (N := 7) C0 w (m_X5_skipSpaces l B _ σ q3 h4) ky_X5_skipSpaces kv_X5_skipSpaces lk_X5_38 rfl (by decide +kernel) ⟨Nat.le_of_ble_eq_true rfl, Nat.le_of_ble_eq_true rfl⟩ ⟨Nat.le_of_ble_eq_true rfl, Nat.le_of_ble_eq_true rfl⟩ rfl (by rfl) (Nat.le_of_ble_eq_true rfl) hl.1 dX5_parse_26 (fun H locs w => ?_)
        refine lv_pop hx hb dX5_parse_29 rfl ?_
        refine lv_aload_n hx hb dX5_parse_30 rfl (lv_at hl 0 rfl) ?_
        refine gI C0 w fk_X5_32 (by decide +kernel) dX5_parse_31 ?_
        refine lv_aload_n hx hb dX5_parse_34 rfl (lv_at hl 0 rfl) ?_
        refine gI C0 w fk_X5_28 (by decide +kernel) dX5_parse_35 ?_
        refine lv_icmp_lt (tgt := 44) hx hb dX5_parse_38 (by decide) (fun c5 => ?_) (fun c5 => ?_)
        · rw [if_pos c5] at hf
          refine lv_aload_n hx hb dX5_parse_44 rfl (lv_at hl 0 rfl) ?_
          obtain ⟨q6, h7, hf⟩ := bdE hf
          refine cV (As := []) (rest := []) (k := 219) (ci := 4) (T := TX5) (N := 7) C0 w (m_X5_readCommand l B _ q3.2 q6 h7) ky_X5_readCommand kv_X5_readCommand lk_X5_42 rfl (by decide +kernel) ⟨Nat.le_of_ble_eq_true rfl, Nat.le_of_ble_eq_true rfl⟩ ⟨Nat.le_of_ble_eq_true rfl, Nat.le_of_ble_eq_true rfl⟩ rfl (by rfl) (Nat.le_of_ble_eq_true rfl) hl.1 dX5_parse_45 (fun H locs w => ?_)
          refine lv_istore_n (lv' := [(1, .int q6.1), (0, .ref (wA B 219)), (2, .int x2)]) hx hb dX5_parse_48 rfl hl (by decide) rfl (fun ls hl => ?_)
          refine lv_iinc (k := 2) (v := x2 + 1) (lv' := [(2, .int (x2 + 1)), (1, .int q6.1), (0, .ref (wA B 219))]) hx hb dX5_parse_49 hl rfl (by rfl) (by decide) rfl (fun ls hl => ?_)
          refine lv_goto (tgt := 14) hx hb dX5_parse_52 (by decide) ?_
          exact ih q6.1 (x2 + 1) q6.2 _ _ _ _ hf w (lv_sub hl [2, 1, 0] rfl) hK
        · rw [if_neg c5] at hf
          refine lv_goto (tgt := 55) hx hb dX5_parse_41 (by decide) ?_
          obtain rfl := Option.some.inj hf
          exact hK _ _ _ w (lv_sub hl [1] rfl)
set_option maxHeartbeats 4000000 in
set_option maxRecDepth 100000 in
theorem m_X5_parse (l : Launch) (B : Wb) (sz : Nat) (σ : Mem) (q : Int32 × Mem) (hf : f_X5_parse σ = some q) : MetC l yX5_parse cX5_parse 3 (some .int) rm_X5_parse B sz σ q.2 [.ref (wA B 219)] (some (.int q.1)) := by
  refine met_in (by decide +kernel) (Nat.le_of_ble_eq_true rfl) ?_
  intro p e s m below meth c C0 hr w hsz ls hl
  have hx := C0.1.1
  have hb := C0.1.2.1
  unfold f_X5_parse at hf
  refine lv_aload_n hx hb dX5_parse_0 rfl (lv_at hl 0 rfl) ?_
  refine lv_iconst (v := 0) hx hb dX5_parse_1 (by decide) ?_
  refine pI C0 w fk_X5_32 fp_X5_6 (by decide +kernel) dX5_parse_2 (fun H locs w => ?_)
  refine lv_aload_n hx hb dX5_parse_5 rfl (lv_at hl 0 rfl) ?_
  refine lv_iconst (v := 0) hx hb dX5_parse_6 (by decide) ?_
  refine pI C0 w fk_X5_35 fp_X5_5 (by decide +kernel) dX5_parse_7 (fun H locs w => ?_)
  refine lv_iconst (v := (-1)) hx hb dX5_parse_10 (by decide) ?_
  refine lv_istore_n (lv' := [(1, .int ((-1 : Int32))), (0, .ref (wA B 219))]) hx hb dX5_parse_11 rfl hl (by decide) rfl (fun ls hl => ?_)
  refine lv_iconst (v := 0) hx hb dX5_parse_12 (by decide) ?_
  refine lv_istore_n (lv' := [(2, .int 0), (1, .int ((-1 : Int32))), (0, .ref (wA B 219))]) hx hb dX5_parse_13 rfl hl (by decide) rfl (fun ls hl => ?_)
  obtain ⟨q1, h2, hf⟩ := bdE hf
  refine lp_X5_parse_14 l B C0 100000 ((-1 : Int32)) 0 (setI (setI σ 219 6 0) 219 5 0) q1 _ _ _ h2 w (lv_sub hl [2, 1, 0] rfl) (fun H locs ls w hl => ?_)
  refine lv_iload_n hx hb dX5_parse_55 rfl (lv_at hl 0 rfl) ?_
  obtain rfl := Option.some.inj hf
  exact eI C0 hr w rfl dX5_parse_56
def f_X11_isPossible (x1 : Int32) (x2 : Int32) (x3 : Int32) (σ : Mem) : Option (Int32) :=
  gd (inb x1 8) (
  gd (inb x1 8) (
  if (swOf x1) = 1 then (
    bd (f_X11_isRow x2 σ) (fun q4 =>
    if q4 = 0 then (
      some 0)
    else (
      bd (f_X11_isRow x3 σ) (fun q7 =>
      if q7 = 0 then (
        some 0)
      else (
        bd (f_X11_hasRoomForRay σ) (fun q10 =>
        if q10 = 0 then (
          some 0)
        else (
          some 1)))))))
  else (
  if (swOf x1) = 2 then (
    bd (f_X11_isCell x2 σ) (fun q14 =>
    if q14 = 0 then (
      some 0)
    else (
      bd (f_X11_isWithin x3 1 100000 σ) (fun q17 =>
      if q17 = 0 then (
        some 0)
      else (
        some 1)))))
  else (
  if (swOf x1) = 3 then (
    bd (f_X11_isCell x2 σ) (fun q21 =>
    if q21 = 0 then (
      some 0)
    else (
      bd (f_X11_isWithin x3 1 100000 σ) (fun q24 =>
      if q24 = 0 then (
        some 0)
      else (
        some 1)))))
  else (
  if (swOf x1) = 4 then (
    bd (f_X11_isWithin x2 0 1000 σ) (fun q28 =>
    gd (bz q28) (some q28)))
  else (
  if (swOf x1) = 5 then (
    bd (f_X11_isWithin x2 1 20 σ) (fun q32 =>
    gd (bz q32) (some q32)))
  else (
  if (swOf x1) = 6 then (
    bd (f_X11_isWithin x2 1 100 σ) (fun q36 =>
    gd (bz q36) (some q36)))
  else (
  if (swOf x1) = 7 then (
    some 1)
  else (
    bd (f_X11_isRay x2 σ) (fun q40 =>
    gd (bz q40) (some q40)))))))))))
abbrev rm_X11_isPossible : Room := { frames := 2, cells := 0, slots := 0, locals := 43 }
set_option maxHeartbeats 4000000 in
set_option maxRecDepth 100000 in
theorem m_X11_isPossible (l : Launch) (B : Wb) (sz : Nat) (σ : Mem) (x1 : Int32) (x2 : Int32) (x3 : Int32) (q : Int32) (hf : f_X11_isPossible x1 x2 x3 σ = some q) : MetC l yX11_isPossible cX11_isPossible 4 (some .boolean) rm_X11_isPossible B sz σ σ [.ref (wA B 0), .ref (wE B x1.toNatClampNeg), .int x2, .int x3] (some (.int q)) := by
  refine met_in (by decide +kernel) (Nat.le_of_ble_eq_true rfl) ?_
  intro p e s m below meth c C0 hr w hsz ls hl
  have hx := C0.1.1
  have hb := C0.1.2.1
  unfold f_X11_isPossible at hf
  refine zSW C0 w fk_X11_367 dX11_isPossible_0 ?_
  refine lv_aload_n hx hb dX11_isPossible_3 rfl (lv_at hl 1 rfl) ?_
  obtain ⟨g1, hf⟩ := gdE hf
  refine cOrd (rest := [.ref (wS B)]) C0 w g1 ⟨Nat.le_of_ble_eq_true rfl, Nat.le_of_ble_eq_true rfl⟩ ⟨Nat.le_of_ble_eq_true rfl, Nat.le_of_ble_eq_true rfl⟩ (Nat.le_of_ble_eq_true rfl) hl.1 dX11_isPossible_4 (fun H locs w => ?_)
  obtain ⟨g2, hf⟩ := gdE hf
  refine zSat C0 w g2 dX11_isPossible_7 ?_
  by_cases c3 : (swOf x1) = 1
  · rw [if_pos c3] at hf
    refine lv_tableIn (tgt := 52) hx hb dX11_isPossible_8 (by rw [c3]; decide) (by rw [c3]; decide) (by rw [c3]; rfl) (by decide) ?_
    refine lv_aload_n hx hb dX11_isPossible_52 rfl (lv_at hl 0 rfl) ?_
    refine lv_iload_n hx hb dX11_isPossible_53 rfl (lv_at hl 2 rfl) ?_
    obtain ⟨q4, h5, hf⟩ := bdE hf
    refine cV (As := [.int x2]) (rest := []) (k := 0) (ci := 9) (T := TX11) (N := 9) C0 w (m_X11_isRow l B _ σ x2 q4 h5) ky_X11_isRow kv_X11_isRow lk_X11_338 rfl (by decide +kernel) ⟨Nat.le_of_ble_eq_true rfl, Nat.le_of_ble_eq_true rfl⟩ ⟨Nat.le_of_ble_eq_true rfl, Nat.le_of_ble_eq_true rfl⟩ rfl (by rfl) (Nat.le_of_ble_eq_true rfl) hl.1 dX11_isPossible_54 (fun H locs w => ?_)
    refine lv_if_eq (tgt := 79) hx hb dX11_isPossible_57 (by decide) (fun c6 => ?_) (fun c6 => ?_)
    · rw [if_pos c6] at hf
      refine lv_iconst (v := 0) hx hb dX11_isPossible_79 (by decide) ?_
      obtain rfl := Option.some.inj hf
      exact eI C0 hr w (bzE (x := 0) (by decide)) dX11_isPossible_80
    · rw [if_neg c6] at hf
      refine lv_aload_n hx hb dX11_isPossible_60 rfl (lv_at hl 0 rfl) ?_
      refine lv_iload_n hx hb dX11_isPossible_61 rfl (lv_at hl 3 rfl) ?_
      obtain ⟨q7, h8, hf⟩ := bdE hf
      refine cV (As := [.int x3]) (rest := []) (k := 0) (ci := 9) (T := TX11) (N := 9) C0 w (m_X11_isRow l B _ σ x3 q7 h8) ky_X11_isRow kv_X11_isRow lk_X11_338 rfl (by decide +kernel) ⟨Nat.le_of_ble_eq_true rfl, Nat.le_of_ble_eq_true rfl⟩ ⟨Nat.le_of_ble_eq_true rfl, Nat.le_of_ble_eq_true rfl⟩ rfl (by rfl) (Nat.le_of_ble_eq_true rfl) hl.1 dX11_isPossible_62 (fun H locs w => ?_)
      refine lv_if_eq (tgt := 79) hx hb dX11_isPossible_65 (by decide) (fun c9 => ?_) (fun c9 => ?_)
      · rw [if_pos c9] at hf
        refine lv_iconst (v := 0) hx hb dX11_isPossible_79 (by decide) ?_
        obtain rfl := Option.some.inj hf
        exact eI C0 hr w (bzE (x := 0) (by decide)) dX11_isPossible_80
      · rw [if_neg c9] at hf
        refine lv_aload_n hx hb dX11_isPossible_68 rfl (lv_at hl 0 rfl) ?_
        obtain ⟨q10, h11, hf⟩ := bdE hf
        refine cV (As := []) (rest := []) (k := 0) (ci := 9) (T := TX11) (N := 9) C0 w (m_X11_hasRoomForRay l B _ σ q10 h11) ky_X11_hasRoomForRay kv_X11_hasRoomForRay lk_X11_142 rfl (by decide +kernel) ⟨Nat.le_of_ble_eq_true rfl, Nat.le_of_ble_eq_true rfl⟩ ⟨Nat.le_of_ble_eq_true rfl, Nat.le_of_ble_eq_true rfl⟩ rfl (by rfl) (Nat.le_of_ble_eq_true rfl) hl.1 dX11_isPossible_69 (fun H locs w => ?_)
        refine lv_if_eq (tgt := 79) hx hb dX11_isPossible_72 (by decide) (fun c12 => ?_) (fun c12 => ?_)
        · rw [if_pos c12] at hf
          refine lv_iconst (v := 0) hx hb dX11_isPossible_79 (by decide) ?_
          obtain rfl := Option.some.inj hf
          exact eI C0 hr w (bzE (x := 0) (by decide)) dX11_isPossible_80
        · rw [if_neg c12] at hf
          refine lv_iconst (v := 1) hx hb dX11_isPossible_75 (by decide) ?_
          refine lv_goto (tgt := 80) hx hb dX11_isPossible_76 (by decide) ?_
          obtain rfl := Option.some.inj hf
          exact eI C0 hr w (bzE (x := 1) (by decide)) dX11_isPossible_80
  · rw [if_neg c3] at hf
    by_cases c13 : (swOf x1) = 2
    · rw [if_pos c13] at hf
      refine lv_tableIn (tgt := 81) hx hb dX11_isPossible_8 (by rw [c13]; decide) (by rw [c13]; decide) (by rw [c13]; rfl) (by decide) ?_
      refine lv_aload_n hx hb dX11_isPossible_81 rfl (lv_at hl 0 rfl) ?_
      refine lv_iload_n hx hb dX11_isPossible_82 rfl (lv_at hl 2 rfl) ?_
      obtain ⟨q14, h15, hf⟩ := bdE hf
      refine cV (As := [.int x2]) (rest := []) (k := 0) (ci := 9) (T := TX11) (N := 9) C0 w (m_X11_isCell l B _ σ x2 q14 h15) ky_X11_isCell kv_X11_isCell lk_X11_330 rfl (by decide +kernel) ⟨Nat.le_of_ble_eq_true rfl, Nat.le_of_ble_eq_true rfl⟩ ⟨Nat.le_of_ble_eq_true rfl, Nat.le_of_ble_eq_true rfl⟩ rfl (by rfl) (Nat.le_of_ble_eq_true rfl) hl.1 dX11_isPossible_83 (fun H locs w => ?_)
      refine lv_if_eq (tgt := 103) hx hb dX11_isPossible_86 (by decide) (fun c16 => ?_) (fun c16 => ?_)
      · rw [if_pos c16] at hf
        refine lv_iconst (v := 0) hx hb dX11_isPossible_103 (by decide) ?_
        obtain rfl := Option.some.inj hf
        exact eI C0 hr w (bzE (x := 0) (by decide)) dX11_isPossible_104
      · rw [if_neg c16] at hf
        refine lv_iload_n hx hb dX11_isPossible_89 rfl (lv_at hl 3 rfl) ?_
        refine lv_iconst (v := 1) hx hb dX11_isPossible_90 (by decide) ?_
        refine kIn C0 100000 kc_X11_115 dX11_isPossible_91 ?_
        obtain ⟨q17, h18, hf⟩ := bdE hf
        refine cS (As := [.int x3, .int 1, .int 100000]) (rest := []) C0 w (m_X11_isWithin l B _ σ x3 1 100000 q17 h18) ky_X11_isWithin ks_X11_isWithin lk_X11_324 ⟨Nat.le_of_ble_eq_true rfl, Nat.le_of_ble_eq_true rfl⟩ ⟨Nat.le_of_ble_eq_true rfl, Nat.le_of_ble_eq_true rfl⟩ rfl (by rfl) (Nat.le_of_ble_eq_true rfl) hl.1 dX11_isPossible_93 (fun H locs w => ?_)
        refine lv_if_eq (tgt := 103) hx hb dX11_isPossible_96 (by decide) (fun c19 => ?_) (fun c19 => ?_)
        · rw [if_pos c19] at hf
          refine lv_iconst (v := 0) hx hb dX11_isPossible_103 (by decide) ?_
          obtain rfl := Option.some.inj hf
          exact eI C0 hr w (bzE (x := 0) (by decide)) dX11_isPossible_104
        · rw [if_neg c19] at hf
          refine lv_iconst (v := 1) hx hb dX11_isPossible_99 (by decide) ?_
          refine lv_goto (tgt := 104) hx hb dX11_isPossible_100 (by decide) ?_
          obtain rfl := Option.some.inj hf
          exact eI C0 hr w (bzE (x := 1) (by decide)) dX11_isPossible_104
    · rw [if_neg c13] at hf
      by_cases c20 : (swOf x1) = 3
      · rw [if_pos c20] at hf
        refine lv_tableIn (tgt := 81) hx hb dX11_isPossible_8 (by rw [c20]; decide) (by rw [c20]; decide) (by rw [c20]; rfl) (by decide) ?_
        refine lv_aload_n hx hb dX11_isPossible_81 rfl (lv_at hl 0 rfl) ?_
        refine lv_iload_n hx hb dX11_isPossible_82 rfl (lv_at hl 2 rfl) ?_
        obtain ⟨q21, h22, hf⟩ := bdE hf
        refine cV (As := [.int x2]) (rest := []) (k := 0) (ci := 9) (T := TX11) (N := 9) C0 w (m_X11_isCell l B _ σ x2 q21 h22) ky_X11_isCell kv_X11_isCell lk_X11_330 rfl (by decide +kernel) ⟨Nat.le_of_ble_eq_true rfl, Nat.le_of_ble_eq_true rfl⟩ ⟨Nat.le_of_ble_eq_true rfl, Nat.le_of_ble_eq_true rfl⟩ rfl (by rfl) (Nat.le_of_ble_eq_true rfl) hl.1 dX11_isPossible_83 (fun H locs w => ?_)
        refine lv_if_eq (tgt := 103) hx hb dX11_isPossible_86 (by decide) (fun c23 => ?_) (fun c23 => ?_)
        · rw [if_pos c23] at hf
          refine lv_iconst (v := 0) hx hb dX11_isPossible_103 (by decide) ?_
          obtain rfl := Option.some.inj hf
          exact eI C0 hr w (bzE (x := 0) (by decide)) dX11_isPossible_104
        · rw [if_neg c23] at hf
          refine lv_iload_n hx hb dX11_isPossible_89 rfl (lv_at hl 3 rfl) ?_
          refine lv_iconst (v := 1) hx hb dX11_isPossible_90 (by decide) ?_
          refine kIn C0 100000 kc_X11_115 dX11_isPossible_91 ?_
          obtain ⟨q24, h25, hf⟩ := bdE hf
          refine cS (As := [.int x3, .int 1, .int 100000]) (rest := []) C0 w (m_X11_isWithin l B _ σ x3 1 100000 q24 h25) ky_X11_isWithin ks_X11_isWithin lk_X11_324 ⟨Nat.le_of_ble_eq_true rfl, Nat.le_of_ble_eq_true rfl⟩ ⟨Nat.le_of_ble_eq_true rfl, Nat.le_of_ble_eq_true rfl⟩ rfl (by rfl) (Nat.le_of_ble_eq_true rfl) hl.1 dX11_isPossible_93 (fun H locs w => ?_)
          refine lv_if_eq (tgt := 103) hx hb dX11_isPossible_96 (by decide) (fun c26 => ?_) (fun c26 => ?_)
          · rw [if_pos c26] at hf
            refine lv_iconst (v := 0) hx hb dX11_isPossible_103 (by decide) ?_
            obtain rfl := Option.some.inj hf
            exact eI C0 hr w (bzE (x := 0) (by decide)) dX11_isPossible_104
          · rw [if_neg c26] at hf
            refine lv_iconst (v := 1) hx hb dX11_isPossible_99 (by decide) ?_
            refine lv_goto (tgt := 104) hx hb dX11_isPossible_100 (by decide) ?_
            obtain rfl := Option.some.inj hf
            exact eI C0 hr w (bzE (x := 1) (by decide)) dX11_isPossible_104
      · rw [if_neg c20] at hf
        by_cases c27 : (swOf x1) = 4
        · rw [if_pos c27] at hf
          refine lv_tableIn (tgt := 105) hx hb dX11_isPossible_8 (by rw [c27]; decide) (by rw [c27]; decide) (by rw [c27]; rfl) (by decide) ?_
          refine lv_iload_n hx hb dX11_isPossible_105 rfl (lv_at hl 2 rfl) ?_
          refine lv_iconst (v := 0) hx hb dX11_isPossible_106 (by decide) ?_
          refine lv_sipush (v := 1000) hx hb dX11_isPossible_107 (by decide) ?_
          obtain ⟨q28, h29, hf⟩ := bdE hf
          refine cS (As := [.int x2, .int 0, .int 1000]) (rest := []) C0 w (m_X11_isWithin l B _ σ x2 0 1000 q28 h29) ky_X11_isWithin ks_X11_isWithin lk_X11_324 ⟨Nat.le_of_ble_eq_true rfl, Nat.le_of_ble_eq_true rfl⟩ ⟨Nat.le_of_ble_eq_true rfl, Nat.le_of_ble_eq_true rfl⟩ rfl (by rfl) (Nat.le_of_ble_eq_true rfl) hl.1 dX11_isPossible_110 (fun H locs w => ?_)
          obtain ⟨g30, hf⟩ := gdE hf
          obtain rfl := Option.some.inj hf
          exact eI C0 hr w (bzE g30) dX11_isPossible_113
        · rw [if_neg c27] at hf
          by_cases c31 : (swOf x1) = 5
          · rw [if_pos c31] at hf
            refine lv_tableIn (tgt := 114) hx hb dX11_isPossible_8 (by rw [c31]; decide) (by rw [c31]; decide) (by rw [c31]; rfl) (by decide) ?_
            refine lv_iload_n hx hb dX11_isPossible_114 rfl (lv_at hl 2 rfl) ?_
            refine lv_iconst (v := 1) hx hb dX11_isPossible_115 (by decide) ?_
            refine lv_bipush (v := 20) hx hb dX11_isPossible_116 (by decide) ?_
            obtain ⟨q32, h33, hf⟩ := bdE hf
            refine cS (As := [.int x2, .int 1, .int 20]) (rest := []) C0 w (m_X11_isWithin l B _ σ x2 1 20 q32 h33) ky_X11_isWithin ks_X11_isWithin lk_X11_324 ⟨Nat.le_of_ble_eq_true rfl, Nat.le_of_ble_eq_true rfl⟩ ⟨Nat.le_of_ble_eq_true rfl, Nat.le_of_ble_eq_true rfl⟩ rfl (by rfl) (Nat.le_of_ble_eq_true rfl) hl.1 dX11_isPossible_118 (fun H locs w => ?_)
            obtain ⟨g34, hf⟩ := gdE hf
            obtain rfl := Option.some.inj hf
            exact eI C0 hr w (bzE g34) dX11_isPossible_121
          · rw [if_neg c31] at hf
            by_cases c35 : (swOf x1) = 6
            · rw [if_pos c35] at hf
              refine lv_tableIn (tgt := 122) hx hb dX11_isPossible_8 (by rw [c35]; decide) (by rw [c35]; decide) (by rw [c35]; rfl) (by decide) ?_
              refine lv_iload_n hx hb dX11_isPossible_122 rfl (lv_at hl 2 rfl) ?_
              refine lv_iconst (v := 1) hx hb dX11_isPossible_123 (by decide) ?_
              refine lv_bipush (v := 100) hx hb dX11_isPossible_124 (by decide) ?_
              obtain ⟨q36, h37, hf⟩ := bdE hf
              refine cS (As := [.int x2, .int 1, .int 100]) (rest := []) C0 w (m_X11_isWithin l B _ σ x2 1 100 q36 h37) ky_X11_isWithin ks_X11_isWithin lk_X11_324 ⟨Nat.le_of_ble_eq_true rfl, Nat.le_of_ble_eq_true rfl⟩ ⟨Nat.le_of_ble_eq_true rfl, Nat.le_of_ble_eq_true rfl⟩ rfl (by rfl) (Nat.le_of_ble_eq_true rfl) hl.1 dX11_isPossible_126 (fun H locs w => ?_)
              obtain ⟨g38, hf⟩ := gdE hf
              obtain rfl := Option.some.inj hf
              exact eI C0 hr w (bzE g38) dX11_isPossible_129
            · rw [if_neg c35] at hf
              by_cases c39 : (swOf x1) = 7
              · rw [if_pos c39] at hf
                refine lv_tableIn (tgt := 130) hx hb dX11_isPossible_8 (by rw [c39]; decide) (by rw [c39]; decide) (by rw [c39]; rfl) (by decide) ?_
                refine lv_iconst (v := 1) hx hb dX11_isPossible_130 (by decide) ?_
                obtain rfl := Option.some.inj hf
                exact eI C0 hr w (bzE (x := 1) (by decide)) dX11_isPossible_131
              · rw [if_neg c39] at hf
                refine lv_tableOut (tgt := 132) hx hb dX11_isPossible_8 (sw_out (by have q0 := sw_ne c3; have q1 := sw_ne c13; have q2 := sw_ne c20; have q3 := sw_ne c27; have q4 := sw_ne c31; have q5 := sw_ne c35; have q6 := sw_ne c39; clear hf; simp at *; omega)) (by decide) ?_
                refine lv_aload_n hx hb dX11_isPossible_132 rfl (lv_at hl 0 rfl) ?_
                refine lv_iload_n hx hb dX11_isPossible_133 rfl (lv_at hl 2 rfl) ?_
                obtain ⟨q40, h41, hf⟩ := bdE hf
                refine cV (As := [.int x2]) (rest := []) (k := 0) (ci := 9) (T := TX11) (N := 9) C0 w (m_X11_isRay l B _ σ x2 q40 h41) ky_X11_isRay kv_X11_isRay lk_X11_343 rfl (by decide +kernel) ⟨Nat.le_of_ble_eq_true rfl, Nat.le_of_ble_eq_true rfl⟩ ⟨Nat.le_of_ble_eq_true rfl, Nat.le_of_ble_eq_true rfl⟩ rfl (by rfl) (Nat.le_of_ble_eq_true rfl) hl.1 dX11_isPossible_134 (fun H locs w => ?_)
                obtain ⟨g42, hf⟩ := gdE hf
                obtain rfl := Option.some.inj hf
                exact eI C0 hr w (bzE g42) dX11_isPossible_137
def f_X11_carryOut (x1 : Int32) (σ : Mem) : Option (Int32 × Mem) :=
  gd (inb x1 120) (
  gd (inb x1 120) (
  gd (inb x1 120) (
  if (σ.1 221 x1.toNatClampNeg) < 0 then (
    some ((0, σ)))
  else (
    bd (f_X11_isPossible (σ.1 221 x1.toNatClampNeg) (σ.1 222 x1.toNatClampNeg) (σ.1 223 x1.toNatClampNeg) σ) (fun q5 =>
    if q5 = 0 then (
      some ((0, σ)))
    else (
      gd (inb (σ.1 221 x1.toNatClampNeg) 8) (
      gd (inb (σ.1 221 x1.toNatClampNeg) 8) (
      if (swOf (σ.1 221 x1.toNatClampNeg)) = 1 then (
        bd (f_X11_appendRay (σ.1 222 x1.toNatClampNeg) (σ.1 223 x1.toNatClampNeg) σ) (fun q11 =>
        some ((1, q11))))
      else (
      if (swOf (σ.1 221 x1.toNatClampNeg)) = 2 then (
        bd (f_X1_putSlowness (σ.1 222 x1.toNatClampNeg) (σ.1 223 x1.toNatClampNeg) σ) (fun q14 =>
        some ((1, q14))))
      else (
      if (swOf (σ.1 221 x1.toNatClampNeg)) = 3 then (
        gd (inb (σ.1 222 x1.toNatClampNeg) 64) (
        some ((1, setI σ 3 ((σ.1 222 x1.toNatClampNeg).toNatClampNeg) (σ.1 223 x1.toNatClampNeg)))))
      else (
      if (swOf (σ.1 221 x1.toNatClampNeg)) = 4 then (
        bd (f_X1_takeTimes (σ.1 222 x1.toNatClampNeg) (σ.1 222 x1.toNatClampNeg) σ) (fun q19 =>
        some ((1, q19))))
      else (
      if (swOf (σ.1 221 x1.toNatClampNeg)) = 5 then (
        bd (f_X8_makeSweeps (σ.1 222 x1.toNatClampNeg) σ) (fun q22 =>
        some ((1, q22.2))))
      else (
      if (swOf (σ.1 221 x1.toNatClampNeg)) = 6 then (
        bd (f_X1_smoothOut (σ.1 222 x1.toNatClampNeg) σ) (fun q25 =>
        some ((1, q25.2))))
      else (
      if (swOf (σ.1 221 x1.toNatClampNeg)) = 7 then (
        bd (f_X1_fillGaps σ) (fun q28 =>
        some ((1, q28.2))))
      else (
        if (σ.1 223 x1.toNatClampNeg) = 0 then (
          gd (inb (σ.1 222 x1.toNatClampNeg) 16) (
          some ((1, setI σ 7 ((σ.1 222 x1.toNatClampNeg).toNatClampNeg) 0))))
        else (
          gd (inb (σ.1 222 x1.toNatClampNeg) 16) (
          some ((1, setI σ 7 ((σ.1 222 x1.toNatClampNeg).toNatClampNeg) 1)))))))))))))))))))
abbrev rm_X11_carryOut : Room := { frames := 5, cells := 0, slots := 0, locals := 138 }
set_option maxHeartbeats 4000000 in
set_option maxRecDepth 100000 in
theorem m_X11_carryOut (l : Launch) (B : Wb) (sz : Nat) (σ : Mem) (x1 : Int32) (q : Int32 × Mem) (hf : f_X11_carryOut x1 σ = some q) : MetC l yX11_carryOut cX11_carryOut 5 (some .boolean) rm_X11_carryOut B sz σ q.2 [.ref (wA B 0), .int x1] (some (.int q.1)) := by
  refine met_in (by decide +kernel) (Nat.le_of_ble_eq_true rfl) ?_
  intro p e s m below meth c C0 hr w hsz ls hl
  have hx := C0.1.1
  have hb := C0.1.2.1
  unfold f_X11_carryOut at hf
  refine lv_aload_n hx hb dX11_carryOut_0 rfl (lv_at hl 0 rfl) ?_
  refine gR C0 w 219 fk_X11_78 (by decide +kernel) dX11_carryOut_1 ?_
  refine gR C0 w 221 fk_X11_353 (by decide +kernel) dX11_carryOut_4 ?_
  refine lv_iload_n hx hb dX11_carryOut_7 rfl (lv_at hl 1 rfl) ?_
  obtain ⟨g1, hf⟩ := gdE hf
  refine aW C0 w (n := 120) (by decide +kernel) (inbE g1) dX11_carryOut_8 ?_
  refine stW_n (lv' := [(2, wv B (σ.1 221 x1.toNatClampNeg)), (0, .ref (wA B 0)), (1, .int x1)]) C0 dX11_carryOut_9 rfl hl (by decide) rfl (fun ls hl => ?_)
  refine lv_aload_n hx hb dX11_carryOut_10 rfl (lv_at hl 1 rfl) ?_
  refine gR C0 w 219 fk_X11_78 (by decide +kernel) dX11_carryOut_11 ?_
  refine gR C0 w 222 fk_X11_357 (by decide +kernel) dX11_carryOut_14 ?_
  refine lv_iload_n hx hb dX11_carryOut_17 rfl (lv_at hl 2 rfl) ?_
  obtain ⟨g2, hf⟩ := gdE hf
  refine aI C0 w (n := 120) (by decide +kernel) (inbE g2) dX11_carryOut_18 ?_
  refine lv_istore_n (i := 3) (lv' := [(3, .int (σ.1 222 x1.toNatClampNeg)), (2, wv B (σ.1 221 x1.toNatClampNeg)), (0, .ref (wA B 0)), (1, .int x1)]) hx hb dX11_carryOut_19 rfl hl (by decide) (by simp [wvc, catR, catI, catL]) (fun ls hl => ?_)
  refine lv_aload_n hx hb dX11_carryOut_20 rfl (lv_at hl 2 rfl) ?_
  refine gR C0 w 219 fk_X11_78 (by decide +kernel) dX11_carryOut_21 ?_
  refine gR C0 w 223 fk_X11_360 (by decide +kernel) dX11_carryOut_24 ?_
  refine lv_iload_n hx hb dX11_carryOut_27 rfl (lv_at hl 3 rfl) ?_
  obtain ⟨g3, hf⟩ := gdE hf
  refine aI C0 w (n := 120) (by decide +kernel) (inbE g3) dX11_carryOut_28 ?_
  refine lv_istore (lv' := [(4, .int (σ.1 223 x1.toNatClampNeg)), (3, .int (σ.1 222 x1.toNatClampNeg)), (2, wv B (σ.1 221 x1.toNatClampNeg)), (0, .ref (wA B 0)), (1, .int x1)]) hx hb dX11_carryOut_29 hl (by decide) rfl (fun ls hl => ?_)
  refine ldW_n C0 dX11_carryOut_31 rfl (lv_at hl 2 rfl) ?_
  refine wN (x := σ.1 221 x1.toNatClampNeg) (tgt := 46) C0 dX11_carryOut_32 (by decide) (fun c4 => ?_) (fun c4 => ?_)
  · rw [if_pos c4] at hf
    refine lv_iconst (v := 0) hx hb dX11_carryOut_46 (by decide) ?_
    obtain rfl := Option.some.inj hf
    exact eI C0 hr w (bzE (x := 0) (by decide)) dX11_carryOut_47
  · rw [if_neg c4] at hf
    rw [wvR c4] at hl
    refine lv_aload_n hx hb dX11_carryOut_35 rfl (lv_at hl 3 rfl) ?_
    refine lv_aload_n hx hb dX11_carryOut_36 rfl (lv_at hl 2 rfl) ?_
    refine lv_iload_n hx hb dX11_carryOut_37 rfl (lv_at hl 1 rfl) ?_
    refine lv_iload hx hb dX11_carryOut_38 (lv_at hl 0 rfl) ?_
    obtain ⟨q5, h6, hf⟩ := bdE hf
    refine cV (As := [.ref (wE B (σ.1 221 x1.toNatClampNeg).toNatClampNeg), .int (σ.1 222 x1.toNatClampNeg), .int (σ.1 223 x1.toNatClampNeg)]) (rest := []) (k := 0) (ci := 9) (T := TX11) (N := 9) C0 w (m_X11_isPossible l B _ σ (σ.1 221 x1.toNatClampNeg) (σ.1 222 x1.toNatClampNeg) (σ.1 223 x1.toNatClampNeg) q5 h6) ky_X11_isPossible kv_X11_isPossible lk_X11_363 rfl (by decide +kernel) ⟨Nat.le_of_ble_eq_true rfl, Nat.le_of_ble_eq_true rfl⟩ ⟨Nat.le_of_ble_eq_true rfl, Nat.le_of_ble_eq_true rfl⟩ rfl (by rfl) (Nat.le_of_ble_eq_true rfl) hl.1 dX11_carryOut_40 (fun H locs w => ?_)
    refine lv_if_ne (tgt := 48) hx hb dX11_carryOut_43 (by decide) (fun c7 => ?_) (fun c7 => ?_)
    · rw [if_neg c7] at hf
      refine zSW C0 w fk_X11_367 dX11_carryOut_48 ?_
      refine lv_aload_n hx hb dX11_carryOut_51 rfl (lv_at hl 2 rfl) ?_
      obtain ⟨g8, hf⟩ := gdE hf
      refine cOrd (rest := [.ref (wS B)]) C0 w g8 ⟨Nat.le_of_ble_eq_true rfl, Nat.le_of_ble_eq_true rfl⟩ ⟨Nat.le_of_ble_eq_true rfl, Nat.le_of_ble_eq_true rfl⟩ (Nat.le_of_ble_eq_true rfl) hl.1 dX11_carryOut_52 (fun H locs w => ?_)
      obtain ⟨g9, hf⟩ := gdE hf
      refine zSat C0 w g9 dX11_carryOut_55 ?_
      by_cases c10 : (swOf (σ.1 221 x1.toNatClampNeg)) = 1
      · rw [if_pos c10] at hf
        refine lv_tableIn (tgt := 100) hx hb dX11_carryOut_56 (by rw [c10]; decide) (by rw [c10]; decide) (by rw [c10]; rfl) (by decide) ?_
        refine lv_aload_n hx hb dX11_carryOut_100 rfl (lv_at hl 3 rfl) ?_
        refine lv_iload_n hx hb dX11_carryOut_101 rfl (lv_at hl 1 rfl) ?_
        refine lv_iload hx hb dX11_carryOut_102 (lv_at hl 0 rfl) ?_
        obtain ⟨q11, h12, hf⟩ := bdE hf
        refine cV (As := [.int (σ.1 222 x1.toNatClampNeg), .int (σ.1 223 x1.toNatClampNeg)]) (rest := []) (k := 0) (ci := 9) (T := TX11) (N := 9) C0 w (m_X11_appendRay l B _ σ (σ.1 222 x1.toNatClampNeg) (σ.1 223 x1.toNatClampNeg) q11 h12) ky_X11_appendRay kv_X11_appendRay lk_X11_156 rfl (by decide +kernel) ⟨Nat.le_of_ble_eq_true rfl, Nat.le_of_ble_eq_true rfl⟩ ⟨Nat.le_of_ble_eq_true rfl, Nat.le_of_ble_eq_true rfl⟩ rfl (by rfl) (Nat.le_of_ble_eq_true rfl) hl.1 dX11_carryOut_104 (fun H locs w => ?_)
        refine lv_goto (tgt := 203) hx hb dX11_carryOut_107 (by decide) ?_
        refine lv_iconst (v := 1) hx hb dX11_carryOut_203 (by decide) ?_
        obtain rfl := Option.some.inj hf
        exact eI C0 hr w (bzE (x := 1) (by decide)) dX11_carryOut_204
      · rw [if_neg c10] at hf
        by_cases c13 : (swOf (σ.1 221 x1.toNatClampNeg)) = 2
        · rw [if_pos c13] at hf
          refine lv_tableIn (tgt := 110) hx hb dX11_carryOut_56 (by rw [c13]; decide) (by rw [c13]; decide) (by rw [c13]; rfl) (by decide) ?_
          refine lv_aload_n hx hb dX11_carryOut_110 rfl (lv_at hl 3 rfl) ?_
          refine gR C0 w 183 fk_X11_55 (by decide +kernel) dX11_carryOut_111 ?_
          refine lv_iload_n hx hb dX11_carryOut_114 rfl (lv_at hl 1 rfl) ?_
          refine lv_iload hx hb dX11_carryOut_115 (lv_at hl 0 rfl) ?_
          obtain ⟨q14, h15, hf⟩ := bdE hf
          refine cV (As := [.int (σ.1 222 x1.toNatClampNeg), .int (σ.1 223 x1.toNatClampNeg)]) (rest := []) (k := 183) (ci := 0) (T := TX1) (N := 7) C0 w (m_X1_putSlowness l B _ σ (σ.1 222 x1.toNatClampNeg) (σ.1 223 x1.toNatClampNeg) q14 h15) ky_X1_putSlowness kv_X1_putSlowness lk_X11_120 rfl (by decide +kernel) ⟨Nat.le_of_ble_eq_true rfl, Nat.le_of_ble_eq_true rfl⟩ ⟨Nat.le_of_ble_eq_true rfl, Nat.le_of_ble_eq_true rfl⟩ rfl (by rfl) (Nat.le_of_ble_eq_true rfl) hl.1 dX11_carryOut_117 (fun H locs w => ?_)
          refine lv_goto (tgt := 203) hx hb dX11_carryOut_120 (by decide) ?_
          refine lv_iconst (v := 1) hx hb dX11_carryOut_203 (by decide) ?_
          obtain rfl := Option.some.inj hf
          exact eI C0 hr w (bzE (x := 1) (by decide)) dX11_carryOut_204
        · rw [if_neg c13] at hf
          by_cases c16 : (swOf (σ.1 221 x1.toNatClampNeg)) = 3
          · rw [if_pos c16] at hf
            refine lv_tableIn (tgt := 123) hx hb dX11_carryOut_56 (by rw [c16]; decide) (by rw [c16]; decide) (by rw [c16]; rfl) (by decide) ?_
            refine lv_aload_n hx hb dX11_carryOut_123 rfl (lv_at hl 3 rfl) ?_
            refine gR C0 w 1 fk_X11_10 (by decide +kernel) dX11_carryOut_124 ?_
            refine gR C0 w 3 fk_X11_123 (by decide +kernel) dX11_carryOut_127 ?_
            refine lv_iload_n hx hb dX11_carryOut_130 rfl (lv_at hl 1 rfl) ?_
            refine lv_iload hx hb dX11_carryOut_131 (lv_at hl 0 rfl) ?_
            obtain ⟨g17, hf⟩ := gdE hf
            refine sI C0 w (n := 64) (by decide +kernel) (inbE g17) dX11_carryOut_133 (fun H locs w => ?_)
            refine lv_goto (tgt := 203) hx hb dX11_carryOut_134 (by decide) ?_
            refine lv_iconst (v := 1) hx hb dX11_carryOut_203 (by decide) ?_
            obtain rfl := Option.some.inj hf
            exact eI C0 hr w (bzE (x := 1) (by decide)) dX11_carryOut_204
          · rw [if_neg c16] at hf
            by_cases c18 : (swOf (σ.1 221 x1.toNatClampNeg)) = 4
            · rw [if_pos c18] at hf
              refine lv_tableIn (tgt := 137) hx hb dX11_carryOut_56 (by rw [c18]; decide) (by rw [c18]; decide) (by rw [c18]; rfl) (by decide) ?_
              refine lv_aload_n hx hb dX11_carryOut_137 rfl (lv_at hl 3 rfl) ?_
              refine gR C0 w 183 fk_X11_55 (by decide +kernel) dX11_carryOut_138 ?_
              refine lv_iload_n hx hb dX11_carryOut_141 rfl (lv_at hl 1 rfl) ?_
              refine lv_iload_n hx hb dX11_carryOut_142 rfl (lv_at hl 1 rfl) ?_
              obtain ⟨q19, h20, hf⟩ := bdE hf
              refine cV (As := [.int (σ.1 222 x1.toNatClampNeg), .int (σ.1 222 x1.toNatClampNeg)]) (rest := []) (k := 183) (ci := 0) (T := TX1) (N := 7) C0 w (m_X1_takeTimes l B _ σ (σ.1 222 x1.toNatClampNeg) (σ.1 222 x1.toNatClampNeg) q19 h20) ky_X1_takeTimes kv_X1_takeTimes lk_X11_183 rfl (by decide +kernel) ⟨Nat.le_of_ble_eq_true rfl, Nat.le_of_ble_eq_true rfl⟩ ⟨Nat.le_of_ble_eq_true rfl, Nat.le_of_ble_eq_true rfl⟩ rfl (by rfl) (Nat.le_of_ble_eq_true rfl) hl.1 dX11_carryOut_143 (fun H locs w => ?_)
              refine lv_goto (tgt := 203) hx hb dX11_carryOut_146 (by decide) ?_
              refine lv_iconst (v := 1) hx hb dX11_carryOut_203 (by decide) ?_
              obtain rfl := Option.some.inj hf
              exact eI C0 hr w (bzE (x := 1) (by decide)) dX11_carryOut_204
            · rw [if_neg c18] at hf
              by_cases c21 : (swOf (σ.1 221 x1.toNatClampNeg)) = 5
              · rw [if_pos c21] at hf
                refine lv_tableIn (tgt := 149) hx hb dX11_carryOut_56 (by rw [c21]; decide) (by rw [c21]; decide) (by rw [c21]; rfl) (by decide) ?_
                refine lv_aload_n hx hb dX11_carryOut_149 rfl (lv_at hl 3 rfl) ?_
                refine gR C0 w 186 fk_X11_64 (by decide +kernel) dX11_carryOut_150 ?_
                refine lv_iload_n hx hb dX11_carryOut_153 rfl (lv_at hl 1 rfl) ?_
                obtain ⟨q22, h23, hf⟩ := bdE hf
                refine cV (As := [.int (σ.1 222 x1.toNatClampNeg)]) (rest := []) (k := 186) (ci := 7) (T := TX8) (N := 5) C0 w (m_X8_makeSweeps l B _ σ (σ.1 222 x1.toNatClampNeg) q22 h23) ky_X8_makeSweeps kv_X8_makeSweeps lk_X11_203 rfl (by decide +kernel) ⟨Nat.le_of_ble_eq_true rfl, Nat.le_of_ble_eq_true rfl⟩ ⟨Nat.le_of_ble_eq_true rfl, Nat.le_of_ble_eq_true rfl⟩ rfl (by rfl) (Nat.le_of_ble_eq_true rfl) hl.1 dX11_carryOut_154 (fun H locs w => ?_)
                refine lv_pop hx hb dX11_carryOut_157 rfl ?_
                refine lv_goto (tgt := 203) hx hb dX11_carryOut_158 (by decide) ?_
                refine lv_iconst (v := 1) hx hb dX11_carryOut_203 (by decide) ?_
                obtain rfl := Option.some.inj hf
                exact eI C0 hr w (bzE (x := 1) (by decide)) dX11_carryOut_204
              · rw [if_neg c21] at hf
                by_cases c24 : (swOf (σ.1 221 x1.toNatClampNeg)) = 6
                · rw [if_pos c24] at hf
                  refine lv_tableIn (tgt := 161) hx hb dX11_carryOut_56 (by rw [c24]; decide) (by rw [c24]; decide) (by rw [c24]; rfl) (by decide) ?_
                  refine lv_aload_n hx hb dX11_carryOut_161 rfl (lv_at hl 3 rfl) ?_
                  refine gR C0 w 183 fk_X11_55 (by decide +kernel) dX11_carryOut_162 ?_
                  refine lv_iload_n hx hb dX11_carryOut_165 rfl (lv_at hl 1 rfl) ?_
                  obtain ⟨q25, h26, hf⟩ := bdE hf
                  refine cV (As := [.int (σ.1 222 x1.toNatClampNeg)]) (rest := []) (k := 183) (ci := 0) (T := TX1) (N := 7) C0 w (m_X1_smoothOut l B _ σ (σ.1 222 x1.toNatClampNeg) q25 h26) ky_X1_smoothOut kv_X1_smoothOut lk_X11_206 rfl (by decide +kernel) ⟨Nat.le_of_ble_eq_true rfl, Nat.le_of_ble_eq_true rfl⟩ ⟨Nat.le_of_ble_eq_true rfl, Nat.le_of_ble_eq_true rfl⟩ rfl (by rfl) (Nat.le_of_ble_eq_true rfl) hl.1 dX11_carryOut_166 (fun H locs w => ?_)
                  refine lv_pop hx hb dX11_carryOut_169 rfl ?_
                  refine lv_goto (tgt := 203) hx hb dX11_carryOut_170 (by decide) ?_
                  refine lv_iconst (v := 1) hx hb dX11_carryOut_203 (by decide) ?_
                  obtain rfl := Option.some.inj hf
                  exact eI C0 hr w (bzE (x := 1) (by decide)) dX11_carryOut_204
                · rw [if_neg c24] at hf
                  by_cases c27 : (swOf (σ.1 221 x1.toNatClampNeg)) = 7
                  · rw [if_pos c27] at hf
                    refine lv_tableIn (tgt := 173) hx hb dX11_carryOut_56 (by rw [c27]; decide) (by rw [c27]; decide) (by rw [c27]; rfl) (by decide) ?_
                    refine lv_aload_n hx hb dX11_carryOut_173 rfl (lv_at hl 3 rfl) ?_
                    refine gR C0 w 183 fk_X11_55 (by decide +kernel) dX11_carryOut_174 ?_
                    obtain ⟨q28, h29, hf⟩ := bdE hf
                    refine cV (As := []) (rest := []) (k := 183) (ci := 0) (T := TX1) (N := 7) C0 w (m_X1_fillGaps l B _ σ q28 h29) ky_X1_fillGaps kv_X1_fillGaps lk_X11_209 rfl (by decide +kernel) ⟨Nat.le_of_ble_eq_true rfl, Nat.le_of_ble_eq_true rfl⟩ ⟨Nat.le_of_ble_eq_true rfl, Nat.le_of_ble_eq_true rfl⟩ rfl (by rfl) (Nat.le_of_ble_eq_true rfl) hl.1 dX11_carryOut_177 (fun H locs w => ?_)
                    refine lv_pop hx hb dX11_carryOut_180 rfl ?_
                    refine lv_goto (tgt := 203) hx hb dX11_carryOut_181 (by decide) ?_
                    refine lv_iconst (v := 1) hx hb dX11_carryOut_203 (by decide) ?_
                    obtain rfl := Option.some.inj hf
                    exact eI C0 hr w (bzE (x := 1) (by decide)) dX11_carryOut_204
                  · rw [if_neg c27] at hf
                    refine lv_tableOut (tgt := 184) hx hb dX11_carryOut_56 (sw_out (by have q0 := sw_ne c10; have q1 := sw_ne c13; have q2 := sw_ne c16; have q3 := sw_ne c18; have q4 := sw_ne c21; have q5 := sw_ne c24; have q6 := sw_ne c27; clear hf; simp at *; omega)) (by decide) ?_
                    refine lv_aload_n hx hb dX11_carryOut_184 rfl (lv_at hl 3 rfl) ?_
                    refine gR C0 w 1 fk_X11_10 (by decide +kernel) dX11_carryOut_185 ?_
                    refine gR C0 w 7 fk_X11_162 (by decide +kernel) dX11_carryOut_188 ?_
                    refine lv_iload_n hx hb dX11_carryOut_191 rfl (lv_at hl 1 rfl) ?_
                    refine lv_iload hx hb dX11_carryOut_192 (lv_at hl 0 rfl) ?_
                    refine lv_if_eq (tgt := 201) hx hb dX11_carryOut_194 (by decide) (fun c30 => ?_) (fun c30 => ?_)
                    · rw [if_pos c30] at hf
                      refine lv_iconst (v := 0) hx hb dX11_carryOut_201 (by decide) ?_
                      obtain ⟨g31, hf⟩ := gdE hf
                      refine sZ C0 w (n := 16) (by decide +kernel) (inbE g31) (bzV (by decide)) dX11_carryOut_202 (fun H locs w => ?_)
                      refine lv_iconst (v := 1) hx hb dX11_carryOut_203 (by decide) ?_
                      obtain rfl := Option.some.inj hf
                      exact eI C0 hr w (bzE (x := 1) (by decide)) dX11_carryOut_204
                    · rw [if_neg c30] at hf
                      refine lv_iconst (v := 1) hx hb dX11_carryOut_197 (by decide) ?_
                      refine lv_goto (tgt := 202) hx hb dX11_carryOut_198 (by decide) ?_
                      obtain ⟨g32, hf⟩ := gdE hf
                      refine sZ C0 w (n := 16) (by decide +kernel) (inbE g32) (bzV (by decide)) dX11_carryOut_202 (fun H locs w => ?_)
                      refine lv_iconst (v := 1) hx hb dX11_carryOut_203 (by decide) ?_
                      obtain rfl := Option.some.inj hf
                      exact eI C0 hr w (bzE (x := 1) (by decide)) dX11_carryOut_204
    · rw [if_pos c7] at hf
      refine lv_iconst (v := 0) hx hb dX11_carryOut_46 (by decide) ?_
      obtain rfl := Option.some.inj hf
      exact eI C0 hr w (bzE (x := 0) (by decide)) dX11_carryOut_47
def f_X11_run_31 : Nat → Int32 → Mem → Option (Int32 × Mem)
  | 0, _, _ => none
  | n + 1, x2, σ =>
    if (σ.1 219 5) ≤ x2 then (
      some ((x2, σ)))
    else (
      bd (f_X11_carryOut x2 σ) (fun q2 =>
      if q2.1 = 0 then (
        some ((x2, q2.2)))
      else (
        f_X11_run_31 n (x2 + 1) q2.2)))
def f_X11_run (σ : Mem) : Option (Int32 × Mem) :=
  bd (f_X5_parse σ) (fun q1 =>
  if q1.1 = ((-1 : Int32)) then (
    bd (f_X3_save 1 q1.2) (fun q4 =>
    bd (f_X11_run_31 100000 0 q4) (fun q6 =>
    some ((q6.1, q6.2)))))
  else (
    some ((((-10 : Int32)) - q1.1, q1.2))))
abbrev rm_X11_run : Room := { frames := 8, cells := 0, slots := 0, locals := 179 }
set_option maxHeartbeats 4000000 in
set_option maxRecDepth 100000 in
theorem lp_X11_run_31 {p : Program} {e : Env} {s : State} {m : MethodId} {args : Array Value} {below : List Frame} {meth : Method} {c : Code} {Q : State → Prop} (l : Launch) (B : Wb) (C0 : Cx p s m args meth c cX11_run 3 RX11) : ∀ (n : Nat) (x2 : Int32) (σ : Mem) (o : Int32 × Mem) (H : Heap) (locs : List Loc) (ls : Array Slot), f_X11_run_31 n x2 σ = some o → Wx B σ s H locs → lv_has ls 3 [(0, .ref (wA B 0)), (2, .int x2)] → (∀ (H : Heap) (locs : List Loc) (ls : Array Slot), Wx B o.2 s H locs → lv_has ls 3 [(2, .int o.1)] → W p l e rm_X11_run s m args below meth c H locs 0 0 Q (F0 m 56 ls [])) → W p l e rm_X11_run s m args below meth c H locs 0 0 Q (F0 m 31 ls []) := by
  have hx := C0.1.1
  have hb := C0.1.2.1
  intro n
  induction n with
  | zero =>
    intro x2 σ o H locs ls hf w hl hK
    cases hf
  | succ n ih =>
    intro x2 σ o H locs ls hf w hl hK
    rw [f_X11_run_31] at hf
    refine lv_iload_n hx hb dX11_run_31 rfl (lv_at hl 1 rfl) ?_
    refine lv_aload_n hx hb dX11_run_32 rfl (lv_at hl 0 rfl) ?_
    refine gR C0 w 219 fk_X11_78 (by decide +kernel) dX11_run_33 ?_
    refine gI C0 w fk_X11_282 (by decide +kernel) dX11_run_36 ?_
    refine lv_icmp_ge (tgt := 56) hx hb dX11_run_39 (by decide) (fun c1 => ?_) (fun c1 => ?_)
    · rw [if_pos c1] at hf
      obtain rfl := Option.some.inj hf
      exact hK _ _ _ w (lv_sub hl [1] rfl)
    · rw [if_neg c1] at hf
      refine lv_aload_n hx hb dX11_run_42 rfl (lv_at hl 0 rfl) ?_
      refine lv_iload_n hx hb dX11_run_43 rfl (lv_at hl 1 rfl) ?_
      obtain ⟨q2, h3, hf⟩ := bdE hf
      refine cV (As := [.int x2]) (rest := []) (k := 0) (ci := 9) (T := TX11) (N := 9) C0 w (m_X11_carryOut l B _ σ x2 q2 h3) ky_X11_carryOut kv_X11_carryOut lk_X11_285 rfl (by decide +kernel) ⟨Nat.le_of_ble_eq_true rfl, Nat.le_of_ble_eq_true rfl⟩ ⟨Nat.le_of_ble_eq_true rfl, Nat.le_of_ble_eq_true rfl⟩ rfl (by rfl) (Nat.le_of_ble_eq_true rfl) hl.1 dX11_run_44 (fun H locs w => ?_)
      refine lv_if_eq (tgt := 56) hx hb dX11_run_47 (by decide) (fun c4 => ?_) (fun c4 => ?_)
      · rw [if_pos c4] at hf
        obtain rfl := Option.some.inj hf
        exact hK _ _ _ w (lv_sub hl [1] rfl)
      · rw [if_neg c4] at hf
        refine lv_iinc (k := 1) (v := x2 + 1) (lv' := [(2, .int (x2 + 1)), (0, .ref (wA B 0))]) hx hb dX11_run_50 hl rfl (by rfl) (by decide) rfl (fun ls hl => ?_)
        refine lv_goto (tgt := 31) hx hb dX11_run_53 (by decide) ?_
        exact ih (x2 + 1) q2.2 _ _ _ _ hf w (lv_sub hl [1, 0] rfl) hK
set_option maxHeartbeats 4000000 in
set_option maxRecDepth 100000 in
theorem m_X11_run (l : Launch) (B : Wb) (sz : Nat) (σ : Mem) (q : Int32 × Mem) (hf : f_X11_run σ = some q) : MetC l yX11_run cX11_run 3 (some .int) rm_X11_run B sz σ q.2 [.ref (wA B 0)] (some (.int q.1)) := by
  refine met_in (by decide +kernel) (Nat.le_of_ble_eq_true rfl) ?_
  intro p e s m below meth c C0 hr w hsz ls hl
  have hx := C0.1.1
  have hb := C0.1.2.1
  unfold f_X11_run at hf
  refine lv_aload_n hx hb dX11_run_0 rfl (lv_at hl 0 rfl) ?_
  refine gR C0 w 219 fk_X11_78 (by decide +kernel) dX11_run_1 ?_
  obtain ⟨q1, h2, hf⟩ := bdE hf
  refine cV (As := []) (rest := []) (k := 219) (ci := 4) (T := TX5) (N := 7) C0 w (m_X5_parse l B _ σ q1 h2) ky_X5_parse kv_X5_parse lk_X11_279 rfl (by decide +kernel) ⟨Nat.le_of_ble_eq_true rfl, Nat.le_of_ble_eq_true rfl⟩ ⟨Nat.le_of_ble_eq_true rfl, Nat.le_of_ble_eq_true rfl⟩ rfl (by rfl) (Nat.le_of_ble_eq_true rfl) hl.1 dX11_run_4 (fun H locs w => ?_)
  refine lv_istore_n (lv' := [(1, .int q1.1), (0, .ref (wA B 0))]) hx hb dX11_run_7 rfl hl (by decide) rfl (fun ls hl => ?_)
  refine lv_iload_n hx hb dX11_run_8 rfl (lv_at hl 0 rfl) ?_
  refine lv_iconst (v := (-1)) hx hb dX11_run_9 (by decide) ?_
  refine lv_icmp_eq (tgt := 18) hx hb dX11_run_10 (by decide) (fun c3 => ?_) (fun c3 => ?_)
  · rw [if_pos c3] at hf
    refine lv_aload_n hx hb dX11_run_18 rfl (lv_at hl 1 rfl) ?_
    refine gR C0 w 189 fk_X11_71 (by decide +kernel) dX11_run_19 ?_
    refine lv_aload_n hx hb dX11_run_22 rfl (lv_at hl 1 rfl) ?_
    refine gR C0 w 1 fk_X11_10 (by decide +kernel) dX11_run_23 ?_
    obtain ⟨q4, h5, hf⟩ := bdE hf
    refine cV (As := [.ref (wA B 1)]) (rest := []) (k := 189) (ci := 2) (T := TX3) (N := 3) C0 w (m_X3_save l B _ q1.2 1 q4 h5) ky_X3_save kv_X3_save lk_X11_97 rfl (by decide +kernel) ⟨Nat.le_of_ble_eq_true rfl, Nat.le_of_ble_eq_true rfl⟩ ⟨Nat.le_of_ble_eq_true rfl, Nat.le_of_ble_eq_true rfl⟩ rfl (by rfl) (Nat.le_of_ble_eq_true rfl) hl.1 dX11_run_26 (fun H locs w => ?_)
    refine lv_iconst (v := 0) hx hb dX11_run_29 (by decide) ?_
    refine lv_istore_n (lv' := [(2, .int 0), (1, .int q1.1), (0, .ref (wA B 0))]) hx hb dX11_run_30 rfl hl (by decide) rfl (fun ls hl => ?_)
    obtain ⟨q6, h7, hf⟩ := bdE hf
    refine lp_X11_run_31 l B C0 100000 0 q4 q6 _ _ _ h7 w (lv_sub hl [2, 0] rfl) (fun H locs ls w hl => ?_)
    refine lv_iload_n hx hb dX11_run_56 rfl (lv_at hl 0 rfl) ?_
    obtain rfl := Option.some.inj hf
    exact eI C0 hr w rfl dX11_run_57
  · rw [if_neg c3] at hf
    refine lv_bipush (v := (-10)) hx hb dX11_run_13 (by decide) ?_
    refine lv_iload_n hx hb dX11_run_15 rfl (lv_at hl 0 rfl) ?_
    refine lv_isub hx hb dX11_run_16 ?_
    obtain rfl := Option.some.inj hf
    exact eI C0 hr w rfl dX11_run_17
def f_X11_type (x1 : Int32) (σ : Mem) : Option ((Int32 ⊕ String) × Mem) :=
  bd (f_X11_needRange x1 0 127 σ) (fun q1 =>
  xm q1 σ (fun v3 =>
  if (σ.1 219 1) < 120 then (
    bd (f_X5_append x1 σ) (fun q7 =>
    some (.inl (q7.1 219 1), q7)))
  else (
    some (.inr xIS, σ))))
abbrev rm_X11_type : Room := { frames := 2, cells := 0, slots := 0, locals := 44 }
abbrev rmt_X11_type : Room := { frames := 7, cells := 1, slots := 6, locals := 112 }
set_option maxHeartbeats 4000000 in
set_option maxRecDepth 100000 in
theorem m_X11_type (l : Launch) (B : Wb) (sz : Nat) (σ : Mem) (x1 : Int32) (v : Int32) (σ9 : Mem) (hf : f_X11_type x1 σ = some (.inl v, σ9)) : MetC l yX11_type cX11_type 2 (some .int) rm_X11_type B sz σ σ9 [.ref (wA B 0), .int x1] (some (.int v)) := by
  refine met_in (by decide +kernel) (Nat.le_of_ble_eq_true rfl) ?_
  intro p e s m below meth c C0 hr w hsz ls hl
  have hx := C0.1.1
  have hb := C0.1.2.1
  unfold f_X11_type at hf
  refine lv_iload_n hx hb dX11_type_0 rfl (lv_at hl 1 rfl) ?_
  refine lv_iconst (v := 0) hx hb dX11_type_1 (by decide) ?_
  refine lv_bipush (v := 127) hx hb dX11_type_2 (by decide) ?_
  obtain ⟨q1, h2, hf⟩ := bdE hf
  obtain ⟨v3, h5, hf⟩ := xmE1 hf
  subst h5
  refine cS (As := [.int x1, .int 0, .int 127]) (rest := []) C0 w (m_X11_needRange l B _ σ x1 0 127 v3 h2) ky_X11_needRange ks_X11_needRange lk_X11_93 ⟨Nat.le_of_ble_eq_true rfl, Nat.le_of_ble_eq_true rfl⟩ ⟨Nat.le_of_ble_eq_true rfl, Nat.le_of_ble_eq_true rfl⟩ rfl (by rfl) (Nat.le_of_ble_eq_true rfl) hl.1 dX11_type_4 (fun H locs w => ?_)
  refine lv_aload_n hx hb dX11_type_7 rfl (lv_at hl 0 rfl) ?_
  refine gR C0 w 219 fk_X11_78 (by decide +kernel) dX11_type_8 ?_
  refine gI C0 w fk_X11_271 (by decide +kernel) dX11_type_11 ?_
  refine lv_bipush (v := 120) hx hb dX11_type_14 (by decide) ?_
  refine lv_icmp_lt (tgt := 30) hx hb dX11_type_16 (by decide) (fun c6 => ?_) (fun c6 => ?_)
  · rw [if_pos c6] at hf
    refine lv_aload_n hx hb dX11_type_30 rfl (lv_at hl 0 rfl) ?_
    refine gR C0 w 219 fk_X11_78 (by decide +kernel) dX11_type_31 ?_
    refine lv_iload_n hx hb dX11_type_34 rfl (lv_at hl 1 rfl) ?_
    obtain ⟨q7, h8, hf⟩ := bdE hf
    refine cV (As := [.int x1]) (rest := []) (k := 219) (ci := 4) (T := TX5) (N := 7) C0 w (m_X5_append l B _ σ x1 q7 h8) ky_X5_append kv_X5_append lk_X11_276 rfl (by decide +kernel) ⟨Nat.le_of_ble_eq_true rfl, Nat.le_of_ble_eq_true rfl⟩ ⟨Nat.le_of_ble_eq_true rfl, Nat.le_of_ble_eq_true rfl⟩ rfl (by rfl) (Nat.le_of_ble_eq_true rfl) hl.1 dX11_type_35 (fun H locs w => ?_)
    refine lv_aload_n hx hb dX11_type_38 rfl (lv_at hl 0 rfl) ?_
    refine gR C0 w 219 fk_X11_78 (by decide +kernel) dX11_type_39 ?_
    refine gI C0 w fk_X11_271 (by decide +kernel) dX11_type_42 ?_
    obtain ⟨h8, h9⟩ := Prod.mk.inj (Option.some.inj hf)
    obtain rfl := Sum.inl.inj h8
    subst h9
    exact eI C0 hr w rfl dX11_type_45
  · rw [if_neg c6] at hf
    exact nomatch (Prod.mk.inj (Option.some.inj hf)).1
set_option maxHeartbeats 4000000 in
set_option maxRecDepth 100000 in
theorem t_X11_type (l : Launch) (hfl : l.stackTraces = false) (B : Wb) (sz : Nat) (σ : Mem) (x1 : Int32) (E : String) (σ9 : Mem) (hf : f_X11_type x1 σ = some (.inr E, σ9)) : MetT l yX11_type cX11_type 2 (some .int) rmt_X11_type B sz σ σ9 [.ref (wA B 0), .int x1] E := by
  refine metT_in (by decide +kernel) (Nat.le_of_ble_eq_true rfl) ?_
  intro p e s m below meth c C0 hto w hsz ls hl
  have hx := C0.1.1
  have hb := C0.1.2.1
  unfold f_X11_type at hf
  refine lv_iload_n hx hb dX11_type_0 rfl (lv_at hl 1 rfl) ?_
  refine lv_iconst (v := 0) hx hb dX11_type_1 (by decide) ?_
  refine lv_bipush (v := 127) hx hb dX11_type_2 (by decide) ?_
  obtain ⟨q1, h2, hf⟩ := bdE hf
  rcases xmE2 hf with ⟨v3, h5, hf⟩ | ⟨h5, h8⟩
  · subst h5
    refine cS (As := [.int x1, .int 0, .int 127]) (rest := []) C0 w (m_X11_needRange l B _ σ x1 0 127 v3 h2) ky_X11_needRange ks_X11_needRange lk_X11_93 ⟨Nat.le_of_ble_eq_true rfl, Nat.le_of_ble_eq_true rfl⟩ ⟨Nat.le_of_ble_eq_true rfl, Nat.le_of_ble_eq_true rfl⟩ rfl (by rfl) (Nat.le_of_ble_eq_true rfl) hl.1 dX11_type_4 (fun H locs w => ?_)
    refine lv_aload_n hx hb dX11_type_7 rfl (lv_at hl 0 rfl) ?_
    refine gR C0 w 219 fk_X11_78 (by decide +kernel) dX11_type_8 ?_
    refine gI C0 w fk_X11_271 (by decide +kernel) dX11_type_11 ?_
    refine lv_bipush (v := 120) hx hb dX11_type_14 (by decide) ?_
    refine lv_icmp_lt (tgt := 30) hx hb dX11_type_16 (by decide) (fun c6 => ?_) (fun c6 => ?_)
    · rw [if_pos c6] at hf
      refine lv_aload_n hx hb dX11_type_30 rfl (lv_at hl 0 rfl) ?_
      refine gR C0 w 219 fk_X11_78 (by decide +kernel) dX11_type_31 ?_
      refine lv_iload_n hx hb dX11_type_34 rfl (lv_at hl 1 rfl) ?_
      obtain ⟨q7, h8, hf⟩ := bdE hf
      refine cV (As := [.int x1]) (rest := []) (k := 219) (ci := 4) (T := TX5) (N := 7) C0 w (m_X5_append l B _ σ x1 q7 h8) ky_X5_append kv_X5_append lk_X11_276 rfl (by decide +kernel) ⟨Nat.le_of_ble_eq_true rfl, Nat.le_of_ble_eq_true rfl⟩ ⟨Nat.le_of_ble_eq_true rfl, Nat.le_of_ble_eq_true rfl⟩ rfl (by rfl) (Nat.le_of_ble_eq_true rfl) hl.1 dX11_type_35 (fun H locs w => ?_)
      refine lv_aload_n hx hb dX11_type_38 rfl (lv_at hl 0 rfl) ?_
      refine gR C0 w 219 fk_X11_78 (by decide +kernel) dX11_type_39 ?_
      refine gI C0 w fk_X11_271 (by decide +kernel) dX11_type_42 ?_
      exact nomatch (Prod.mk.inj (Option.some.inj hf)).1
    · rw [if_neg c6] at hf
      obtain ⟨h8, h9⟩ := Prod.mk.inj (Option.some.inj hf)
      obtain rfl := Sum.inr.inj h8
      subst h9
      exact xThrowW C0 hfl hto w xk_X11_274_150 hl.1 dX11_type_19 dX11_type_22 dX11_type_23 dX11_type_26 dX11_type_29 (Nat.le_of_ble_eq_true rfl) (Nat.le_of_ble_eq_true rfl) (Nat.le_of_ble_eq_true rfl) (Nat.le_of_ble_eq_true rfl) (Nat.le_of_ble_eq_true rfl) (Nat.le_of_ble_eq_true rfl)
  · subst h5
    have h8 := h8.symm
    subst h8
    refine cST (As := [.int x1, .int 0, .int 127]) (rest := []) C0 w (t_X11_needRange l hfl B _ σ x1 0 127 _ h2) ky_X11_needRange ks_X11_needRange lk_X11_93 ⟨Nat.le_of_ble_eq_true rfl, Nat.le_of_ble_eq_true rfl⟩ ⟨Nat.le_of_ble_eq_true rfl, Nat.le_of_ble_eq_true rfl⟩ rfl (by rfl) (Nat.le_of_ble_eq_true rfl) hl.1 dX11_type_4 (fun ce q9 H locs w g1 g2 g3 => ?_)
    exact xOut C0 hto w g1 g2 g3 (Nat.le_of_ble_eq_true rfl) (Nat.le_of_ble_eq_true rfl)
