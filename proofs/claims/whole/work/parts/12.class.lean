def f_X11_isWithin (x0 : Int32) (x1 : Int32) (x2 : Int32) (σ : Mem) : Option (Int32) :=
  if x0 < x1 then (
    some 0)
  else (
    if x2 < x0 then (
      some 0)
    else (
      some 1))
abbrev rm_X11_isWithin : Room := { frames := 0, cells := 0, slots := 0, locals := 0 }
set_option maxHeartbeats 4000000 in
set_option maxRecDepth 100000 in
theorem m_X11_isWithin (l : Launch) (B : Wb) (sz : Nat) (σ : Mem) (x0 : Int32) (x1 : Int32) (x2 : Int32) (q : Int32) (hf : f_X11_isWithin x0 x1 x2 σ = some q) : MetC l yX11_isWithin cX11_isWithin 3 (some .boolean) rm_X11_isWithin B sz σ σ [.int x0, .int x1, .int x2] (some (.int q)) := by
  refine met_in (by decide +kernel) (Nat.le_of_ble_eq_true rfl) ?_
  intro p e s m below meth c C0 hr w hsz ls hl
  have hx := C0.1.1
  have hb := C0.1.2.1
  unfold f_X11_isWithin at hf
  refine lv_iload_n hx hb dX11_isWithin_0 rfl (lv_at hl 0 rfl) ?_
  refine lv_iload_n hx hb dX11_isWithin_1 rfl (lv_at hl 1 rfl) ?_
  refine lv_icmp_lt (tgt := 14) hx hb dX11_isWithin_2 (by decide) (fun c1 => ?_) (fun c1 => ?_)
  · rw [if_pos c1] at hf
    refine lv_iconst (v := 0) hx hb dX11_isWithin_14 (by decide) ?_
    obtain rfl := Option.some.inj hf
    exact eI C0 hr w (bzE (x := 0) (by decide)) dX11_isWithin_15
  · rw [if_neg c1] at hf
    refine lv_iload_n hx hb dX11_isWithin_5 rfl (lv_at hl 0 rfl) ?_
    refine lv_iload_n hx hb dX11_isWithin_6 rfl (lv_at hl 2 rfl) ?_
    refine lv_icmp_gt (tgt := 14) hx hb dX11_isWithin_7 (by decide) (fun c2 => ?_) (fun c2 => ?_)
    · rw [if_pos c2] at hf
      refine lv_iconst (v := 0) hx hb dX11_isWithin_14 (by decide) ?_
      obtain rfl := Option.some.inj hf
      exact eI C0 hr w (bzE (x := 0) (by decide)) dX11_isWithin_15
    · rw [if_neg c2] at hf
      refine lv_iconst (v := 1) hx hb dX11_isWithin_10 (by decide) ?_
      refine lv_goto (tgt := 15) hx hb dX11_isWithin_11 (by decide) ?_
      obtain rfl := Option.some.inj hf
      exact eI C0 hr w (bzE (x := 1) (by decide)) dX11_isWithin_15
def f_X4_cellsOutsideBounds_4 (σ : Mem) : Nat → Int32 → Int32 → Option (Int32)
  | 0, _, _ => none
  | n + 1, x1, x2 =>
    bd (f_X7_cellCount σ) (fun q1 =>
    if q1 ≤ x2 then (
      some x1)
    else (
      gd (inb x2 64) (
      bd (f_X11_isWithin (σ.1 2 x2.toNatClampNeg) (σ.1 1 2) (σ.1 1 3) σ) (fun q5 =>
      if q5 = 0 then (
        f_X4_cellsOutsideBounds_4 σ n (x1 + 1) (x2 + 1))
      else (
        f_X4_cellsOutsideBounds_4 σ n x1 (x2 + 1))))))
def f_X4_cellsOutsideBounds (σ : Mem) : Option (Int32) :=
  bd (f_X4_cellsOutsideBounds_4 σ 100000 0 0) (fun q1 =>
  some q1)
abbrev rm_X4_cellsOutsideBounds : Room := { frames := 1, cells := 0, slots := 0, locals := 22 }
set_option maxHeartbeats 4000000 in
set_option maxRecDepth 100000 in
theorem lp_X4_cellsOutsideBounds_4 {p : Program} {e : Env} {s : State} {m : MethodId} {args : Array Value} {below : List Frame} {meth : Method} {c : Code} {Q : State → Prop} (l : Launch) (B : Wb) (C0 : Cx p s m args meth c cX4_cellsOutsideBounds 3 RX4) : ∀ (n : Nat) (x1 : Int32) (x2 : Int32) (σ : Mem) (o : Int32) (H : Heap) (locs : List Loc) (ls : Array Slot), f_X4_cellsOutsideBounds_4 σ n x1 x2 = some o → Wx B σ s H locs → lv_has ls 3 [(0, .ref (wA B 182)), (1, .int x1), (2, .int x2)] → (∀ (H : Heap) (locs : List Loc) (ls : Array Slot), Wx B σ s H locs → lv_has ls 3 [(1, .int o)] → W p l e rm_X4_cellsOutsideBounds s m args below meth c H locs 0 0 Q (F0 m 53 ls [])) → W p l e rm_X4_cellsOutsideBounds s m args below meth c H locs 0 0 Q (F0 m 4 ls []) := by
  have hx := C0.1.1
  have hb := C0.1.2.1
  intro n
  induction n with
  | zero =>
    intro x1 x2 σ o H locs ls hf w hl hK
    cases hf
  | succ n ih =>
    intro x1 x2 σ o H locs ls hf w hl hK
    rw [f_X4_cellsOutsideBounds_4] at hf
    refine lv_iload_n hx hb dX4_cellsOutsideBounds_4 rfl (lv_at hl 2 rfl) ?_
    refine lv_aload_n hx hb dX4_cellsOutsideBounds_5 rfl (lv_at hl 0 rfl) ?_
    refine gR C0 w 1 fk_X4_9 (by decide +kernel) dX4_cellsOutsideBounds_6 ?_
    obtain ⟨q1, h2, hf⟩ := bdE hf
    refine cV (As := []) (rest := [.int x2]) (k := 1) (ci := 6) (T := TX7) (N := 14) C0 w (m_X7_cellCount l B _ σ q1 h2) ky_X7_cellCount kv_X7_cellCount lk_X4_39 rfl (by decide +kernel) ⟨Nat.le_of_ble_eq_true rfl, Nat.le_of_ble_eq_true rfl⟩ ⟨Nat.le_of_ble_eq_true rfl, Nat.le_of_ble_eq_true rfl⟩ rfl (by rfl) (Nat.le_of_ble_eq_true rfl) hl.1 dX4_cellsOutsideBounds_9 (fun H locs w => ?_)
    refine lv_icmp_ge (tgt := 53) hx hb dX4_cellsOutsideBounds_12 (by decide) (fun c3 => ?_) (fun c3 => ?_)
    · rw [if_pos c3] at hf
      obtain rfl := Option.some.inj hf
      exact hK _ _ _ w (lv_sub hl [1] rfl)
    · rw [if_neg c3] at hf
      refine lv_aload_n hx hb dX4_cellsOutsideBounds_15 rfl (lv_at hl 0 rfl) ?_
      refine gR C0 w 1 fk_X4_9 (by decide +kernel) dX4_cellsOutsideBounds_16 ?_
      refine gR C0 w 2 fk_X4_47 (by decide +kernel) dX4_cellsOutsideBounds_19 ?_
      refine lv_iload_n hx hb dX4_cellsOutsideBounds_22 rfl (lv_at hl 2 rfl) ?_
      obtain ⟨g4, hf⟩ := gdE hf
      refine aI C0 w (n := 64) (by decide +kernel) (inbE g4) dX4_cellsOutsideBounds_23 ?_
      refine lv_aload_n hx hb dX4_cellsOutsideBounds_24 rfl (lv_at hl 0 rfl) ?_
      refine gR C0 w 1 fk_X4_9 (by decide +kernel) dX4_cellsOutsideBounds_25 ?_
      refine gI C0 w fk_X4_51 (by decide +kernel) dX4_cellsOutsideBounds_28 ?_
      refine lv_aload_n hx hb dX4_cellsOutsideBounds_31 rfl (lv_at hl 0 rfl) ?_
      refine gR C0 w 1 fk_X4_9 (by decide +kernel) dX4_cellsOutsideBounds_32 ?_
      refine gI C0 w fk_X4_54 (by decide +kernel) dX4_cellsOutsideBounds_35 ?_
      obtain ⟨q5, h6, hf⟩ := bdE hf
      refine cN (As := [.int (σ.1 2 x2.toNatClampNeg), .int (σ.1 1 2), .int (σ.1 1 3)]) (rest := []) (host := RX11) (idx := 57) C0 w (m_X11_isWithin l B _ σ (σ.1 2 x2.toNatClampNeg) (σ.1 1 2) (σ.1 1 3) q5 h6) ky_X11_isWithin ks_X11_isWithin (by decide) ⟨Nat.le_of_ble_eq_true rfl, Nat.le_of_ble_eq_true rfl⟩ ⟨Nat.le_of_ble_eq_true rfl, Nat.le_of_ble_eq_true rfl⟩ rfl (by rfl) (Nat.le_of_ble_eq_true rfl) hl.1 dX4_cellsOutsideBounds_38 (fun H locs w => ?_)
      refine lv_if_ne (tgt := 47) hx hb dX4_cellsOutsideBounds_41 (by decide) (fun c7 => ?_) (fun c7 => ?_)
      · rw [if_neg c7] at hf
        refine lv_iinc (k := 2) (v := x2 + 1) (lv' := [(2, .int (x2 + 1)), (0, .ref (wA B 182)), (1, .int x1)]) hx hb dX4_cellsOutsideBounds_47 hl rfl (by rfl) (by decide) rfl (fun ls hl => ?_)
        refine lv_goto (tgt := 4) hx hb dX4_cellsOutsideBounds_50 (by decide) ?_
        exact ih x1 (x2 + 1) σ _ _ _ _ hf w (lv_sub hl [1, 2, 0] rfl) hK
      · rw [if_pos c7] at hf
        refine lv_iinc (k := 1) (v := x1 + 1) (lv' := [(1, .int (x1 + 1)), (0, .ref (wA B 182)), (2, .int x2)]) hx hb dX4_cellsOutsideBounds_44 hl rfl (by rfl) (by decide) rfl (fun ls hl => ?_)
        refine lv_iinc (k := 2) (v := x2 + 1) (lv' := [(2, .int (x2 + 1)), (1, .int (x1 + 1)), (0, .ref (wA B 182))]) hx hb dX4_cellsOutsideBounds_47 hl rfl (by rfl) (by decide) rfl (fun ls hl => ?_)
        refine lv_goto (tgt := 4) hx hb dX4_cellsOutsideBounds_50 (by decide) ?_
        exact ih (x1 + 1) (x2 + 1) σ _ _ _ _ hf w (lv_sub hl [2, 1, 0] rfl) hK
set_option maxHeartbeats 4000000 in
set_option maxRecDepth 100000 in
theorem m_X4_cellsOutsideBounds (l : Launch) (B : Wb) (sz : Nat) (σ : Mem) (q : Int32) (hf : f_X4_cellsOutsideBounds σ = some q) : MetC l yX4_cellsOutsideBounds cX4_cellsOutsideBounds 3 (some .int) rm_X4_cellsOutsideBounds B sz σ σ [.ref (wA B 182)] (some (.int q)) := by
  refine met_in (by decide +kernel) (Nat.le_of_ble_eq_true rfl) ?_
  intro p e s m below meth c C0 hr w hsz ls hl
  have hx := C0.1.1
  have hb := C0.1.2.1
  unfold f_X4_cellsOutsideBounds at hf
  refine lv_iconst (v := 0) hx hb dX4_cellsOutsideBounds_0 (by decide) ?_
  refine lv_istore_n (lv' := [(1, .int 0), (0, .ref (wA B 182))]) hx hb dX4_cellsOutsideBounds_1 rfl hl (by decide) rfl (fun ls hl => ?_)
  refine lv_iconst (v := 0) hx hb dX4_cellsOutsideBounds_2 (by decide) ?_
  refine lv_istore_n (lv' := [(2, .int 0), (1, .int 0), (0, .ref (wA B 182))]) hx hb dX4_cellsOutsideBounds_3 rfl hl (by decide) rfl (fun ls hl => ?_)
  obtain ⟨q1, h2, hf⟩ := bdE hf
  refine lp_X4_cellsOutsideBounds_4 l B C0 100000 0 0 σ q1 _ _ _ h2 w (lv_sub hl [2, 1, 0] rfl) (fun H locs ls w hl => ?_)
  refine lv_iload_n hx hb dX4_cellsOutsideBounds_53 rfl (lv_at hl 0 rfl) ?_
  obtain rfl := Option.some.inj hf
  exact eI C0 hr w rfl dX4_cellsOutsideBounds_54
def f_X4_misfitSum_4 : Nat → Int64 → Int32 → Mem → Option (Int64 × Mem)
  | 0, _, _, _ => none
  | n + 1, x1, x3, σ =>
    if (σ.1 1 7) ≤ x3 then (
      some ((x1, σ)))
    else (
      bd (f_X7_isActive x3 σ) (fun q2 =>
      if q2 = 0 then (
        f_X4_misfitSum_4 n x1 (x3 + 1) σ)
      else (
        gd (inb x3 16) (
        bd (f_X9_find x3 σ) (fun q6 =>
        f_X4_misfitSum_4 n (x1 + ((if 0 < ((σ.2 6 x3.toNatClampNeg) - q6.1) then ((σ.2 6 x3.toNatClampNeg) - q6.1) else -((σ.2 6 x3.toNatClampNeg) - q6.1)))) (x3 + 1) q6.2)))))
def f_X4_misfitSum (σ : Mem) : Option (Int64 × Mem) :=
  bd (f_X4_misfitSum_4 100000 0 0 σ) (fun q1 =>
  some ((q1.1, q1.2)))
abbrev rm_X4_misfitSum : Room := { frames := 3, cells := 0, slots := 0, locals := 79 }
set_option maxHeartbeats 4000000 in
set_option maxRecDepth 100000 in
theorem lp_X4_misfitSum_4 {p : Program} {e : Env} {s : State} {m : MethodId} {args : Array Value} {below : List Frame} {meth : Method} {c : Code} {Q : State → Prop} (l : Launch) (B : Wb) (C0 : Cx p s m args meth c cX4_misfitSum 4 RX4) : ∀ (n : Nat) (x1 : Int64) (x3 : Int32) (σ : Mem) (o : Int64 × Mem) (H : Heap) (locs : List Loc) (ls : Array Slot), f_X4_misfitSum_4 n x1 x3 σ = some o → Wx B σ s H locs → lv_has ls 4 [(0, .ref (wA B 182)), (1, .long x1), (3, .int x3)] → (∀ (H : Heap) (locs : List Loc) (ls : Array Slot), Wx B o.2 s H locs → lv_has ls 4 [(1, .long o.1)] → W p l e rm_X4_misfitSum s m args below meth c H locs 0 0 Q (F0 m 56 ls [])) → W p l e rm_X4_misfitSum s m args below meth c H locs 0 0 Q (F0 m 4 ls []) := by
  have hx := C0.1.1
  have hb := C0.1.2.1
  intro n
  induction n with
  | zero =>
    intro x1 x3 σ o H locs ls hf w hl hK
    cases hf
  | succ n ih =>
    intro x1 x3 σ o H locs ls hf w hl hK
    rw [f_X4_misfitSum_4] at hf
    refine lv_iload_n hx hb dX4_misfitSum_4 rfl (lv_at hl 2 rfl) ?_
    refine lv_aload_n hx hb dX4_misfitSum_5 rfl (lv_at hl 0 rfl) ?_
    refine gR C0 w 1 fk_X4_9 (by decide +kernel) dX4_misfitSum_6 ?_
    refine gI C0 w fk_X4_19 (by decide +kernel) dX4_misfitSum_9 ?_
    refine lv_icmp_ge (tgt := 56) hx hb dX4_misfitSum_12 (by decide) (fun c1 => ?_) (fun c1 => ?_)
    · rw [if_pos c1] at hf
      obtain rfl := Option.some.inj hf
      exact hK _ _ _ w (lv_sub hl [1] rfl)
    · rw [if_neg c1] at hf
      refine lv_aload_n hx hb dX4_misfitSum_15 rfl (lv_at hl 0 rfl) ?_
      refine gR C0 w 1 fk_X4_9 (by decide +kernel) dX4_misfitSum_16 ?_
      refine lv_iload_n hx hb dX4_misfitSum_19 rfl (lv_at hl 2 rfl) ?_
      obtain ⟨q2, h3, hf⟩ := bdE hf
      refine cV (As := [.int x3]) (rest := []) (k := 1) (ci := 6) (T := TX7) (N := 14) C0 w (m_X7_isActive l B _ σ x3 q2 h3) ky_X7_isActive kv_X7_isActive lk_X4_25 rfl (by decide +kernel) ⟨Nat.le_of_ble_eq_true rfl, Nat.le_of_ble_eq_true rfl⟩ ⟨Nat.le_of_ble_eq_true rfl, Nat.le_of_ble_eq_true rfl⟩ rfl (by rfl) (Nat.le_of_ble_eq_true rfl) hl.1 dX4_misfitSum_20 (fun H locs w => ?_)
      refine lv_if_eq (tgt := 50) hx hb dX4_misfitSum_23 (by decide) (fun c4 => ?_) (fun c4 => ?_)
      · rw [if_pos c4] at hf
        refine lv_iinc (k := 2) (v := x3 + 1) (lv' := [(3, .int (x3 + 1)), (0, .ref (wA B 182)), (1, .long x1)]) hx hb dX4_misfitSum_50 hl rfl (by rfl) (by decide) rfl (fun ls hl => ?_)
        refine lv_goto (tgt := 4) hx hb dX4_misfitSum_53 (by decide) ?_
        exact ih x1 (x3 + 1) σ _ _ _ _ hf w (lv_sub hl [1, 2, 0] rfl) hK
      · rw [if_neg c4] at hf
        refine lv_lload_n hx hb dX4_misfitSum_26 rfl (lv_at hl 1 rfl) ?_
        refine lv_aload_n hx hb dX4_misfitSum_27 rfl (lv_at hl 0 rfl) ?_
        refine gR C0 w 1 fk_X4_9 (by decide +kernel) dX4_misfitSum_28 ?_
        refine gR C0 w 6 fk_X4_61 (by decide +kernel) dX4_misfitSum_31 ?_
        refine lv_iload_n hx hb dX4_misfitSum_34 rfl (lv_at hl 2 rfl) ?_
        obtain ⟨g5, hf⟩ := gdE hf
        refine aL C0 w (n := 16) (by decide +kernel) (inbE g5) dX4_misfitSum_35 ?_
        refine lv_aload_n hx hb dX4_misfitSum_36 rfl (lv_at hl 0 rfl) ?_
        refine gR C0 w 143 fk_X4_15 (by decide +kernel) dX4_misfitSum_37 ?_
        refine lv_iload_n hx hb dX4_misfitSum_40 rfl (lv_at hl 2 rfl) ?_
        obtain ⟨q6, h7, hf⟩ := bdE hf
        refine cV (As := [.int x3]) (rest := [.long (σ.2 6 x3.toNatClampNeg), .long x1]) (k := 143) (ci := 8) (T := TX9) (N := 9) C0 w (m_X9_find l B _ σ x3 q6 h7) ky_X9_find kv_X9_find lk_X4_29 rfl (by decide +kernel) ⟨Nat.le_of_ble_eq_true rfl, Nat.le_of_ble_eq_true rfl⟩ ⟨Nat.le_of_ble_eq_true rfl, Nat.le_of_ble_eq_true rfl⟩ rfl (by rfl) (Nat.le_of_ble_eq_true rfl) hl.1 dX4_misfitSum_41 (fun H locs w => ?_)
        refine lv_lsub hx hb dX4_misfitSum_44 ?_
        refine mAbsL C0 lk_X4_65 ms_absl mi_Math mc_absl hl.1 (Nat.le_of_ble_eq_true rfl) (Nat.le_of_ble_eq_true rfl) (Nat.zero_le _) (Nat.zero_le _) dX4_misfitSum_45 ?_
        refine lv_ladd hx hb dX4_misfitSum_48 ?_
        refine lv_lstore_n (lv' := [(1, .long (x1 + ((if 0 < ((σ.2 6 x3.toNatClampNeg) - q6.1) then ((σ.2 6 x3.toNatClampNeg) - q6.1) else -((σ.2 6 x3.toNatClampNeg) - q6.1))))), (0, .ref (wA B 182)), (3, .int x3)]) hx hb dX4_misfitSum_49 rfl hl (by decide) rfl (fun ls hl => ?_)
        refine lv_iinc (k := 2) (v := x3 + 1) (lv' := [(3, .int (x3 + 1)), (1, .long (x1 + ((if 0 < ((σ.2 6 x3.toNatClampNeg) - q6.1) then ((σ.2 6 x3.toNatClampNeg) - q6.1) else -((σ.2 6 x3.toNatClampNeg) - q6.1))))), (0, .ref (wA B 182))]) hx hb dX4_misfitSum_50 hl rfl (by rfl) (by decide) rfl (fun ls hl => ?_)
        refine lv_goto (tgt := 4) hx hb dX4_misfitSum_53 (by decide) ?_
        exact ih (x1 + ((if 0 < ((σ.2 6 x3.toNatClampNeg) - q6.1) then ((σ.2 6 x3.toNatClampNeg) - q6.1) else -((σ.2 6 x3.toNatClampNeg) - q6.1)))) (x3 + 1) q6.2 _ _ _ _ hf w (lv_sub hl [2, 1, 0] rfl) hK
set_option maxHeartbeats 4000000 in
set_option maxRecDepth 100000 in
theorem m_X4_misfitSum (l : Launch) (B : Wb) (sz : Nat) (σ : Mem) (q : Int64 × Mem) (hf : f_X4_misfitSum σ = some q) : MetC l yX4_misfitSum cX4_misfitSum 4 (some .long) rm_X4_misfitSum B sz σ q.2 [.ref (wA B 182)] (some (.long q.1)) := by
  refine met_in (by decide +kernel) (Nat.le_of_ble_eq_true rfl) ?_
  intro p e s m below meth c C0 hr w hsz ls hl
  have hx := C0.1.1
  have hb := C0.1.2.1
  unfold f_X4_misfitSum at hf
  refine lv_lconst (v := 0) hx hb dX4_misfitSum_0 (by decide) ?_
  refine lv_lstore_n (lv' := [(1, .long 0), (0, .ref (wA B 182))]) hx hb dX4_misfitSum_1 rfl hl (by decide) rfl (fun ls hl => ?_)
  refine lv_iconst (v := 0) hx hb dX4_misfitSum_2 (by decide) ?_
  refine lv_istore_n (lv' := [(3, .int 0), (1, .long 0), (0, .ref (wA B 182))]) hx hb dX4_misfitSum_3 rfl hl (by decide) rfl (fun ls hl => ?_)
  obtain ⟨q1, h2, hf⟩ := bdE hf
  refine lp_X4_misfitSum_4 l B C0 100000 0 0 σ q1 _ _ _ h2 w (lv_sub hl [2, 1, 0] rfl) (fun H locs ls w hl => ?_)
  refine lv_lload_n hx hb dX4_misfitSum_56 rfl (lv_at hl 0 rfl) ?_
  obtain rfl := Option.some.inj hf
  exact eL C0 hr w dX4_misfitSum_57
def f_X4_worstRay_9 : Nat → Int32 → Int64 → Int32 → Mem → Option (Int32 × Mem)
  | 0, _, _, _, _ => none
  | n + 1, x1, x2, x4, σ =>
    if (σ.1 1 7) ≤ x4 then (
      some ((x1, σ)))
    else (
      bd (f_X7_isActive x4 σ) (fun q2 =>
      if q2 = 0 then (
        f_X4_worstRay_9 n x1 x2 (x4 + 1) σ)
      else (
        gd (inb x4 16) (
        bd (f_X9_find x4 σ) (fun q6 =>
        if ((if 0 < ((σ.2 6 x4.toNatClampNeg) - q6.1) then ((σ.2 6 x4.toNatClampNeg) - q6.1) else -((σ.2 6 x4.toNatClampNeg) - q6.1))) ≤ x2 then (
          f_X4_worstRay_9 n x1 x2 (x4 + 1) q6.2)
        else (
          f_X4_worstRay_9 n x4 ((if 0 < ((σ.2 6 x4.toNatClampNeg) - q6.1) then ((σ.2 6 x4.toNatClampNeg) - q6.1) else -((σ.2 6 x4.toNatClampNeg) - q6.1))) (x4 + 1) q6.2))))))
def f_X4_worstRay (σ : Mem) : Option (Int32 × Mem) :=
  bd (f_X4_worstRay_9 100000 ((-1 : Int32)) ((-1 : Int64)) 0 σ) (fun q1 =>
  some ((q1.1, q1.2)))
abbrev rm_X4_worstRay : Room := { frames := 3, cells := 0, slots := 0, locals := 79 }
set_option maxHeartbeats 4000000 in
set_option maxRecDepth 100000 in
theorem lp_X4_worstRay_9 {p : Program} {e : Env} {s : State} {m : MethodId} {args : Array Value} {below : List Frame} {meth : Method} {c : Code} {Q : State → Prop} (l : Launch) (B : Wb) (C0 : Cx p s m args meth c cX4_worstRay 7 RX4) : ∀ (n : Nat) (x1 : Int32) (x2 : Int64) (x4 : Int32) (σ : Mem) (o : Int32 × Mem) (H : Heap) (locs : List Loc) (ls : Array Slot), f_X4_worstRay_9 n x1 x2 x4 σ = some o → Wx B σ s H locs → lv_has ls 7 [(0, .ref (wA B 182)), (1, .int x1), (2, .long x2), (4, .int x4)] → (∀ (H : Heap) (locs : List Loc) (ls : Array Slot), Wx B o.2 s H locs → lv_has ls 7 [(1, .int o.1)] → W p l e rm_X4_worstRay s m args below meth c H locs 0 0 Q (F0 m 77 ls [])) → W p l e rm_X4_worstRay s m args below meth c H locs 0 0 Q (F0 m 9 ls []) := by
  have hx := C0.1.1
  have hb := C0.1.2.1
  intro n
  induction n with
  | zero =>
    intro x1 x2 x4 σ o H locs ls hf w hl hK
    cases hf
  | succ n ih =>
    intro x1 x2 x4 σ o H locs ls hf w hl hK
    rw [f_X4_worstRay_9] at hf
    refine lv_iload hx hb dX4_worstRay_9 (lv_at hl 3 rfl) ?_
    refine lv_aload_n hx hb dX4_worstRay_11 rfl (lv_at hl 0 rfl) ?_
    refine gR C0 w 1 fk_X4_9 (by decide +kernel) dX4_worstRay_12 ?_
    refine gI C0 w fk_X4_19 (by decide +kernel) dX4_worstRay_15 ?_
    refine lv_icmp_ge (tgt := 77) hx hb dX4_worstRay_18 (by decide) (fun c1 => ?_) (fun c1 => ?_)
    · rw [if_pos c1] at hf
      obtain rfl := Option.some.inj hf
      exact hK _ _ _ w (lv_sub hl [1] rfl)
    · rw [if_neg c1] at hf
      refine lv_aload_n hx hb dX4_worstRay_21 rfl (lv_at hl 0 rfl) ?_
      refine gR C0 w 1 fk_X4_9 (by decide +kernel) dX4_worstRay_22 ?_
      refine lv_iload hx hb dX4_worstRay_25 (lv_at hl 3 rfl) ?_
      obtain ⟨q2, h3, hf⟩ := bdE hf
      refine cV (As := [.int x4]) (rest := []) (k := 1) (ci := 6) (T := TX7) (N := 14) C0 w (m_X7_isActive l B _ σ x4 q2 h3) ky_X7_isActive kv_X7_isActive lk_X4_25 rfl (by decide +kernel) ⟨Nat.le_of_ble_eq_true rfl, Nat.le_of_ble_eq_true rfl⟩ ⟨Nat.le_of_ble_eq_true rfl, Nat.le_of_ble_eq_true rfl⟩ rfl (by rfl) (Nat.le_of_ble_eq_true rfl) hl.1 dX4_worstRay_27 (fun H locs w => ?_)
      refine lv_if_eq (tgt := 71) hx hb dX4_worstRay_30 (by decide) (fun c4 => ?_) (fun c4 => ?_)
      · rw [if_pos c4] at hf
        refine lv_iinc (k := 3) (v := x4 + 1) (lv' := [(4, .int (x4 + 1)), (0, .ref (wA B 182)), (1, .int x1), (2, .long x2)]) hx hb dX4_worstRay_71 hl rfl (by rfl) (by decide) rfl (fun ls hl => ?_)
        refine lv_goto (tgt := 9) hx hb dX4_worstRay_74 (by decide) ?_
        exact ih x1 x2 (x4 + 1) σ _ _ _ _ hf w (lv_sub hl [1, 2, 3, 0] rfl) hK
      · rw [if_neg c4] at hf
        refine lv_aload_n hx hb dX4_worstRay_33 rfl (lv_at hl 0 rfl) ?_
        refine gR C0 w 1 fk_X4_9 (by decide +kernel) dX4_worstRay_34 ?_
        refine gR C0 w 6 fk_X4_61 (by decide +kernel) dX4_worstRay_37 ?_
        refine lv_iload hx hb dX4_worstRay_40 (lv_at hl 3 rfl) ?_
        obtain ⟨g5, hf⟩ := gdE hf
        refine aL C0 w (n := 16) (by decide +kernel) (inbE g5) dX4_worstRay_42 ?_
        refine lv_aload_n hx hb dX4_worstRay_43 rfl (lv_at hl 0 rfl) ?_
        refine gR C0 w 143 fk_X4_15 (by decide +kernel) dX4_worstRay_44 ?_
        refine lv_iload hx hb dX4_worstRay_47 (lv_at hl 3 rfl) ?_
        obtain ⟨q6, h7, hf⟩ := bdE hf
        refine cV (As := [.int x4]) (rest := [.long (σ.2 6 x4.toNatClampNeg)]) (k := 143) (ci := 8) (T := TX9) (N := 9) C0 w (m_X9_find l B _ σ x4 q6 h7) ky_X9_find kv_X9_find lk_X4_29 rfl (by decide +kernel) ⟨Nat.le_of_ble_eq_true rfl, Nat.le_of_ble_eq_true rfl⟩ ⟨Nat.le_of_ble_eq_true rfl, Nat.le_of_ble_eq_true rfl⟩ rfl (by rfl) (Nat.le_of_ble_eq_true rfl) hl.1 dX4_worstRay_49 (fun H locs w => ?_)
        refine lv_lsub hx hb dX4_worstRay_52 ?_
        refine mAbsL C0 lk_X4_65 ms_absl mi_Math mc_absl hl.1 (Nat.le_of_ble_eq_true rfl) (Nat.le_of_ble_eq_true rfl) (Nat.zero_le _) (Nat.zero_le _) dX4_worstRay_53 ?_
        refine lv_lstore (lv' := [(5, .long ((if 0 < ((σ.2 6 x4.toNatClampNeg) - q6.1) then ((σ.2 6 x4.toNatClampNeg) - q6.1) else -((σ.2 6 x4.toNatClampNeg) - q6.1)))), (0, .ref (wA B 182)), (1, .int x1), (2, .long x2), (4, .int x4)]) hx hb dX4_worstRay_56 hl (by decide) rfl (fun ls hl => ?_)
        refine lv_lload hx hb dX4_worstRay_58 (lv_at hl 0 rfl) ?_
        refine lv_lload_n hx hb dX4_worstRay_60 rfl (lv_at hl 3 rfl) ?_
        refine lc_le (tgt := 71) C0 dX4_worstRay_61 dX4_worstRay_62 (by decide) (fun c8 => ?_) (fun c8 => ?_)
        · rw [if_pos c8] at hf
          refine lv_iinc (k := 4) (v := x4 + 1) (lv' := [(4, .int (x4 + 1)), (5, .long ((if 0 < ((σ.2 6 x4.toNatClampNeg) - q6.1) then ((σ.2 6 x4.toNatClampNeg) - q6.1) else -((σ.2 6 x4.toNatClampNeg) - q6.1)))), (0, .ref (wA B 182)), (1, .int x1), (2, .long x2)]) hx hb dX4_worstRay_71 hl rfl (by rfl) (by decide) rfl (fun ls hl => ?_)
          refine lv_goto (tgt := 9) hx hb dX4_worstRay_74 (by decide) ?_
          exact ih x1 x2 (x4 + 1) q6.2 _ _ _ _ hf w (lv_sub hl [2, 3, 4, 0] rfl) hK
        · rw [if_neg c8] at hf
          refine lv_lload hx hb dX4_worstRay_65 (lv_at hl 0 rfl) ?_
          refine lv_lstore_n (lv' := [(2, .long ((if 0 < ((σ.2 6 x4.toNatClampNeg) - q6.1) then ((σ.2 6 x4.toNatClampNeg) - q6.1) else -((σ.2 6 x4.toNatClampNeg) - q6.1)))), (5, .long ((if 0 < ((σ.2 6 x4.toNatClampNeg) - q6.1) then ((σ.2 6 x4.toNatClampNeg) - q6.1) else -((σ.2 6 x4.toNatClampNeg) - q6.1)))), (0, .ref (wA B 182)), (1, .int x1), (4, .int x4)]) hx hb dX4_worstRay_67 rfl hl (by decide) rfl (fun ls hl => ?_)
          refine lv_iload hx hb dX4_worstRay_68 (lv_at hl 4 rfl) ?_
          refine lv_istore_n (lv' := [(1, .int x4), (2, .long ((if 0 < ((σ.2 6 x4.toNatClampNeg) - q6.1) then ((σ.2 6 x4.toNatClampNeg) - q6.1) else -((σ.2 6 x4.toNatClampNeg) - q6.1)))), (5, .long ((if 0 < ((σ.2 6 x4.toNatClampNeg) - q6.1) then ((σ.2 6 x4.toNatClampNeg) - q6.1) else -((σ.2 6 x4.toNatClampNeg) - q6.1)))), (0, .ref (wA B 182)), (4, .int x4)]) hx hb dX4_worstRay_70 rfl hl (by decide) rfl (fun ls hl => ?_)
          refine lv_iinc (k := 4) (v := x4 + 1) (lv' := [(4, .int (x4 + 1)), (1, .int x4), (2, .long ((if 0 < ((σ.2 6 x4.toNatClampNeg) - q6.1) then ((σ.2 6 x4.toNatClampNeg) - q6.1) else -((σ.2 6 x4.toNatClampNeg) - q6.1)))), (5, .long ((if 0 < ((σ.2 6 x4.toNatClampNeg) - q6.1) then ((σ.2 6 x4.toNatClampNeg) - q6.1) else -((σ.2 6 x4.toNatClampNeg) - q6.1)))), (0, .ref (wA B 182))]) hx hb dX4_worstRay_71 hl rfl (by rfl) (by decide) rfl (fun ls hl => ?_)
          refine lv_goto (tgt := 9) hx hb dX4_worstRay_74 (by decide) ?_
          exact ih x4 ((if 0 < ((σ.2 6 x4.toNatClampNeg) - q6.1) then ((σ.2 6 x4.toNatClampNeg) - q6.1) else -((σ.2 6 x4.toNatClampNeg) - q6.1))) (x4 + 1) q6.2 _ _ _ _ hf w (lv_sub hl [4, 1, 2, 0] rfl) hK
set_option maxHeartbeats 4000000 in
set_option maxRecDepth 100000 in
theorem m_X4_worstRay (l : Launch) (B : Wb) (sz : Nat) (σ : Mem) (q : Int32 × Mem) (hf : f_X4_worstRay σ = some q) : MetC l yX4_worstRay cX4_worstRay 7 (some .int) rm_X4_worstRay B sz σ q.2 [.ref (wA B 182)] (some (.int q.1)) := by
  refine met_in (by decide +kernel) (Nat.le_of_ble_eq_true rfl) ?_
  intro p e s m below meth c C0 hr w hsz ls hl
  have hx := C0.1.1
  have hb := C0.1.2.1
  unfold f_X4_worstRay at hf
  refine lv_iconst (v := (-1)) hx hb dX4_worstRay_0 (by decide) ?_
  refine lv_istore_n (lv' := [(1, .int ((-1 : Int32))), (0, .ref (wA B 182))]) hx hb dX4_worstRay_1 rfl hl (by decide) rfl (fun ls hl => ?_)
  refine kLg C0 (-1) kc_X4_74 dX4_worstRay_2 ?_
  refine lv_lstore_n (lv' := [(2, .long ((-1 : Int64))), (1, .int ((-1 : Int32))), (0, .ref (wA B 182))]) hx hb dX4_worstRay_5 rfl hl (by decide) rfl (fun ls hl => ?_)
  refine lv_iconst (v := 0) hx hb dX4_worstRay_6 (by decide) ?_
  refine lv_istore (lv' := [(4, .int 0), (2, .long ((-1 : Int64))), (1, .int ((-1 : Int32))), (0, .ref (wA B 182))]) hx hb dX4_worstRay_7 hl (by decide) rfl (fun ls hl => ?_)
  obtain ⟨q1, h2, hf⟩ := bdE hf
  refine lp_X4_worstRay_9 l B C0 100000 ((-1 : Int32)) ((-1 : Int64)) 0 σ q1 _ _ _ h2 w (lv_sub hl [3, 2, 1, 0] rfl) (fun H locs ls w hl => ?_)
  refine lv_iload_n hx hb dX4_worstRay_77 rfl (lv_at hl 0 rfl) ?_
  obtain rfl := Option.some.inj hf
  exact eI C0 hr w rfl dX4_worstRay_78
def f_X4_greatestMisfit (σ : Mem) : Option (Int64 × Mem) :=
  bd (f_X4_worstRay σ) (fun q1 =>
  if q1.1 = ((-1 : Int32)) then (
    some ((0, q1.2)))
  else (
    gd (inb q1.1 16) (
    bd (f_X9_find q1.1 q1.2) (fun q5 =>
    some (((if 0 < ((q1.2.2 6 q1.1.toNatClampNeg) - q5.1) then ((q1.2.2 6 q1.1.toNatClampNeg) - q5.1) else -((q1.2.2 6 q1.1.toNatClampNeg) - q5.1)), q5.2))))))
abbrev rm_X4_greatestMisfit : Room := { frames := 4, cells := 0, slots := 0, locals := 105 }
set_option maxHeartbeats 4000000 in
set_option maxRecDepth 100000 in
theorem m_X4_greatestMisfit (l : Launch) (B : Wb) (sz : Nat) (σ : Mem) (q : Int64 × Mem) (hf : f_X4_greatestMisfit σ = some q) : MetC l yX4_greatestMisfit cX4_greatestMisfit 2 (some .long) rm_X4_greatestMisfit B sz σ q.2 [.ref (wA B 182)] (some (.long q.1)) := by
  refine met_in (by decide +kernel) (Nat.le_of_ble_eq_true rfl) ?_
  intro p e s m below meth c C0 hr w hsz ls hl
  have hx := C0.1.1
  have hb := C0.1.2.1
  unfold f_X4_greatestMisfit at hf
  refine lv_aload_n hx hb dX4_greatestMisfit_0 rfl (lv_at hl 0 rfl) ?_
  obtain ⟨q1, h2, hf⟩ := bdE hf
  refine cV (As := []) (rest := []) (k := 182) (ci := 3) (T := TX4) (N := 2) C0 w (m_X4_worstRay l B _ σ q1 h2) ky_X4_worstRay kv_X4_worstRay lk_X4_71 rfl (by decide +kernel) ⟨Nat.le_of_ble_eq_true rfl, Nat.le_of_ble_eq_true rfl⟩ ⟨Nat.le_of_ble_eq_true rfl, Nat.le_of_ble_eq_true rfl⟩ rfl (by rfl) (Nat.le_of_ble_eq_true rfl) hl.1 dX4_greatestMisfit_1 (fun H locs w => ?_)
  refine lv_istore_n (lv' := [(1, .int q1.1), (0, .ref (wA B 182))]) hx hb dX4_greatestMisfit_4 rfl hl (by decide) rfl (fun ls hl => ?_)
  refine lv_iload_n hx hb dX4_greatestMisfit_5 rfl (lv_at hl 0 rfl) ?_
  refine lv_iconst (v := (-1)) hx hb dX4_greatestMisfit_6 (by decide) ?_
  refine lv_icmp_ne (tgt := 14) hx hb dX4_greatestMisfit_7 (by decide) (fun c3 => ?_) (fun c3 => ?_)
  · rw [if_neg c3] at hf
    refine lv_aload_n hx hb dX4_greatestMisfit_14 rfl (lv_at hl 1 rfl) ?_
    refine gR C0 w 1 fk_X4_9 (by decide +kernel) dX4_greatestMisfit_15 ?_
    refine gR C0 w 6 fk_X4_61 (by decide +kernel) dX4_greatestMisfit_18 ?_
    refine lv_iload_n hx hb dX4_greatestMisfit_21 rfl (lv_at hl 0 rfl) ?_
    obtain ⟨g4, hf⟩ := gdE hf
    refine aL C0 w (n := 16) (by decide +kernel) (inbE g4) dX4_greatestMisfit_22 ?_
    refine lv_aload_n hx hb dX4_greatestMisfit_23 rfl (lv_at hl 1 rfl) ?_
    refine gR C0 w 143 fk_X4_15 (by decide +kernel) dX4_greatestMisfit_24 ?_
    refine lv_iload_n hx hb dX4_greatestMisfit_27 rfl (lv_at hl 0 rfl) ?_
    obtain ⟨q5, h6, hf⟩ := bdE hf
    refine cV (As := [.int q1.1]) (rest := [.long (q1.2.2 6 q1.1.toNatClampNeg)]) (k := 143) (ci := 8) (T := TX9) (N := 9) C0 w (m_X9_find l B _ q1.2 q1.1 q5 h6) ky_X9_find kv_X9_find lk_X4_29 rfl (by decide +kernel) ⟨Nat.le_of_ble_eq_true rfl, Nat.le_of_ble_eq_true rfl⟩ ⟨Nat.le_of_ble_eq_true rfl, Nat.le_of_ble_eq_true rfl⟩ rfl (by rfl) (Nat.le_of_ble_eq_true rfl) hl.1 dX4_greatestMisfit_28 (fun H locs w => ?_)
    refine lv_lsub hx hb dX4_greatestMisfit_31 ?_
    refine mAbsL C0 lk_X4_65 ms_absl mi_Math mc_absl hl.1 (Nat.le_of_ble_eq_true rfl) (Nat.le_of_ble_eq_true rfl) (Nat.zero_le _) (Nat.zero_le _) dX4_greatestMisfit_32 ?_
    obtain rfl := Option.some.inj hf
    exact eL C0 hr w dX4_greatestMisfit_35
  · rw [if_pos c3] at hf
    refine lv_lconst (v := 0) hx hb dX4_greatestMisfit_10 (by decide) ?_
    refine lv_goto (tgt := 35) hx hb dX4_greatestMisfit_11 (by decide) ?_
    obtain rfl := Option.some.inj hf
    exact eL C0 hr w dX4_greatestMisfit_35
def f_X4_distanceFromTruth_4 (σ : Mem) : Nat → Int64 → Int32 → Option (Int64)
  | 0, _, _ => none
  | n + 1, x1, x3 =>
    bd (f_X7_cellCount σ) (fun q1 =>
    if q1 ≤ x3 then (
      some x1)
    else (
      gd (inb x3 64) (
      gd (inb x3 64) (
      f_X4_distanceFromTruth_4 σ n (x1 + (((if 0 ≤ ((σ.1 2 x3.toNatClampNeg) - (σ.1 3 x3.toNatClampNeg)) then ((σ.1 2 x3.toNatClampNeg) - (σ.1 3 x3.toNatClampNeg)) else 0 - ((σ.1 2 x3.toNatClampNeg) - (σ.1 3 x3.toNatClampNeg)))).toInt64)) (x3 + 1)))))
def f_X4_distanceFromTruth (σ : Mem) : Option (Int64) :=
  bd (f_X4_distanceFromTruth_4 σ 100000 0 0) (fun q1 =>
  some q1)
abbrev rm_X4_distanceFromTruth : Room := { frames := 1, cells := 0, slots := 0, locals := 23 }
set_option maxHeartbeats 4000000 in
set_option maxRecDepth 100000 in
theorem lp_X4_distanceFromTruth_4 {p : Program} {e : Env} {s : State} {m : MethodId} {args : Array Value} {below : List Frame} {meth : Method} {c : Code} {Q : State → Prop} (l : Launch) (B : Wb) (C0 : Cx p s m args meth c cX4_distanceFromTruth 4 RX4) : ∀ (n : Nat) (x1 : Int64) (x3 : Int32) (σ : Mem) (o : Int64) (H : Heap) (locs : List Loc) (ls : Array Slot), f_X4_distanceFromTruth_4 σ n x1 x3 = some o → Wx B σ s H locs → lv_has ls 4 [(0, .ref (wA B 182)), (1, .long x1), (3, .int x3)] → (∀ (H : Heap) (locs : List Loc) (ls : Array Slot), Wx B σ s H locs → lv_has ls 4 [(1, .long o)] → W p l e rm_X4_distanceFromTruth s m args below meth c H locs 0 0 Q (F0 m 47 ls [])) → W p l e rm_X4_distanceFromTruth s m args below meth c H locs 0 0 Q (F0 m 4 ls []) := by
  have hx := C0.1.1
  have hb := C0.1.2.1
  intro n
  induction n with
  | zero =>
    intro x1 x3 σ o H locs ls hf w hl hK
    cases hf
  | succ n ih =>
    intro x1 x3 σ o H locs ls hf w hl hK
    rw [f_X4_distanceFromTruth_4] at hf
    refine lv_iload_n hx hb dX4_distanceFromTruth_4 rfl (lv_at hl 2 rfl) ?_
    refine lv_aload_n hx hb dX4_distanceFromTruth_5 rfl (lv_at hl 0 rfl) ?_
    refine gR C0 w 1 fk_X4_9 (by decide +kernel) dX4_distanceFromTruth_6 ?_
    obtain ⟨q1, h2, hf⟩ := bdE hf
    refine cV (As := []) (rest := [.int x3]) (k := 1) (ci := 6) (T := TX7) (N := 14) C0 w (m_X7_cellCount l B _ σ q1 h2) ky_X7_cellCount kv_X7_cellCount lk_X4_39 rfl (by decide +kernel) ⟨Nat.le_of_ble_eq_true rfl, Nat.le_of_ble_eq_true rfl⟩ ⟨Nat.le_of_ble_eq_true rfl, Nat.le_of_ble_eq_true rfl⟩ rfl (by rfl) (Nat.le_of_ble_eq_true rfl) hl.1 dX4_distanceFromTruth_9 (fun H locs w => ?_)
    refine lv_icmp_ge (tgt := 47) hx hb dX4_distanceFromTruth_12 (by decide) (fun c3 => ?_) (fun c3 => ?_)
    · rw [if_pos c3] at hf
      obtain rfl := Option.some.inj hf
      exact hK _ _ _ w (lv_sub hl [1] rfl)
    · rw [if_neg c3] at hf
      refine lv_lload_n hx hb dX4_distanceFromTruth_15 rfl (lv_at hl 1 rfl) ?_
      refine lv_aload_n hx hb dX4_distanceFromTruth_16 rfl (lv_at hl 0 rfl) ?_
      refine gR C0 w 1 fk_X4_9 (by decide +kernel) dX4_distanceFromTruth_17 ?_
      refine gR C0 w 2 fk_X4_47 (by decide +kernel) dX4_distanceFromTruth_20 ?_
      refine lv_iload_n hx hb dX4_distanceFromTruth_23 rfl (lv_at hl 2 rfl) ?_
      obtain ⟨g4, hf⟩ := gdE hf
      refine aI C0 w (n := 64) (by decide +kernel) (inbE g4) dX4_distanceFromTruth_24 ?_
      refine lv_aload_n hx hb dX4_distanceFromTruth_25 rfl (lv_at hl 0 rfl) ?_
      refine gR C0 w 1 fk_X4_9 (by decide +kernel) dX4_distanceFromTruth_26 ?_
      refine gR C0 w 3 fk_X4_76 (by decide +kernel) dX4_distanceFromTruth_29 ?_
      refine lv_iload_n hx hb dX4_distanceFromTruth_32 rfl (lv_at hl 2 rfl) ?_
      obtain ⟨g5, hf⟩ := gdE hf
      refine aI C0 w (n := 64) (by decide +kernel) (inbE g5) dX4_distanceFromTruth_33 ?_
      refine lv_isub hx hb dX4_distanceFromTruth_34 ?_
      refine mAbs C0 lk_X4_79 ms_abs mi_Math mc_abs hl.1 (Nat.le_of_ble_eq_true rfl) (Nat.le_of_ble_eq_true rfl) (Nat.zero_le _) (Nat.zero_le _) dX4_distanceFromTruth_35 ?_
      refine lv_i2l hx hb dX4_distanceFromTruth_38 rfl ?_
      refine lv_ladd hx hb dX4_distanceFromTruth_39 ?_
      refine lv_lstore_n (lv' := [(1, .long (x1 + (((if 0 ≤ ((σ.1 2 x3.toNatClampNeg) - (σ.1 3 x3.toNatClampNeg)) then ((σ.1 2 x3.toNatClampNeg) - (σ.1 3 x3.toNatClampNeg)) else 0 - ((σ.1 2 x3.toNatClampNeg) - (σ.1 3 x3.toNatClampNeg)))).toInt64))), (0, .ref (wA B 182)), (3, .int x3)]) hx hb dX4_distanceFromTruth_40 rfl hl (by decide) rfl (fun ls hl => ?_)
      refine lv_iinc (k := 2) (v := x3 + 1) (lv' := [(3, .int (x3 + 1)), (1, .long (x1 + (((if 0 ≤ ((σ.1 2 x3.toNatClampNeg) - (σ.1 3 x3.toNatClampNeg)) then ((σ.1 2 x3.toNatClampNeg) - (σ.1 3 x3.toNatClampNeg)) else 0 - ((σ.1 2 x3.toNatClampNeg) - (σ.1 3 x3.toNatClampNeg)))).toInt64))), (0, .ref (wA B 182))]) hx hb dX4_distanceFromTruth_41 hl rfl (by rfl) (by decide) rfl (fun ls hl => ?_)
      refine lv_goto (tgt := 4) hx hb dX4_distanceFromTruth_44 (by decide) ?_
      exact ih (x1 + (((if 0 ≤ ((σ.1 2 x3.toNatClampNeg) - (σ.1 3 x3.toNatClampNeg)) then ((σ.1 2 x3.toNatClampNeg) - (σ.1 3 x3.toNatClampNeg)) else 0 - ((σ.1 2 x3.toNatClampNeg) - (σ.1 3 x3.toNatClampNeg)))).toInt64)) (x3 + 1) σ _ _ _ _ hf w (lv_sub hl [2, 1, 0] rfl) hK
set_option maxHeartbeats 4000000 in
set_option maxRecDepth 100000 in
theorem m_X4_distanceFromTruth (l : Launch) (B : Wb) (sz : Nat) (σ : Mem) (q : Int64) (hf : f_X4_distanceFromTruth σ = some q) : MetC l yX4_distanceFromTruth cX4_distanceFromTruth 4 (some .long) rm_X4_distanceFromTruth B sz σ σ [.ref (wA B 182)] (some (.long q)) := by
  refine met_in (by decide +kernel) (Nat.le_of_ble_eq_true rfl) ?_
  intro p e s m below meth c C0 hr w hsz ls hl
  have hx := C0.1.1
  have hb := C0.1.2.1
  unfold f_X4_distanceFromTruth at hf
  refine lv_lconst (v := 0) hx hb dX4_distanceFromTruth_0 (by decide) ?_
  refine lv_lstore_n (lv' := [(1, .long 0), (0, .ref (wA B 182))]) hx hb dX4_distanceFromTruth_1 rfl hl (by decide) rfl (fun ls hl => ?_)
  refine lv_iconst (v := 0) hx hb dX4_distanceFromTruth_2 (by decide) ?_
  refine lv_istore_n (lv' := [(3, .int 0), (1, .long 0), (0, .ref (wA B 182))]) hx hb dX4_distanceFromTruth_3 rfl hl (by decide) rfl (fun ls hl => ?_)
  obtain ⟨q1, h2, hf⟩ := bdE hf
  refine lp_X4_distanceFromTruth_4 l B C0 100000 0 0 σ q1 _ _ _ h2 w (lv_sub hl [2, 1, 0] rfl) (fun H locs ls w hl => ?_)
  refine lv_lload_n hx hb dX4_distanceFromTruth_47 rfl (lv_at hl 0 rfl) ?_
  obtain rfl := Option.some.inj hf
  exact eL C0 hr w dX4_distanceFromTruth_48
def f_X4_slownessSum_4 (σ : Mem) : Nat → Int64 → Int32 → Option (Int64)
  | 0, _, _ => none
  | n + 1, x1, x3 =>
    bd (f_X7_cellCount σ) (fun q1 =>
    if q1 ≤ x3 then (
      some x1)
    else (
      gd (inb x3 64) (
      f_X4_slownessSum_4 σ n (x1 + ((σ.1 2 x3.toNatClampNeg).toInt64)) (x3 + 1))))
def f_X4_slownessSum (σ : Mem) : Option (Int64) :=
  bd (f_X4_slownessSum_4 σ 100000 0 0) (fun q1 =>
  some q1)
abbrev rm_X4_slownessSum : Room := { frames := 1, cells := 0, slots := 0, locals := 20 }
set_option maxHeartbeats 4000000 in
set_option maxRecDepth 100000 in
theorem lp_X4_slownessSum_4 {p : Program} {e : Env} {s : State} {m : MethodId} {args : Array Value} {below : List Frame} {meth : Method} {c : Code} {Q : State → Prop} (l : Launch) (B : Wb) (C0 : Cx p s m args meth c cX4_slownessSum 4 RX4) : ∀ (n : Nat) (x1 : Int64) (x3 : Int32) (σ : Mem) (o : Int64) (H : Heap) (locs : List Loc) (ls : Array Slot), f_X4_slownessSum_4 σ n x1 x3 = some o → Wx B σ s H locs → lv_has ls 4 [(0, .ref (wA B 182)), (1, .long x1), (3, .int x3)] → (∀ (H : Heap) (locs : List Loc) (ls : Array Slot), Wx B σ s H locs → lv_has ls 4 [(1, .long o)] → W p l e rm_X4_slownessSum s m args below meth c H locs 0 0 Q (F0 m 34 ls [])) → W p l e rm_X4_slownessSum s m args below meth c H locs 0 0 Q (F0 m 4 ls []) := by
  have hx := C0.1.1
  have hb := C0.1.2.1
  intro n
  induction n with
  | zero =>
    intro x1 x3 σ o H locs ls hf w hl hK
    cases hf
  | succ n ih =>
    intro x1 x3 σ o H locs ls hf w hl hK
    rw [f_X4_slownessSum_4] at hf
    refine lv_iload_n hx hb dX4_slownessSum_4 rfl (lv_at hl 2 rfl) ?_
    refine lv_aload_n hx hb dX4_slownessSum_5 rfl (lv_at hl 0 rfl) ?_
    refine gR C0 w 1 fk_X4_9 (by decide +kernel) dX4_slownessSum_6 ?_
    obtain ⟨q1, h2, hf⟩ := bdE hf
    refine cV (As := []) (rest := [.int x3]) (k := 1) (ci := 6) (T := TX7) (N := 14) C0 w (m_X7_cellCount l B _ σ q1 h2) ky_X7_cellCount kv_X7_cellCount lk_X4_39 rfl (by decide +kernel) ⟨Nat.le_of_ble_eq_true rfl, Nat.le_of_ble_eq_true rfl⟩ ⟨Nat.le_of_ble_eq_true rfl, Nat.le_of_ble_eq_true rfl⟩ rfl (by rfl) (Nat.le_of_ble_eq_true rfl) hl.1 dX4_slownessSum_9 (fun H locs w => ?_)
    refine lv_icmp_ge (tgt := 34) hx hb dX4_slownessSum_12 (by decide) (fun c3 => ?_) (fun c3 => ?_)
    · rw [if_pos c3] at hf
      obtain rfl := Option.some.inj hf
      exact hK _ _ _ w (lv_sub hl [1] rfl)
    · rw [if_neg c3] at hf
      refine lv_lload_n hx hb dX4_slownessSum_15 rfl (lv_at hl 1 rfl) ?_
      refine lv_aload_n hx hb dX4_slownessSum_16 rfl (lv_at hl 0 rfl) ?_
      refine gR C0 w 1 fk_X4_9 (by decide +kernel) dX4_slownessSum_17 ?_
      refine gR C0 w 2 fk_X4_47 (by decide +kernel) dX4_slownessSum_20 ?_
      refine lv_iload_n hx hb dX4_slownessSum_23 rfl (lv_at hl 2 rfl) ?_
      obtain ⟨g4, hf⟩ := gdE hf
      refine aI C0 w (n := 64) (by decide +kernel) (inbE g4) dX4_slownessSum_24 ?_
      refine lv_i2l hx hb dX4_slownessSum_25 rfl ?_
      refine lv_ladd hx hb dX4_slownessSum_26 ?_
      refine lv_lstore_n (lv' := [(1, .long (x1 + ((σ.1 2 x3.toNatClampNeg).toInt64))), (0, .ref (wA B 182)), (3, .int x3)]) hx hb dX4_slownessSum_27 rfl hl (by decide) rfl (fun ls hl => ?_)
      refine lv_iinc (k := 2) (v := x3 + 1) (lv' := [(3, .int (x3 + 1)), (1, .long (x1 + ((σ.1 2 x3.toNatClampNeg).toInt64))), (0, .ref (wA B 182))]) hx hb dX4_slownessSum_28 hl rfl (by rfl) (by decide) rfl (fun ls hl => ?_)
      refine lv_goto (tgt := 4) hx hb dX4_slownessSum_31 (by decide) ?_
      exact ih (x1 + ((σ.1 2 x3.toNatClampNeg).toInt64)) (x3 + 1) σ _ _ _ _ hf w (lv_sub hl [2, 1, 0] rfl) hK
set_option maxHeartbeats 4000000 in
set_option maxRecDepth 100000 in
theorem m_X4_slownessSum (l : Launch) (B : Wb) (sz : Nat) (σ : Mem) (q : Int64) (hf : f_X4_slownessSum σ = some q) : MetC l yX4_slownessSum cX4_slownessSum 4 (some .long) rm_X4_slownessSum B sz σ σ [.ref (wA B 182)] (some (.long q)) := by
  refine met_in (by decide +kernel) (Nat.le_of_ble_eq_true rfl) ?_
  intro p e s m below meth c C0 hr w hsz ls hl
  have hx := C0.1.1
  have hb := C0.1.2.1
  unfold f_X4_slownessSum at hf
  refine lv_lconst (v := 0) hx hb dX4_slownessSum_0 (by decide) ?_
  refine lv_lstore_n (lv' := [(1, .long 0), (0, .ref (wA B 182))]) hx hb dX4_slownessSum_1 rfl hl (by decide) rfl (fun ls hl => ?_)
  refine lv_iconst (v := 0) hx hb dX4_slownessSum_2 (by decide) ?_
  refine lv_istore_n (lv' := [(3, .int 0), (1, .long 0), (0, .ref (wA B 182))]) hx hb dX4_slownessSum_3 rfl hl (by decide) rfl (fun ls hl => ?_)
  obtain ⟨q1, h2, hf⟩ := bdE hf
  refine lp_X4_slownessSum_4 l B C0 100000 0 0 σ q1 _ _ _ h2 w (lv_sub hl [2, 1, 0] rfl) (fun H locs ls w hl => ?_)
  refine lv_lload_n hx hb dX4_slownessSum_34 rfl (lv_at hl 0 rfl) ?_
  obtain rfl := Option.some.inj hf
  exact eL C0 hr w dX4_slownessSum_35
def f_X7_startAnew (x1 : Int32) (x2 : Int32) (σ : Mem) : Option (Mem) :=
  bd (f_J7_fill_53178 2 1000 (setI (setI (setI σ 1 0 x1) 1 1 x2) 1 7 0)) (fun q1 =>
  bd (f_J7_fill_53178 3 1000 q1) (fun q3 =>
  some q3))
abbrev rm_X7_startAnew : Room := { frames := 1, cells := 0, slots := 0, locals := 23 }
set_option maxHeartbeats 4000000 in
set_option maxRecDepth 100000 in
theorem m_X7_startAnew (l : Launch) (B : Wb) (sz : Nat) (σ : Mem) (x1 : Int32) (x2 : Int32) (q : Mem) (hf : f_X7_startAnew x1 x2 σ = some q) : MetC l yX7_startAnew cX7_startAnew 3 none rm_X7_startAnew B sz σ q [.ref (wA B 1), .int x1, .int x2] (none) := by
  refine met_in (by decide +kernel) (Nat.le_of_ble_eq_true rfl) ?_
  intro p e s m below meth c C0 hr w hsz ls hl
  have hx := C0.1.1
  have hb := C0.1.2.1
  unfold f_X7_startAnew at hf
  refine lv_aload_n hx hb dX7_startAnew_0 rfl (lv_at hl 0 rfl) ?_
  refine lv_iload_n hx hb dX7_startAnew_1 rfl (lv_at hl 1 rfl) ?_
  refine pI C0 w fk_X7_9 fp_X7_0 (by decide +kernel) dX7_startAnew_2 (fun H locs w => ?_)
  refine lv_aload_n hx hb dX7_startAnew_5 rfl (lv_at hl 0 rfl) ?_
  refine lv_iload_n hx hb dX7_startAnew_6 rfl (lv_at hl 2 rfl) ?_
  refine pI C0 w fk_X7_15 fp_X7_1 (by decide +kernel) dX7_startAnew_7 (fun H locs w => ?_)
  refine lv_aload_n hx hb dX7_startAnew_10 rfl (lv_at hl 0 rfl) ?_
  refine lv_iconst (v := 0) hx hb dX7_startAnew_11 (by decide) ?_
  refine pI C0 w fk_X7_60 fp_X7_7 (by decide +kernel) dX7_startAnew_12 (fun H locs w => ?_)
  refine lv_aload_n hx hb dX7_startAnew_15 rfl (lv_at hl 0 rfl) ?_
  refine gR C0 w 2 fk_X7_31 (by decide +kernel) dX7_startAnew_16 ?_
  refine lv_sipush (v := 1000) hx hb dX7_startAnew_19 (by decide) ?_
  obtain ⟨q1, h2, hf⟩ := bdE hf
  refine cS (As := [.ref (wA B 2), .int 1000]) (rest := []) C0 w (m_J7_fill_53178 l B _ (setI (setI (setI σ 1 0 x1) 1 1 x2) 1 7 0) 2 1000 q1 h2) ky_J7_fill_53178 ks_J7_fill_53178 lk_X7_52 ⟨Nat.le_of_ble_eq_true rfl, Nat.le_of_ble_eq_true rfl⟩ ⟨Nat.le_of_ble_eq_true rfl, Nat.le_of_ble_eq_true rfl⟩ rfl (by rfl) (Nat.le_of_ble_eq_true rfl) hl.1 dX7_startAnew_22 (fun H locs w => ?_)
  refine lv_aload_n hx hb dX7_startAnew_25 rfl (lv_at hl 0 rfl) ?_
  refine gR C0 w 3 fk_X7_35 (by decide +kernel) dX7_startAnew_26 ?_
  refine lv_sipush (v := 1000) hx hb dX7_startAnew_29 (by decide) ?_
  obtain ⟨q3, h4, hf⟩ := bdE hf
  refine cS (As := [.ref (wA B 3), .int 1000]) (rest := []) C0 w (m_J7_fill_53178 l B _ q1 3 1000 q3 h4) ky_J7_fill_53178 ks_J7_fill_53178 lk_X7_52 ⟨Nat.le_of_ble_eq_true rfl, Nat.le_of_ble_eq_true rfl⟩ ⟨Nat.le_of_ble_eq_true rfl, Nat.le_of_ble_eq_true rfl⟩ rfl (by rfl) (Nat.le_of_ble_eq_true rfl) hl.1 dX7_startAnew_32 (fun H locs w => ?_)
  obtain rfl := Option.some.inj hf
  exact eV C0 hr w dX7_startAnew_35
def f_X8_queueActive_21 (x1 : Int32) : Nat → Int32 → Int32 → Mem → Option (Int32 × Mem)
  | 0, _, _, _ => none
  | n + 1, x2, x3, σ =>
    if (σ.1 1 7) ≤ x3 then (
      some ((x2, σ)))
    else (
      bd (f_X7_isActive x3 σ) (fun q2 =>
      if q2 = 0 then (
        f_X8_queueActive_21 x1 n x2 (x3 + 1) σ)
      else (
        gd (inb x2 16) (
        if x1 = 0 then (
          gd (inb x2 16) (
          f_X8_queueActive_21 x1 n (x2 + 1) (x3 + 1) (setL (setI σ 187 x2.toNatClampNeg x3) 188 x2.toNatClampNeg 0)))
        else (
          gd (inb x3 16) (
          bd (f_X9_find x3 (setI σ 187 x2.toNatClampNeg x3)) (fun q9 =>
          gd (inb x2 16) (
          bd (some (setL q9.2 188 x2.toNatClampNeg ((if 0 < (((setI σ 187 x2.toNatClampNeg x3).2 6 x3.toNatClampNeg) - q9.1) then (((setI σ 187 x2.toNatClampNeg x3).2 6 x3.toNatClampNeg) - q9.1) else -(((setI σ 187 x2.toNatClampNeg x3).2 6 x3.toNatClampNeg) - q9.1))))) (fun q12 =>
          f_X8_queueActive_21 x1 n (x2 + 1) (x3 + 1) q12)))))))))
def f_X8_queueActive (σ : Mem) : Option (Int32 × Mem) :=
  if (σ.1 1 5) = 2 then (
    bd (f_X8_queueActive_21 1 100000 0 0 σ) (fun q4 =>
    some ((q4.1, q4.2))))
  else (
    bd (f_X8_queueActive_21 0 100000 0 0 σ) (fun q2 =>
    some ((q2.1, q2.2))))
abbrev rm_X8_queueActive : Room := { frames := 3, cells := 0, slots := 0, locals := 79 }
set_option maxHeartbeats 4000000 in
set_option maxRecDepth 100000 in
theorem lp_X8_queueActive_21 {p : Program} {e : Env} {s : State} {m : MethodId} {args : Array Value} {below : List Frame} {meth : Method} {c : Code} {Q : State → Prop} (l : Launch) (B : Wb) (C0 : Cx p s m args meth c cX8_queueActive 4 RX8) (x1 : Int32) : ∀ (n : Nat) (x2 : Int32) (x3 : Int32) (σ : Mem) (o : Int32 × Mem) (H : Heap) (locs : List Loc) (ls : Array Slot), f_X8_queueActive_21 x1 n x2 x3 σ = some o → Wx B σ s H locs → lv_has ls 4 [(0, .ref (wA B 186)), (1, .int x1), (2, .int x2), (3, .int x3)] → (∀ (H : Heap) (locs : List Loc) (ls : Array Slot), Wx B o.2 s H locs → lv_has ls 4 [(2, .int o.1)] → W p l e rm_X8_queueActive s m args below meth c H locs 0 0 Q (F0 m 94 ls [])) → W p l e rm_X8_queueActive s m args below meth c H locs 0 0 Q (F0 m 21 ls []) := by
  have hx := C0.1.1
  have hb := C0.1.2.1
  intro n
  induction n with
  | zero =>
    intro x2 x3 σ o H locs ls hf w hl hK
    cases hf
  | succ n ih =>
    intro x2 x3 σ o H locs ls hf w hl hK
    rw [f_X8_queueActive_21] at hf
    refine lv_iload_n hx hb dX8_queueActive_21 rfl (lv_at hl 3 rfl) ?_
    refine lv_aload_n hx hb dX8_queueActive_22 rfl (lv_at hl 0 rfl) ?_
    refine gR C0 w 1 fk_X8_19 (by decide +kernel) dX8_queueActive_23 ?_
    refine gI C0 w fk_X8_51 (by decide +kernel) dX8_queueActive_26 ?_
    refine lv_icmp_ge (tgt := 94) hx hb dX8_queueActive_29 (by decide) (fun c1 => ?_) (fun c1 => ?_)
    · rw [if_pos c1] at hf
      obtain rfl := Option.some.inj hf
      exact hK _ _ _ w (lv_sub hl [2] rfl)
    · rw [if_neg c1] at hf
      refine lv_aload_n hx hb dX8_queueActive_32 rfl (lv_at hl 0 rfl) ?_
      refine gR C0 w 1 fk_X8_19 (by decide +kernel) dX8_queueActive_33 ?_
      refine lv_iload_n hx hb dX8_queueActive_36 rfl (lv_at hl 3 rfl) ?_
      obtain ⟨q2, h3, hf⟩ := bdE hf
      refine cV (As := [.int x3]) (rest := []) (k := 1) (ci := 6) (T := TX7) (N := 14) C0 w (m_X7_isActive l B _ σ x3 q2 h3) ky_X7_isActive kv_X7_isActive lk_X8_54 rfl (by decide +kernel) ⟨Nat.le_of_ble_eq_true rfl, Nat.le_of_ble_eq_true rfl⟩ ⟨Nat.le_of_ble_eq_true rfl, Nat.le_of_ble_eq_true rfl⟩ rfl (by rfl) (Nat.le_of_ble_eq_true rfl) hl.1 dX8_queueActive_37 (fun H locs w => ?_)
      refine lv_if_eq (tgt := 88) hx hb dX8_queueActive_40 (by decide) (fun c4 => ?_) (fun c4 => ?_)
      · rw [if_pos c4] at hf
        refine lv_iinc (k := 3) (v := x3 + 1) (lv' := [(3, .int (x3 + 1)), (0, .ref (wA B 186)), (1, .int x1), (2, .int x2)]) hx hb dX8_queueActive_88 hl rfl (by rfl) (by decide) rfl (fun ls hl => ?_)
        refine lv_goto (tgt := 21) hx hb dX8_queueActive_91 (by decide) ?_
        exact ih x2 (x3 + 1) σ _ _ _ _ hf w (lv_sub hl [1, 2, 3, 0] rfl) hK
      · rw [if_neg c4] at hf
        refine lv_aload_n hx hb dX8_queueActive_43 rfl (lv_at hl 0 rfl) ?_
        refine gR C0 w 187 fk_X8_9 (by decide +kernel) dX8_queueActive_44 ?_
        refine lv_iload_n hx hb dX8_queueActive_47 rfl (lv_at hl 2 rfl) ?_
        refine lv_iload_n hx hb dX8_queueActive_48 rfl (lv_at hl 3 rfl) ?_
        obtain ⟨g5, hf⟩ := gdE hf
        refine sI C0 w (n := 16) (by decide +kernel) (inbE g5) dX8_queueActive_49 (fun H locs w => ?_)
        refine lv_aload_n hx hb dX8_queueActive_50 rfl (lv_at hl 0 rfl) ?_
        refine gR C0 w 188 fk_X8_15 (by decide +kernel) dX8_queueActive_51 ?_
        refine lv_iload_n hx hb dX8_queueActive_54 rfl (lv_at hl 2 rfl) ?_
        refine lv_iload_n hx hb dX8_queueActive_55 rfl (lv_at hl 1 rfl) ?_
        refine lv_if_eq (tgt := 83) hx hb dX8_queueActive_56 (by decide) (fun c6 => ?_) (fun c6 => ?_)
        · rw [if_pos c6] at hf
          refine lv_lconst (v := 0) hx hb dX8_queueActive_83 (by decide) ?_
          obtain ⟨g7, hf⟩ := gdE hf
          refine sL C0 w (n := 16) (by decide +kernel) (inbE g7) dX8_queueActive_84 (fun H locs w => ?_)
          refine lv_iinc (k := 2) (v := x2 + 1) (lv' := [(2, .int (x2 + 1)), (0, .ref (wA B 186)), (1, .int x1), (3, .int x3)]) hx hb dX8_queueActive_85 hl rfl (by rfl) (by decide) rfl (fun ls hl => ?_)
          refine lv_iinc (k := 3) (v := x3 + 1) (lv' := [(3, .int (x3 + 1)), (2, .int (x2 + 1)), (0, .ref (wA B 186)), (1, .int x1)]) hx hb dX8_queueActive_88 hl rfl (by rfl) (by decide) rfl (fun ls hl => ?_)
          refine lv_goto (tgt := 21) hx hb dX8_queueActive_91 (by decide) ?_
          exact ih (x2 + 1) (x3 + 1) (setL (setI σ 187 x2.toNatClampNeg x3) 188 x2.toNatClampNeg 0) _ _ _ _ hf w (lv_sub hl [2, 3, 1, 0] rfl) hK
        · rw [if_neg c6] at hf
          refine lv_aload_n hx hb dX8_queueActive_59 rfl (lv_at hl 0 rfl) ?_
          refine gR C0 w 1 fk_X8_19 (by decide +kernel) dX8_queueActive_60 ?_
          refine gR C0 w 6 fk_X8_58 (by decide +kernel) dX8_queueActive_63 ?_
          refine lv_iload_n hx hb dX8_queueActive_66 rfl (lv_at hl 3 rfl) ?_
          obtain ⟨g8, hf⟩ := gdE hf
          refine aL C0 w (n := 16) (by decide +kernel) (inbE g8) dX8_queueActive_67 ?_
          refine lv_aload_n hx hb dX8_queueActive_68 rfl (lv_at hl 0 rfl) ?_
          refine gR C0 w 143 fk_X8_23 (by decide +kernel) dX8_queueActive_69 ?_
          refine lv_iload_n hx hb dX8_queueActive_72 rfl (lv_at hl 3 rfl) ?_
          obtain ⟨q9, h10, hf⟩ := bdE hf
          refine cV (As := [.int x3]) (rest := [.long ((setI σ 187 x2.toNatClampNeg x3).2 6 x3.toNatClampNeg), .int x2, .ref (wA B 188)]) (k := 143) (ci := 8) (T := TX9) (N := 9) C0 w (m_X9_find l B _ (setI σ 187 x2.toNatClampNeg x3) x3 q9 h10) ky_X9_find kv_X9_find lk_X8_61 rfl (by decide +kernel) ⟨Nat.le_of_ble_eq_true rfl, Nat.le_of_ble_eq_true rfl⟩ ⟨Nat.le_of_ble_eq_true rfl, Nat.le_of_ble_eq_true rfl⟩ rfl (by rfl) (Nat.le_of_ble_eq_true rfl) hl.1 dX8_queueActive_73 (fun H locs w => ?_)
          refine lv_lsub hx hb dX8_queueActive_76 ?_
          refine mAbsL C0 lk_X8_67 ms_absl mi_Math mc_absl hl.1 (Nat.le_of_ble_eq_true rfl) (Nat.le_of_ble_eq_true rfl) (Nat.zero_le _) (Nat.zero_le _) dX8_queueActive_77 ?_
          refine lv_goto (tgt := 84) hx hb dX8_queueActive_80 (by decide) ?_
          obtain ⟨g11, hf⟩ := gdE hf
          refine sL C0 w (n := 16) (by decide +kernel) (inbE g11) dX8_queueActive_84 (fun H locs w => ?_)
          obtain ⟨q12, h13, hf⟩ := bdE hf
          have w : Wx B q12 s H locs := by rw [← Option.some.inj h13]; exact w
          refine lv_iinc (k := 2) (v := x2 + 1) (lv' := [(2, .int (x2 + 1)), (0, .ref (wA B 186)), (1, .int x1), (3, .int x3)]) hx hb dX8_queueActive_85 hl rfl (by rfl) (by decide) rfl (fun ls hl => ?_)
          refine lv_iinc (k := 3) (v := x3 + 1) (lv' := [(3, .int (x3 + 1)), (2, .int (x2 + 1)), (0, .ref (wA B 186)), (1, .int x1)]) hx hb dX8_queueActive_88 hl rfl (by rfl) (by decide) rfl (fun ls hl => ?_)
          refine lv_goto (tgt := 21) hx hb dX8_queueActive_91 (by decide) ?_
          exact ih (x2 + 1) (x3 + 1) q12 _ _ _ _ hf w (lv_sub hl [2, 3, 1, 0] rfl) hK
set_option maxHeartbeats 4000000 in
set_option maxRecDepth 100000 in
theorem m_X8_queueActive (l : Launch) (B : Wb) (sz : Nat) (σ : Mem) (q : Int32 × Mem) (hf : f_X8_queueActive σ = some q) : MetC l yX8_queueActive cX8_queueActive 4 (some .int) rm_X8_queueActive B sz σ q.2 [.ref (wA B 186)] (some (.int q.1)) := by
  refine met_in (by decide +kernel) (Nat.le_of_ble_eq_true rfl) ?_
  intro p e s m below meth c C0 hr w hsz ls hl
  have hx := C0.1.1
  have hb := C0.1.2.1
  unfold f_X8_queueActive at hf
  refine lv_aload_n hx hb dX8_queueActive_0 rfl (lv_at hl 0 rfl) ?_
  refine gR C0 w 1 fk_X8_19 (by decide +kernel) dX8_queueActive_1 ?_
  refine gI C0 w fk_X8_45 (by decide +kernel) dX8_queueActive_4 ?_
  refine lv_iconst (v := 2) hx hb dX8_queueActive_7 (by decide) ?_
  refine lv_icmp_ne (tgt := 15) hx hb dX8_queueActive_8 (by decide) (fun c1 => ?_) (fun c1 => ?_)
  · rw [if_neg c1] at hf
    refine lv_iconst (v := 0) hx hb dX8_queueActive_15 (by decide) ?_
    refine lv_istore_n (lv' := [(1, .int 0), (0, .ref (wA B 186))]) hx hb dX8_queueActive_16 rfl hl (by decide) rfl (fun ls hl => ?_)
    refine lv_iconst (v := 0) hx hb dX8_queueActive_17 (by decide) ?_
    refine lv_istore_n (lv' := [(2, .int 0), (1, .int 0), (0, .ref (wA B 186))]) hx hb dX8_queueActive_18 rfl hl (by decide) rfl (fun ls hl => ?_)
    refine lv_iconst (v := 0) hx hb dX8_queueActive_19 (by decide) ?_
    refine lv_istore_n (lv' := [(3, .int 0), (2, .int 0), (1, .int 0), (0, .ref (wA B 186))]) hx hb dX8_queueActive_20 rfl hl (by decide) rfl (fun ls hl => ?_)
    obtain ⟨q2, h3, hf⟩ := bdE hf
    refine lp_X8_queueActive_21 l B C0 0 100000 0 0 σ q2 _ _ _ h3 w (lv_sub hl [3, 2, 1, 0] rfl) (fun H locs ls w hl => ?_)
    refine lv_iload_n hx hb dX8_queueActive_94 rfl (lv_at hl 0 rfl) ?_
    obtain rfl := Option.some.inj hf
    exact eI C0 hr w rfl dX8_queueActive_95
  · rw [if_pos c1] at hf
    refine lv_iconst (v := 1) hx hb dX8_queueActive_11 (by decide) ?_
    refine lv_goto (tgt := 16) hx hb dX8_queueActive_12 (by decide) ?_
    refine lv_istore_n (lv' := [(1, .int 1), (0, .ref (wA B 186))]) hx hb dX8_queueActive_16 rfl hl (by decide) rfl (fun ls hl => ?_)
    refine lv_iconst (v := 0) hx hb dX8_queueActive_17 (by decide) ?_
    refine lv_istore_n (lv' := [(2, .int 0), (1, .int 1), (0, .ref (wA B 186))]) hx hb dX8_queueActive_18 rfl hl (by decide) rfl (fun ls hl => ?_)
    refine lv_iconst (v := 0) hx hb dX8_queueActive_19 (by decide) ?_
    refine lv_istore_n (lv' := [(3, .int 0), (2, .int 0), (1, .int 1), (0, .ref (wA B 186))]) hx hb dX8_queueActive_20 rfl hl (by decide) rfl (fun ls hl => ?_)
    obtain ⟨q4, h5, hf⟩ := bdE hf
    refine lp_X8_queueActive_21 l B C0 1 100000 0 0 σ q4 _ _ _ h5 w (lv_sub hl [3, 2, 1, 0] rfl) (fun H locs ls w hl => ?_)
    refine lv_iload_n hx hb dX8_queueActive_94 rfl (lv_at hl 0 rfl) ?_
    obtain rfl := Option.some.inj hf
    exact eI C0 hr w rfl dX8_queueActive_95
def f_X8_sortByMisfit_25 (x1 : Int32) (x2 : Int32) (x3 : Int32) (x4 : Int64) : Nat → Int32 → Mem → Option (Int32 × Mem)
  | 0, _, _ => none
  | n + 1, x6, σ =>
    if x6 ≤ 0 then (
      some ((x6, σ)))
    else (
      gd (inb (x6 - 1) 16) (
      if x4 ≤ (σ.2 188 (x6 - 1).toNatClampNeg) then (
        some ((x6, σ)))
      else (
        gd (inb (x6 - 1) 16) (
        gd (inb x6 16) (
        gd (inb (x6 - 1) 16) (
        gd (inb x6 16) (
        bd (some (setI (setL σ 188 x6.toNatClampNeg (σ.2 188 (x6 - 1).toNatClampNeg)) 187 x6.toNatClampNeg ((setL σ 188 x6.toNatClampNeg (σ.2 188 (x6 - 1).toNatClampNeg)).1 187 (x6 - 1).toNatClampNeg))) (fun q8 =>
        f_X8_sortByMisfit_25 x1 x2 x3 x4 n (x6 + (-1)) q8))))))))
def f_X8_sortByMisfit_2 (x1 : Int32) : Nat → Int32 → Mem → Option (Mem)
  | 0, _, _ => none
  | n + 1, x2, σ =>
    if x1 ≤ x2 then (
      some σ)
    else (
      gd (inb x2 16) (
      gd (inb x2 16) (
      bd (f_X8_sortByMisfit_25 x1 x2 (σ.1 187 x2.toNatClampNeg) (σ.2 188 x2.toNatClampNeg) 100000 x2 σ) (fun q4 =>
      gd (inb q4.1 16) (
      gd (inb q4.1 16) (
      f_X8_sortByMisfit_2 x1 n (x2 + 1) (setI (setL q4.2 188 q4.1.toNatClampNeg (σ.2 188 x2.toNatClampNeg)) 187 q4.1.toNatClampNeg (σ.1 187 x2.toNatClampNeg))))))))
def f_X8_sortByMisfit (x1 : Int32) (σ : Mem) : Option (Mem) :=
  bd (f_X8_sortByMisfit_2 x1 100000 1 σ) (fun q1 =>
  some q1)
abbrev rm_X8_sortByMisfit : Room := { frames := 0, cells := 0, slots := 0, locals := 0 }
set_option maxHeartbeats 4000000 in
set_option maxRecDepth 100000 in
theorem lp_X8_sortByMisfit_25 {p : Program} {e : Env} {s : State} {m : MethodId} {args : Array Value} {below : List Frame} {meth : Method} {c : Code} {Q : State → Prop} (l : Launch) (B : Wb) (C0 : Cx p s m args meth c cX8_sortByMisfit 7 RX8) (x1 : Int32) (x2 : Int32) (x3 : Int32) (x4 : Int64) : ∀ (n : Nat) (x6 : Int32) (σ : Mem) (o : Int32 × Mem) (H : Heap) (locs : List Loc) (ls : Array Slot), f_X8_sortByMisfit_25 x1 x2 x3 x4 n x6 σ = some o → Wx B σ s H locs → lv_has ls 7 [(0, .ref (wA B 186)), (1, .int x1), (2, .int x2), (3, .int x3), (4, .long x4), (6, .int x6)] → (∀ (H : Heap) (locs : List Loc) (ls : Array Slot), Wx B o.2 s H locs → lv_has ls 7 [(0, .ref (wA B 186)), (1, .int x1), (2, .int x2), (3, .int x3), (4, .long x4), (6, .int o.1)] → W p l e rm_X8_sortByMisfit s m args below meth c H locs 0 0 Q (F0 m 83 ls [])) → W p l e rm_X8_sortByMisfit s m args below meth c H locs 0 0 Q (F0 m 25 ls []) := by
  have hx := C0.1.1
  have hb := C0.1.2.1
  intro n
  induction n with
  | zero =>
    intro x6 σ o H locs ls hf w hl hK
    cases hf
  | succ n ih =>
    intro x6 σ o H locs ls hf w hl hK
    rw [f_X8_sortByMisfit_25] at hf
    refine lv_iload hx hb dX8_sortByMisfit_25 (lv_at hl 5 rfl) ?_
    refine lv_if_le (tgt := 83) hx hb dX8_sortByMisfit_27 (by decide) (fun c1 => ?_) (fun c1 => ?_)
    · rw [if_pos c1] at hf
      obtain rfl := Option.some.inj hf
      exact hK _ _ _ w (lv_sub hl [0, 1, 2, 3, 4, 5] rfl)
    · rw [if_neg c1] at hf
      refine lv_aload_n hx hb dX8_sortByMisfit_30 rfl (lv_at hl 0 rfl) ?_
      refine gR C0 w 188 fk_X8_15 (by decide +kernel) dX8_sortByMisfit_31 ?_
      refine lv_iload hx hb dX8_sortByMisfit_34 (lv_at hl 5 rfl) ?_
      refine lv_iconst (v := 1) hx hb dX8_sortByMisfit_36 (by decide) ?_
      refine lv_isub hx hb dX8_sortByMisfit_37 ?_
      obtain ⟨g2, hf⟩ := gdE hf
      refine aL C0 w (n := 16) (by decide +kernel) (inbE g2) dX8_sortByMisfit_38 ?_
      refine lv_lload hx hb dX8_sortByMisfit_39 (lv_at hl 4 rfl) ?_
      refine lc_ge (tgt := 83) C0 dX8_sortByMisfit_41 dX8_sortByMisfit_42 (by decide) (fun c3 => ?_) (fun c3 => ?_)
      · rw [if_pos c3] at hf
        obtain rfl := Option.some.inj hf
        exact hK _ _ _ w (lv_sub hl [0, 1, 2, 3, 4, 5] rfl)
      · rw [if_neg c3] at hf
        refine lv_aload_n hx hb dX8_sortByMisfit_45 rfl (lv_at hl 0 rfl) ?_
        refine gR C0 w 188 fk_X8_15 (by decide +kernel) dX8_sortByMisfit_46 ?_
        refine lv_iload hx hb dX8_sortByMisfit_49 (lv_at hl 5 rfl) ?_
        refine lv_aload_n hx hb dX8_sortByMisfit_51 rfl (lv_at hl 0 rfl) ?_
        refine gR C0 w 188 fk_X8_15 (by decide +kernel) dX8_sortByMisfit_52 ?_
        refine lv_iload hx hb dX8_sortByMisfit_55 (lv_at hl 5 rfl) ?_
        refine lv_iconst (v := 1) hx hb dX8_sortByMisfit_57 (by decide) ?_
        refine lv_isub hx hb dX8_sortByMisfit_58 ?_
        obtain ⟨g4, hf⟩ := gdE hf
        refine aL C0 w (n := 16) (by decide +kernel) (inbE g4) dX8_sortByMisfit_59 ?_
        obtain ⟨g5, hf⟩ := gdE hf
        refine sL C0 w (n := 16) (by decide +kernel) (inbE g5) dX8_sortByMisfit_60 (fun H locs w => ?_)
        refine lv_aload_n hx hb dX8_sortByMisfit_61 rfl (lv_at hl 0 rfl) ?_
        refine gR C0 w 187 fk_X8_9 (by decide +kernel) dX8_sortByMisfit_62 ?_
        refine lv_iload hx hb dX8_sortByMisfit_65 (lv_at hl 5 rfl) ?_
        refine lv_aload_n hx hb dX8_sortByMisfit_67 rfl (lv_at hl 0 rfl) ?_
        refine gR C0 w 187 fk_X8_9 (by decide +kernel) dX8_sortByMisfit_68 ?_
        refine lv_iload hx hb dX8_sortByMisfit_71 (lv_at hl 5 rfl) ?_
        refine lv_iconst (v := 1) hx hb dX8_sortByMisfit_73 (by decide) ?_
        refine lv_isub hx hb dX8_sortByMisfit_74 ?_
        obtain ⟨g6, hf⟩ := gdE hf
        refine aI C0 w (n := 16) (by decide +kernel) (inbE g6) dX8_sortByMisfit_75 ?_
        obtain ⟨g7, hf⟩ := gdE hf
        refine sI C0 w (n := 16) (by decide +kernel) (inbE g7) dX8_sortByMisfit_76 (fun H locs w => ?_)
        obtain ⟨q8, h9, hf⟩ := bdE hf
        have w : Wx B q8 s H locs := by rw [← Option.some.inj h9]; exact w
        refine lv_iinc (k := 5) (v := x6 + (-1)) (lv' := [(6, .int (x6 + (-1))), (0, .ref (wA B 186)), (1, .int x1), (2, .int x2), (3, .int x3), (4, .long x4)]) hx hb dX8_sortByMisfit_77 hl rfl (by rfl) (by decide) rfl (fun ls hl => ?_)
        refine lv_goto (tgt := 25) hx hb dX8_sortByMisfit_80 (by decide) ?_
        exact ih (x6 + (-1)) q8 _ _ _ _ hf w (lv_sub hl [1, 2, 3, 4, 5, 0] rfl) hK
set_option maxHeartbeats 4000000 in
set_option maxRecDepth 100000 in
theorem lp_X8_sortByMisfit_2 {p : Program} {e : Env} {s : State} {m : MethodId} {args : Array Value} {below : List Frame} {meth : Method} {c : Code} {Q : State → Prop} (l : Launch) (B : Wb) (C0 : Cx p s m args meth c cX8_sortByMisfit 7 RX8) (x1 : Int32) : ∀ (n : Nat) (x2 : Int32) (σ : Mem) (o : Mem) (H : Heap) (locs : List Loc) (ls : Array Slot), f_X8_sortByMisfit_2 x1 n x2 σ = some o → Wx B σ s H locs → lv_has ls 7 [(0, .ref (wA B 186)), (1, .int x1), (2, .int x2)] → (∀ (H : Heap) (locs : List Loc) (ls : Array Slot), Wx B o s H locs → lv_has ls 7 [] → W p l e rm_X8_sortByMisfit s m args below meth c H locs 0 0 Q (F0 m 106 ls [])) → W p l e rm_X8_sortByMisfit s m args below meth c H locs 0 0 Q (F0 m 2 ls []) := by
  have hx := C0.1.1
  have hb := C0.1.2.1
  intro n
  induction n with
  | zero =>
    intro x2 σ o H locs ls hf w hl hK
    cases hf
  | succ n ih =>
    intro x2 σ o H locs ls hf w hl hK
    rw [f_X8_sortByMisfit_2] at hf
    refine lv_iload_n hx hb dX8_sortByMisfit_2 rfl (lv_at hl 2 rfl) ?_
    refine lv_iload_n hx hb dX8_sortByMisfit_3 rfl (lv_at hl 1 rfl) ?_
    refine lv_icmp_ge (tgt := 106) hx hb dX8_sortByMisfit_4 (by decide) (fun c1 => ?_) (fun c1 => ?_)
    · rw [if_pos c1] at hf
      obtain rfl := Option.some.inj hf
      exact hK _ _ _ w (lv_sub hl [] rfl)
    · rw [if_neg c1] at hf
      refine lv_aload_n hx hb dX8_sortByMisfit_7 rfl (lv_at hl 0 rfl) ?_
      refine gR C0 w 187 fk_X8_9 (by decide +kernel) dX8_sortByMisfit_8 ?_
      refine lv_iload_n hx hb dX8_sortByMisfit_11 rfl (lv_at hl 2 rfl) ?_
      obtain ⟨g2, hf⟩ := gdE hf
      refine aI C0 w (n := 16) (by decide +kernel) (inbE g2) dX8_sortByMisfit_12 ?_
      refine lv_istore_n (lv' := [(3, .int (σ.1 187 x2.toNatClampNeg)), (0, .ref (wA B 186)), (1, .int x1), (2, .int x2)]) hx hb dX8_sortByMisfit_13 rfl hl (by decide) rfl (fun ls hl => ?_)
      refine lv_aload_n hx hb dX8_sortByMisfit_14 rfl (lv_at hl 1 rfl) ?_
      refine gR C0 w 188 fk_X8_15 (by decide +kernel) dX8_sortByMisfit_15 ?_
      refine lv_iload_n hx hb dX8_sortByMisfit_18 rfl (lv_at hl 3 rfl) ?_
      obtain ⟨g3, hf⟩ := gdE hf
      refine aL C0 w (n := 16) (by decide +kernel) (inbE g3) dX8_sortByMisfit_19 ?_
      refine lv_lstore (lv' := [(4, .long (σ.2 188 x2.toNatClampNeg)), (3, .int (σ.1 187 x2.toNatClampNeg)), (0, .ref (wA B 186)), (1, .int x1), (2, .int x2)]) hx hb dX8_sortByMisfit_20 hl (by decide) rfl (fun ls hl => ?_)
      refine lv_iload_n hx hb dX8_sortByMisfit_22 rfl (lv_at hl 4 rfl) ?_
      refine lv_istore (lv' := [(6, .int x2), (4, .long (σ.2 188 x2.toNatClampNeg)), (3, .int (σ.1 187 x2.toNatClampNeg)), (0, .ref (wA B 186)), (1, .int x1), (2, .int x2)]) hx hb dX8_sortByMisfit_23 hl (by decide) rfl (fun ls hl => ?_)
      obtain ⟨q4, h5, hf⟩ := bdE hf
      refine lp_X8_sortByMisfit_25 l B C0 x1 x2 (σ.1 187 x2.toNatClampNeg) (σ.2 188 x2.toNatClampNeg) 100000 x2 σ q4 _ _ _ h5 w (lv_sub hl [3, 4, 5, 2, 1, 0] rfl) (fun H locs ls w hl => ?_)
      refine lv_aload_n hx hb dX8_sortByMisfit_83 rfl (lv_at hl 0 rfl) ?_
      refine gR C0 w 188 fk_X8_15 (by decide +kernel) dX8_sortByMisfit_84 ?_
      refine lv_iload hx hb dX8_sortByMisfit_87 (lv_at hl 5 rfl) ?_
      refine lv_lload hx hb dX8_sortByMisfit_89 (lv_at hl 4 rfl) ?_
      obtain ⟨g6, hf⟩ := gdE hf
      refine sL C0 w (n := 16) (by decide +kernel) (inbE g6) dX8_sortByMisfit_91 (fun H locs w => ?_)
      refine lv_aload_n hx hb dX8_sortByMisfit_92 rfl (lv_at hl 0 rfl) ?_
      refine gR C0 w 187 fk_X8_9 (by decide +kernel) dX8_sortByMisfit_93 ?_
      refine lv_iload hx hb dX8_sortByMisfit_96 (lv_at hl 5 rfl) ?_
      refine lv_iload_n hx hb dX8_sortByMisfit_98 rfl (lv_at hl 3 rfl) ?_
      obtain ⟨g7, hf⟩ := gdE hf
      refine sI C0 w (n := 16) (by decide +kernel) (inbE g7) dX8_sortByMisfit_99 (fun H locs w => ?_)
      refine lv_iinc (k := 2) (v := x2 + 1) (lv' := [(2, .int (x2 + 1)), (0, .ref (wA B 186)), (1, .int x1), (3, .int (σ.1 187 x2.toNatClampNeg)), (4, .long (σ.2 188 x2.toNatClampNeg)), (6, .int q4.1)]) hx hb dX8_sortByMisfit_100 hl rfl (by rfl) (by decide) rfl (fun ls hl => ?_)
      refine lv_goto (tgt := 2) hx hb dX8_sortByMisfit_103 (by decide) ?_
      exact ih (x2 + 1) (setI (setL q4.2 188 q4.1.toNatClampNeg (σ.2 188 x2.toNatClampNeg)) 187 q4.1.toNatClampNeg (σ.1 187 x2.toNatClampNeg)) _ _ _ _ hf w (lv_sub hl [1, 2, 0] rfl) hK
set_option maxHeartbeats 4000000 in
set_option maxRecDepth 100000 in
theorem m_X8_sortByMisfit (l : Launch) (B : Wb) (sz : Nat) (σ : Mem) (x1 : Int32) (q : Mem) (hf : f_X8_sortByMisfit x1 σ = some q) : MetC l yX8_sortByMisfit cX8_sortByMisfit 7 none rm_X8_sortByMisfit B sz σ q [.ref (wA B 186), .int x1] (none) := by
  refine met_in (by decide +kernel) (Nat.le_of_ble_eq_true rfl) ?_
  intro p e s m below meth c C0 hr w hsz ls hl
  have hx := C0.1.1
  have hb := C0.1.2.1
  unfold f_X8_sortByMisfit at hf
  refine lv_iconst (v := 1) hx hb dX8_sortByMisfit_0 (by decide) ?_
  refine lv_istore_n (lv' := [(2, .int 1), (0, .ref (wA B 186)), (1, .int x1)]) hx hb dX8_sortByMisfit_1 rfl hl (by decide) rfl (fun ls hl => ?_)
  obtain ⟨q1, h2, hf⟩ := bdE hf
  refine lp_X8_sortByMisfit_2 l B C0 x1 100000 1 σ q1 _ _ _ h2 w (lv_sub hl [1, 2, 0] rfl) (fun H locs ls w hl => ?_)
  obtain rfl := Option.some.inj hf
  exact eV C0 hr w dX8_sortByMisfit_106
def f_X8_drawLots_54 (x1 : Int32) (x2 : Int32) (x4 : Int32) : Nat → Int32 → Mem → Option (Mem)
  | 0, _, _ => none
  | n + 1, x5, σ =>
    if x5 ≤ x2 then (
      some σ)
    else (
      gd (inb (x5 - 1) 16) (
      gd (inb x5 16) (
      f_X8_drawLots_54 x1 x2 x4 n (x5 + (-1)) (setI σ 187 x5.toNatClampNeg (σ.1 187 (x5 - 1).toNatClampNeg)))))
def f_X8_drawLots_2 (x1 : Int32) : Nat → Int32 → Mem → Option (Mem)
  | 0, _, _ => none
  | n + 1, x2, σ =>
    if x1 ≤ x2 then (
      some σ)
    else (
      bd (f_X11_nextChance (σ.2 1 6) σ) (fun q2 =>
      bd (f_X11_leadingPart ((setL σ 1 6 q2).2 1 6) (setL σ 1 6 q2)) (fun q4 =>
      gd (nz8 ((x1 - x2).toInt64)) (
      gd (inb (x2 + ((q4 - q4 / ((x1 - x2).toInt64) * ((x1 - x2).toInt64)).toInt32)) 16) (
      bd (f_X8_drawLots_54 x1 x2 ((setL σ 1 6 q2).1 187 (x2 + ((q4 - q4 / ((x1 - x2).toInt64) * ((x1 - x2).toInt64)).toInt32)).toNatClampNeg) 100000 (x2 + ((q4 - q4 / ((x1 - x2).toInt64) * ((x1 - x2).toInt64)).toInt32)) (setL σ 1 6 q2)) (fun q8 =>
      gd (inb x2 16) (
      f_X8_drawLots_2 x1 n (x2 + 1) (setI q8 187 x2.toNatClampNeg ((setL σ 1 6 q2).1 187 (x2 + ((q4 - q4 / ((x1 - x2).toInt64) * ((x1 - x2).toInt64)).toInt32)).toNatClampNeg)))))))))
def f_X8_drawLots (x1 : Int32) (σ : Mem) : Option (Mem) :=
  bd (f_X8_drawLots_2 x1 100000 0 σ) (fun q1 =>
  some q1)
abbrev rm_X8_drawLots : Room := { frames := 1, cells := 0, slots := 0, locals := 21 }
set_option maxHeartbeats 4000000 in
set_option maxRecDepth 100000 in
theorem lp_X8_drawLots_54 {p : Program} {e : Env} {s : State} {m : MethodId} {args : Array Value} {below : List Frame} {meth : Method} {c : Code} {Q : State → Prop} (l : Launch) (B : Wb) (C0 : Cx p s m args meth c cX8_drawLots 6 RX8) (x1 : Int32) (x2 : Int32) (x4 : Int32) : ∀ (n : Nat) (x5 : Int32) (σ : Mem) (o : Mem) (H : Heap) (locs : List Loc) (ls : Array Slot), f_X8_drawLots_54 x1 x2 x4 n x5 σ = some o → Wx B σ s H locs → lv_has ls 6 [(0, .ref (wA B 186)), (1, .int x1), (2, .int x2), (4, .int x4), (5, .int x5)] → (∀ (H : Heap) (locs : List Loc) (ls : Array Slot), Wx B o s H locs → lv_has ls 6 [(0, .ref (wA B 186)), (1, .int x1), (2, .int x2), (4, .int x4)] → W p l e rm_X8_drawLots s m args below meth c H locs 0 0 Q (F0 m 82 ls [])) → W p l e rm_X8_drawLots s m args below meth c H locs 0 0 Q (F0 m 54 ls []) := by
  have hx := C0.1.1
  have hb := C0.1.2.1
  intro n
  induction n with
  | zero =>
    intro x5 σ o H locs ls hf w hl hK
    cases hf
  | succ n ih =>
    intro x5 σ o H locs ls hf w hl hK
    rw [f_X8_drawLots_54] at hf
    refine lv_iload hx hb dX8_drawLots_54 (lv_at hl 4 rfl) ?_
    refine lv_iload_n hx hb dX8_drawLots_56 rfl (lv_at hl 2 rfl) ?_
    refine lv_icmp_le (tgt := 82) hx hb dX8_drawLots_57 (by decide) (fun c1 => ?_) (fun c1 => ?_)
    · rw [if_pos c1] at hf
      obtain rfl := Option.some.inj hf
      exact hK _ _ _ w (lv_sub hl [0, 1, 2, 3] rfl)
    · rw [if_neg c1] at hf
      refine lv_aload_n hx hb dX8_drawLots_60 rfl (lv_at hl 0 rfl) ?_
      refine gR C0 w 187 fk_X8_9 (by decide +kernel) dX8_drawLots_61 ?_
      refine lv_iload hx hb dX8_drawLots_64 (lv_at hl 4 rfl) ?_
      refine lv_aload_n hx hb dX8_drawLots_66 rfl (lv_at hl 0 rfl) ?_
      refine gR C0 w 187 fk_X8_9 (by decide +kernel) dX8_drawLots_67 ?_
      refine lv_iload hx hb dX8_drawLots_70 (lv_at hl 4 rfl) ?_
      refine lv_iconst (v := 1) hx hb dX8_drawLots_72 (by decide) ?_
      refine lv_isub hx hb dX8_drawLots_73 ?_
      obtain ⟨g2, hf⟩ := gdE hf
      refine aI C0 w (n := 16) (by decide +kernel) (inbE g2) dX8_drawLots_74 ?_
      obtain ⟨g3, hf⟩ := gdE hf
      refine sI C0 w (n := 16) (by decide +kernel) (inbE g3) dX8_drawLots_75 (fun H locs w => ?_)
      refine lv_iinc (k := 4) (v := x5 + (-1)) (lv' := [(5, .int (x5 + (-1))), (0, .ref (wA B 186)), (1, .int x1), (2, .int x2), (4, .int x4)]) hx hb dX8_drawLots_76 hl rfl (by rfl) (by decide) rfl (fun ls hl => ?_)
      refine lv_goto (tgt := 54) hx hb dX8_drawLots_79 (by decide) ?_
      exact ih (x5 + (-1)) (setI σ 187 x5.toNatClampNeg (σ.1 187 (x5 - 1).toNatClampNeg)) _ _ _ _ hf w (lv_sub hl [1, 2, 3, 4, 0] rfl) hK
set_option maxHeartbeats 4000000 in
set_option maxRecDepth 100000 in
theorem lp_X8_drawLots_2 {p : Program} {e : Env} {s : State} {m : MethodId} {args : Array Value} {below : List Frame} {meth : Method} {c : Code} {Q : State → Prop} (l : Launch) (B : Wb) (C0 : Cx p s m args meth c cX8_drawLots 6 RX8) (x1 : Int32) : ∀ (n : Nat) (x2 : Int32) (σ : Mem) (o : Mem) (H : Heap) (locs : List Loc) (ls : Array Slot), f_X8_drawLots_2 x1 n x2 σ = some o → Wx B σ s H locs → lv_has ls 6 [(0, .ref (wA B 186)), (1, .int x1), (2, .int x2)] → (∀ (H : Heap) (locs : List Loc) (ls : Array Slot), Wx B o s H locs → lv_has ls 6 [] → W p l e rm_X8_drawLots s m args below meth c H locs 0 0 Q (F0 m 96 ls [])) → W p l e rm_X8_drawLots s m args below meth c H locs 0 0 Q (F0 m 2 ls []) := by
  have hx := C0.1.1
  have hb := C0.1.2.1
  intro n
  induction n with
  | zero =>
    intro x2 σ o H locs ls hf w hl hK
    cases hf
  | succ n ih =>
    intro x2 σ o H locs ls hf w hl hK
    rw [f_X8_drawLots_2] at hf
    refine lv_iload_n hx hb dX8_drawLots_2 rfl (lv_at hl 2 rfl) ?_
    refine lv_iload_n hx hb dX8_drawLots_3 rfl (lv_at hl 1 rfl) ?_
    refine lv_icmp_ge (tgt := 96) hx hb dX8_drawLots_4 (by decide) (fun c1 => ?_) (fun c1 => ?_)
    · rw [if_pos c1] at hf
      obtain rfl := Option.some.inj hf
      exact hK _ _ _ w (lv_sub hl [] rfl)
    · rw [if_neg c1] at hf
      refine lv_aload_n hx hb dX8_drawLots_7 rfl (lv_at hl 0 rfl) ?_
      refine gR C0 w 1 fk_X8_19 (by decide +kernel) dX8_drawLots_8 ?_
      refine lv_aload_n hx hb dX8_drawLots_11 rfl (lv_at hl 0 rfl) ?_
      refine gR C0 w 1 fk_X8_19 (by decide +kernel) dX8_drawLots_12 ?_
      refine gL C0 w fk_X8_83 (by decide +kernel) dX8_drawLots_15 ?_
      obtain ⟨q2, h3, hf⟩ := bdE hf
      refine cN (As := [.long (σ.2 1 6)]) (rest := [.ref (wA B 1)]) (host := RX11) (idx := 87) C0 w (m_X11_nextChance l B _ σ (σ.2 1 6) q2 h3) ky_X11_nextChance ks_X11_nextChance (by decide) ⟨Nat.le_of_ble_eq_true rfl, Nat.le_of_ble_eq_true rfl⟩ ⟨Nat.le_of_ble_eq_true rfl, Nat.le_of_ble_eq_true rfl⟩ rfl (by rfl) (Nat.le_of_ble_eq_true rfl) hl.1 dX8_drawLots_18 (fun H locs w => ?_)
      refine pL C0 w fk_X8_83 fp_X7_6 (by decide +kernel) dX8_drawLots_21 (fun H locs w => ?_)
      refine lv_iload_n hx hb dX8_drawLots_24 rfl (lv_at hl 2 rfl) ?_
      refine lv_aload_n hx hb dX8_drawLots_25 rfl (lv_at hl 0 rfl) ?_
      refine gR C0 w 1 fk_X8_19 (by decide +kernel) dX8_drawLots_26 ?_
      refine gL C0 w fk_X8_83 (by decide +kernel) dX8_drawLots_29 ?_
      obtain ⟨q4, h5, hf⟩ := bdE hf
      refine cN (As := [.long ((setL σ 1 6 q2).2 1 6)]) (rest := [.int x2]) (host := RX11) (idx := 90) C0 w (m_X11_leadingPart l B _ (setL σ 1 6 q2) ((setL σ 1 6 q2).2 1 6) q4 h5) ky_X11_leadingPart ks_X11_leadingPart (by decide) ⟨Nat.le_of_ble_eq_true rfl, Nat.le_of_ble_eq_true rfl⟩ ⟨Nat.le_of_ble_eq_true rfl, Nat.le_of_ble_eq_true rfl⟩ rfl (by rfl) (Nat.le_of_ble_eq_true rfl) hl.1 dX8_drawLots_32 (fun H locs w => ?_)
      refine lv_iload_n hx hb dX8_drawLots_35 rfl (lv_at hl 1 rfl) ?_
      refine lv_iload_n hx hb dX8_drawLots_36 rfl (lv_at hl 2 rfl) ?_
      refine lv_isub hx hb dX8_drawLots_37 ?_
      refine lv_i2l hx hb dX8_drawLots_38 rfl ?_
      obtain ⟨g6, hf⟩ := gdE hf
      refine lv_lrem hx hb dX8_drawLots_39 (nz8E g6) ?_
      refine lv_l2i hx hb dX8_drawLots_40 rfl ?_
      refine lv_iadd hx hb dX8_drawLots_41 ?_
      refine lv_istore_n (lv' := [(3, .int (x2 + ((q4 - q4 / ((x1 - x2).toInt64) * ((x1 - x2).toInt64)).toInt32))), (0, .ref (wA B 186)), (1, .int x1), (2, .int x2)]) hx hb dX8_drawLots_42 rfl hl (by decide) rfl (fun ls hl => ?_)
      refine lv_aload_n hx hb dX8_drawLots_43 rfl (lv_at hl 1 rfl) ?_
      refine gR C0 w 187 fk_X8_9 (by decide +kernel) dX8_drawLots_44 ?_
      refine lv_iload_n hx hb dX8_drawLots_47 rfl (lv_at hl 0 rfl) ?_
      obtain ⟨g7, hf⟩ := gdE hf
      refine aI C0 w (n := 16) (by decide +kernel) (inbE g7) dX8_drawLots_48 ?_
      refine lv_istore (lv' := [(4, .int ((setL σ 1 6 q2).1 187 (x2 + ((q4 - q4 / ((x1 - x2).toInt64) * ((x1 - x2).toInt64)).toInt32)).toNatClampNeg)), (3, .int (x2 + ((q4 - q4 / ((x1 - x2).toInt64) * ((x1 - x2).toInt64)).toInt32))), (0, .ref (wA B 186)), (1, .int x1), (2, .int x2)]) hx hb dX8_drawLots_49 hl (by decide) rfl (fun ls hl => ?_)
      refine lv_iload_n hx hb dX8_drawLots_51 rfl (lv_at hl 1 rfl) ?_
      refine lv_istore (lv' := [(5, .int (x2 + ((q4 - q4 / ((x1 - x2).toInt64) * ((x1 - x2).toInt64)).toInt32))), (4, .int ((setL σ 1 6 q2).1 187 (x2 + ((q4 - q4 / ((x1 - x2).toInt64) * ((x1 - x2).toInt64)).toInt32)).toNatClampNeg)), (3, .int (x2 + ((q4 - q4 / ((x1 - x2).toInt64) * ((x1 - x2).toInt64)).toInt32))), (0, .ref (wA B 186)), (1, .int x1), (2, .int x2)]) hx hb dX8_drawLots_52 hl (by decide) rfl (fun ls hl => ?_)
      obtain ⟨q8, h9, hf⟩ := bdE hf
      refine lp_X8_drawLots_54 l B C0 x1 x2 ((setL σ 1 6 q2).1 187 (x2 + ((q4 - q4 / ((x1 - x2).toInt64) * ((x1 - x2).toInt64)).toInt32)).toNatClampNeg) 100000 (x2 + ((q4 - q4 / ((x1 - x2).toInt64) * ((x1 - x2).toInt64)).toInt32)) (setL σ 1 6 q2) q8 _ _ _ h9 w (lv_sub hl [3, 4, 5, 1, 0] rfl) (fun H locs ls w hl => ?_)
      refine lv_aload_n hx hb dX8_drawLots_82 rfl (lv_at hl 0 rfl) ?_
      refine gR C0 w 187 fk_X8_9 (by decide +kernel) dX8_drawLots_83 ?_
      refine lv_iload_n hx hb dX8_drawLots_86 rfl (lv_at hl 2 rfl) ?_
      refine lv_iload hx hb dX8_drawLots_87 (lv_at hl 3 rfl) ?_
      obtain ⟨g10, hf⟩ := gdE hf
      refine sI C0 w (n := 16) (by decide +kernel) (inbE g10) dX8_drawLots_89 (fun H locs w => ?_)
      refine lv_iinc (k := 2) (v := x2 + 1) (lv' := [(2, .int (x2 + 1)), (0, .ref (wA B 186)), (1, .int x1), (4, .int ((setL σ 1 6 q2).1 187 (x2 + ((q4 - q4 / ((x1 - x2).toInt64) * ((x1 - x2).toInt64)).toInt32)).toNatClampNeg))]) hx hb dX8_drawLots_90 hl rfl (by rfl) (by decide) rfl (fun ls hl => ?_)
      refine lv_goto (tgt := 2) hx hb dX8_drawLots_93 (by decide) ?_
      exact ih (x2 + 1) (setI q8 187 x2.toNatClampNeg ((setL σ 1 6 q2).1 187 (x2 + ((q4 - q4 / ((x1 - x2).toInt64) * ((x1 - x2).toInt64)).toInt32)).toNatClampNeg)) _ _ _ _ hf w (lv_sub hl [1, 2, 0] rfl) hK
set_option maxHeartbeats 4000000 in
set_option maxRecDepth 100000 in
theorem m_X8_drawLots (l : Launch) (B : Wb) (sz : Nat) (σ : Mem) (x1 : Int32) (q : Mem) (hf : f_X8_drawLots x1 σ = some q) : MetC l yX8_drawLots cX8_drawLots 6 none rm_X8_drawLots B sz σ q [.ref (wA B 186), .int x1] (none) := by
  refine met_in (by decide +kernel) (Nat.le_of_ble_eq_true rfl) ?_
  intro p e s m below meth c C0 hr w hsz ls hl
  have hx := C0.1.1
  have hb := C0.1.2.1
  unfold f_X8_drawLots at hf
  refine lv_iconst (v := 0) hx hb dX8_drawLots_0 (by decide) ?_
  refine lv_istore_n (lv' := [(2, .int 0), (0, .ref (wA B 186)), (1, .int x1)]) hx hb dX8_drawLots_1 rfl hl (by decide) rfl (fun ls hl => ?_)
  obtain ⟨q1, h2, hf⟩ := bdE hf
  refine lp_X8_drawLots_2 l B C0 x1 100000 0 σ q1 _ _ _ h2 w (lv_sub hl [1, 2, 0] rfl) (fun H locs ls w hl => ?_)
  obtain rfl := Option.some.inj hf
  exact eV C0 hr w dX8_drawLots_96
def f_X8_arrange (x1 : Int32) (σ : Mem) : Option (Mem) :=
  if (σ.1 1 5) = 1 then (
    bd (f_X11_turnRound 187 x1 σ) (fun q2 =>
    some q2))
  else (
  if (σ.1 1 5) = 2 then (
    bd (f_X8_sortByMisfit x1 σ) (fun q5 =>
    some q5))
  else (
  if (σ.1 1 5) = 3 then (
    bd (f_X8_drawLots x1 σ) (fun q8 =>
    some q8))
  else (
    some σ)))
abbrev rm_X8_arrange : Room := { frames := 2, cells := 0, slots := 0, locals := 46 }
set_option maxHeartbeats 4000000 in
set_option maxRecDepth 100000 in
theorem m_X8_arrange (l : Launch) (B : Wb) (sz : Nat) (σ : Mem) (x1 : Int32) (q : Mem) (hf : f_X8_arrange x1 σ = some q) : MetC l yX8_arrange cX8_arrange 2 none rm_X8_arrange B sz σ q [.ref (wA B 186), .int x1] (none) := by
  refine met_in (by decide +kernel) (Nat.le_of_ble_eq_true rfl) ?_
  intro p e s m below meth c C0 hr w hsz ls hl
  have hx := C0.1.1
  have hb := C0.1.2.1
  unfold f_X8_arrange at hf
  refine lv_aload_n hx hb dX8_arrange_0 rfl (lv_at hl 0 rfl) ?_
  refine gR C0 w 1 fk_X8_19 (by decide +kernel) dX8_arrange_1 ?_
  refine gI C0 w fk_X8_45 (by decide +kernel) dX8_arrange_4 ?_
  by_cases c1 : (σ.1 1 5) = 1
  · rw [if_pos c1] at hf
    refine lv_tableIn (tgt := 32) hx hb dX8_arrange_7 (by rw [c1]; decide) (by rw [c1]; decide) (by rw [c1]; rfl) (by decide) ?_
    refine lv_aload_n hx hb dX8_arrange_32 rfl (lv_at hl 0 rfl) ?_
    refine gR C0 w 187 fk_X8_9 (by decide +kernel) dX8_arrange_33 ?_
    refine lv_iload_n hx hb dX8_arrange_36 rfl (lv_at hl 1 rfl) ?_
    obtain ⟨q2, h3, hf⟩ := bdE hf
    refine cN (As := [.ref (wA B 187), .int x1]) (rest := []) (host := RX11) (idx := 73) C0 w (m_X11_turnRound l B _ σ 187 x1 q2 h3) ky_X11_turnRound ks_X11_turnRound (by decide) ⟨Nat.le_of_ble_eq_true rfl, Nat.le_of_ble_eq_true rfl⟩ ⟨Nat.le_of_ble_eq_true rfl, Nat.le_of_ble_eq_true rfl⟩ rfl (by rfl) (Nat.le_of_ble_eq_true rfl) hl.1 dX8_arrange_37 (fun H locs w => ?_)
    refine lv_goto (tgt := 59) hx hb dX8_arrange_40 (by decide) ?_
    obtain rfl := Option.some.inj hf
    exact eV C0 hr w dX8_arrange_59
  · rw [if_neg c1] at hf
    by_cases c4 : (σ.1 1 5) = 2
    · rw [if_pos c4] at hf
      refine lv_tableIn (tgt := 43) hx hb dX8_arrange_7 (by rw [c4]; decide) (by rw [c4]; decide) (by rw [c4]; rfl) (by decide) ?_
      refine lv_aload_n hx hb dX8_arrange_43 rfl (lv_at hl 0 rfl) ?_
      refine lv_iload_n hx hb dX8_arrange_44 rfl (lv_at hl 1 rfl) ?_
      obtain ⟨q5, h6, hf⟩ := bdE hf
      refine cV (As := [.int x1]) (rest := []) (k := 186) (ci := 7) (T := TX8) (N := 5) C0 w (m_X8_sortByMisfit l B _ σ x1 q5 h6) ky_X8_sortByMisfit kv_X8_sortByMisfit lk_X8_77 rfl (by decide +kernel) ⟨Nat.le_of_ble_eq_true rfl, Nat.le_of_ble_eq_true rfl⟩ ⟨Nat.le_of_ble_eq_true rfl, Nat.le_of_ble_eq_true rfl⟩ rfl (by rfl) (Nat.le_of_ble_eq_true rfl) hl.1 dX8_arrange_45 (fun H locs w => ?_)
      refine lv_goto (tgt := 59) hx hb dX8_arrange_48 (by decide) ?_
      obtain rfl := Option.some.inj hf
      exact eV C0 hr w dX8_arrange_59
    · rw [if_neg c4] at hf
      by_cases c7 : (σ.1 1 5) = 3
      · rw [if_pos c7] at hf
        refine lv_tableIn (tgt := 51) hx hb dX8_arrange_7 (by rw [c7]; decide) (by rw [c7]; decide) (by rw [c7]; rfl) (by decide) ?_
        refine lv_aload_n hx hb dX8_arrange_51 rfl (lv_at hl 0 rfl) ?_
        refine lv_iload_n hx hb dX8_arrange_52 rfl (lv_at hl 1 rfl) ?_
        obtain ⟨q8, h9, hf⟩ := bdE hf
        refine cV (As := [.int x1]) (rest := []) (k := 186) (ci := 7) (T := TX8) (N := 5) C0 w (m_X8_drawLots l B _ σ x1 q8 h9) ky_X8_drawLots kv_X8_drawLots lk_X8_80 rfl (by decide +kernel) ⟨Nat.le_of_ble_eq_true rfl, Nat.le_of_ble_eq_true rfl⟩ ⟨Nat.le_of_ble_eq_true rfl, Nat.le_of_ble_eq_true rfl⟩ rfl (by rfl) (Nat.le_of_ble_eq_true rfl) hl.1 dX8_arrange_53 (fun H locs w => ?_)
        refine lv_goto (tgt := 59) hx hb dX8_arrange_56 (by decide) ?_
        obtain rfl := Option.some.inj hf
        exact eV C0 hr w dX8_arrange_59
      · rw [if_neg c7] at hf
        refine lv_tableOut (tgt := 59) hx hb dX8_arrange_7 (sw_out (by have q0 := sw_ne c1; have q1 := sw_ne c4; have q2 := sw_ne c7; clear hf; simp at *; omega)) (by decide) ?_
        obtain rfl := Option.some.inj hf
        exact eV C0 hr w dX8_arrange_59
def f_X8_makeSweeps_24 (x1 : Int32) (x2 : Int32) (x3 : Int32) (x4 : Int32) : Nat → Int32 → Mem → Option (Mem)
  | 0, _, _ => none
  | n + 1, x5, σ =>
    if x4 ≤ x5 then (
      some σ)
    else (
      gd (inb x5 16) (
      bd (f_X1_project (σ.1 187 x5.toNatClampNeg) σ) (fun q3 =>
      f_X8_makeSweeps_24 x1 x2 x3 x4 n (x5 + 1) q3.2)))
def f_X8_makeSweeps_4 (x1 : Int32) : Nat → Int32 → Int32 → Mem → Option (Int32 × Mem)
  | 0, _, _, _ => none
  | n + 1, x2, x3, σ =>
    if x1 ≤ x3 then (
      some ((x2, σ)))
    else (
      bd (f_X8_queueActive σ) (fun q2 =>
      bd (f_X8_arrange q2.1 q2.2) (fun q4 =>
      bd (f_X8_makeSweeps_24 x1 x2 x3 q2.1 100000 0 q4) (fun q6 =>
      f_X8_makeSweeps_4 x1 n (x2 + q2.1) (x3 + 1) q6))))
def f_X8_makeSweeps (x1 : Int32) (σ : Mem) : Option (Int32 × Mem) :=
  bd (f_X8_makeSweeps_4 x1 100000 0 0 σ) (fun q1 =>
  some ((q1.1, q1.2)))
abbrev rm_X8_makeSweeps : Room := { frames := 4, cells := 0, slots := 0, locals := 113 }
set_option maxHeartbeats 4000000 in
set_option maxRecDepth 100000 in
theorem lp_X8_makeSweeps_24 {p : Program} {e : Env} {s : State} {m : MethodId} {args : Array Value} {below : List Frame} {meth : Method} {c : Code} {Q : State → Prop} (l : Launch) (B : Wb) (C0 : Cx p s m args meth c cX8_makeSweeps 6 RX8) (x1 : Int32) (x2 : Int32) (x3 : Int32) (x4 : Int32) : ∀ (n : Nat) (x5 : Int32) (σ : Mem) (o : Mem) (H : Heap) (locs : List Loc) (ls : Array Slot), f_X8_makeSweeps_24 x1 x2 x3 x4 n x5 σ = some o → Wx B σ s H locs → lv_has ls 6 [(0, .ref (wA B 186)), (1, .int x1), (2, .int x2), (3, .int x3), (4, .int x4), (5, .int x5)] → (∀ (H : Heap) (locs : List Loc) (ls : Array Slot), Wx B o s H locs → lv_has ls 6 [(0, .ref (wA B 186)), (1, .int x1), (2, .int x2), (3, .int x3), (4, .int x4)] → W p l e rm_X8_makeSweeps s m args below meth c H locs 0 0 Q (F0 m 52 ls [])) → W p l e rm_X8_makeSweeps s m args below meth c H locs 0 0 Q (F0 m 24 ls []) := by
  have hx := C0.1.1
  have hb := C0.1.2.1
  intro n
  induction n with
  | zero =>
    intro x5 σ o H locs ls hf w hl hK
    cases hf
  | succ n ih =>
    intro x5 σ o H locs ls hf w hl hK
    rw [f_X8_makeSweeps_24] at hf
    refine lv_iload hx hb dX8_makeSweeps_24 (lv_at hl 5 rfl) ?_
    refine lv_iload hx hb dX8_makeSweeps_26 (lv_at hl 4 rfl) ?_
    refine lv_icmp_ge (tgt := 52) hx hb dX8_makeSweeps_28 (by decide) (fun c1 => ?_) (fun c1 => ?_)
    · rw [if_pos c1] at hf
      obtain rfl := Option.some.inj hf
      exact hK _ _ _ w (lv_sub hl [0, 1, 2, 3, 4] rfl)
    · rw [if_neg c1] at hf
      refine lv_aload_n hx hb dX8_makeSweeps_31 rfl (lv_at hl 0 rfl) ?_
      refine gR C0 w 183 fk_X8_27 (by decide +kernel) dX8_makeSweeps_32 ?_
      refine lv_aload_n hx hb dX8_makeSweeps_35 rfl (lv_at hl 0 rfl) ?_
      refine gR C0 w 187 fk_X8_9 (by decide +kernel) dX8_makeSweeps_36 ?_
      refine lv_iload hx hb dX8_makeSweeps_39 (lv_at hl 5 rfl) ?_
      obtain ⟨g2, hf⟩ := gdE hf
      refine aI C0 w (n := 16) (by decide +kernel) (inbE g2) dX8_makeSweeps_41 ?_
      obtain ⟨q3, h4, hf⟩ := bdE hf
      refine cV (As := [.int (σ.1 187 x5.toNatClampNeg)]) (rest := []) (k := 183) (ci := 0) (T := TX1) (N := 7) C0 w (m_X1_project l B _ σ (σ.1 187 x5.toNatClampNeg) q3 h4) ky_X1_project kv_X1_project lk_X8_39 rfl (by decide +kernel) ⟨Nat.le_of_ble_eq_true rfl, Nat.le_of_ble_eq_true rfl⟩ ⟨Nat.le_of_ble_eq_true rfl, Nat.le_of_ble_eq_true rfl⟩ rfl (by rfl) (Nat.le_of_ble_eq_true rfl) hl.1 dX8_makeSweeps_42 (fun H locs w => ?_)
      refine lv_pop hx hb dX8_makeSweeps_45 rfl ?_
      refine lv_iinc (k := 5) (v := x5 + 1) (lv' := [(5, .int (x5 + 1)), (0, .ref (wA B 186)), (1, .int x1), (2, .int x2), (3, .int x3), (4, .int x4)]) hx hb dX8_makeSweeps_46 hl rfl (by rfl) (by decide) rfl (fun ls hl => ?_)
      refine lv_goto (tgt := 24) hx hb dX8_makeSweeps_49 (by decide) ?_
      exact ih (x5 + 1) q3.2 _ _ _ _ hf w (lv_sub hl [1, 2, 3, 4, 5, 0] rfl) hK
set_option maxHeartbeats 4000000 in
set_option maxRecDepth 100000 in
theorem lp_X8_makeSweeps_4 {p : Program} {e : Env} {s : State} {m : MethodId} {args : Array Value} {below : List Frame} {meth : Method} {c : Code} {Q : State → Prop} (l : Launch) (B : Wb) (C0 : Cx p s m args meth c cX8_makeSweeps 6 RX8) (x1 : Int32) : ∀ (n : Nat) (x2 : Int32) (x3 : Int32) (σ : Mem) (o : Int32 × Mem) (H : Heap) (locs : List Loc) (ls : Array Slot), f_X8_makeSweeps_4 x1 n x2 x3 σ = some o → Wx B σ s H locs → lv_has ls 6 [(0, .ref (wA B 186)), (1, .int x1), (2, .int x2), (3, .int x3)] → (∀ (H : Heap) (locs : List Loc) (ls : Array Slot), Wx B o.2 s H locs → lv_has ls 6 [(2, .int o.1)] → W p l e rm_X8_makeSweeps s m args below meth c H locs 0 0 Q (F0 m 63 ls [])) → W p l e rm_X8_makeSweeps s m args below meth c H locs 0 0 Q (F0 m 4 ls []) := by
  have hx := C0.1.1
  have hb := C0.1.2.1
  intro n
  induction n with
  | zero =>
    intro x2 x3 σ o H locs ls hf w hl hK
    cases hf
  | succ n ih =>
    intro x2 x3 σ o H locs ls hf w hl hK
    rw [f_X8_makeSweeps_4] at hf
    refine lv_iload_n hx hb dX8_makeSweeps_4 rfl (lv_at hl 3 rfl) ?_
    refine lv_iload_n hx hb dX8_makeSweeps_5 rfl (lv_at hl 1 rfl) ?_
    refine lv_icmp_ge (tgt := 63) hx hb dX8_makeSweeps_6 (by decide) (fun c1 => ?_) (fun c1 => ?_)
    · rw [if_pos c1] at hf
      obtain rfl := Option.some.inj hf
      exact hK _ _ _ w (lv_sub hl [2] rfl)
    · rw [if_neg c1] at hf
      refine lv_aload_n hx hb dX8_makeSweeps_9 rfl (lv_at hl 0 rfl) ?_
      obtain ⟨q2, h3, hf⟩ := bdE hf
      refine cV (As := []) (rest := []) (k := 186) (ci := 7) (T := TX8) (N := 5) C0 w (m_X8_queueActive l B _ σ q2 h3) ky_X8_queueActive kv_X8_queueActive lk_X8_31 rfl (by decide +kernel) ⟨Nat.le_of_ble_eq_true rfl, Nat.le_of_ble_eq_true rfl⟩ ⟨Nat.le_of_ble_eq_true rfl, Nat.le_of_ble_eq_true rfl⟩ rfl (by rfl) (Nat.le_of_ble_eq_true rfl) hl.1 dX8_makeSweeps_10 (fun H locs w => ?_)
      refine lv_istore (lv' := [(4, .int q2.1), (0, .ref (wA B 186)), (1, .int x1), (2, .int x2), (3, .int x3)]) hx hb dX8_makeSweeps_13 hl (by decide) rfl (fun ls hl => ?_)
      refine lv_aload_n hx hb dX8_makeSweeps_15 rfl (lv_at hl 1 rfl) ?_
      refine lv_iload hx hb dX8_makeSweeps_16 (lv_at hl 0 rfl) ?_
      obtain ⟨q4, h5, hf⟩ := bdE hf
      refine cV (As := [.int q2.1]) (rest := []) (k := 186) (ci := 7) (T := TX8) (N := 5) C0 w (m_X8_arrange l B _ q2.2 q2.1 q4 h5) ky_X8_arrange kv_X8_arrange lk_X8_35 rfl (by decide +kernel) ⟨Nat.le_of_ble_eq_true rfl, Nat.le_of_ble_eq_true rfl⟩ ⟨Nat.le_of_ble_eq_true rfl, Nat.le_of_ble_eq_true rfl⟩ rfl (by rfl) (Nat.le_of_ble_eq_true rfl) hl.1 dX8_makeSweeps_18 (fun H locs w => ?_)
      refine lv_iconst (v := 0) hx hb dX8_makeSweeps_21 (by decide) ?_
      refine lv_istore (lv' := [(5, .int 0), (4, .int q2.1), (0, .ref (wA B 186)), (1, .int x1), (2, .int x2), (3, .int x3)]) hx hb dX8_makeSweeps_22 hl (by decide) rfl (fun ls hl => ?_)
      obtain ⟨q6, h7, hf⟩ := bdE hf
      refine lp_X8_makeSweeps_24 l B C0 x1 x2 x3 q2.1 100000 0 q4 q6 _ _ _ h7 w (lv_sub hl [2, 3, 4, 5, 1, 0] rfl) (fun H locs ls w hl => ?_)
      refine lv_iload_n hx hb dX8_makeSweeps_52 rfl (lv_at hl 2 rfl) ?_
      refine lv_iload hx hb dX8_makeSweeps_53 (lv_at hl 4 rfl) ?_
      refine lv_iadd hx hb dX8_makeSweeps_55 ?_
      refine lv_istore_n (lv' := [(2, .int (x2 + q2.1)), (0, .ref (wA B 186)), (1, .int x1), (3, .int x3), (4, .int q2.1)]) hx hb dX8_makeSweeps_56 rfl hl (by decide) rfl (fun ls hl => ?_)
      refine lv_iinc (k := 3) (v := x3 + 1) (lv' := [(3, .int (x3 + 1)), (2, .int (x2 + q2.1)), (0, .ref (wA B 186)), (1, .int x1), (4, .int q2.1)]) hx hb dX8_makeSweeps_57 hl rfl (by rfl) (by decide) rfl (fun ls hl => ?_)
      refine lv_goto (tgt := 4) hx hb dX8_makeSweeps_60 (by decide) ?_
      exact ih (x2 + q2.1) (x3 + 1) q6 _ _ _ _ hf w (lv_sub hl [2, 3, 1, 0] rfl) hK
set_option maxHeartbeats 4000000 in
set_option maxRecDepth 100000 in
theorem m_X8_makeSweeps (l : Launch) (B : Wb) (sz : Nat) (σ : Mem) (x1 : Int32) (q : Int32 × Mem) (hf : f_X8_makeSweeps x1 σ = some q) : MetC l yX8_makeSweeps cX8_makeSweeps 6 (some .int) rm_X8_makeSweeps B sz σ q.2 [.ref (wA B 186), .int x1] (some (.int q.1)) := by
  refine met_in (by decide +kernel) (Nat.le_of_ble_eq_true rfl) ?_
  intro p e s m below meth c C0 hr w hsz ls hl
  have hx := C0.1.1
  have hb := C0.1.2.1
  unfold f_X8_makeSweeps at hf
  refine lv_iconst (v := 0) hx hb dX8_makeSweeps_0 (by decide) ?_
  refine lv_istore_n (lv' := [(2, .int 0), (0, .ref (wA B 186)), (1, .int x1)]) hx hb dX8_makeSweeps_1 rfl hl (by decide) rfl (fun ls hl => ?_)
  refine lv_iconst (v := 0) hx hb dX8_makeSweeps_2 (by decide) ?_
  refine lv_istore_n (lv' := [(3, .int 0), (2, .int 0), (0, .ref (wA B 186)), (1, .int x1)]) hx hb dX8_makeSweeps_3 rfl hl (by decide) rfl (fun ls hl => ?_)
  obtain ⟨q1, h2, hf⟩ := bdE hf
  refine lp_X8_makeSweeps_4 l B C0 x1 100000 0 0 σ q1 _ _ _ h2 w (lv_sub hl [2, 3, 1, 0] rfl) (fun H locs ls w hl => ?_)
  refine lv_iload_n hx hb dX8_makeSweeps_63 rfl (lv_at hl 0 rfl) ?_
  obtain rfl := Option.some.inj hf
  exact eI C0 hr w rfl dX8_makeSweeps_64
def f_X9_delayWith (x1 : Int32) (x2 : Int32) (x3 : Int32) (σ : Mem) : Option (Int64 × Mem) :=
  bd (f_X9_find x1 σ) (fun q1 =>
  bd (some (repI q1.2 145 (va_cpy (q1.2.1 2) (q1.2.1 145) (0 : Int32).toNatClampNeg (0 : Int32).toNatClampNeg (64 : Int32).toNatClampNeg))) (fun q3 =>
  gd (inb x2 64) (
  bd (f_X7_sourceCell x1 (setI q3 145 x2.toNatClampNeg x3)) (fun q6 =>
  bd (f_X7_receiverCell x1 (setI q3 145 x2.toNatClampNeg x3)) (fun q8 =>
  bd (f_X6_leastTime 145 q6 q8 (setI q3 145 x2.toNatClampNeg x3)) (fun q10 =>
  some ((q10.1 - q1.1, q10.2))))))))
abbrev rm_X9_delayWith : Room := { frames := 3, cells := 0, slots := 0, locals := 79 }
set_option maxHeartbeats 4000000 in
set_option maxRecDepth 100000 in
theorem m_X9_delayWith (l : Launch) (B : Wb) (sz : Nat) (σ : Mem) (x1 : Int32) (x2 : Int32) (x3 : Int32) (q : Int64 × Mem) (hf : f_X9_delayWith x1 x2 x3 σ = some q) : MetC l yX9_delayWith cX9_delayWith 6 (some .long) rm_X9_delayWith B sz σ q.2 [.ref (wA B 143), .int x1, .int x2, .int x3] (some (.long q.1)) := by
  refine met_in (by decide +kernel) (Nat.le_of_ble_eq_true rfl) ?_
  intro p e s m below meth c C0 hr w hsz ls hl
  have hx := C0.1.1
  have hb := C0.1.2.1
  unfold f_X9_delayWith at hf
  refine lv_aload_n hx hb dX9_delayWith_0 rfl (lv_at hl 0 rfl) ?_
  refine lv_iload_n hx hb dX9_delayWith_1 rfl (lv_at hl 1 rfl) ?_
  obtain ⟨q1, h2, hf⟩ := bdE hf
  refine cV (As := [.int x1]) (rest := []) (k := 143) (ci := 8) (T := TX9) (N := 9) C0 w (m_X9_find l B _ σ x1 q1 h2) ky_X9_find kv_X9_find lk_X9_89 rfl (by decide +kernel) ⟨Nat.le_of_ble_eq_true rfl, Nat.le_of_ble_eq_true rfl⟩ ⟨Nat.le_of_ble_eq_true rfl, Nat.le_of_ble_eq_true rfl⟩ rfl (by rfl) (Nat.le_of_ble_eq_true rfl) hl.1 dX9_delayWith_2 (fun H locs w => ?_)
  refine lv_lstore (lv' := [(4, .long q1.1), (0, .ref (wA B 143)), (1, .int x1), (2, .int x2), (3, .int x3)]) hx hb dX9_delayWith_5 hl (by decide) rfl (fun ls hl => ?_)
  refine lv_aload_n hx hb dX9_delayWith_7 rfl (lv_at hl 1 rfl) ?_
  refine gR C0 w 1 fk_X9_34 (by decide +kernel) dX9_delayWith_8 ?_
  refine gR C0 w 2 fk_X9_55 (by decide +kernel) dX9_delayWith_11 ?_
  refine lv_iconst (v := 0) hx hb dX9_delayWith_14 (by decide) ?_
  refine lv_aload_n hx hb dX9_delayWith_15 rfl (lv_at hl 1 rfl) ?_
  refine gR C0 w 145 fk_X9_15 (by decide +kernel) dX9_delayWith_16 ?_
  refine lv_iconst (v := 0) hx hb dX9_delayWith_19 (by decide) ?_
  refine lv_bipush (v := 64) hx hb dX9_delayWith_20 (by decide) ?_
  refine cpI C0 w lk_X9_93 ms_ac ms_acs mi_System (rest := []) hl.1 (Nat.le_of_ble_eq_true rfl) (by decide +kernel) (n0 := 64) (by decide +kernel) (n1 := 64) (by decide +kernel) (by decide) (by decide) (by decide) (by decide) (by decide) dX9_delayWith_22 (fun H locs w => ?_)
  obtain ⟨q3, h4, hf⟩ := bdE hf
  have w : Wx B q3 s H locs := by rw [← Option.some.inj h4]; exact w
  refine lv_aload_n hx hb dX9_delayWith_25 rfl (lv_at hl 1 rfl) ?_
  refine gR C0 w 145 fk_X9_15 (by decide +kernel) dX9_delayWith_26 ?_
  refine lv_iload_n hx hb dX9_delayWith_29 rfl (lv_at hl 3 rfl) ?_
  refine lv_iload_n hx hb dX9_delayWith_30 rfl (lv_at hl 4 rfl) ?_
  obtain ⟨g5, hf⟩ := gdE hf
  refine sI C0 w (n := 64) (by decide +kernel) (inbE g5) dX9_delayWith_31 (fun H locs w => ?_)
  refine lv_aload_n hx hb dX9_delayWith_32 rfl (lv_at hl 1 rfl) ?_
  refine gR C0 w 140 fk_X9_42 (by decide +kernel) dX9_delayWith_33 ?_
  refine lv_aload_n hx hb dX9_delayWith_36 rfl (lv_at hl 1 rfl) ?_
  refine gR C0 w 145 fk_X9_15 (by decide +kernel) dX9_delayWith_37 ?_
  refine lv_aload_n hx hb dX9_delayWith_40 rfl (lv_at hl 1 rfl) ?_
  refine gR C0 w 1 fk_X9_34 (by decide +kernel) dX9_delayWith_41 ?_
  refine lv_iload_n hx hb dX9_delayWith_44 rfl (lv_at hl 2 rfl) ?_
  obtain ⟨q6, h7, hf⟩ := bdE hf
  refine cV (As := [.int x1]) (rest := [.ref (wA B 145), .ref (wA B 140)]) (k := 1) (ci := 6) (T := TX7) (N := 14) C0 w (m_X7_sourceCell l B _ (setI q3 145 x2.toNatClampNeg x3) x1 q6 h7) ky_X7_sourceCell kv_X7_sourceCell lk_X9_46 rfl (by decide +kernel) ⟨Nat.le_of_ble_eq_true rfl, Nat.le_of_ble_eq_true rfl⟩ ⟨Nat.le_of_ble_eq_true rfl, Nat.le_of_ble_eq_true rfl⟩ rfl (by rfl) (Nat.le_of_ble_eq_true rfl) hl.1 dX9_delayWith_45 (fun H locs w => ?_)
  refine lv_aload_n hx hb dX9_delayWith_48 rfl (lv_at hl 1 rfl) ?_
  refine gR C0 w 1 fk_X9_34 (by decide +kernel) dX9_delayWith_49 ?_
  refine lv_iload_n hx hb dX9_delayWith_52 rfl (lv_at hl 2 rfl) ?_
  obtain ⟨q8, h9, hf⟩ := bdE hf
  refine cV (As := [.int x1]) (rest := [.int q6, .ref (wA B 145), .ref (wA B 140)]) (k := 1) (ci := 6) (T := TX7) (N := 14) C0 w (m_X7_receiverCell l B _ (setI q3 145 x2.toNatClampNeg x3) x1 q8 h9) ky_X7_receiverCell kv_X7_receiverCell lk_X9_52 rfl (by decide +kernel) ⟨Nat.le_of_ble_eq_true rfl, Nat.le_of_ble_eq_true rfl⟩ ⟨Nat.le_of_ble_eq_true rfl, Nat.le_of_ble_eq_true rfl⟩ rfl (by rfl) (Nat.le_of_ble_eq_true rfl) hl.1 dX9_delayWith_53 (fun H locs w => ?_)
  obtain ⟨q10, h11, hf⟩ := bdE hf
  refine cV (As := [.ref (wA B 145), .int q6, .int q8]) (rest := []) (k := 140) (ci := 5) (T := TX6) (N := 4) C0 w (m_X6_leastTime l B _ (setI q3 145 x2.toNatClampNeg x3) 145 q6 q8 q10 h11) ky_X6_leastTime kv_X6_leastTime lk_X9_58 rfl (by decide +kernel) ⟨Nat.le_of_ble_eq_true rfl, Nat.le_of_ble_eq_true rfl⟩ ⟨Nat.le_of_ble_eq_true rfl, Nat.le_of_ble_eq_true rfl⟩ rfl (by rfl) (Nat.le_of_ble_eq_true rfl) hl.1 dX9_delayWith_56 (fun H locs w => ?_)
  refine lv_lload hx hb dX9_delayWith_59 (lv_at hl 0 rfl) ?_
  refine lv_lsub hx hb dX9_delayWith_61 ?_
  obtain rfl := Option.some.inj hf
  exact eL C0 hr w dX9_delayWith_62
