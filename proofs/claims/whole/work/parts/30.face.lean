def f_X11_needRange (x0 : Int32) (x1 : Int32) (x2 : Int32) (σ : Mem) : Option (Unit ⊕ String) :=
  bd (f_X11_isWithin x0 x1 x2 σ) (fun q1 =>
  if q1 = 0 then (
    some (.inr xIA))
  else (
    some (.inl (()))))
abbrev rm_X11_needRange : Room := { frames := 1, cells := 0, slots := 0, locals := 22 }
abbrev rmt_X11_needRange : Room := { frames := 6, cells := 1, slots := 6, locals := 90 }
set_option maxHeartbeats 4000000 in
set_option maxRecDepth 100000 in
theorem m_X11_needRange (l : Launch) (B : Wb) (sz : Nat) (σ : Mem) (x0 : Int32) (x1 : Int32) (x2 : Int32) (v : Unit) (hf : f_X11_needRange x0 x1 x2 σ = some (.inl v)) : MetC l yX11_needRange cX11_needRange 3 none rm_X11_needRange B sz σ σ [.int x0, .int x1, .int x2] (none) := by
  refine met_in (by decide +kernel) (Nat.le_of_ble_eq_true rfl) ?_
  intro p e s m below meth c C0 hr w hsz ls hl
  have hx := C0.1.1
  have hb := C0.1.2.1
  unfold f_X11_needRange at hf
  refine lv_iload_n hx hb dX11_needRange_0 rfl (lv_at hl 0 rfl) ?_
  refine lv_iload_n hx hb dX11_needRange_1 rfl (lv_at hl 1 rfl) ?_
  refine lv_iload_n hx hb dX11_needRange_2 rfl (lv_at hl 2 rfl) ?_
  obtain ⟨q1, h2, hf⟩ := bdE hf
  refine cS (As := [.int x0, .int x1, .int x2]) (rest := []) C0 w (m_X11_isWithin l B _ σ x0 x1 x2 q1 h2) ky_X11_isWithin ks_X11_isWithin lk_X11_324 ⟨Nat.le_of_ble_eq_true rfl, Nat.le_of_ble_eq_true rfl⟩ ⟨Nat.le_of_ble_eq_true rfl, Nat.le_of_ble_eq_true rfl⟩ rfl (by rfl) (Nat.le_of_ble_eq_true rfl) hl.1 dX11_needRange_3 (fun H locs w => ?_)
  refine lv_if_ne (tgt := 20) hx hb dX11_needRange_6 (by decide) (fun c3 => ?_) (fun c3 => ?_)
  · rw [if_neg c3] at hf
    obtain rfl := Sum.inl.inj (Option.some.inj hf)
    exact eV C0 hr w dX11_needRange_20
  · rw [if_pos c3] at hf
    exact nomatch Option.some.inj hf
set_option maxHeartbeats 4000000 in
set_option maxRecDepth 100000 in
theorem t_X11_needRange (l : Launch) (hfl : l.stackTraces = false) (B : Wb) (sz : Nat) (σ : Mem) (x0 : Int32) (x1 : Int32) (x2 : Int32) (E : String) (hf : f_X11_needRange x0 x1 x2 σ = some (.inr E)) : MetT l yX11_needRange cX11_needRange 3 none rmt_X11_needRange B sz σ σ [.int x0, .int x1, .int x2] E := by
  refine metT_in (by decide +kernel) (Nat.le_of_ble_eq_true rfl) ?_
  intro p e s m below meth c C0 hto w hsz ls hl
  have hx := C0.1.1
  have hb := C0.1.2.1
  unfold f_X11_needRange at hf
  refine lv_iload_n hx hb dX11_needRange_0 rfl (lv_at hl 0 rfl) ?_
  refine lv_iload_n hx hb dX11_needRange_1 rfl (lv_at hl 1 rfl) ?_
  refine lv_iload_n hx hb dX11_needRange_2 rfl (lv_at hl 2 rfl) ?_
  obtain ⟨q1, h2, hf⟩ := bdE hf
  refine cS (As := [.int x0, .int x1, .int x2]) (rest := []) C0 w (m_X11_isWithin l B _ σ x0 x1 x2 q1 h2) ky_X11_isWithin ks_X11_isWithin lk_X11_324 ⟨Nat.le_of_ble_eq_true rfl, Nat.le_of_ble_eq_true rfl⟩ ⟨Nat.le_of_ble_eq_true rfl, Nat.le_of_ble_eq_true rfl⟩ rfl (by rfl) (Nat.le_of_ble_eq_true rfl) hl.1 dX11_needRange_3 (fun H locs w => ?_)
  refine lv_if_ne (tgt := 20) hx hb dX11_needRange_6 (by decide) (fun c3 => ?_) (fun c3 => ?_)
  · rw [if_neg c3] at hf
    exact nomatch Option.some.inj hf
  · rw [if_pos c3] at hf
    obtain rfl := Sum.inr.inj (Option.some.inj hf)
    exact xThrowW C0 hfl hto w xk_X11_328_177 hl.1 dX11_needRange_9 dX11_needRange_12 dX11_needRange_13 dX11_needRange_16 dX11_needRange_19 (Nat.le_of_ble_eq_true rfl) (Nat.le_of_ble_eq_true rfl) (Nat.le_of_ble_eq_true rfl) (Nat.le_of_ble_eq_true rfl) (Nat.le_of_ble_eq_true rfl) (Nat.le_of_ble_eq_true rfl)
def f_X11_layOut (σ : Mem) : Option (Mem) :=
  bd (f_X2_lay (σ.1 1 0) (σ.1 1 1) σ) (fun q1 =>
  bd (f_X9_forgetAll q1) (fun q3 =>
  some q3))
abbrev rm_X11_layOut : Room := { frames := 3, cells := 0, slots := 0, locals := 75 }
set_option maxHeartbeats 4000000 in
set_option maxRecDepth 100000 in
theorem m_X11_layOut (l : Launch) (B : Wb) (sz : Nat) (σ : Mem) (q : Mem) (hf : f_X11_layOut σ = some q) : MetC l yX11_layOut cX11_layOut 1 none rm_X11_layOut B sz σ q [.ref (wA B 0)] (none) := by
  refine met_in (by decide +kernel) (Nat.le_of_ble_eq_true rfl) ?_
  intro p e s m below meth c C0 hr w hsz ls hl
  have hx := C0.1.1
  have hb := C0.1.2.1
  unfold f_X11_layOut at hf
  refine lv_aload_n hx hb dX11_layOut_0 rfl (lv_at hl 0 rfl) ?_
  refine gR C0 w 8 fk_X11_19 (by decide +kernel) dX11_layOut_1 ?_
  refine lv_aload_n hx hb dX11_layOut_4 rfl (lv_at hl 0 rfl) ?_
  refine gR C0 w 1 fk_X11_10 (by decide +kernel) dX11_layOut_5 ?_
  refine gI C0 w fk_X11_82 (by decide +kernel) dX11_layOut_8 ?_
  refine lv_aload_n hx hb dX11_layOut_11 rfl (lv_at hl 0 rfl) ?_
  refine gR C0 w 1 fk_X11_10 (by decide +kernel) dX11_layOut_12 ?_
  refine gI C0 w fk_X11_86 (by decide +kernel) dX11_layOut_15 ?_
  obtain ⟨q1, h2, hf⟩ := bdE hf
  refine cV (As := [.int (σ.1 1 0), .int (σ.1 1 1)]) (rest := []) (k := 8) (ci := 1) (T := TX2) (N := 4) C0 w (m_X2_lay l B _ σ (σ.1 1 0) (σ.1 1 1) q1 h2) ky_X2_lay kv_X2_lay lk_X11_89 rfl (by decide +kernel) ⟨Nat.le_of_ble_eq_true rfl, Nat.le_of_ble_eq_true rfl⟩ ⟨Nat.le_of_ble_eq_true rfl, Nat.le_of_ble_eq_true rfl⟩ rfl (by rfl) (Nat.le_of_ble_eq_true rfl) hl.1 dX11_layOut_18 (fun H locs w => ?_)
  refine lv_aload_n hx hb dX11_layOut_21 rfl (lv_at hl 0 rfl) ?_
  refine gR C0 w 143 fk_X11_37 (by decide +kernel) dX11_layOut_22 ?_
  obtain ⟨q3, h4, hf⟩ := bdE hf
  refine cV (As := []) (rest := []) (k := 143) (ci := 8) (T := TX9) (N := 9) C0 w (m_X9_forgetAll l B _ q1 q3 h4) ky_X9_forgetAll kv_X9_forgetAll lk_X11_350 rfl (by decide +kernel) ⟨Nat.le_of_ble_eq_true rfl, Nat.le_of_ble_eq_true rfl⟩ ⟨Nat.le_of_ble_eq_true rfl, Nat.le_of_ble_eq_true rfl⟩ rfl (by rfl) (Nat.le_of_ble_eq_true rfl) hl.1 dX11_layOut_25 (fun H locs w => ?_)
  obtain rfl := Option.some.inj hf
  exact eV C0 hr w dX11_layOut_28
def f_X11_begin (x1 : Int32) (x2 : Int32) (σ : Mem) : Option ((Int32 ⊕ String) × Mem) :=
  bd (f_X11_needRange x1 2 8 σ) (fun q1 =>
  xm q1 σ (fun v3 =>
  bd (f_X11_needRange x2 2 8 σ) (fun q6 =>
  xm q6 σ (fun v8 =>
  bd (f_X3_save 1 σ) (fun q11 =>
  bd (f_X7_startAnew x1 x2 q11) (fun q13 =>
  bd (f_X11_layOut q13) (fun q15 =>
  bd (f_X7_cellCount q15) (fun q17 =>
  some (.inl q17, q15)))))))))
abbrev rm_X11_begin : Room := { frames := 4, cells := 0, slots := 0, locals := 95 }
abbrev rmt_X11_begin : Room := { frames := 7, cells := 1, slots := 6, locals := 112 }
set_option maxHeartbeats 4000000 in
set_option maxRecDepth 100000 in
theorem m_X11_begin (l : Launch) (B : Wb) (sz : Nat) (σ : Mem) (x1 : Int32) (x2 : Int32) (v : Int32) (σ9 : Mem) (hf : f_X11_begin x1 x2 σ = some (.inl v, σ9)) : MetC l yX11_begin cX11_begin 3 (some .int) rm_X11_begin B sz σ σ9 [.ref (wA B 0), .int x1, .int x2] (some (.int v)) := by
  refine met_in (by decide +kernel) (Nat.le_of_ble_eq_true rfl) ?_
  intro p e s m below meth c C0 hr w hsz ls hl
  have hx := C0.1.1
  have hb := C0.1.2.1
  unfold f_X11_begin at hf
  refine lv_iload_n hx hb dX11_begin_0 rfl (lv_at hl 1 rfl) ?_
  refine lv_iconst (v := 2) hx hb dX11_begin_1 (by decide) ?_
  refine lv_bipush (v := 8) hx hb dX11_begin_2 (by decide) ?_
  obtain ⟨q1, h2, hf⟩ := bdE hf
  obtain ⟨v3, h5, hf⟩ := xmE1 hf
  subst h5
  refine cS (As := [.int x1, .int 2, .int 8]) (rest := []) C0 w (m_X11_needRange l B _ σ x1 2 8 v3 h2) ky_X11_needRange ks_X11_needRange lk_X11_93 ⟨Nat.le_of_ble_eq_true rfl, Nat.le_of_ble_eq_true rfl⟩ ⟨Nat.le_of_ble_eq_true rfl, Nat.le_of_ble_eq_true rfl⟩ rfl (by rfl) (Nat.le_of_ble_eq_true rfl) hl.1 dX11_begin_4 (fun H locs w => ?_)
  refine lv_iload_n hx hb dX11_begin_7 rfl (lv_at hl 2 rfl) ?_
  refine lv_iconst (v := 2) hx hb dX11_begin_8 (by decide) ?_
  refine lv_bipush (v := 8) hx hb dX11_begin_9 (by decide) ?_
  obtain ⟨q6, h7, hf⟩ := bdE hf
  obtain ⟨v8, h10, hf⟩ := xmE1 hf
  subst h10
  refine cS (As := [.int x2, .int 2, .int 8]) (rest := []) C0 w (m_X11_needRange l B _ σ x2 2 8 v8 h7) ky_X11_needRange ks_X11_needRange lk_X11_93 ⟨Nat.le_of_ble_eq_true rfl, Nat.le_of_ble_eq_true rfl⟩ ⟨Nat.le_of_ble_eq_true rfl, Nat.le_of_ble_eq_true rfl⟩ rfl (by rfl) (Nat.le_of_ble_eq_true rfl) hl.1 dX11_begin_11 (fun H locs w => ?_)
  refine lv_aload_n hx hb dX11_begin_14 rfl (lv_at hl 0 rfl) ?_
  refine gR C0 w 189 fk_X11_71 (by decide +kernel) dX11_begin_15 ?_
  refine lv_aload_n hx hb dX11_begin_18 rfl (lv_at hl 0 rfl) ?_
  refine gR C0 w 1 fk_X11_10 (by decide +kernel) dX11_begin_19 ?_
  obtain ⟨q11, h12, hf⟩ := bdE hf
  refine cV (As := [.ref (wA B 1)]) (rest := []) (k := 189) (ci := 2) (T := TX3) (N := 3) C0 w (m_X3_save l B _ σ 1 q11 h12) ky_X3_save kv_X3_save lk_X11_97 rfl (by decide +kernel) ⟨Nat.le_of_ble_eq_true rfl, Nat.le_of_ble_eq_true rfl⟩ ⟨Nat.le_of_ble_eq_true rfl, Nat.le_of_ble_eq_true rfl⟩ rfl (by rfl) (Nat.le_of_ble_eq_true rfl) hl.1 dX11_begin_22 (fun H locs w => ?_)
  refine lv_aload_n hx hb dX11_begin_25 rfl (lv_at hl 0 rfl) ?_
  refine gR C0 w 1 fk_X11_10 (by decide +kernel) dX11_begin_26 ?_
  refine lv_iload_n hx hb dX11_begin_29 rfl (lv_at hl 1 rfl) ?_
  refine lv_iload_n hx hb dX11_begin_30 rfl (lv_at hl 2 rfl) ?_
  obtain ⟨q13, h14, hf⟩ := bdE hf
  refine cV (As := [.int x1, .int x2]) (rest := []) (k := 1) (ci := 6) (T := TX7) (N := 14) C0 w (m_X7_startAnew l B _ q11 x1 x2 q13 h14) ky_X7_startAnew kv_X7_startAnew lk_X11_101 rfl (by decide +kernel) ⟨Nat.le_of_ble_eq_true rfl, Nat.le_of_ble_eq_true rfl⟩ ⟨Nat.le_of_ble_eq_true rfl, Nat.le_of_ble_eq_true rfl⟩ rfl (by rfl) (Nat.le_of_ble_eq_true rfl) hl.1 dX11_begin_31 (fun H locs w => ?_)
  refine lv_aload_n hx hb dX11_begin_34 rfl (lv_at hl 0 rfl) ?_
  obtain ⟨q15, h16, hf⟩ := bdE hf
  refine cV (As := []) (rest := []) (k := 0) (ci := 9) (T := TX11) (N := 9) C0 w (m_X11_layOut l B _ q13 q15 h16) ky_X11_layOut kv_X11_layOut lk_X11_104 rfl (by decide +kernel) ⟨Nat.le_of_ble_eq_true rfl, Nat.le_of_ble_eq_true rfl⟩ ⟨Nat.le_of_ble_eq_true rfl, Nat.le_of_ble_eq_true rfl⟩ rfl (by rfl) (Nat.le_of_ble_eq_true rfl) hl.1 dX11_begin_35 (fun H locs w => ?_)
  refine lv_aload_n hx hb dX11_begin_38 rfl (lv_at hl 0 rfl) ?_
  refine gR C0 w 1 fk_X11_10 (by decide +kernel) dX11_begin_39 ?_
  obtain ⟨q17, h18, hf⟩ := bdE hf
  refine cV (As := []) (rest := []) (k := 1) (ci := 6) (T := TX7) (N := 14) C0 w (m_X7_cellCount l B _ q15 q17 h18) ky_X7_cellCount kv_X7_cellCount lk_X11_107 rfl (by decide +kernel) ⟨Nat.le_of_ble_eq_true rfl, Nat.le_of_ble_eq_true rfl⟩ ⟨Nat.le_of_ble_eq_true rfl, Nat.le_of_ble_eq_true rfl⟩ rfl (by rfl) (Nat.le_of_ble_eq_true rfl) hl.1 dX11_begin_42 (fun H locs w => ?_)
  obtain ⟨h8, h9⟩ := Prod.mk.inj (Option.some.inj hf)
  obtain rfl := Sum.inl.inj h8
  subst h9
  exact eI C0 hr w rfl dX11_begin_45
set_option maxHeartbeats 4000000 in
set_option maxRecDepth 100000 in
theorem t_X11_begin (l : Launch) (hfl : l.stackTraces = false) (B : Wb) (sz : Nat) (σ : Mem) (x1 : Int32) (x2 : Int32) (E : String) (σ9 : Mem) (hf : f_X11_begin x1 x2 σ = some (.inr E, σ9)) : MetT l yX11_begin cX11_begin 3 (some .int) rmt_X11_begin B sz σ σ9 [.ref (wA B 0), .int x1, .int x2] E := by
  refine metT_in (by decide +kernel) (Nat.le_of_ble_eq_true rfl) ?_
  intro p e s m below meth c C0 hto w hsz ls hl
  have hx := C0.1.1
  have hb := C0.1.2.1
  unfold f_X11_begin at hf
  refine lv_iload_n hx hb dX11_begin_0 rfl (lv_at hl 1 rfl) ?_
  refine lv_iconst (v := 2) hx hb dX11_begin_1 (by decide) ?_
  refine lv_bipush (v := 8) hx hb dX11_begin_2 (by decide) ?_
  obtain ⟨q1, h2, hf⟩ := bdE hf
  rcases xmE2 hf with ⟨v3, h5, hf⟩ | ⟨h5, h8⟩
  · subst h5
    refine cS (As := [.int x1, .int 2, .int 8]) (rest := []) C0 w (m_X11_needRange l B _ σ x1 2 8 v3 h2) ky_X11_needRange ks_X11_needRange lk_X11_93 ⟨Nat.le_of_ble_eq_true rfl, Nat.le_of_ble_eq_true rfl⟩ ⟨Nat.le_of_ble_eq_true rfl, Nat.le_of_ble_eq_true rfl⟩ rfl (by rfl) (Nat.le_of_ble_eq_true rfl) hl.1 dX11_begin_4 (fun H locs w => ?_)
    refine lv_iload_n hx hb dX11_begin_7 rfl (lv_at hl 2 rfl) ?_
    refine lv_iconst (v := 2) hx hb dX11_begin_8 (by decide) ?_
    refine lv_bipush (v := 8) hx hb dX11_begin_9 (by decide) ?_
    obtain ⟨q6, h7, hf⟩ := bdE hf
    rcases xmE2 hf with ⟨v8, h10, hf⟩ | ⟨h10, h8⟩
    · subst h10
      refine cS (As := [.int x2, .int 2, .int 8]) (rest := []) C0 w (m_X11_needRange l B _ σ x2 2 8 v8 h7) ky_X11_needRange ks_X11_needRange lk_X11_93 ⟨Nat.le_of_ble_eq_true rfl, Nat.le_of_ble_eq_true rfl⟩ ⟨Nat.le_of_ble_eq_true rfl, Nat.le_of_ble_eq_true rfl⟩ rfl (by rfl) (Nat.le_of_ble_eq_true rfl) hl.1 dX11_begin_11 (fun H locs w => ?_)
      refine lv_aload_n hx hb dX11_begin_14 rfl (lv_at hl 0 rfl) ?_
      refine gR C0 w 189 fk_X11_71 (by decide +kernel) dX11_begin_15 ?_
      refine lv_aload_n hx hb dX11_begin_18 rfl (lv_at hl 0 rfl) ?_
      refine gR C0 w 1 fk_X11_10 (by decide +kernel) dX11_begin_19 ?_
      obtain ⟨q11, h12, hf⟩ := bdE hf
      refine cV (As := [.ref (wA B 1)]) (rest := []) (k := 189) (ci := 2) (T := TX3) (N := 3) C0 w (m_X3_save l B _ σ 1 q11 h12) ky_X3_save kv_X3_save lk_X11_97 rfl (by decide +kernel) ⟨Nat.le_of_ble_eq_true rfl, Nat.le_of_ble_eq_true rfl⟩ ⟨Nat.le_of_ble_eq_true rfl, Nat.le_of_ble_eq_true rfl⟩ rfl (by rfl) (Nat.le_of_ble_eq_true rfl) hl.1 dX11_begin_22 (fun H locs w => ?_)
      refine lv_aload_n hx hb dX11_begin_25 rfl (lv_at hl 0 rfl) ?_
      refine gR C0 w 1 fk_X11_10 (by decide +kernel) dX11_begin_26 ?_
      refine lv_iload_n hx hb dX11_begin_29 rfl (lv_at hl 1 rfl) ?_
      refine lv_iload_n hx hb dX11_begin_30 rfl (lv_at hl 2 rfl) ?_
      obtain ⟨q13, h14, hf⟩ := bdE hf
      refine cV (As := [.int x1, .int x2]) (rest := []) (k := 1) (ci := 6) (T := TX7) (N := 14) C0 w (m_X7_startAnew l B _ q11 x1 x2 q13 h14) ky_X7_startAnew kv_X7_startAnew lk_X11_101 rfl (by decide +kernel) ⟨Nat.le_of_ble_eq_true rfl, Nat.le_of_ble_eq_true rfl⟩ ⟨Nat.le_of_ble_eq_true rfl, Nat.le_of_ble_eq_true rfl⟩ rfl (by rfl) (Nat.le_of_ble_eq_true rfl) hl.1 dX11_begin_31 (fun H locs w => ?_)
      refine lv_aload_n hx hb dX11_begin_34 rfl (lv_at hl 0 rfl) ?_
      obtain ⟨q15, h16, hf⟩ := bdE hf
      refine cV (As := []) (rest := []) (k := 0) (ci := 9) (T := TX11) (N := 9) C0 w (m_X11_layOut l B _ q13 q15 h16) ky_X11_layOut kv_X11_layOut lk_X11_104 rfl (by decide +kernel) ⟨Nat.le_of_ble_eq_true rfl, Nat.le_of_ble_eq_true rfl⟩ ⟨Nat.le_of_ble_eq_true rfl, Nat.le_of_ble_eq_true rfl⟩ rfl (by rfl) (Nat.le_of_ble_eq_true rfl) hl.1 dX11_begin_35 (fun H locs w => ?_)
      refine lv_aload_n hx hb dX11_begin_38 rfl (lv_at hl 0 rfl) ?_
      refine gR C0 w 1 fk_X11_10 (by decide +kernel) dX11_begin_39 ?_
      obtain ⟨q17, h18, hf⟩ := bdE hf
      refine cV (As := []) (rest := []) (k := 1) (ci := 6) (T := TX7) (N := 14) C0 w (m_X7_cellCount l B _ q15 q17 h18) ky_X7_cellCount kv_X7_cellCount lk_X11_107 rfl (by decide +kernel) ⟨Nat.le_of_ble_eq_true rfl, Nat.le_of_ble_eq_true rfl⟩ ⟨Nat.le_of_ble_eq_true rfl, Nat.le_of_ble_eq_true rfl⟩ rfl (by rfl) (Nat.le_of_ble_eq_true rfl) hl.1 dX11_begin_42 (fun H locs w => ?_)
      exact nomatch (Prod.mk.inj (Option.some.inj hf)).1
    · subst h10
      have h8 := h8.symm
      subst h8
      refine cST (As := [.int x2, .int 2, .int 8]) (rest := []) C0 w (t_X11_needRange l hfl B _ σ x2 2 8 _ h7) ky_X11_needRange ks_X11_needRange lk_X11_93 ⟨Nat.le_of_ble_eq_true rfl, Nat.le_of_ble_eq_true rfl⟩ ⟨Nat.le_of_ble_eq_true rfl, Nat.le_of_ble_eq_true rfl⟩ rfl (by rfl) (Nat.le_of_ble_eq_true rfl) hl.1 dX11_begin_11 (fun ce q9 H locs w g1 g2 g3 => ?_)
      exact xOut C0 hto w g1 g2 g3 (Nat.le_of_ble_eq_true rfl) (Nat.le_of_ble_eq_true rfl)
  · subst h5
    have h8 := h8.symm
    subst h8
    refine cST (As := [.int x1, .int 2, .int 8]) (rest := []) C0 w (t_X11_needRange l hfl B _ σ x1 2 8 _ h2) ky_X11_needRange ks_X11_needRange lk_X11_93 ⟨Nat.le_of_ble_eq_true rfl, Nat.le_of_ble_eq_true rfl⟩ ⟨Nat.le_of_ble_eq_true rfl, Nat.le_of_ble_eq_true rfl⟩ rfl (by rfl) (Nat.le_of_ble_eq_true rfl) hl.1 dX11_begin_4 (fun ce q9 H locs w g1 g2 g3 => ?_)
    exact xOut C0 hto w g1 g2 g3 (Nat.le_of_ble_eq_true rfl) (Nat.le_of_ble_eq_true rfl)
def f_X11_isCell (x1 : Int32) (σ : Mem) : Option (Int32) :=
  bd (f_X7_cellCount σ) (fun q1 =>
  bd (f_X11_isWithin x1 0 (q1 - 1) σ) (fun q3 =>
  gd (bz q3) (some q3)))
abbrev rm_X11_isCell : Room := { frames := 1, cells := 0, slots := 0, locals := 22 }
set_option maxHeartbeats 4000000 in
set_option maxRecDepth 100000 in
theorem m_X11_isCell (l : Launch) (B : Wb) (sz : Nat) (σ : Mem) (x1 : Int32) (q : Int32) (hf : f_X11_isCell x1 σ = some q) : MetC l yX11_isCell cX11_isCell 2 (some .boolean) rm_X11_isCell B sz σ σ [.ref (wA B 0), .int x1] (some (.int q)) := by
  refine met_in (by decide +kernel) (Nat.le_of_ble_eq_true rfl) ?_
  intro p e s m below meth c C0 hr w hsz ls hl
  have hx := C0.1.1
  have hb := C0.1.2.1
  unfold f_X11_isCell at hf
  refine lv_iload_n hx hb dX11_isCell_0 rfl (lv_at hl 1 rfl) ?_
  refine lv_iconst (v := 0) hx hb dX11_isCell_1 (by decide) ?_
  refine lv_aload_n hx hb dX11_isCell_2 rfl (lv_at hl 0 rfl) ?_
  refine gR C0 w 1 fk_X11_10 (by decide +kernel) dX11_isCell_3 ?_
  obtain ⟨q1, h2, hf⟩ := bdE hf
  refine cV (As := []) (rest := [.int 0, .int x1]) (k := 1) (ci := 6) (T := TX7) (N := 14) C0 w (m_X7_cellCount l B _ σ q1 h2) ky_X7_cellCount kv_X7_cellCount lk_X11_107 rfl (by decide +kernel) ⟨Nat.le_of_ble_eq_true rfl, Nat.le_of_ble_eq_true rfl⟩ ⟨Nat.le_of_ble_eq_true rfl, Nat.le_of_ble_eq_true rfl⟩ rfl (by rfl) (Nat.le_of_ble_eq_true rfl) hl.1 dX11_isCell_6 (fun H locs w => ?_)
  refine lv_iconst (v := 1) hx hb dX11_isCell_9 (by decide) ?_
  refine lv_isub hx hb dX11_isCell_10 ?_
  obtain ⟨q3, h4, hf⟩ := bdE hf
  refine cS (As := [.int x1, .int 0, .int (q1 - 1)]) (rest := []) C0 w (m_X11_isWithin l B _ σ x1 0 (q1 - 1) q3 h4) ky_X11_isWithin ks_X11_isWithin lk_X11_324 ⟨Nat.le_of_ble_eq_true rfl, Nat.le_of_ble_eq_true rfl⟩ ⟨Nat.le_of_ble_eq_true rfl, Nat.le_of_ble_eq_true rfl⟩ rfl (by rfl) (Nat.le_of_ble_eq_true rfl) hl.1 dX11_isCell_11 (fun H locs w => ?_)
  obtain ⟨g5, hf⟩ := gdE hf
  obtain rfl := Option.some.inj hf
  exact eI C0 hr w (bzE g5) dX11_isCell_14
def f_X11_needCell (x1 : Int32) (σ : Mem) : Option (Unit ⊕ String) :=
  bd (f_X11_isCell x1 σ) (fun q1 =>
  if q1 = 0 then (
    some (.inr xIO))
  else (
    some (.inl (()))))
abbrev rm_X11_needCell : Room := { frames := 2, cells := 0, slots := 0, locals := 43 }
abbrev rmt_X11_needCell : Room := { frames := 6, cells := 1, slots := 6, locals := 90 }
set_option maxHeartbeats 4000000 in
set_option maxRecDepth 100000 in
theorem m_X11_needCell (l : Launch) (B : Wb) (sz : Nat) (σ : Mem) (x1 : Int32) (v : Unit) (hf : f_X11_needCell x1 σ = some (.inl v)) : MetC l yX11_needCell cX11_needCell 2 none rm_X11_needCell B sz σ σ [.ref (wA B 0), .int x1] (none) := by
  refine met_in (by decide +kernel) (Nat.le_of_ble_eq_true rfl) ?_
  intro p e s m below meth c C0 hr w hsz ls hl
  have hx := C0.1.1
  have hb := C0.1.2.1
  unfold f_X11_needCell at hf
  refine lv_aload_n hx hb dX11_needCell_0 rfl (lv_at hl 0 rfl) ?_
  refine lv_iload_n hx hb dX11_needCell_1 rfl (lv_at hl 1 rfl) ?_
  obtain ⟨q1, h2, hf⟩ := bdE hf
  refine cV (As := [.int x1]) (rest := []) (k := 0) (ci := 9) (T := TX11) (N := 9) C0 w (m_X11_isCell l B _ σ x1 q1 h2) ky_X11_isCell kv_X11_isCell lk_X11_330 rfl (by decide +kernel) ⟨Nat.le_of_ble_eq_true rfl, Nat.le_of_ble_eq_true rfl⟩ ⟨Nat.le_of_ble_eq_true rfl, Nat.le_of_ble_eq_true rfl⟩ rfl (by rfl) (Nat.le_of_ble_eq_true rfl) hl.1 dX11_needCell_2 (fun H locs w => ?_)
  refine lv_if_ne (tgt := 19) hx hb dX11_needCell_5 (by decide) (fun c3 => ?_) (fun c3 => ?_)
  · rw [if_neg c3] at hf
    obtain rfl := Sum.inl.inj (Option.some.inj hf)
    exact eV C0 hr w dX11_needCell_19
  · rw [if_pos c3] at hf
    exact nomatch Option.some.inj hf
set_option maxHeartbeats 4000000 in
set_option maxRecDepth 100000 in
theorem t_X11_needCell (l : Launch) (hfl : l.stackTraces = false) (B : Wb) (sz : Nat) (σ : Mem) (x1 : Int32) (E : String) (hf : f_X11_needCell x1 σ = some (.inr E)) : MetT l yX11_needCell cX11_needCell 2 none rmt_X11_needCell B sz σ σ [.ref (wA B 0), .int x1] E := by
  refine metT_in (by decide +kernel) (Nat.le_of_ble_eq_true rfl) ?_
  intro p e s m below meth c C0 hto w hsz ls hl
  have hx := C0.1.1
  have hb := C0.1.2.1
  unfold f_X11_needCell at hf
  refine lv_aload_n hx hb dX11_needCell_0 rfl (lv_at hl 0 rfl) ?_
  refine lv_iload_n hx hb dX11_needCell_1 rfl (lv_at hl 1 rfl) ?_
  obtain ⟨q1, h2, hf⟩ := bdE hf
  refine cV (As := [.int x1]) (rest := []) (k := 0) (ci := 9) (T := TX11) (N := 9) C0 w (m_X11_isCell l B _ σ x1 q1 h2) ky_X11_isCell kv_X11_isCell lk_X11_330 rfl (by decide +kernel) ⟨Nat.le_of_ble_eq_true rfl, Nat.le_of_ble_eq_true rfl⟩ ⟨Nat.le_of_ble_eq_true rfl, Nat.le_of_ble_eq_true rfl⟩ rfl (by rfl) (Nat.le_of_ble_eq_true rfl) hl.1 dX11_needCell_2 (fun H locs w => ?_)
  refine lv_if_ne (tgt := 19) hx hb dX11_needCell_5 (by decide) (fun c3 => ?_) (fun c3 => ?_)
  · rw [if_neg c3] at hf
    exact nomatch Option.some.inj hf
  · rw [if_pos c3] at hf
    obtain rfl := Sum.inr.inj (Option.some.inj hf)
    exact xThrowW C0 hfl hto w xk_X11_335_337 hl.1 dX11_needCell_8 dX11_needCell_11 dX11_needCell_12 dX11_needCell_15 dX11_needCell_18 (Nat.le_of_ble_eq_true rfl) (Nat.le_of_ble_eq_true rfl) (Nat.le_of_ble_eq_true rfl) (Nat.le_of_ble_eq_true rfl) (Nat.le_of_ble_eq_true rfl) (Nat.le_of_ble_eq_true rfl)
def f_X11_setCell (x1 : Int32) (x2 : Int32) (σ : Mem) : Option ((Int32 ⊕ String) × Mem) :=
  bd (f_X11_needCell x1 σ) (fun q1 =>
  xm q1 σ (fun v3 =>
  bd (f_X11_needRange x2 1 100000 σ) (fun q6 =>
  xm q6 σ (fun v8 =>
  bd (f_X3_save 1 σ) (fun q11 =>
  gd (inb x1 64) (
  bd (f_X1_putSlowness x1 x2 q11) (fun q14 =>
  some (.inl (q11.1 2 x1.toNatClampNeg), q14))))))))
abbrev rm_X11_setCell : Room := { frames := 3, cells := 0, slots := 0, locals := 91 }
abbrev rmt_X11_setCell : Room := { frames := 7, cells := 1, slots := 6, locals := 112 }
set_option maxHeartbeats 4000000 in
set_option maxRecDepth 100000 in
theorem m_X11_setCell (l : Launch) (B : Wb) (sz : Nat) (σ : Mem) (x1 : Int32) (x2 : Int32) (v : Int32) (σ9 : Mem) (hf : f_X11_setCell x1 x2 σ = some (.inl v, σ9)) : MetC l yX11_setCell cX11_setCell 4 (some .int) rm_X11_setCell B sz σ σ9 [.ref (wA B 0), .int x1, .int x2] (some (.int v)) := by
  refine met_in (by decide +kernel) (Nat.le_of_ble_eq_true rfl) ?_
  intro p e s m below meth c C0 hr w hsz ls hl
  have hx := C0.1.1
  have hb := C0.1.2.1
  unfold f_X11_setCell at hf
  refine lv_aload_n hx hb dX11_setCell_0 rfl (lv_at hl 0 rfl) ?_
  refine lv_iload_n hx hb dX11_setCell_1 rfl (lv_at hl 1 rfl) ?_
  obtain ⟨q1, h2, hf⟩ := bdE hf
  obtain ⟨v3, h5, hf⟩ := xmE1 hf
  subst h5
  refine cV (As := [.int x1]) (rest := []) (k := 0) (ci := 9) (T := TX11) (N := 9) C0 w (m_X11_needCell l B _ σ x1 v3 h2) ky_X11_needCell kv_X11_needCell lk_X11_111 rfl (by decide +kernel) ⟨Nat.le_of_ble_eq_true rfl, Nat.le_of_ble_eq_true rfl⟩ ⟨Nat.le_of_ble_eq_true rfl, Nat.le_of_ble_eq_true rfl⟩ rfl (by rfl) (Nat.le_of_ble_eq_true rfl) hl.1 dX11_setCell_2 (fun H locs w => ?_)
  refine lv_iload_n hx hb dX11_setCell_5 rfl (lv_at hl 2 rfl) ?_
  refine lv_iconst (v := 1) hx hb dX11_setCell_6 (by decide) ?_
  refine kIn C0 100000 kc_X11_115 dX11_setCell_7 ?_
  obtain ⟨q6, h7, hf⟩ := bdE hf
  obtain ⟨v8, h10, hf⟩ := xmE1 hf
  subst h10
  refine cS (As := [.int x2, .int 1, .int 100000]) (rest := []) C0 w (m_X11_needRange l B _ σ x2 1 100000 v8 h7) ky_X11_needRange ks_X11_needRange lk_X11_93 ⟨Nat.le_of_ble_eq_true rfl, Nat.le_of_ble_eq_true rfl⟩ ⟨Nat.le_of_ble_eq_true rfl, Nat.le_of_ble_eq_true rfl⟩ rfl (by rfl) (Nat.le_of_ble_eq_true rfl) hl.1 dX11_setCell_9 (fun H locs w => ?_)
  refine lv_aload_n hx hb dX11_setCell_12 rfl (lv_at hl 0 rfl) ?_
  refine gR C0 w 189 fk_X11_71 (by decide +kernel) dX11_setCell_13 ?_
  refine lv_aload_n hx hb dX11_setCell_16 rfl (lv_at hl 0 rfl) ?_
  refine gR C0 w 1 fk_X11_10 (by decide +kernel) dX11_setCell_17 ?_
  obtain ⟨q11, h12, hf⟩ := bdE hf
  refine cV (As := [.ref (wA B 1)]) (rest := []) (k := 189) (ci := 2) (T := TX3) (N := 3) C0 w (m_X3_save l B _ σ 1 q11 h12) ky_X3_save kv_X3_save lk_X11_97 rfl (by decide +kernel) ⟨Nat.le_of_ble_eq_true rfl, Nat.le_of_ble_eq_true rfl⟩ ⟨Nat.le_of_ble_eq_true rfl, Nat.le_of_ble_eq_true rfl⟩ rfl (by rfl) (Nat.le_of_ble_eq_true rfl) hl.1 dX11_setCell_20 (fun H locs w => ?_)
  refine lv_aload_n hx hb dX11_setCell_23 rfl (lv_at hl 0 rfl) ?_
  refine gR C0 w 1 fk_X11_10 (by decide +kernel) dX11_setCell_24 ?_
  refine gR C0 w 2 fk_X11_116 (by decide +kernel) dX11_setCell_27 ?_
  refine lv_iload_n hx hb dX11_setCell_30 rfl (lv_at hl 1 rfl) ?_
  obtain ⟨g13, hf⟩ := gdE hf
  refine aI C0 w (n := 64) (by decide +kernel) (inbE g13) dX11_setCell_31 ?_
  refine lv_istore_n (lv' := [(3, .int (q11.1 2 x1.toNatClampNeg)), (0, .ref (wA B 0)), (1, .int x1), (2, .int x2)]) hx hb dX11_setCell_32 rfl hl (by decide) rfl (fun ls hl => ?_)
  refine lv_aload_n hx hb dX11_setCell_33 rfl (lv_at hl 1 rfl) ?_
  refine gR C0 w 183 fk_X11_55 (by decide +kernel) dX11_setCell_34 ?_
  refine lv_iload_n hx hb dX11_setCell_37 rfl (lv_at hl 2 rfl) ?_
  refine lv_iload_n hx hb dX11_setCell_38 rfl (lv_at hl 3 rfl) ?_
  obtain ⟨q14, h15, hf⟩ := bdE hf
  refine cV (As := [.int x1, .int x2]) (rest := []) (k := 183) (ci := 0) (T := TX1) (N := 7) C0 w (m_X1_putSlowness l B _ q11 x1 x2 q14 h15) ky_X1_putSlowness kv_X1_putSlowness lk_X11_120 rfl (by decide +kernel) ⟨Nat.le_of_ble_eq_true rfl, Nat.le_of_ble_eq_true rfl⟩ ⟨Nat.le_of_ble_eq_true rfl, Nat.le_of_ble_eq_true rfl⟩ rfl (by rfl) (Nat.le_of_ble_eq_true rfl) hl.1 dX11_setCell_39 (fun H locs w => ?_)
  refine lv_iload_n hx hb dX11_setCell_42 rfl (lv_at hl 0 rfl) ?_
  obtain ⟨h8, h9⟩ := Prod.mk.inj (Option.some.inj hf)
  obtain rfl := Sum.inl.inj h8
  subst h9
  exact eI C0 hr w rfl dX11_setCell_43
set_option maxHeartbeats 4000000 in
set_option maxRecDepth 100000 in
theorem t_X11_setCell (l : Launch) (hfl : l.stackTraces = false) (B : Wb) (sz : Nat) (σ : Mem) (x1 : Int32) (x2 : Int32) (E : String) (σ9 : Mem) (hf : f_X11_setCell x1 x2 σ = some (.inr E, σ9)) : MetT l yX11_setCell cX11_setCell 4 (some .int) rmt_X11_setCell B sz σ σ9 [.ref (wA B 0), .int x1, .int x2] E := by
  refine metT_in (by decide +kernel) (Nat.le_of_ble_eq_true rfl) ?_
  intro p e s m below meth c C0 hto w hsz ls hl
  have hx := C0.1.1
  have hb := C0.1.2.1
  unfold f_X11_setCell at hf
  refine lv_aload_n hx hb dX11_setCell_0 rfl (lv_at hl 0 rfl) ?_
  refine lv_iload_n hx hb dX11_setCell_1 rfl (lv_at hl 1 rfl) ?_
  obtain ⟨q1, h2, hf⟩ := bdE hf
  rcases xmE2 hf with ⟨v3, h5, hf⟩ | ⟨h5, h8⟩
  · subst h5
    refine cV (As := [.int x1]) (rest := []) (k := 0) (ci := 9) (T := TX11) (N := 9) C0 w (m_X11_needCell l B _ σ x1 v3 h2) ky_X11_needCell kv_X11_needCell lk_X11_111 rfl (by decide +kernel) ⟨Nat.le_of_ble_eq_true rfl, Nat.le_of_ble_eq_true rfl⟩ ⟨Nat.le_of_ble_eq_true rfl, Nat.le_of_ble_eq_true rfl⟩ rfl (by rfl) (Nat.le_of_ble_eq_true rfl) hl.1 dX11_setCell_2 (fun H locs w => ?_)
    refine lv_iload_n hx hb dX11_setCell_5 rfl (lv_at hl 2 rfl) ?_
    refine lv_iconst (v := 1) hx hb dX11_setCell_6 (by decide) ?_
    refine kIn C0 100000 kc_X11_115 dX11_setCell_7 ?_
    obtain ⟨q6, h7, hf⟩ := bdE hf
    rcases xmE2 hf with ⟨v8, h10, hf⟩ | ⟨h10, h8⟩
    · subst h10
      refine cS (As := [.int x2, .int 1, .int 100000]) (rest := []) C0 w (m_X11_needRange l B _ σ x2 1 100000 v8 h7) ky_X11_needRange ks_X11_needRange lk_X11_93 ⟨Nat.le_of_ble_eq_true rfl, Nat.le_of_ble_eq_true rfl⟩ ⟨Nat.le_of_ble_eq_true rfl, Nat.le_of_ble_eq_true rfl⟩ rfl (by rfl) (Nat.le_of_ble_eq_true rfl) hl.1 dX11_setCell_9 (fun H locs w => ?_)
      refine lv_aload_n hx hb dX11_setCell_12 rfl (lv_at hl 0 rfl) ?_
      refine gR C0 w 189 fk_X11_71 (by decide +kernel) dX11_setCell_13 ?_
      refine lv_aload_n hx hb dX11_setCell_16 rfl (lv_at hl 0 rfl) ?_
      refine gR C0 w 1 fk_X11_10 (by decide +kernel) dX11_setCell_17 ?_
      obtain ⟨q11, h12, hf⟩ := bdE hf
      refine cV (As := [.ref (wA B 1)]) (rest := []) (k := 189) (ci := 2) (T := TX3) (N := 3) C0 w (m_X3_save l B _ σ 1 q11 h12) ky_X3_save kv_X3_save lk_X11_97 rfl (by decide +kernel) ⟨Nat.le_of_ble_eq_true rfl, Nat.le_of_ble_eq_true rfl⟩ ⟨Nat.le_of_ble_eq_true rfl, Nat.le_of_ble_eq_true rfl⟩ rfl (by rfl) (Nat.le_of_ble_eq_true rfl) hl.1 dX11_setCell_20 (fun H locs w => ?_)
      refine lv_aload_n hx hb dX11_setCell_23 rfl (lv_at hl 0 rfl) ?_
      refine gR C0 w 1 fk_X11_10 (by decide +kernel) dX11_setCell_24 ?_
      refine gR C0 w 2 fk_X11_116 (by decide +kernel) dX11_setCell_27 ?_
      refine lv_iload_n hx hb dX11_setCell_30 rfl (lv_at hl 1 rfl) ?_
      obtain ⟨g13, hf⟩ := gdE hf
      refine aI C0 w (n := 64) (by decide +kernel) (inbE g13) dX11_setCell_31 ?_
      refine lv_istore_n (lv' := [(3, .int (q11.1 2 x1.toNatClampNeg)), (0, .ref (wA B 0)), (1, .int x1), (2, .int x2)]) hx hb dX11_setCell_32 rfl hl (by decide) rfl (fun ls hl => ?_)
      refine lv_aload_n hx hb dX11_setCell_33 rfl (lv_at hl 1 rfl) ?_
      refine gR C0 w 183 fk_X11_55 (by decide +kernel) dX11_setCell_34 ?_
      refine lv_iload_n hx hb dX11_setCell_37 rfl (lv_at hl 2 rfl) ?_
      refine lv_iload_n hx hb dX11_setCell_38 rfl (lv_at hl 3 rfl) ?_
      obtain ⟨q14, h15, hf⟩ := bdE hf
      refine cV (As := [.int x1, .int x2]) (rest := []) (k := 183) (ci := 0) (T := TX1) (N := 7) C0 w (m_X1_putSlowness l B _ q11 x1 x2 q14 h15) ky_X1_putSlowness kv_X1_putSlowness lk_X11_120 rfl (by decide +kernel) ⟨Nat.le_of_ble_eq_true rfl, Nat.le_of_ble_eq_true rfl⟩ ⟨Nat.le_of_ble_eq_true rfl, Nat.le_of_ble_eq_true rfl⟩ rfl (by rfl) (Nat.le_of_ble_eq_true rfl) hl.1 dX11_setCell_39 (fun H locs w => ?_)
      refine lv_iload_n hx hb dX11_setCell_42 rfl (lv_at hl 0 rfl) ?_
      exact nomatch (Prod.mk.inj (Option.some.inj hf)).1
    · subst h10
      have h8 := h8.symm
      subst h8
      refine cST (As := [.int x2, .int 1, .int 100000]) (rest := []) C0 w (t_X11_needRange l hfl B _ σ x2 1 100000 _ h7) ky_X11_needRange ks_X11_needRange lk_X11_93 ⟨Nat.le_of_ble_eq_true rfl, Nat.le_of_ble_eq_true rfl⟩ ⟨Nat.le_of_ble_eq_true rfl, Nat.le_of_ble_eq_true rfl⟩ rfl (by rfl) (Nat.le_of_ble_eq_true rfl) hl.1 dX11_setCell_9 (fun ce q9 H locs w g1 g2 g3 => ?_)
      exact xOut C0 hto w g1 g2 g3 (Nat.le_of_ble_eq_true rfl) (Nat.le_of_ble_eq_true rfl)
  · subst h5
    have h8 := h8.symm
    subst h8
    refine cVT (As := [.int x1]) (rest := []) (k := 0) (ci := 9) (T := TX11) (N := 9) C0 w (t_X11_needCell l hfl B _ σ x1 _ h2) ky_X11_needCell kv_X11_needCell lk_X11_111 rfl (by decide +kernel) ⟨Nat.le_of_ble_eq_true rfl, Nat.le_of_ble_eq_true rfl⟩ ⟨Nat.le_of_ble_eq_true rfl, Nat.le_of_ble_eq_true rfl⟩ rfl (by rfl) (Nat.le_of_ble_eq_true rfl) hl.1 dX11_setCell_2 (fun ce q9 H locs w g1 g2 g3 => ?_)
    exact xOut C0 hto w g1 g2 g3 (Nat.le_of_ble_eq_true rfl) (Nat.le_of_ble_eq_true rfl)
def f_X11_setTrue (x1 : Int32) (x2 : Int32) (σ : Mem) : Option ((Int32 ⊕ String) × Mem) :=
  bd (f_X11_needCell x1 σ) (fun q1 =>
  xm q1 σ (fun v3 =>
  bd (f_X11_needRange x2 1 100000 σ) (fun q6 =>
  xm q6 σ (fun v8 =>
  bd (f_X3_save 1 σ) (fun q11 =>
  gd (inb x1 64) (
  gd (inb x1 64) (
  some (.inl (q11.1 3 x1.toNatClampNeg), setI q11 3 x1.toNatClampNeg x2))))))))
abbrev rm_X11_setTrue : Room := { frames := 3, cells := 0, slots := 0, locals := 91 }
abbrev rmt_X11_setTrue : Room := { frames := 7, cells := 1, slots := 6, locals := 112 }
set_option maxHeartbeats 4000000 in
set_option maxRecDepth 100000 in
theorem m_X11_setTrue (l : Launch) (B : Wb) (sz : Nat) (σ : Mem) (x1 : Int32) (x2 : Int32) (v : Int32) (σ9 : Mem) (hf : f_X11_setTrue x1 x2 σ = some (.inl v, σ9)) : MetC l yX11_setTrue cX11_setTrue 4 (some .int) rm_X11_setTrue B sz σ σ9 [.ref (wA B 0), .int x1, .int x2] (some (.int v)) := by
  refine met_in (by decide +kernel) (Nat.le_of_ble_eq_true rfl) ?_
  intro p e s m below meth c C0 hr w hsz ls hl
  have hx := C0.1.1
  have hb := C0.1.2.1
  unfold f_X11_setTrue at hf
  refine lv_aload_n hx hb dX11_setTrue_0 rfl (lv_at hl 0 rfl) ?_
  refine lv_iload_n hx hb dX11_setTrue_1 rfl (lv_at hl 1 rfl) ?_
  obtain ⟨q1, h2, hf⟩ := bdE hf
  obtain ⟨v3, h5, hf⟩ := xmE1 hf
  subst h5
  refine cV (As := [.int x1]) (rest := []) (k := 0) (ci := 9) (T := TX11) (N := 9) C0 w (m_X11_needCell l B _ σ x1 v3 h2) ky_X11_needCell kv_X11_needCell lk_X11_111 rfl (by decide +kernel) ⟨Nat.le_of_ble_eq_true rfl, Nat.le_of_ble_eq_true rfl⟩ ⟨Nat.le_of_ble_eq_true rfl, Nat.le_of_ble_eq_true rfl⟩ rfl (by rfl) (Nat.le_of_ble_eq_true rfl) hl.1 dX11_setTrue_2 (fun H locs w => ?_)
  refine lv_iload_n hx hb dX11_setTrue_5 rfl (lv_at hl 2 rfl) ?_
  refine lv_iconst (v := 1) hx hb dX11_setTrue_6 (by decide) ?_
  refine kIn C0 100000 kc_X11_115 dX11_setTrue_7 ?_
  obtain ⟨q6, h7, hf⟩ := bdE hf
  obtain ⟨v8, h10, hf⟩ := xmE1 hf
  subst h10
  refine cS (As := [.int x2, .int 1, .int 100000]) (rest := []) C0 w (m_X11_needRange l B _ σ x2 1 100000 v8 h7) ky_X11_needRange ks_X11_needRange lk_X11_93 ⟨Nat.le_of_ble_eq_true rfl, Nat.le_of_ble_eq_true rfl⟩ ⟨Nat.le_of_ble_eq_true rfl, Nat.le_of_ble_eq_true rfl⟩ rfl (by rfl) (Nat.le_of_ble_eq_true rfl) hl.1 dX11_setTrue_9 (fun H locs w => ?_)
  refine lv_aload_n hx hb dX11_setTrue_12 rfl (lv_at hl 0 rfl) ?_
  refine gR C0 w 189 fk_X11_71 (by decide +kernel) dX11_setTrue_13 ?_
  refine lv_aload_n hx hb dX11_setTrue_16 rfl (lv_at hl 0 rfl) ?_
  refine gR C0 w 1 fk_X11_10 (by decide +kernel) dX11_setTrue_17 ?_
  obtain ⟨q11, h12, hf⟩ := bdE hf
  refine cV (As := [.ref (wA B 1)]) (rest := []) (k := 189) (ci := 2) (T := TX3) (N := 3) C0 w (m_X3_save l B _ σ 1 q11 h12) ky_X3_save kv_X3_save lk_X11_97 rfl (by decide +kernel) ⟨Nat.le_of_ble_eq_true rfl, Nat.le_of_ble_eq_true rfl⟩ ⟨Nat.le_of_ble_eq_true rfl, Nat.le_of_ble_eq_true rfl⟩ rfl (by rfl) (Nat.le_of_ble_eq_true rfl) hl.1 dX11_setTrue_20 (fun H locs w => ?_)
  refine lv_aload_n hx hb dX11_setTrue_23 rfl (lv_at hl 0 rfl) ?_
  refine gR C0 w 1 fk_X11_10 (by decide +kernel) dX11_setTrue_24 ?_
  refine gR C0 w 3 fk_X11_123 (by decide +kernel) dX11_setTrue_27 ?_
  refine lv_iload_n hx hb dX11_setTrue_30 rfl (lv_at hl 1 rfl) ?_
  obtain ⟨g13, hf⟩ := gdE hf
  refine aI C0 w (n := 64) (by decide +kernel) (inbE g13) dX11_setTrue_31 ?_
  refine lv_istore_n (lv' := [(3, .int (q11.1 3 x1.toNatClampNeg)), (0, .ref (wA B 0)), (1, .int x1), (2, .int x2)]) hx hb dX11_setTrue_32 rfl hl (by decide) rfl (fun ls hl => ?_)
  refine lv_aload_n hx hb dX11_setTrue_33 rfl (lv_at hl 1 rfl) ?_
  refine gR C0 w 1 fk_X11_10 (by decide +kernel) dX11_setTrue_34 ?_
  refine gR C0 w 3 fk_X11_123 (by decide +kernel) dX11_setTrue_37 ?_
  refine lv_iload_n hx hb dX11_setTrue_40 rfl (lv_at hl 2 rfl) ?_
  refine lv_iload_n hx hb dX11_setTrue_41 rfl (lv_at hl 3 rfl) ?_
  obtain ⟨g14, hf⟩ := gdE hf
  refine sI C0 w (n := 64) (by decide +kernel) (inbE g14) dX11_setTrue_42 (fun H locs w => ?_)
  refine lv_iload_n hx hb dX11_setTrue_43 rfl (lv_at hl 0 rfl) ?_
  obtain ⟨h8, h9⟩ := Prod.mk.inj (Option.some.inj hf)
  obtain rfl := Sum.inl.inj h8
  subst h9
  exact eI C0 hr w rfl dX11_setTrue_44
set_option maxHeartbeats 4000000 in
set_option maxRecDepth 100000 in
theorem t_X11_setTrue (l : Launch) (hfl : l.stackTraces = false) (B : Wb) (sz : Nat) (σ : Mem) (x1 : Int32) (x2 : Int32) (E : String) (σ9 : Mem) (hf : f_X11_setTrue x1 x2 σ = some (.inr E, σ9)) : MetT l yX11_setTrue cX11_setTrue 4 (some .int) rmt_X11_setTrue B sz σ σ9 [.ref (wA B 0), .int x1, .int x2] E := by
  refine metT_in (by decide +kernel) (Nat.le_of_ble_eq_true rfl) ?_
  intro p e s m below meth c C0 hto w hsz ls hl
  have hx := C0.1.1
  have hb := C0.1.2.1
  unfold f_X11_setTrue at hf
  refine lv_aload_n hx hb dX11_setTrue_0 rfl (lv_at hl 0 rfl) ?_
  refine lv_iload_n hx hb dX11_setTrue_1 rfl (lv_at hl 1 rfl) ?_
  obtain ⟨q1, h2, hf⟩ := bdE hf
  rcases xmE2 hf with ⟨v3, h5, hf⟩ | ⟨h5, h8⟩
  · subst h5
    refine cV (As := [.int x1]) (rest := []) (k := 0) (ci := 9) (T := TX11) (N := 9) C0 w (m_X11_needCell l B _ σ x1 v3 h2) ky_X11_needCell kv_X11_needCell lk_X11_111 rfl (by decide +kernel) ⟨Nat.le_of_ble_eq_true rfl, Nat.le_of_ble_eq_true rfl⟩ ⟨Nat.le_of_ble_eq_true rfl, Nat.le_of_ble_eq_true rfl⟩ rfl (by rfl) (Nat.le_of_ble_eq_true rfl) hl.1 dX11_setTrue_2 (fun H locs w => ?_)
    refine lv_iload_n hx hb dX11_setTrue_5 rfl (lv_at hl 2 rfl) ?_
    refine lv_iconst (v := 1) hx hb dX11_setTrue_6 (by decide) ?_
    refine kIn C0 100000 kc_X11_115 dX11_setTrue_7 ?_
    obtain ⟨q6, h7, hf⟩ := bdE hf
    rcases xmE2 hf with ⟨v8, h10, hf⟩ | ⟨h10, h8⟩
    · subst h10
      refine cS (As := [.int x2, .int 1, .int 100000]) (rest := []) C0 w (m_X11_needRange l B _ σ x2 1 100000 v8 h7) ky_X11_needRange ks_X11_needRange lk_X11_93 ⟨Nat.le_of_ble_eq_true rfl, Nat.le_of_ble_eq_true rfl⟩ ⟨Nat.le_of_ble_eq_true rfl, Nat.le_of_ble_eq_true rfl⟩ rfl (by rfl) (Nat.le_of_ble_eq_true rfl) hl.1 dX11_setTrue_9 (fun H locs w => ?_)
      refine lv_aload_n hx hb dX11_setTrue_12 rfl (lv_at hl 0 rfl) ?_
      refine gR C0 w 189 fk_X11_71 (by decide +kernel) dX11_setTrue_13 ?_
      refine lv_aload_n hx hb dX11_setTrue_16 rfl (lv_at hl 0 rfl) ?_
      refine gR C0 w 1 fk_X11_10 (by decide +kernel) dX11_setTrue_17 ?_
      obtain ⟨q11, h12, hf⟩ := bdE hf
      refine cV (As := [.ref (wA B 1)]) (rest := []) (k := 189) (ci := 2) (T := TX3) (N := 3) C0 w (m_X3_save l B _ σ 1 q11 h12) ky_X3_save kv_X3_save lk_X11_97 rfl (by decide +kernel) ⟨Nat.le_of_ble_eq_true rfl, Nat.le_of_ble_eq_true rfl⟩ ⟨Nat.le_of_ble_eq_true rfl, Nat.le_of_ble_eq_true rfl⟩ rfl (by rfl) (Nat.le_of_ble_eq_true rfl) hl.1 dX11_setTrue_20 (fun H locs w => ?_)
      refine lv_aload_n hx hb dX11_setTrue_23 rfl (lv_at hl 0 rfl) ?_
      refine gR C0 w 1 fk_X11_10 (by decide +kernel) dX11_setTrue_24 ?_
      refine gR C0 w 3 fk_X11_123 (by decide +kernel) dX11_setTrue_27 ?_
      refine lv_iload_n hx hb dX11_setTrue_30 rfl (lv_at hl 1 rfl) ?_
      obtain ⟨g13, hf⟩ := gdE hf
      refine aI C0 w (n := 64) (by decide +kernel) (inbE g13) dX11_setTrue_31 ?_
      refine lv_istore_n (lv' := [(3, .int (q11.1 3 x1.toNatClampNeg)), (0, .ref (wA B 0)), (1, .int x1), (2, .int x2)]) hx hb dX11_setTrue_32 rfl hl (by decide) rfl (fun ls hl => ?_)
      refine lv_aload_n hx hb dX11_setTrue_33 rfl (lv_at hl 1 rfl) ?_
      refine gR C0 w 1 fk_X11_10 (by decide +kernel) dX11_setTrue_34 ?_
      refine gR C0 w 3 fk_X11_123 (by decide +kernel) dX11_setTrue_37 ?_
      refine lv_iload_n hx hb dX11_setTrue_40 rfl (lv_at hl 2 rfl) ?_
      refine lv_iload_n hx hb dX11_setTrue_41 rfl (lv_at hl 3 rfl) ?_
      obtain ⟨g14, hf⟩ := gdE hf
      refine sI C0 w (n := 64) (by decide +kernel) (inbE g14) dX11_setTrue_42 (fun H locs w => ?_)
      refine lv_iload_n hx hb dX11_setTrue_43 rfl (lv_at hl 0 rfl) ?_
      exact nomatch (Prod.mk.inj (Option.some.inj hf)).1
    · subst h10
      have h8 := h8.symm
      subst h8
      refine cST (As := [.int x2, .int 1, .int 100000]) (rest := []) C0 w (t_X11_needRange l hfl B _ σ x2 1 100000 _ h7) ky_X11_needRange ks_X11_needRange lk_X11_93 ⟨Nat.le_of_ble_eq_true rfl, Nat.le_of_ble_eq_true rfl⟩ ⟨Nat.le_of_ble_eq_true rfl, Nat.le_of_ble_eq_true rfl⟩ rfl (by rfl) (Nat.le_of_ble_eq_true rfl) hl.1 dX11_setTrue_9 (fun ce q9 H locs w g1 g2 g3 => ?_)
      exact xOut C0 hto w g1 g2 g3 (Nat.le_of_ble_eq_true rfl) (Nat.le_of_ble_eq_true rfl)
  · subst h5
    have h8 := h8.symm
    subst h8
    refine cVT (As := [.int x1]) (rest := []) (k := 0) (ci := 9) (T := TX11) (N := 9) C0 w (t_X11_needCell l hfl B _ σ x1 _ h2) ky_X11_needCell kv_X11_needCell lk_X11_111 rfl (by decide +kernel) ⟨Nat.le_of_ble_eq_true rfl, Nat.le_of_ble_eq_true rfl⟩ ⟨Nat.le_of_ble_eq_true rfl, Nat.le_of_ble_eq_true rfl⟩ rfl (by rfl) (Nat.le_of_ble_eq_true rfl) hl.1 dX11_setTrue_2 (fun ce q9 H locs w g1 g2 g3 => ?_)
    exact xOut C0 hto w g1 g2 g3 (Nat.le_of_ble_eq_true rfl) (Nat.le_of_ble_eq_true rfl)
def f_X11_slope (x1 : Int32) (x2 : Int32) (x3 : Int32) (x4 : Int32) (σ : Mem) : Option ((Int32 ⊕ String) × Mem) :=
  bd (f_X11_needRange x2 1 100000 σ) (fun q1 =>
  xm q1 σ (fun v3 =>
  bd (f_X11_needRange x3 ((-10000 : Int32)) 10000 σ) (fun q6 =>
  xm q6 σ (fun v8 =>
  bd (f_X11_needRange x4 ((-10000 : Int32)) 10000 σ) (fun q11 =>
  xm q11 σ (fun v13 =>
  bd (f_X3_save 1 σ) (fun q16 =>
  bd (f_X1_incline x1 x2 x3 x4 q16) (fun q18 =>
  some (.inl q18.1, q18.2)))))))))
abbrev rm_X11_slope : Room := { frames := 3, cells := 0, slots := 0, locals := 91 }
abbrev rmt_X11_slope : Room := { frames := 7, cells := 1, slots := 6, locals := 112 }
set_option maxHeartbeats 4000000 in
set_option maxRecDepth 100000 in
theorem m_X11_slope (l : Launch) (B : Wb) (sz : Nat) (σ : Mem) (x1 : Int32) (x2 : Int32) (x3 : Int32) (x4 : Int32) (v : Int32) (σ9 : Mem) (hf : f_X11_slope x1 x2 x3 x4 σ = some (.inl v, σ9)) : MetC l yX11_slope cX11_slope 5 (some .int) rm_X11_slope B sz σ σ9 [.ref (wA B 0), .int x1, .int x2, .int x3, .int x4] (some (.int v)) := by
  refine met_in (by decide +kernel) (Nat.le_of_ble_eq_true rfl) ?_
  intro p e s m below meth c C0 hr w hsz ls hl
  have hx := C0.1.1
  have hb := C0.1.2.1
  unfold f_X11_slope at hf
  refine lv_iload_n hx hb dX11_slope_0 rfl (lv_at hl 2 rfl) ?_
  refine lv_iconst (v := 1) hx hb dX11_slope_1 (by decide) ?_
  refine kIn C0 100000 kc_X11_115 dX11_slope_2 ?_
  obtain ⟨q1, h2, hf⟩ := bdE hf
  obtain ⟨v3, h5, hf⟩ := xmE1 hf
  subst h5
  refine cS (As := [.int x2, .int 1, .int 100000]) (rest := []) C0 w (m_X11_needRange l B _ σ x2 1 100000 v3 h2) ky_X11_needRange ks_X11_needRange lk_X11_93 ⟨Nat.le_of_ble_eq_true rfl, Nat.le_of_ble_eq_true rfl⟩ ⟨Nat.le_of_ble_eq_true rfl, Nat.le_of_ble_eq_true rfl⟩ rfl (by rfl) (Nat.le_of_ble_eq_true rfl) hl.1 dX11_slope_4 (fun H locs w => ?_)
  refine lv_iload_n hx hb dX11_slope_7 rfl (lv_at hl 3 rfl) ?_
  refine lv_sipush (v := (-10000)) hx hb dX11_slope_8 (by decide) ?_
  refine lv_sipush (v := 10000) hx hb dX11_slope_11 (by decide) ?_
  obtain ⟨q6, h7, hf⟩ := bdE hf
  obtain ⟨v8, h10, hf⟩ := xmE1 hf
  subst h10
  refine cS (As := [.int x3, .int ((-10000 : Int32)), .int 10000]) (rest := []) C0 w (m_X11_needRange l B _ σ x3 ((-10000 : Int32)) 10000 v8 h7) ky_X11_needRange ks_X11_needRange lk_X11_93 ⟨Nat.le_of_ble_eq_true rfl, Nat.le_of_ble_eq_true rfl⟩ ⟨Nat.le_of_ble_eq_true rfl, Nat.le_of_ble_eq_true rfl⟩ rfl (by rfl) (Nat.le_of_ble_eq_true rfl) hl.1 dX11_slope_14 (fun H locs w => ?_)
  refine lv_iload hx hb dX11_slope_17 (lv_at hl 4 rfl) ?_
  refine lv_sipush (v := (-10000)) hx hb dX11_slope_19 (by decide) ?_
  refine lv_sipush (v := 10000) hx hb dX11_slope_22 (by decide) ?_
  obtain ⟨q11, h12, hf⟩ := bdE hf
  obtain ⟨v13, h15, hf⟩ := xmE1 hf
  subst h15
  refine cS (As := [.int x4, .int ((-10000 : Int32)), .int 10000]) (rest := []) C0 w (m_X11_needRange l B _ σ x4 ((-10000 : Int32)) 10000 v13 h12) ky_X11_needRange ks_X11_needRange lk_X11_93 ⟨Nat.le_of_ble_eq_true rfl, Nat.le_of_ble_eq_true rfl⟩ ⟨Nat.le_of_ble_eq_true rfl, Nat.le_of_ble_eq_true rfl⟩ rfl (by rfl) (Nat.le_of_ble_eq_true rfl) hl.1 dX11_slope_25 (fun H locs w => ?_)
  refine lv_aload_n hx hb dX11_slope_28 rfl (lv_at hl 0 rfl) ?_
  refine gR C0 w 189 fk_X11_71 (by decide +kernel) dX11_slope_29 ?_
  refine lv_aload_n hx hb dX11_slope_32 rfl (lv_at hl 0 rfl) ?_
  refine gR C0 w 1 fk_X11_10 (by decide +kernel) dX11_slope_33 ?_
  obtain ⟨q16, h17, hf⟩ := bdE hf
  refine cV (As := [.ref (wA B 1)]) (rest := []) (k := 189) (ci := 2) (T := TX3) (N := 3) C0 w (m_X3_save l B _ σ 1 q16 h17) ky_X3_save kv_X3_save lk_X11_97 rfl (by decide +kernel) ⟨Nat.le_of_ble_eq_true rfl, Nat.le_of_ble_eq_true rfl⟩ ⟨Nat.le_of_ble_eq_true rfl, Nat.le_of_ble_eq_true rfl⟩ rfl (by rfl) (Nat.le_of_ble_eq_true rfl) hl.1 dX11_slope_36 (fun H locs w => ?_)
  refine lv_aload_n hx hb dX11_slope_39 rfl (lv_at hl 0 rfl) ?_
  refine gR C0 w 183 fk_X11_55 (by decide +kernel) dX11_slope_40 ?_
  refine lv_iload_n hx hb dX11_slope_43 rfl (lv_at hl 1 rfl) ?_
  refine lv_iload_n hx hb dX11_slope_44 rfl (lv_at hl 2 rfl) ?_
  refine lv_iload_n hx hb dX11_slope_45 rfl (lv_at hl 3 rfl) ?_
  refine lv_iload hx hb dX11_slope_46 (lv_at hl 4 rfl) ?_
  obtain ⟨q18, h19, hf⟩ := bdE hf
  refine cV (As := [.int x1, .int x2, .int x3, .int x4]) (rest := []) (k := 183) (ci := 0) (T := TX1) (N := 7) C0 w (m_X1_incline l B _ q16 x1 x2 x3 x4 q18 h19) ky_X1_incline kv_X1_incline lk_X11_126 rfl (by decide +kernel) ⟨Nat.le_of_ble_eq_true rfl, Nat.le_of_ble_eq_true rfl⟩ ⟨Nat.le_of_ble_eq_true rfl, Nat.le_of_ble_eq_true rfl⟩ rfl (by rfl) (Nat.le_of_ble_eq_true rfl) hl.1 dX11_slope_48 (fun H locs w => ?_)
  obtain ⟨h8, h9⟩ := Prod.mk.inj (Option.some.inj hf)
  obtain rfl := Sum.inl.inj h8
  subst h9
  exact eI C0 hr w rfl dX11_slope_51
set_option maxHeartbeats 4000000 in
set_option maxRecDepth 100000 in
theorem t_X11_slope (l : Launch) (hfl : l.stackTraces = false) (B : Wb) (sz : Nat) (σ : Mem) (x1 : Int32) (x2 : Int32) (x3 : Int32) (x4 : Int32) (E : String) (σ9 : Mem) (hf : f_X11_slope x1 x2 x3 x4 σ = some (.inr E, σ9)) : MetT l yX11_slope cX11_slope 5 (some .int) rmt_X11_slope B sz σ σ9 [.ref (wA B 0), .int x1, .int x2, .int x3, .int x4] E := by
  refine metT_in (by decide +kernel) (Nat.le_of_ble_eq_true rfl) ?_
  intro p e s m below meth c C0 hto w hsz ls hl
  have hx := C0.1.1
  have hb := C0.1.2.1
  unfold f_X11_slope at hf
  refine lv_iload_n hx hb dX11_slope_0 rfl (lv_at hl 2 rfl) ?_
  refine lv_iconst (v := 1) hx hb dX11_slope_1 (by decide) ?_
  refine kIn C0 100000 kc_X11_115 dX11_slope_2 ?_
  obtain ⟨q1, h2, hf⟩ := bdE hf
  rcases xmE2 hf with ⟨v3, h5, hf⟩ | ⟨h5, h8⟩
  · subst h5
    refine cS (As := [.int x2, .int 1, .int 100000]) (rest := []) C0 w (m_X11_needRange l B _ σ x2 1 100000 v3 h2) ky_X11_needRange ks_X11_needRange lk_X11_93 ⟨Nat.le_of_ble_eq_true rfl, Nat.le_of_ble_eq_true rfl⟩ ⟨Nat.le_of_ble_eq_true rfl, Nat.le_of_ble_eq_true rfl⟩ rfl (by rfl) (Nat.le_of_ble_eq_true rfl) hl.1 dX11_slope_4 (fun H locs w => ?_)
    refine lv_iload_n hx hb dX11_slope_7 rfl (lv_at hl 3 rfl) ?_
    refine lv_sipush (v := (-10000)) hx hb dX11_slope_8 (by decide) ?_
    refine lv_sipush (v := 10000) hx hb dX11_slope_11 (by decide) ?_
    obtain ⟨q6, h7, hf⟩ := bdE hf
    rcases xmE2 hf with ⟨v8, h10, hf⟩ | ⟨h10, h8⟩
    · subst h10
      refine cS (As := [.int x3, .int ((-10000 : Int32)), .int 10000]) (rest := []) C0 w (m_X11_needRange l B _ σ x3 ((-10000 : Int32)) 10000 v8 h7) ky_X11_needRange ks_X11_needRange lk_X11_93 ⟨Nat.le_of_ble_eq_true rfl, Nat.le_of_ble_eq_true rfl⟩ ⟨Nat.le_of_ble_eq_true rfl, Nat.le_of_ble_eq_true rfl⟩ rfl (by rfl) (Nat.le_of_ble_eq_true rfl) hl.1 dX11_slope_14 (fun H locs w => ?_)
      refine lv_iload hx hb dX11_slope_17 (lv_at hl 4 rfl) ?_
      refine lv_sipush (v := (-10000)) hx hb dX11_slope_19 (by decide) ?_
      refine lv_sipush (v := 10000) hx hb dX11_slope_22 (by decide) ?_
      obtain ⟨q11, h12, hf⟩ := bdE hf
      rcases xmE2 hf with ⟨v13, h15, hf⟩ | ⟨h15, h8⟩
      · subst h15
        refine cS (As := [.int x4, .int ((-10000 : Int32)), .int 10000]) (rest := []) C0 w (m_X11_needRange l B _ σ x4 ((-10000 : Int32)) 10000 v13 h12) ky_X11_needRange ks_X11_needRange lk_X11_93 ⟨Nat.le_of_ble_eq_true rfl, Nat.le_of_ble_eq_true rfl⟩ ⟨Nat.le_of_ble_eq_true rfl, Nat.le_of_ble_eq_true rfl⟩ rfl (by rfl) (Nat.le_of_ble_eq_true rfl) hl.1 dX11_slope_25 (fun H locs w => ?_)
        refine lv_aload_n hx hb dX11_slope_28 rfl (lv_at hl 0 rfl) ?_
        refine gR C0 w 189 fk_X11_71 (by decide +kernel) dX11_slope_29 ?_
        refine lv_aload_n hx hb dX11_slope_32 rfl (lv_at hl 0 rfl) ?_
        refine gR C0 w 1 fk_X11_10 (by decide +kernel) dX11_slope_33 ?_
        obtain ⟨q16, h17, hf⟩ := bdE hf
        refine cV (As := [.ref (wA B 1)]) (rest := []) (k := 189) (ci := 2) (T := TX3) (N := 3) C0 w (m_X3_save l B _ σ 1 q16 h17) ky_X3_save kv_X3_save lk_X11_97 rfl (by decide +kernel) ⟨Nat.le_of_ble_eq_true rfl, Nat.le_of_ble_eq_true rfl⟩ ⟨Nat.le_of_ble_eq_true rfl, Nat.le_of_ble_eq_true rfl⟩ rfl (by rfl) (Nat.le_of_ble_eq_true rfl) hl.1 dX11_slope_36 (fun H locs w => ?_)
        refine lv_aload_n hx hb dX11_slope_39 rfl (lv_at hl 0 rfl) ?_
        refine gR C0 w 183 fk_X11_55 (by decide +kernel) dX11_slope_40 ?_
        refine lv_iload_n hx hb dX11_slope_43 rfl (lv_at hl 1 rfl) ?_
        refine lv_iload_n hx hb dX11_slope_44 rfl (lv_at hl 2 rfl) ?_
        refine lv_iload_n hx hb dX11_slope_45 rfl (lv_at hl 3 rfl) ?_
        refine lv_iload hx hb dX11_slope_46 (lv_at hl 4 rfl) ?_
        obtain ⟨q18, h19, hf⟩ := bdE hf
        refine cV (As := [.int x1, .int x2, .int x3, .int x4]) (rest := []) (k := 183) (ci := 0) (T := TX1) (N := 7) C0 w (m_X1_incline l B _ q16 x1 x2 x3 x4 q18 h19) ky_X1_incline kv_X1_incline lk_X11_126 rfl (by decide +kernel) ⟨Nat.le_of_ble_eq_true rfl, Nat.le_of_ble_eq_true rfl⟩ ⟨Nat.le_of_ble_eq_true rfl, Nat.le_of_ble_eq_true rfl⟩ rfl (by rfl) (Nat.le_of_ble_eq_true rfl) hl.1 dX11_slope_48 (fun H locs w => ?_)
        exact nomatch (Prod.mk.inj (Option.some.inj hf)).1
      · subst h15
        have h8 := h8.symm
        subst h8
        refine cST (As := [.int x4, .int ((-10000 : Int32)), .int 10000]) (rest := []) C0 w (t_X11_needRange l hfl B _ σ x4 ((-10000 : Int32)) 10000 _ h12) ky_X11_needRange ks_X11_needRange lk_X11_93 ⟨Nat.le_of_ble_eq_true rfl, Nat.le_of_ble_eq_true rfl⟩ ⟨Nat.le_of_ble_eq_true rfl, Nat.le_of_ble_eq_true rfl⟩ rfl (by rfl) (Nat.le_of_ble_eq_true rfl) hl.1 dX11_slope_25 (fun ce q9 H locs w g1 g2 g3 => ?_)
        exact xOut C0 hto w g1 g2 g3 (Nat.le_of_ble_eq_true rfl) (Nat.le_of_ble_eq_true rfl)
    · subst h10
      have h8 := h8.symm
      subst h8
      refine cST (As := [.int x3, .int ((-10000 : Int32)), .int 10000]) (rest := []) C0 w (t_X11_needRange l hfl B _ σ x3 ((-10000 : Int32)) 10000 _ h7) ky_X11_needRange ks_X11_needRange lk_X11_93 ⟨Nat.le_of_ble_eq_true rfl, Nat.le_of_ble_eq_true rfl⟩ ⟨Nat.le_of_ble_eq_true rfl, Nat.le_of_ble_eq_true rfl⟩ rfl (by rfl) (Nat.le_of_ble_eq_true rfl) hl.1 dX11_slope_14 (fun ce q9 H locs w g1 g2 g3 => ?_)
      exact xOut C0 hto w g1 g2 g3 (Nat.le_of_ble_eq_true rfl) (Nat.le_of_ble_eq_true rfl)
  · subst h5
    have h8 := h8.symm
    subst h8
    refine cST (As := [.int x2, .int 1, .int 100000]) (rest := []) C0 w (t_X11_needRange l hfl B _ σ x2 1 100000 _ h2) ky_X11_needRange ks_X11_needRange lk_X11_93 ⟨Nat.le_of_ble_eq_true rfl, Nat.le_of_ble_eq_true rfl⟩ ⟨Nat.le_of_ble_eq_true rfl, Nat.le_of_ble_eq_true rfl⟩ rfl (by rfl) (Nat.le_of_ble_eq_true rfl) hl.1 dX11_slope_4 (fun ce q9 H locs w g1 g2 g3 => ?_)
    exact xOut C0 hto w g1 g2 g3 (Nat.le_of_ble_eq_true rfl) (Nat.le_of_ble_eq_true rfl)
def f_X11_setBounds (x1 : Int32) (x2 : Int32) (σ : Mem) : Option ((Int32 ⊕ String) × Mem) :=
  bd (f_X11_needRange x2 1 100000 σ) (fun q1 =>
  xm q1 σ (fun v3 =>
  bd (f_X11_needRange x1 1 x2 σ) (fun q6 =>
  xm q6 σ (fun v8 =>
  bd (f_X3_save 1 σ) (fun q11 =>
  bd (f_X4_cellsOutsideBounds (setI (setI q11 1 2 x1) 1 3 x2)) (fun q13 =>
  some (.inl q13, setI (setI q11 1 2 x1) 1 3 x2)))))))
abbrev rm_X11_setBounds : Room := { frames := 3, cells := 0, slots := 0, locals := 91 }
abbrev rmt_X11_setBounds : Room := { frames := 7, cells := 1, slots := 6, locals := 112 }
set_option maxHeartbeats 4000000 in
set_option maxRecDepth 100000 in
theorem m_X11_setBounds (l : Launch) (B : Wb) (sz : Nat) (σ : Mem) (x1 : Int32) (x2 : Int32) (v : Int32) (σ9 : Mem) (hf : f_X11_setBounds x1 x2 σ = some (.inl v, σ9)) : MetC l yX11_setBounds cX11_setBounds 3 (some .int) rm_X11_setBounds B sz σ σ9 [.ref (wA B 0), .int x1, .int x2] (some (.int v)) := by
  refine met_in (by decide +kernel) (Nat.le_of_ble_eq_true rfl) ?_
  intro p e s m below meth c C0 hr w hsz ls hl
  have hx := C0.1.1
  have hb := C0.1.2.1
  unfold f_X11_setBounds at hf
  refine lv_iload_n hx hb dX11_setBounds_0 rfl (lv_at hl 2 rfl) ?_
  refine lv_iconst (v := 1) hx hb dX11_setBounds_1 (by decide) ?_
  refine kIn C0 100000 kc_X11_115 dX11_setBounds_2 ?_
  obtain ⟨q1, h2, hf⟩ := bdE hf
  obtain ⟨v3, h5, hf⟩ := xmE1 hf
  subst h5
  refine cS (As := [.int x2, .int 1, .int 100000]) (rest := []) C0 w (m_X11_needRange l B _ σ x2 1 100000 v3 h2) ky_X11_needRange ks_X11_needRange lk_X11_93 ⟨Nat.le_of_ble_eq_true rfl, Nat.le_of_ble_eq_true rfl⟩ ⟨Nat.le_of_ble_eq_true rfl, Nat.le_of_ble_eq_true rfl⟩ rfl (by rfl) (Nat.le_of_ble_eq_true rfl) hl.1 dX11_setBounds_4 (fun H locs w => ?_)
  refine lv_iload_n hx hb dX11_setBounds_7 rfl (lv_at hl 1 rfl) ?_
  refine lv_iconst (v := 1) hx hb dX11_setBounds_8 (by decide) ?_
  refine lv_iload_n hx hb dX11_setBounds_9 rfl (lv_at hl 2 rfl) ?_
  obtain ⟨q6, h7, hf⟩ := bdE hf
  obtain ⟨v8, h10, hf⟩ := xmE1 hf
  subst h10
  refine cS (As := [.int x1, .int 1, .int x2]) (rest := []) C0 w (m_X11_needRange l B _ σ x1 1 x2 v8 h7) ky_X11_needRange ks_X11_needRange lk_X11_93 ⟨Nat.le_of_ble_eq_true rfl, Nat.le_of_ble_eq_true rfl⟩ ⟨Nat.le_of_ble_eq_true rfl, Nat.le_of_ble_eq_true rfl⟩ rfl (by rfl) (Nat.le_of_ble_eq_true rfl) hl.1 dX11_setBounds_10 (fun H locs w => ?_)
  refine lv_aload_n hx hb dX11_setBounds_13 rfl (lv_at hl 0 rfl) ?_
  refine gR C0 w 189 fk_X11_71 (by decide +kernel) dX11_setBounds_14 ?_
  refine lv_aload_n hx hb dX11_setBounds_17 rfl (lv_at hl 0 rfl) ?_
  refine gR C0 w 1 fk_X11_10 (by decide +kernel) dX11_setBounds_18 ?_
  obtain ⟨q11, h12, hf⟩ := bdE hf
  refine cV (As := [.ref (wA B 1)]) (rest := []) (k := 189) (ci := 2) (T := TX3) (N := 3) C0 w (m_X3_save l B _ σ 1 q11 h12) ky_X3_save kv_X3_save lk_X11_97 rfl (by decide +kernel) ⟨Nat.le_of_ble_eq_true rfl, Nat.le_of_ble_eq_true rfl⟩ ⟨Nat.le_of_ble_eq_true rfl, Nat.le_of_ble_eq_true rfl⟩ rfl (by rfl) (Nat.le_of_ble_eq_true rfl) hl.1 dX11_setBounds_21 (fun H locs w => ?_)
  refine lv_aload_n hx hb dX11_setBounds_24 rfl (lv_at hl 0 rfl) ?_
  refine gR C0 w 1 fk_X11_10 (by decide +kernel) dX11_setBounds_25 ?_
  refine lv_iload_n hx hb dX11_setBounds_28 rfl (lv_at hl 1 rfl) ?_
  refine pI C0 w fk_X11_130 fp_X7_2 (by decide +kernel) dX11_setBounds_29 (fun H locs w => ?_)
  refine lv_aload_n hx hb dX11_setBounds_32 rfl (lv_at hl 0 rfl) ?_
  refine gR C0 w 1 fk_X11_10 (by decide +kernel) dX11_setBounds_33 ?_
  refine lv_iload_n hx hb dX11_setBounds_36 rfl (lv_at hl 2 rfl) ?_
  refine pI C0 w fk_X11_133 fp_X7_3 (by decide +kernel) dX11_setBounds_37 (fun H locs w => ?_)
  refine lv_aload_n hx hb dX11_setBounds_40 rfl (lv_at hl 0 rfl) ?_
  refine gR C0 w 182 fk_X11_46 (by decide +kernel) dX11_setBounds_41 ?_
  obtain ⟨q13, h14, hf⟩ := bdE hf
  refine cV (As := []) (rest := []) (k := 182) (ci := 3) (T := TX4) (N := 2) C0 w (m_X4_cellsOutsideBounds l B _ (setI (setI q11 1 2 x1) 1 3 x2) q13 h14) ky_X4_cellsOutsideBounds kv_X4_cellsOutsideBounds lk_X11_136 rfl (by decide +kernel) ⟨Nat.le_of_ble_eq_true rfl, Nat.le_of_ble_eq_true rfl⟩ ⟨Nat.le_of_ble_eq_true rfl, Nat.le_of_ble_eq_true rfl⟩ rfl (by rfl) (Nat.le_of_ble_eq_true rfl) hl.1 dX11_setBounds_44 (fun H locs w => ?_)
  obtain ⟨h8, h9⟩ := Prod.mk.inj (Option.some.inj hf)
  obtain rfl := Sum.inl.inj h8
  subst h9
  exact eI C0 hr w rfl dX11_setBounds_47
set_option maxHeartbeats 4000000 in
set_option maxRecDepth 100000 in
theorem t_X11_setBounds (l : Launch) (hfl : l.stackTraces = false) (B : Wb) (sz : Nat) (σ : Mem) (x1 : Int32) (x2 : Int32) (E : String) (σ9 : Mem) (hf : f_X11_setBounds x1 x2 σ = some (.inr E, σ9)) : MetT l yX11_setBounds cX11_setBounds 3 (some .int) rmt_X11_setBounds B sz σ σ9 [.ref (wA B 0), .int x1, .int x2] E := by
  refine metT_in (by decide +kernel) (Nat.le_of_ble_eq_true rfl) ?_
  intro p e s m below meth c C0 hto w hsz ls hl
  have hx := C0.1.1
  have hb := C0.1.2.1
  unfold f_X11_setBounds at hf
  refine lv_iload_n hx hb dX11_setBounds_0 rfl (lv_at hl 2 rfl) ?_
  refine lv_iconst (v := 1) hx hb dX11_setBounds_1 (by decide) ?_
  refine kIn C0 100000 kc_X11_115 dX11_setBounds_2 ?_
  obtain ⟨q1, h2, hf⟩ := bdE hf
  rcases xmE2 hf with ⟨v3, h5, hf⟩ | ⟨h5, h8⟩
  · subst h5
    refine cS (As := [.int x2, .int 1, .int 100000]) (rest := []) C0 w (m_X11_needRange l B _ σ x2 1 100000 v3 h2) ky_X11_needRange ks_X11_needRange lk_X11_93 ⟨Nat.le_of_ble_eq_true rfl, Nat.le_of_ble_eq_true rfl⟩ ⟨Nat.le_of_ble_eq_true rfl, Nat.le_of_ble_eq_true rfl⟩ rfl (by rfl) (Nat.le_of_ble_eq_true rfl) hl.1 dX11_setBounds_4 (fun H locs w => ?_)
    refine lv_iload_n hx hb dX11_setBounds_7 rfl (lv_at hl 1 rfl) ?_
    refine lv_iconst (v := 1) hx hb dX11_setBounds_8 (by decide) ?_
    refine lv_iload_n hx hb dX11_setBounds_9 rfl (lv_at hl 2 rfl) ?_
    obtain ⟨q6, h7, hf⟩ := bdE hf
    rcases xmE2 hf with ⟨v8, h10, hf⟩ | ⟨h10, h8⟩
    · subst h10
      refine cS (As := [.int x1, .int 1, .int x2]) (rest := []) C0 w (m_X11_needRange l B _ σ x1 1 x2 v8 h7) ky_X11_needRange ks_X11_needRange lk_X11_93 ⟨Nat.le_of_ble_eq_true rfl, Nat.le_of_ble_eq_true rfl⟩ ⟨Nat.le_of_ble_eq_true rfl, Nat.le_of_ble_eq_true rfl⟩ rfl (by rfl) (Nat.le_of_ble_eq_true rfl) hl.1 dX11_setBounds_10 (fun H locs w => ?_)
      refine lv_aload_n hx hb dX11_setBounds_13 rfl (lv_at hl 0 rfl) ?_
      refine gR C0 w 189 fk_X11_71 (by decide +kernel) dX11_setBounds_14 ?_
      refine lv_aload_n hx hb dX11_setBounds_17 rfl (lv_at hl 0 rfl) ?_
      refine gR C0 w 1 fk_X11_10 (by decide +kernel) dX11_setBounds_18 ?_
      obtain ⟨q11, h12, hf⟩ := bdE hf
      refine cV (As := [.ref (wA B 1)]) (rest := []) (k := 189) (ci := 2) (T := TX3) (N := 3) C0 w (m_X3_save l B _ σ 1 q11 h12) ky_X3_save kv_X3_save lk_X11_97 rfl (by decide +kernel) ⟨Nat.le_of_ble_eq_true rfl, Nat.le_of_ble_eq_true rfl⟩ ⟨Nat.le_of_ble_eq_true rfl, Nat.le_of_ble_eq_true rfl⟩ rfl (by rfl) (Nat.le_of_ble_eq_true rfl) hl.1 dX11_setBounds_21 (fun H locs w => ?_)
      refine lv_aload_n hx hb dX11_setBounds_24 rfl (lv_at hl 0 rfl) ?_
      refine gR C0 w 1 fk_X11_10 (by decide +kernel) dX11_setBounds_25 ?_
      refine lv_iload_n hx hb dX11_setBounds_28 rfl (lv_at hl 1 rfl) ?_
      refine pI C0 w fk_X11_130 fp_X7_2 (by decide +kernel) dX11_setBounds_29 (fun H locs w => ?_)
      refine lv_aload_n hx hb dX11_setBounds_32 rfl (lv_at hl 0 rfl) ?_
      refine gR C0 w 1 fk_X11_10 (by decide +kernel) dX11_setBounds_33 ?_
      refine lv_iload_n hx hb dX11_setBounds_36 rfl (lv_at hl 2 rfl) ?_
      refine pI C0 w fk_X11_133 fp_X7_3 (by decide +kernel) dX11_setBounds_37 (fun H locs w => ?_)
      refine lv_aload_n hx hb dX11_setBounds_40 rfl (lv_at hl 0 rfl) ?_
      refine gR C0 w 182 fk_X11_46 (by decide +kernel) dX11_setBounds_41 ?_
      obtain ⟨q13, h14, hf⟩ := bdE hf
      refine cV (As := []) (rest := []) (k := 182) (ci := 3) (T := TX4) (N := 2) C0 w (m_X4_cellsOutsideBounds l B _ (setI (setI q11 1 2 x1) 1 3 x2) q13 h14) ky_X4_cellsOutsideBounds kv_X4_cellsOutsideBounds lk_X11_136 rfl (by decide +kernel) ⟨Nat.le_of_ble_eq_true rfl, Nat.le_of_ble_eq_true rfl⟩ ⟨Nat.le_of_ble_eq_true rfl, Nat.le_of_ble_eq_true rfl⟩ rfl (by rfl) (Nat.le_of_ble_eq_true rfl) hl.1 dX11_setBounds_44 (fun H locs w => ?_)
      exact nomatch (Prod.mk.inj (Option.some.inj hf)).1
    · subst h10
      have h8 := h8.symm
      subst h8
      refine cST (As := [.int x1, .int 1, .int x2]) (rest := []) C0 w (t_X11_needRange l hfl B _ σ x1 1 x2 _ h7) ky_X11_needRange ks_X11_needRange lk_X11_93 ⟨Nat.le_of_ble_eq_true rfl, Nat.le_of_ble_eq_true rfl⟩ ⟨Nat.le_of_ble_eq_true rfl, Nat.le_of_ble_eq_true rfl⟩ rfl (by rfl) (Nat.le_of_ble_eq_true rfl) hl.1 dX11_setBounds_10 (fun ce q9 H locs w g1 g2 g3 => ?_)
      exact xOut C0 hto w g1 g2 g3 (Nat.le_of_ble_eq_true rfl) (Nat.le_of_ble_eq_true rfl)
  · subst h5
    have h8 := h8.symm
    subst h8
    refine cST (As := [.int x2, .int 1, .int 100000]) (rest := []) C0 w (t_X11_needRange l hfl B _ σ x2 1 100000 _ h2) ky_X11_needRange ks_X11_needRange lk_X11_93 ⟨Nat.le_of_ble_eq_true rfl, Nat.le_of_ble_eq_true rfl⟩ ⟨Nat.le_of_ble_eq_true rfl, Nat.le_of_ble_eq_true rfl⟩ rfl (by rfl) (Nat.le_of_ble_eq_true rfl) hl.1 dX11_setBounds_4 (fun ce q9 H locs w g1 g2 g3 => ?_)
    exact xOut C0 hto w g1 g2 g3 (Nat.le_of_ble_eq_true rfl) (Nat.le_of_ble_eq_true rfl)
def f_X11_isRow (x1 : Int32) (σ : Mem) : Option (Int32) :=
  bd (f_X11_isWithin x1 0 ((σ.1 1 1) - 1) σ) (fun q1 =>
  gd (bz q1) (some q1))
abbrev rm_X11_isRow : Room := { frames := 1, cells := 0, slots := 0, locals := 22 }
set_option maxHeartbeats 4000000 in
set_option maxRecDepth 100000 in
theorem m_X11_isRow (l : Launch) (B : Wb) (sz : Nat) (σ : Mem) (x1 : Int32) (q : Int32) (hf : f_X11_isRow x1 σ = some q) : MetC l yX11_isRow cX11_isRow 2 (some .boolean) rm_X11_isRow B sz σ σ [.ref (wA B 0), .int x1] (some (.int q)) := by
  refine met_in (by decide +kernel) (Nat.le_of_ble_eq_true rfl) ?_
  intro p e s m below meth c C0 hr w hsz ls hl
  have hx := C0.1.1
  have hb := C0.1.2.1
  unfold f_X11_isRow at hf
  refine lv_iload_n hx hb dX11_isRow_0 rfl (lv_at hl 1 rfl) ?_
  refine lv_iconst (v := 0) hx hb dX11_isRow_1 (by decide) ?_
  refine lv_aload_n hx hb dX11_isRow_2 rfl (lv_at hl 0 rfl) ?_
  refine gR C0 w 1 fk_X11_10 (by decide +kernel) dX11_isRow_3 ?_
  refine gI C0 w fk_X11_86 (by decide +kernel) dX11_isRow_6 ?_
  refine lv_iconst (v := 1) hx hb dX11_isRow_9 (by decide) ?_
  refine lv_isub hx hb dX11_isRow_10 ?_
  obtain ⟨q1, h2, hf⟩ := bdE hf
  refine cS (As := [.int x1, .int 0, .int ((σ.1 1 1) - 1)]) (rest := []) C0 w (m_X11_isWithin l B _ σ x1 0 ((σ.1 1 1) - 1) q1 h2) ky_X11_isWithin ks_X11_isWithin lk_X11_324 ⟨Nat.le_of_ble_eq_true rfl, Nat.le_of_ble_eq_true rfl⟩ ⟨Nat.le_of_ble_eq_true rfl, Nat.le_of_ble_eq_true rfl⟩ rfl (by rfl) (Nat.le_of_ble_eq_true rfl) hl.1 dX11_isRow_11 (fun H locs w => ?_)
  obtain ⟨g3, hf⟩ := gdE hf
  obtain rfl := Option.some.inj hf
  exact eI C0 hr w (bzE g3) dX11_isRow_14
def f_X11_needRow (x1 : Int32) (σ : Mem) : Option (Unit ⊕ String) :=
  bd (f_X11_isRow x1 σ) (fun q1 =>
  if q1 = 0 then (
    some (.inr xIO))
  else (
    some (.inl (()))))
abbrev rm_X11_needRow : Room := { frames := 2, cells := 0, slots := 0, locals := 43 }
abbrev rmt_X11_needRow : Room := { frames := 6, cells := 1, slots := 6, locals := 90 }
set_option maxHeartbeats 4000000 in
set_option maxRecDepth 100000 in
theorem m_X11_needRow (l : Launch) (B : Wb) (sz : Nat) (σ : Mem) (x1 : Int32) (v : Unit) (hf : f_X11_needRow x1 σ = some (.inl v)) : MetC l yX11_needRow cX11_needRow 2 none rm_X11_needRow B sz σ σ [.ref (wA B 0), .int x1] (none) := by
  refine met_in (by decide +kernel) (Nat.le_of_ble_eq_true rfl) ?_
  intro p e s m below meth c C0 hr w hsz ls hl
  have hx := C0.1.1
  have hb := C0.1.2.1
  unfold f_X11_needRow at hf
  refine lv_aload_n hx hb dX11_needRow_0 rfl (lv_at hl 0 rfl) ?_
  refine lv_iload_n hx hb dX11_needRow_1 rfl (lv_at hl 1 rfl) ?_
  obtain ⟨q1, h2, hf⟩ := bdE hf
  refine cV (As := [.int x1]) (rest := []) (k := 0) (ci := 9) (T := TX11) (N := 9) C0 w (m_X11_isRow l B _ σ x1 q1 h2) ky_X11_isRow kv_X11_isRow lk_X11_338 rfl (by decide +kernel) ⟨Nat.le_of_ble_eq_true rfl, Nat.le_of_ble_eq_true rfl⟩ ⟨Nat.le_of_ble_eq_true rfl, Nat.le_of_ble_eq_true rfl⟩ rfl (by rfl) (Nat.le_of_ble_eq_true rfl) hl.1 dX11_needRow_2 (fun H locs w => ?_)
  refine lv_if_ne (tgt := 19) hx hb dX11_needRow_5 (by decide) (fun c3 => ?_) (fun c3 => ?_)
  · rw [if_neg c3] at hf
    obtain rfl := Sum.inl.inj (Option.some.inj hf)
    exact eV C0 hr w dX11_needRow_19
  · rw [if_pos c3] at hf
    exact nomatch Option.some.inj hf
set_option maxHeartbeats 4000000 in
set_option maxRecDepth 100000 in
theorem t_X11_needRow (l : Launch) (hfl : l.stackTraces = false) (B : Wb) (sz : Nat) (σ : Mem) (x1 : Int32) (E : String) (hf : f_X11_needRow x1 σ = some (.inr E)) : MetT l yX11_needRow cX11_needRow 2 none rmt_X11_needRow B sz σ σ [.ref (wA B 0), .int x1] E := by
  refine metT_in (by decide +kernel) (Nat.le_of_ble_eq_true rfl) ?_
  intro p e s m below meth c C0 hto w hsz ls hl
  have hx := C0.1.1
  have hb := C0.1.2.1
  unfold f_X11_needRow at hf
  refine lv_aload_n hx hb dX11_needRow_0 rfl (lv_at hl 0 rfl) ?_
  refine lv_iload_n hx hb dX11_needRow_1 rfl (lv_at hl 1 rfl) ?_
  obtain ⟨q1, h2, hf⟩ := bdE hf
  refine cV (As := [.int x1]) (rest := []) (k := 0) (ci := 9) (T := TX11) (N := 9) C0 w (m_X11_isRow l B _ σ x1 q1 h2) ky_X11_isRow kv_X11_isRow lk_X11_338 rfl (by decide +kernel) ⟨Nat.le_of_ble_eq_true rfl, Nat.le_of_ble_eq_true rfl⟩ ⟨Nat.le_of_ble_eq_true rfl, Nat.le_of_ble_eq_true rfl⟩ rfl (by rfl) (Nat.le_of_ble_eq_true rfl) hl.1 dX11_needRow_2 (fun H locs w => ?_)
  refine lv_if_ne (tgt := 19) hx hb dX11_needRow_5 (by decide) (fun c3 => ?_) (fun c3 => ?_)
  · rw [if_neg c3] at hf
    exact nomatch Option.some.inj hf
  · rw [if_pos c3] at hf
    obtain rfl := Sum.inr.inj (Option.some.inj hf)
    exact xThrowW C0 hfl hto w xk_X11_341_337 hl.1 dX11_needRow_8 dX11_needRow_11 dX11_needRow_12 dX11_needRow_15 dX11_needRow_18 (Nat.le_of_ble_eq_true rfl) (Nat.le_of_ble_eq_true rfl) (Nat.le_of_ble_eq_true rfl) (Nat.le_of_ble_eq_true rfl) (Nat.le_of_ble_eq_true rfl) (Nat.le_of_ble_eq_true rfl)
def f_X11_hasRoomForRay (σ : Mem) : Option (Int32) :=
  if 16 ≤ (σ.1 1 7) then (
    some 0)
  else (
    some 1)
abbrev rm_X11_hasRoomForRay : Room := { frames := 0, cells := 0, slots := 0, locals := 0 }
set_option maxHeartbeats 4000000 in
set_option maxRecDepth 100000 in
theorem m_X11_hasRoomForRay (l : Launch) (B : Wb) (sz : Nat) (σ : Mem) (q : Int32) (hf : f_X11_hasRoomForRay σ = some q) : MetC l yX11_hasRoomForRay cX11_hasRoomForRay 1 (some .boolean) rm_X11_hasRoomForRay B sz σ σ [.ref (wA B 0)] (some (.int q)) := by
  refine met_in (by decide +kernel) (Nat.le_of_ble_eq_true rfl) ?_
  intro p e s m below meth c C0 hr w hsz ls hl
  have hx := C0.1.1
  have hb := C0.1.2.1
  unfold f_X11_hasRoomForRay at hf
  refine lv_aload_n hx hb dX11_hasRoomForRay_0 rfl (lv_at hl 0 rfl) ?_
  refine gR C0 w 1 fk_X11_10 (by decide +kernel) dX11_hasRoomForRay_1 ?_
  refine gI C0 w fk_X11_153 (by decide +kernel) dX11_hasRoomForRay_4 ?_
  refine lv_bipush (v := 16) hx hb dX11_hasRoomForRay_7 (by decide) ?_
  refine lv_icmp_ge (tgt := 16) hx hb dX11_hasRoomForRay_9 (by decide) (fun c1 => ?_) (fun c1 => ?_)
  · rw [if_pos c1] at hf
    refine lv_iconst (v := 0) hx hb dX11_hasRoomForRay_16 (by decide) ?_
    obtain rfl := Option.some.inj hf
    exact eI C0 hr w (bzE (x := 0) (by decide)) dX11_hasRoomForRay_17
  · rw [if_neg c1] at hf
    refine lv_iconst (v := 1) hx hb dX11_hasRoomForRay_12 (by decide) ?_
    refine lv_goto (tgt := 17) hx hb dX11_hasRoomForRay_13 (by decide) ?_
    obtain rfl := Option.some.inj hf
    exact eI C0 hr w (bzE (x := 1) (by decide)) dX11_hasRoomForRay_17
def f_X11_appendRay (x1 : Int32) (x2 : Int32) (σ : Mem) : Option (Mem) :=
  gd (inb (σ.1 1 7) 16) (
  gd (inb (σ.1 1 7) 16) (
  gd (inb (σ.1 1 7) 16) (
  gd (inb (σ.1 1 7) 16) (
  bd (some (setI (setL (setI (setI σ 4 ((σ.1 1 7).toNatClampNeg) x1) 5 ((σ.1 1 7).toNatClampNeg) x2) 6 ((σ.1 1 7).toNatClampNeg) ((-1 : Int64))) 7 ((σ.1 1 7).toNatClampNeg) 1)) (fun q5 =>
  bd (f_X9_forgetAll (setI q5 1 7 ((σ.1 1 7) + 1))) (fun q7 =>
  some q7))))))
abbrev rm_X11_appendRay : Room := { frames := 1, cells := 0, slots := 0, locals := 21 }
set_option maxHeartbeats 4000000 in
set_option maxRecDepth 100000 in
theorem m_X11_appendRay (l : Launch) (B : Wb) (sz : Nat) (σ : Mem) (x1 : Int32) (x2 : Int32) (q : Mem) (hf : f_X11_appendRay x1 x2 σ = some q) : MetC l yX11_appendRay cX11_appendRay 4 none rm_X11_appendRay B sz σ q [.ref (wA B 0), .int x1, .int x2] (none) := by
  refine met_in (by decide +kernel) (Nat.le_of_ble_eq_true rfl) ?_
  intro p e s m below meth c C0 hr w hsz ls hl
  have hx := C0.1.1
  have hb := C0.1.2.1
  unfold f_X11_appendRay at hf
  refine lv_aload_n hx hb dX11_appendRay_0 rfl (lv_at hl 0 rfl) ?_
  refine gR C0 w 1 fk_X11_10 (by decide +kernel) dX11_appendRay_1 ?_
  refine gI C0 w fk_X11_153 (by decide +kernel) dX11_appendRay_4 ?_
  refine lv_istore_n (lv' := [(3, .int (σ.1 1 7)), (0, .ref (wA B 0)), (1, .int x1), (2, .int x2)]) hx hb dX11_appendRay_7 rfl hl (by decide) rfl (fun ls hl => ?_)
  refine lv_aload_n hx hb dX11_appendRay_8 rfl (lv_at hl 1 rfl) ?_
  refine gR C0 w 1 fk_X11_10 (by decide +kernel) dX11_appendRay_9 ?_
  refine gR C0 w 4 fk_X11_212 (by decide +kernel) dX11_appendRay_12 ?_
  refine lv_iload_n hx hb dX11_appendRay_15 rfl (lv_at hl 0 rfl) ?_
  refine lv_iload_n hx hb dX11_appendRay_16 rfl (lv_at hl 2 rfl) ?_
  obtain ⟨g1, hf⟩ := gdE hf
  refine sI C0 w (n := 16) (by decide +kernel) (inbE g1) dX11_appendRay_17 (fun H locs w => ?_)
  refine lv_aload_n hx hb dX11_appendRay_18 rfl (lv_at hl 1 rfl) ?_
  refine gR C0 w 1 fk_X11_10 (by decide +kernel) dX11_appendRay_19 ?_
  refine gR C0 w 5 fk_X11_215 (by decide +kernel) dX11_appendRay_22 ?_
  refine lv_iload_n hx hb dX11_appendRay_25 rfl (lv_at hl 0 rfl) ?_
  refine lv_iload_n hx hb dX11_appendRay_26 rfl (lv_at hl 3 rfl) ?_
  obtain ⟨g2, hf⟩ := gdE hf
  refine sI C0 w (n := 16) (by decide +kernel) (inbE g2) dX11_appendRay_27 (fun H locs w => ?_)
  refine lv_aload_n hx hb dX11_appendRay_28 rfl (lv_at hl 1 rfl) ?_
  refine gR C0 w 1 fk_X11_10 (by decide +kernel) dX11_appendRay_29 ?_
  refine gR C0 w 6 fk_X11_178 (by decide +kernel) dX11_appendRay_32 ?_
  refine lv_iload_n hx hb dX11_appendRay_35 rfl (lv_at hl 0 rfl) ?_
  refine kLg C0 (-1) kc_X11_169 dX11_appendRay_36 ?_
  obtain ⟨g3, hf⟩ := gdE hf
  refine sL C0 w (n := 16) (by decide +kernel) (inbE g3) dX11_appendRay_39 (fun H locs w => ?_)
  refine lv_aload_n hx hb dX11_appendRay_40 rfl (lv_at hl 1 rfl) ?_
  refine gR C0 w 1 fk_X11_10 (by decide +kernel) dX11_appendRay_41 ?_
  refine gR C0 w 7 fk_X11_162 (by decide +kernel) dX11_appendRay_44 ?_
  refine lv_iload_n hx hb dX11_appendRay_47 rfl (lv_at hl 0 rfl) ?_
  refine lv_iconst (v := 1) hx hb dX11_appendRay_48 (by decide) ?_
  obtain ⟨g4, hf⟩ := gdE hf
  refine sZ C0 w (n := 16) (by decide +kernel) (inbE g4) (bzV (by decide)) dX11_appendRay_49 (fun H locs w => ?_)
  obtain ⟨q5, h6, hf⟩ := bdE hf
  have w : Wx B q5 s H locs := by rw [← Option.some.inj h6]; exact w
  refine lv_aload_n hx hb dX11_appendRay_50 rfl (lv_at hl 1 rfl) ?_
  refine gR C0 w 1 fk_X11_10 (by decide +kernel) dX11_appendRay_51 ?_
  refine lv_iload_n hx hb dX11_appendRay_54 rfl (lv_at hl 0 rfl) ?_
  refine lv_iconst (v := 1) hx hb dX11_appendRay_55 (by decide) ?_
  refine lv_iadd hx hb dX11_appendRay_56 ?_
  refine pI C0 w fk_X11_153 fp_X7_7 (by decide +kernel) dX11_appendRay_57 (fun H locs w => ?_)
  refine lv_aload_n hx hb dX11_appendRay_60 rfl (lv_at hl 1 rfl) ?_
  refine gR C0 w 143 fk_X11_37 (by decide +kernel) dX11_appendRay_61 ?_
  obtain ⟨q7, h8, hf⟩ := bdE hf
  refine cV (As := []) (rest := []) (k := 143) (ci := 8) (T := TX9) (N := 9) C0 w (m_X9_forgetAll l B _ (setI q5 1 7 ((σ.1 1 7) + 1)) q7 h8) ky_X9_forgetAll kv_X9_forgetAll lk_X11_350 rfl (by decide +kernel) ⟨Nat.le_of_ble_eq_true rfl, Nat.le_of_ble_eq_true rfl⟩ ⟨Nat.le_of_ble_eq_true rfl, Nat.le_of_ble_eq_true rfl⟩ rfl (by rfl) (Nat.le_of_ble_eq_true rfl) hl.1 dX11_appendRay_64 (fun H locs w => ?_)
  obtain rfl := Option.some.inj hf
  exact eV C0 hr w dX11_appendRay_67
def f_X11_addRay (x1 : Int32) (x2 : Int32) (σ : Mem) : Option ((Int32 ⊕ String) × Mem) :=
  bd (f_X11_needRow x1 σ) (fun q1 =>
  xm q1 σ (fun v3 =>
  bd (f_X11_needRow x2 σ) (fun q6 =>
  xm q6 σ (fun v8 =>
  bd (f_X11_hasRoomForRay σ) (fun q11 =>
  if q11 = 0 then (
    some (.inr xIS, σ))
  else (
    bd (f_X3_save 1 σ) (fun q14 =>
    bd (f_X11_appendRay x1 x2 q14) (fun q16 =>
    some (.inl (q14.1 1 7), q16)))))))))
abbrev rm_X11_addRay : Room := { frames := 3, cells := 0, slots := 0, locals := 91 }
abbrev rmt_X11_addRay : Room := { frames := 7, cells := 1, slots := 6, locals := 111 }
set_option maxHeartbeats 4000000 in
set_option maxRecDepth 100000 in
theorem m_X11_addRay (l : Launch) (B : Wb) (sz : Nat) (σ : Mem) (x1 : Int32) (x2 : Int32) (v : Int32) (σ9 : Mem) (hf : f_X11_addRay x1 x2 σ = some (.inl v, σ9)) : MetC l yX11_addRay cX11_addRay 4 (some .int) rm_X11_addRay B sz σ σ9 [.ref (wA B 0), .int x1, .int x2] (some (.int v)) := by
  refine met_in (by decide +kernel) (Nat.le_of_ble_eq_true rfl) ?_
  intro p e s m below meth c C0 hr w hsz ls hl
  have hx := C0.1.1
  have hb := C0.1.2.1
  unfold f_X11_addRay at hf
  refine lv_aload_n hx hb dX11_addRay_0 rfl (lv_at hl 0 rfl) ?_
  refine lv_iload_n hx hb dX11_addRay_1 rfl (lv_at hl 1 rfl) ?_
  obtain ⟨q1, h2, hf⟩ := bdE hf
  obtain ⟨v3, h5, hf⟩ := xmE1 hf
  subst h5
  refine cV (As := [.int x1]) (rest := []) (k := 0) (ci := 9) (T := TX11) (N := 9) C0 w (m_X11_needRow l B _ σ x1 v3 h2) ky_X11_needRow kv_X11_needRow lk_X11_139 rfl (by decide +kernel) ⟨Nat.le_of_ble_eq_true rfl, Nat.le_of_ble_eq_true rfl⟩ ⟨Nat.le_of_ble_eq_true rfl, Nat.le_of_ble_eq_true rfl⟩ rfl (by rfl) (Nat.le_of_ble_eq_true rfl) hl.1 dX11_addRay_2 (fun H locs w => ?_)
  refine lv_aload_n hx hb dX11_addRay_5 rfl (lv_at hl 0 rfl) ?_
  refine lv_iload_n hx hb dX11_addRay_6 rfl (lv_at hl 2 rfl) ?_
  obtain ⟨q6, h7, hf⟩ := bdE hf
  obtain ⟨v8, h10, hf⟩ := xmE1 hf
  subst h10
  refine cV (As := [.int x2]) (rest := []) (k := 0) (ci := 9) (T := TX11) (N := 9) C0 w (m_X11_needRow l B _ σ x2 v8 h7) ky_X11_needRow kv_X11_needRow lk_X11_139 rfl (by decide +kernel) ⟨Nat.le_of_ble_eq_true rfl, Nat.le_of_ble_eq_true rfl⟩ ⟨Nat.le_of_ble_eq_true rfl, Nat.le_of_ble_eq_true rfl⟩ rfl (by rfl) (Nat.le_of_ble_eq_true rfl) hl.1 dX11_addRay_7 (fun H locs w => ?_)
  refine lv_aload_n hx hb dX11_addRay_10 rfl (lv_at hl 0 rfl) ?_
  obtain ⟨q11, h12, hf⟩ := bdE hf
  refine cV (As := []) (rest := []) (k := 0) (ci := 9) (T := TX11) (N := 9) C0 w (m_X11_hasRoomForRay l B _ σ q11 h12) ky_X11_hasRoomForRay kv_X11_hasRoomForRay lk_X11_142 rfl (by decide +kernel) ⟨Nat.le_of_ble_eq_true rfl, Nat.le_of_ble_eq_true rfl⟩ ⟨Nat.le_of_ble_eq_true rfl, Nat.le_of_ble_eq_true rfl⟩ rfl (by rfl) (Nat.le_of_ble_eq_true rfl) hl.1 dX11_addRay_11 (fun H locs w => ?_)
  refine lv_if_ne (tgt := 27) hx hb dX11_addRay_14 (by decide) (fun c13 => ?_) (fun c13 => ?_)
  · rw [if_neg c13] at hf
    refine lv_aload_n hx hb dX11_addRay_27 rfl (lv_at hl 0 rfl) ?_
    refine gR C0 w 189 fk_X11_71 (by decide +kernel) dX11_addRay_28 ?_
    refine lv_aload_n hx hb dX11_addRay_31 rfl (lv_at hl 0 rfl) ?_
    refine gR C0 w 1 fk_X11_10 (by decide +kernel) dX11_addRay_32 ?_
    obtain ⟨q14, h15, hf⟩ := bdE hf
    refine cV (As := [.ref (wA B 1)]) (rest := []) (k := 189) (ci := 2) (T := TX3) (N := 3) C0 w (m_X3_save l B _ σ 1 q14 h15) ky_X3_save kv_X3_save lk_X11_97 rfl (by decide +kernel) ⟨Nat.le_of_ble_eq_true rfl, Nat.le_of_ble_eq_true rfl⟩ ⟨Nat.le_of_ble_eq_true rfl, Nat.le_of_ble_eq_true rfl⟩ rfl (by rfl) (Nat.le_of_ble_eq_true rfl) hl.1 dX11_addRay_35 (fun H locs w => ?_)
    refine lv_aload_n hx hb dX11_addRay_38 rfl (lv_at hl 0 rfl) ?_
    refine gR C0 w 1 fk_X11_10 (by decide +kernel) dX11_addRay_39 ?_
    refine gI C0 w fk_X11_153 (by decide +kernel) dX11_addRay_42 ?_
    refine lv_istore_n (lv' := [(3, .int (q14.1 1 7)), (0, .ref (wA B 0)), (1, .int x1), (2, .int x2)]) hx hb dX11_addRay_45 rfl hl (by decide) rfl (fun ls hl => ?_)
    refine lv_aload_n hx hb dX11_addRay_46 rfl (lv_at hl 1 rfl) ?_
    refine lv_iload_n hx hb dX11_addRay_47 rfl (lv_at hl 2 rfl) ?_
    refine lv_iload_n hx hb dX11_addRay_48 rfl (lv_at hl 3 rfl) ?_
    obtain ⟨q16, h17, hf⟩ := bdE hf
    refine cV (As := [.int x1, .int x2]) (rest := []) (k := 0) (ci := 9) (T := TX11) (N := 9) C0 w (m_X11_appendRay l B _ q14 x1 x2 q16 h17) ky_X11_appendRay kv_X11_appendRay lk_X11_156 rfl (by decide +kernel) ⟨Nat.le_of_ble_eq_true rfl, Nat.le_of_ble_eq_true rfl⟩ ⟨Nat.le_of_ble_eq_true rfl, Nat.le_of_ble_eq_true rfl⟩ rfl (by rfl) (Nat.le_of_ble_eq_true rfl) hl.1 dX11_addRay_49 (fun H locs w => ?_)
    refine lv_iload_n hx hb dX11_addRay_52 rfl (lv_at hl 0 rfl) ?_
    obtain ⟨h8, h9⟩ := Prod.mk.inj (Option.some.inj hf)
    obtain rfl := Sum.inl.inj h8
    subst h9
    exact eI C0 hr w rfl dX11_addRay_53
  · rw [if_pos c13] at hf
    exact nomatch (Prod.mk.inj (Option.some.inj hf)).1
set_option maxHeartbeats 4000000 in
set_option maxRecDepth 100000 in
theorem t_X11_addRay (l : Launch) (hfl : l.stackTraces = false) (B : Wb) (sz : Nat) (σ : Mem) (x1 : Int32) (x2 : Int32) (E : String) (σ9 : Mem) (hf : f_X11_addRay x1 x2 σ = some (.inr E, σ9)) : MetT l yX11_addRay cX11_addRay 4 (some .int) rmt_X11_addRay B sz σ σ9 [.ref (wA B 0), .int x1, .int x2] E := by
  refine metT_in (by decide +kernel) (Nat.le_of_ble_eq_true rfl) ?_
  intro p e s m below meth c C0 hto w hsz ls hl
  have hx := C0.1.1
  have hb := C0.1.2.1
  unfold f_X11_addRay at hf
  refine lv_aload_n hx hb dX11_addRay_0 rfl (lv_at hl 0 rfl) ?_
  refine lv_iload_n hx hb dX11_addRay_1 rfl (lv_at hl 1 rfl) ?_
  obtain ⟨q1, h2, hf⟩ := bdE hf
  rcases xmE2 hf with ⟨v3, h5, hf⟩ | ⟨h5, h8⟩
  · subst h5
    refine cV (As := [.int x1]) (rest := []) (k := 0) (ci := 9) (T := TX11) (N := 9) C0 w (m_X11_needRow l B _ σ x1 v3 h2) ky_X11_needRow kv_X11_needRow lk_X11_139 rfl (by decide +kernel) ⟨Nat.le_of_ble_eq_true rfl, Nat.le_of_ble_eq_true rfl⟩ ⟨Nat.le_of_ble_eq_true rfl, Nat.le_of_ble_eq_true rfl⟩ rfl (by rfl) (Nat.le_of_ble_eq_true rfl) hl.1 dX11_addRay_2 (fun H locs w => ?_)
    refine lv_aload_n hx hb dX11_addRay_5 rfl (lv_at hl 0 rfl) ?_
    refine lv_iload_n hx hb dX11_addRay_6 rfl (lv_at hl 2 rfl) ?_
    obtain ⟨q6, h7, hf⟩ := bdE hf
    rcases xmE2 hf with ⟨v8, h10, hf⟩ | ⟨h10, h8⟩
    · subst h10
      refine cV (As := [.int x2]) (rest := []) (k := 0) (ci := 9) (T := TX11) (N := 9) C0 w (m_X11_needRow l B _ σ x2 v8 h7) ky_X11_needRow kv_X11_needRow lk_X11_139 rfl (by decide +kernel) ⟨Nat.le_of_ble_eq_true rfl, Nat.le_of_ble_eq_true rfl⟩ ⟨Nat.le_of_ble_eq_true rfl, Nat.le_of_ble_eq_true rfl⟩ rfl (by rfl) (Nat.le_of_ble_eq_true rfl) hl.1 dX11_addRay_7 (fun H locs w => ?_)
      refine lv_aload_n hx hb dX11_addRay_10 rfl (lv_at hl 0 rfl) ?_
      obtain ⟨q11, h12, hf⟩ := bdE hf
      refine cV (As := []) (rest := []) (k := 0) (ci := 9) (T := TX11) (N := 9) C0 w (m_X11_hasRoomForRay l B _ σ q11 h12) ky_X11_hasRoomForRay kv_X11_hasRoomForRay lk_X11_142 rfl (by decide +kernel) ⟨Nat.le_of_ble_eq_true rfl, Nat.le_of_ble_eq_true rfl⟩ ⟨Nat.le_of_ble_eq_true rfl, Nat.le_of_ble_eq_true rfl⟩ rfl (by rfl) (Nat.le_of_ble_eq_true rfl) hl.1 dX11_addRay_11 (fun H locs w => ?_)
      refine lv_if_ne (tgt := 27) hx hb dX11_addRay_14 (by decide) (fun c13 => ?_) (fun c13 => ?_)
      · rw [if_neg c13] at hf
        refine lv_aload_n hx hb dX11_addRay_27 rfl (lv_at hl 0 rfl) ?_
        refine gR C0 w 189 fk_X11_71 (by decide +kernel) dX11_addRay_28 ?_
        refine lv_aload_n hx hb dX11_addRay_31 rfl (lv_at hl 0 rfl) ?_
        refine gR C0 w 1 fk_X11_10 (by decide +kernel) dX11_addRay_32 ?_
        obtain ⟨q14, h15, hf⟩ := bdE hf
        refine cV (As := [.ref (wA B 1)]) (rest := []) (k := 189) (ci := 2) (T := TX3) (N := 3) C0 w (m_X3_save l B _ σ 1 q14 h15) ky_X3_save kv_X3_save lk_X11_97 rfl (by decide +kernel) ⟨Nat.le_of_ble_eq_true rfl, Nat.le_of_ble_eq_true rfl⟩ ⟨Nat.le_of_ble_eq_true rfl, Nat.le_of_ble_eq_true rfl⟩ rfl (by rfl) (Nat.le_of_ble_eq_true rfl) hl.1 dX11_addRay_35 (fun H locs w => ?_)
        refine lv_aload_n hx hb dX11_addRay_38 rfl (lv_at hl 0 rfl) ?_
        refine gR C0 w 1 fk_X11_10 (by decide +kernel) dX11_addRay_39 ?_
        refine gI C0 w fk_X11_153 (by decide +kernel) dX11_addRay_42 ?_
        refine lv_istore_n (lv' := [(3, .int (q14.1 1 7)), (0, .ref (wA B 0)), (1, .int x1), (2, .int x2)]) hx hb dX11_addRay_45 rfl hl (by decide) rfl (fun ls hl => ?_)
        refine lv_aload_n hx hb dX11_addRay_46 rfl (lv_at hl 1 rfl) ?_
        refine lv_iload_n hx hb dX11_addRay_47 rfl (lv_at hl 2 rfl) ?_
        refine lv_iload_n hx hb dX11_addRay_48 rfl (lv_at hl 3 rfl) ?_
        obtain ⟨q16, h17, hf⟩ := bdE hf
        refine cV (As := [.int x1, .int x2]) (rest := []) (k := 0) (ci := 9) (T := TX11) (N := 9) C0 w (m_X11_appendRay l B _ q14 x1 x2 q16 h17) ky_X11_appendRay kv_X11_appendRay lk_X11_156 rfl (by decide +kernel) ⟨Nat.le_of_ble_eq_true rfl, Nat.le_of_ble_eq_true rfl⟩ ⟨Nat.le_of_ble_eq_true rfl, Nat.le_of_ble_eq_true rfl⟩ rfl (by rfl) (Nat.le_of_ble_eq_true rfl) hl.1 dX11_addRay_49 (fun H locs w => ?_)
        refine lv_iload_n hx hb dX11_addRay_52 rfl (lv_at hl 0 rfl) ?_
        exact nomatch (Prod.mk.inj (Option.some.inj hf)).1
      · rw [if_pos c13] at hf
        obtain ⟨h8, h9⟩ := Prod.mk.inj (Option.some.inj hf)
        obtain rfl := Sum.inr.inj h8
        subst h9
        exact xThrow C0 hfl hto w xk_X11_148_150 hl.1 dX11_addRay_17 dX11_addRay_20 dX11_addRay_21 dX11_addRay_23 dX11_addRay_26 (Nat.le_of_ble_eq_true rfl) (Nat.le_of_ble_eq_true rfl) (Nat.le_of_ble_eq_true rfl) (Nat.le_of_ble_eq_true rfl) (Nat.le_of_ble_eq_true rfl) (Nat.le_of_ble_eq_true rfl)
    · subst h10
      have h8 := h8.symm
      subst h8
      refine cVT (As := [.int x2]) (rest := []) (k := 0) (ci := 9) (T := TX11) (N := 9) C0 w (t_X11_needRow l hfl B _ σ x2 _ h7) ky_X11_needRow kv_X11_needRow lk_X11_139 rfl (by decide +kernel) ⟨Nat.le_of_ble_eq_true rfl, Nat.le_of_ble_eq_true rfl⟩ ⟨Nat.le_of_ble_eq_true rfl, Nat.le_of_ble_eq_true rfl⟩ rfl (by rfl) (Nat.le_of_ble_eq_true rfl) hl.1 dX11_addRay_7 (fun ce q9 H locs w g1 g2 g3 => ?_)
      exact xOut C0 hto w g1 g2 g3 (Nat.le_of_ble_eq_true rfl) (Nat.le_of_ble_eq_true rfl)
  · subst h5
    have h8 := h8.symm
    subst h8
    refine cVT (As := [.int x1]) (rest := []) (k := 0) (ci := 9) (T := TX11) (N := 9) C0 w (t_X11_needRow l hfl B _ σ x1 _ h2) ky_X11_needRow kv_X11_needRow lk_X11_139 rfl (by decide +kernel) ⟨Nat.le_of_ble_eq_true rfl, Nat.le_of_ble_eq_true rfl⟩ ⟨Nat.le_of_ble_eq_true rfl, Nat.le_of_ble_eq_true rfl⟩ rfl (by rfl) (Nat.le_of_ble_eq_true rfl) hl.1 dX11_addRay_2 (fun ce q9 H locs w g1 g2 g3 => ?_)
    exact xOut C0 hto w g1 g2 g3 (Nat.le_of_ble_eq_true rfl) (Nat.le_of_ble_eq_true rfl)
