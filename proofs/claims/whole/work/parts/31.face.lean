def f_X11_isRay (x1 : Int32) (σ : Mem) : Option (Int32) :=
  bd (f_X11_isWithin x1 0 ((σ.1 1 7) - 1) σ) (fun q1 =>
  gd (bz q1) (some q1))
abbrev rm_X11_isRay : Room := { frames := 1, cells := 0, slots := 0, locals := 22 }
set_option maxHeartbeats 4000000 in
set_option maxRecDepth 100000 in
theorem m_X11_isRay (l : Launch) (B : Wb) (sz : Nat) (σ : Mem) (x1 : Int32) (q : Int32) (hf : f_X11_isRay x1 σ = some q) : MetC l yX11_isRay cX11_isRay 2 (some .boolean) rm_X11_isRay B sz σ σ [.ref (wA B 0), .int x1] (some (.int q)) := by
  refine met_in (by decide +kernel) (Nat.le_of_ble_eq_true rfl) ?_
  intro p e s m below meth c C0 hr w hsz ls hl
  have hx := C0.1.1
  have hb := C0.1.2.1
  unfold f_X11_isRay at hf
  refine lv_iload_n hx hb dX11_isRay_0 rfl (lv_at hl 1 rfl) ?_
  refine lv_iconst (v := 0) hx hb dX11_isRay_1 (by decide) ?_
  refine lv_aload_n hx hb dX11_isRay_2 rfl (lv_at hl 0 rfl) ?_
  refine gR C0 w 1 fk_X11_10 (by decide +kernel) dX11_isRay_3 ?_
  refine gI C0 w fk_X11_153 (by decide +kernel) dX11_isRay_6 ?_
  refine lv_iconst (v := 1) hx hb dX11_isRay_9 (by decide) ?_
  refine lv_isub hx hb dX11_isRay_10 ?_
  obtain ⟨q1, h2, hf⟩ := bdE hf
  refine cS (As := [.int x1, .int 0, .int ((σ.1 1 7) - 1)]) (rest := []) C0 w (m_X11_isWithin l B _ σ x1 0 ((σ.1 1 7) - 1) q1 h2) ky_X11_isWithin ks_X11_isWithin lk_X11_324 ⟨Nat.le_of_ble_eq_true rfl, Nat.le_of_ble_eq_true rfl⟩ ⟨Nat.le_of_ble_eq_true rfl, Nat.le_of_ble_eq_true rfl⟩ rfl (by rfl) (Nat.le_of_ble_eq_true rfl) hl.1 dX11_isRay_11 (fun H locs w => ?_)
  obtain ⟨g3, hf⟩ := gdE hf
  obtain rfl := Option.some.inj hf
  exact eI C0 hr w (bzE g3) dX11_isRay_14
def f_X11_needRay (x1 : Int32) (σ : Mem) : Option (Unit ⊕ String) :=
  bd (f_X11_isRay x1 σ) (fun q1 =>
  if q1 = 0 then (
    some (.inr xIO))
  else (
    some (.inl (()))))
abbrev rm_X11_needRay : Room := { frames := 2, cells := 0, slots := 0, locals := 43 }
abbrev rmt_X11_needRay : Room := { frames := 6, cells := 1, slots := 6, locals := 90 }
set_option maxHeartbeats 4000000 in
set_option maxRecDepth 100000 in
theorem m_X11_needRay (l : Launch) (B : Wb) (sz : Nat) (σ : Mem) (x1 : Int32) (v : Unit) (hf : f_X11_needRay x1 σ = some (.inl v)) : MetC l yX11_needRay cX11_needRay 2 none rm_X11_needRay B sz σ σ [.ref (wA B 0), .int x1] (none) := by
  refine met_in (by decide +kernel) (Nat.le_of_ble_eq_true rfl) ?_
  intro p e s m below meth c C0 hr w hsz ls hl
  have hx := C0.1.1
  have hb := C0.1.2.1
  unfold f_X11_needRay at hf
  refine lv_aload_n hx hb dX11_needRay_0 rfl (lv_at hl 0 rfl) ?_
  refine lv_iload_n hx hb dX11_needRay_1 rfl (lv_at hl 1 rfl) ?_
  obtain ⟨q1, h2, hf⟩ := bdE hf
  refine cV (As := [.int x1]) (rest := []) (k := 0) (ci := 9) (T := TX11) (N := 9) C0 w (m_X11_isRay l B _ σ x1 q1 h2) ky_X11_isRay kv_X11_isRay lk_X11_343 rfl (by decide +kernel) ⟨Nat.le_of_ble_eq_true rfl, Nat.le_of_ble_eq_true rfl⟩ ⟨Nat.le_of_ble_eq_true rfl, Nat.le_of_ble_eq_true rfl⟩ rfl (by rfl) (Nat.le_of_ble_eq_true rfl) hl.1 dX11_needRay_2 (fun H locs w => ?_)
  refine lv_if_ne (tgt := 19) hx hb dX11_needRay_5 (by decide) (fun c3 => ?_) (fun c3 => ?_)
  · rw [if_neg c3] at hf
    obtain rfl := Sum.inl.inj (Option.some.inj hf)
    exact eV C0 hr w dX11_needRay_19
  · rw [if_pos c3] at hf
    exact nomatch Option.some.inj hf
set_option maxHeartbeats 4000000 in
set_option maxRecDepth 100000 in
theorem t_X11_needRay (l : Launch) (hfl : l.stackTraces = false) (B : Wb) (sz : Nat) (σ : Mem) (x1 : Int32) (E : String) (hf : f_X11_needRay x1 σ = some (.inr E)) : MetT l yX11_needRay cX11_needRay 2 none rmt_X11_needRay B sz σ σ [.ref (wA B 0), .int x1] E := by
  refine metT_in (by decide +kernel) (Nat.le_of_ble_eq_true rfl) ?_
  intro p e s m below meth c C0 hto w hsz ls hl
  have hx := C0.1.1
  have hb := C0.1.2.1
  unfold f_X11_needRay at hf
  refine lv_aload_n hx hb dX11_needRay_0 rfl (lv_at hl 0 rfl) ?_
  refine lv_iload_n hx hb dX11_needRay_1 rfl (lv_at hl 1 rfl) ?_
  obtain ⟨q1, h2, hf⟩ := bdE hf
  refine cV (As := [.int x1]) (rest := []) (k := 0) (ci := 9) (T := TX11) (N := 9) C0 w (m_X11_isRay l B _ σ x1 q1 h2) ky_X11_isRay kv_X11_isRay lk_X11_343 rfl (by decide +kernel) ⟨Nat.le_of_ble_eq_true rfl, Nat.le_of_ble_eq_true rfl⟩ ⟨Nat.le_of_ble_eq_true rfl, Nat.le_of_ble_eq_true rfl⟩ rfl (by rfl) (Nat.le_of_ble_eq_true rfl) hl.1 dX11_needRay_2 (fun H locs w => ?_)
  refine lv_if_ne (tgt := 19) hx hb dX11_needRay_5 (by decide) (fun c3 => ?_) (fun c3 => ?_)
  · rw [if_neg c3] at hf
    exact nomatch Option.some.inj hf
  · rw [if_pos c3] at hf
    obtain rfl := Sum.inr.inj (Option.some.inj hf)
    exact xThrowW C0 hfl hto w xk_X11_346_337 hl.1 dX11_needRay_8 dX11_needRay_11 dX11_needRay_12 dX11_needRay_15 dX11_needRay_18 (Nat.le_of_ble_eq_true rfl) (Nat.le_of_ble_eq_true rfl) (Nat.le_of_ble_eq_true rfl) (Nat.le_of_ble_eq_true rfl) (Nat.le_of_ble_eq_true rfl) (Nat.le_of_ble_eq_true rfl)
def f_X11_setUsed (x1 : Int32) (x2 : Int32) (σ : Mem) : Option ((Int32 ⊕ String) × Mem) :=
  bd (f_X11_needRay x1 σ) (fun q1 =>
  xm q1 σ (fun v3 =>
  bd (f_X3_save 1 σ) (fun q6 =>
  gd (inb x1 16) (
  gd (bz x2) (
  bd (f_X4_activeRays (setI q6 7 x1.toNatClampNeg x2)) (fun q10 =>
  some (.inl q10, setI q6 7 x1.toNatClampNeg x2)))))))
abbrev rm_X11_setUsed : Room := { frames := 3, cells := 0, slots := 0, locals := 91 }
abbrev rmt_X11_setUsed : Room := { frames := 7, cells := 1, slots := 6, locals := 111 }
set_option maxHeartbeats 4000000 in
set_option maxRecDepth 100000 in
theorem m_X11_setUsed (l : Launch) (B : Wb) (sz : Nat) (σ : Mem) (x1 : Int32) (x2 : Int32) (v : Int32) (σ9 : Mem) (hf : f_X11_setUsed x1 x2 σ = some (.inl v, σ9)) : MetC l yX11_setUsed cX11_setUsed 3 (some .int) rm_X11_setUsed B sz σ σ9 [.ref (wA B 0), .int x1, .int x2] (some (.int v)) := by
  refine met_in (by decide +kernel) (Nat.le_of_ble_eq_true rfl) ?_
  intro p e s m below meth c C0 hr w hsz ls hl
  have hx := C0.1.1
  have hb := C0.1.2.1
  unfold f_X11_setUsed at hf
  refine lv_aload_n hx hb dX11_setUsed_0 rfl (lv_at hl 0 rfl) ?_
  refine lv_iload_n hx hb dX11_setUsed_1 rfl (lv_at hl 1 rfl) ?_
  obtain ⟨q1, h2, hf⟩ := bdE hf
  obtain ⟨v3, h5, hf⟩ := xmE1 hf
  subst h5
  refine cV (As := [.int x1]) (rest := []) (k := 0) (ci := 9) (T := TX11) (N := 9) C0 w (m_X11_needRay l B _ σ x1 v3 h2) ky_X11_needRay kv_X11_needRay lk_X11_159 rfl (by decide +kernel) ⟨Nat.le_of_ble_eq_true rfl, Nat.le_of_ble_eq_true rfl⟩ ⟨Nat.le_of_ble_eq_true rfl, Nat.le_of_ble_eq_true rfl⟩ rfl (by rfl) (Nat.le_of_ble_eq_true rfl) hl.1 dX11_setUsed_2 (fun H locs w => ?_)
  refine lv_aload_n hx hb dX11_setUsed_5 rfl (lv_at hl 0 rfl) ?_
  refine gR C0 w 189 fk_X11_71 (by decide +kernel) dX11_setUsed_6 ?_
  refine lv_aload_n hx hb dX11_setUsed_9 rfl (lv_at hl 0 rfl) ?_
  refine gR C0 w 1 fk_X11_10 (by decide +kernel) dX11_setUsed_10 ?_
  obtain ⟨q6, h7, hf⟩ := bdE hf
  refine cV (As := [.ref (wA B 1)]) (rest := []) (k := 189) (ci := 2) (T := TX3) (N := 3) C0 w (m_X3_save l B _ σ 1 q6 h7) ky_X3_save kv_X3_save lk_X11_97 rfl (by decide +kernel) ⟨Nat.le_of_ble_eq_true rfl, Nat.le_of_ble_eq_true rfl⟩ ⟨Nat.le_of_ble_eq_true rfl, Nat.le_of_ble_eq_true rfl⟩ rfl (by rfl) (Nat.le_of_ble_eq_true rfl) hl.1 dX11_setUsed_13 (fun H locs w => ?_)
  refine lv_aload_n hx hb dX11_setUsed_16 rfl (lv_at hl 0 rfl) ?_
  refine gR C0 w 1 fk_X11_10 (by decide +kernel) dX11_setUsed_17 ?_
  refine gR C0 w 7 fk_X11_162 (by decide +kernel) dX11_setUsed_20 ?_
  refine lv_iload_n hx hb dX11_setUsed_23 rfl (lv_at hl 1 rfl) ?_
  refine lv_iload_n hx hb dX11_setUsed_24 rfl (lv_at hl 2 rfl) ?_
  obtain ⟨g8, hf⟩ := gdE hf
  obtain ⟨g9, hf⟩ := gdE hf
  refine sZ C0 w (n := 16) (by decide +kernel) (inbE g8) (bzV g9) dX11_setUsed_25 (fun H locs w => ?_)
  refine lv_aload_n hx hb dX11_setUsed_26 rfl (lv_at hl 0 rfl) ?_
  refine gR C0 w 182 fk_X11_46 (by decide +kernel) dX11_setUsed_27 ?_
  obtain ⟨q10, h11, hf⟩ := bdE hf
  refine cV (As := []) (rest := []) (k := 182) (ci := 3) (T := TX4) (N := 2) C0 w (m_X4_activeRays l B _ (setI q6 7 x1.toNatClampNeg x2) q10 h11) ky_X4_activeRays kv_X4_activeRays lk_X11_166 rfl (by decide +kernel) ⟨Nat.le_of_ble_eq_true rfl, Nat.le_of_ble_eq_true rfl⟩ ⟨Nat.le_of_ble_eq_true rfl, Nat.le_of_ble_eq_true rfl⟩ rfl (by rfl) (Nat.le_of_ble_eq_true rfl) hl.1 dX11_setUsed_30 (fun H locs w => ?_)
  obtain ⟨h8, h9⟩ := Prod.mk.inj (Option.some.inj hf)
  obtain rfl := Sum.inl.inj h8
  subst h9
  exact eI C0 hr w rfl dX11_setUsed_33
set_option maxHeartbeats 4000000 in
set_option maxRecDepth 100000 in
theorem t_X11_setUsed (l : Launch) (hfl : l.stackTraces = false) (B : Wb) (sz : Nat) (σ : Mem) (x1 : Int32) (x2 : Int32) (E : String) (σ9 : Mem) (hf : f_X11_setUsed x1 x2 σ = some (.inr E, σ9)) : MetT l yX11_setUsed cX11_setUsed 3 (some .int) rmt_X11_setUsed B sz σ σ9 [.ref (wA B 0), .int x1, .int x2] E := by
  refine metT_in (by decide +kernel) (Nat.le_of_ble_eq_true rfl) ?_
  intro p e s m below meth c C0 hto w hsz ls hl
  have hx := C0.1.1
  have hb := C0.1.2.1
  unfold f_X11_setUsed at hf
  refine lv_aload_n hx hb dX11_setUsed_0 rfl (lv_at hl 0 rfl) ?_
  refine lv_iload_n hx hb dX11_setUsed_1 rfl (lv_at hl 1 rfl) ?_
  obtain ⟨q1, h2, hf⟩ := bdE hf
  rcases xmE2 hf with ⟨v3, h5, hf⟩ | ⟨h5, h8⟩
  · subst h5
    refine cV (As := [.int x1]) (rest := []) (k := 0) (ci := 9) (T := TX11) (N := 9) C0 w (m_X11_needRay l B _ σ x1 v3 h2) ky_X11_needRay kv_X11_needRay lk_X11_159 rfl (by decide +kernel) ⟨Nat.le_of_ble_eq_true rfl, Nat.le_of_ble_eq_true rfl⟩ ⟨Nat.le_of_ble_eq_true rfl, Nat.le_of_ble_eq_true rfl⟩ rfl (by rfl) (Nat.le_of_ble_eq_true rfl) hl.1 dX11_setUsed_2 (fun H locs w => ?_)
    refine lv_aload_n hx hb dX11_setUsed_5 rfl (lv_at hl 0 rfl) ?_
    refine gR C0 w 189 fk_X11_71 (by decide +kernel) dX11_setUsed_6 ?_
    refine lv_aload_n hx hb dX11_setUsed_9 rfl (lv_at hl 0 rfl) ?_
    refine gR C0 w 1 fk_X11_10 (by decide +kernel) dX11_setUsed_10 ?_
    obtain ⟨q6, h7, hf⟩ := bdE hf
    refine cV (As := [.ref (wA B 1)]) (rest := []) (k := 189) (ci := 2) (T := TX3) (N := 3) C0 w (m_X3_save l B _ σ 1 q6 h7) ky_X3_save kv_X3_save lk_X11_97 rfl (by decide +kernel) ⟨Nat.le_of_ble_eq_true rfl, Nat.le_of_ble_eq_true rfl⟩ ⟨Nat.le_of_ble_eq_true rfl, Nat.le_of_ble_eq_true rfl⟩ rfl (by rfl) (Nat.le_of_ble_eq_true rfl) hl.1 dX11_setUsed_13 (fun H locs w => ?_)
    refine lv_aload_n hx hb dX11_setUsed_16 rfl (lv_at hl 0 rfl) ?_
    refine gR C0 w 1 fk_X11_10 (by decide +kernel) dX11_setUsed_17 ?_
    refine gR C0 w 7 fk_X11_162 (by decide +kernel) dX11_setUsed_20 ?_
    refine lv_iload_n hx hb dX11_setUsed_23 rfl (lv_at hl 1 rfl) ?_
    refine lv_iload_n hx hb dX11_setUsed_24 rfl (lv_at hl 2 rfl) ?_
    obtain ⟨g8, hf⟩ := gdE hf
    obtain ⟨g9, hf⟩ := gdE hf
    refine sZ C0 w (n := 16) (by decide +kernel) (inbE g8) (bzV g9) dX11_setUsed_25 (fun H locs w => ?_)
    refine lv_aload_n hx hb dX11_setUsed_26 rfl (lv_at hl 0 rfl) ?_
    refine gR C0 w 182 fk_X11_46 (by decide +kernel) dX11_setUsed_27 ?_
    obtain ⟨q10, h11, hf⟩ := bdE hf
    refine cV (As := []) (rest := []) (k := 182) (ci := 3) (T := TX4) (N := 2) C0 w (m_X4_activeRays l B _ (setI q6 7 x1.toNatClampNeg x2) q10 h11) ky_X4_activeRays kv_X4_activeRays lk_X11_166 rfl (by decide +kernel) ⟨Nat.le_of_ble_eq_true rfl, Nat.le_of_ble_eq_true rfl⟩ ⟨Nat.le_of_ble_eq_true rfl, Nat.le_of_ble_eq_true rfl⟩ rfl (by rfl) (Nat.le_of_ble_eq_true rfl) hl.1 dX11_setUsed_30 (fun H locs w => ?_)
    exact nomatch (Prod.mk.inj (Option.some.inj hf)).1
  · subst h5
    have h8 := h8.symm
    subst h8
    refine cVT (As := [.int x1]) (rest := []) (k := 0) (ci := 9) (T := TX11) (N := 9) C0 w (t_X11_needRay l hfl B _ σ x1 _ h2) ky_X11_needRay kv_X11_needRay lk_X11_159 rfl (by decide +kernel) ⟨Nat.le_of_ble_eq_true rfl, Nat.le_of_ble_eq_true rfl⟩ ⟨Nat.le_of_ble_eq_true rfl, Nat.le_of_ble_eq_true rfl⟩ rfl (by rfl) (Nat.le_of_ble_eq_true rfl) hl.1 dX11_setUsed_2 (fun ce q9 H locs w g1 g2 g3 => ?_)
    exact xOut C0 hto w g1 g2 g3 (Nat.le_of_ble_eq_true rfl) (Nat.le_of_ble_eq_true rfl)
def f_X11_setTime (x1 : Int32) (x2 : Int64) (σ : Mem) : Option ((Int64 ⊕ String) × Mem) :=
  bd (f_X11_needRay x1 σ) (fun q1 =>
  xm q1 σ (fun v3 =>
  if x2 = ((-1 : Int64)) then (
    bd (f_X3_save 1 σ) (fun q7 =>
    gd (inb x1 16) (
    gd (inb x1 16) (
    some (.inl (q7.2 6 x1.toNatClampNeg), setL q7 6 x1.toNatClampNeg x2)))))
  else (
    if x2 < 0 then (
      some (.inr xIA, σ))
    else (
      if x2 ≤ 100000000000 then (
        bd (f_X3_save 1 σ) (fun q13 =>
        gd (inb x1 16) (
        gd (inb x1 16) (
        some (.inl (q13.2 6 x1.toNatClampNeg), setL q13 6 x1.toNatClampNeg x2)))))
      else (
        some (.inr xIA, σ))))))
abbrev rm_X11_setTime : Room := { frames := 3, cells := 0, slots := 0, locals := 91 }
abbrev rmt_X11_setTime : Room := { frames := 7, cells := 1, slots := 6, locals := 111 }
set_option maxHeartbeats 4000000 in
set_option maxRecDepth 100000 in
theorem m_X11_setTime (l : Launch) (B : Wb) (sz : Nat) (σ : Mem) (x1 : Int32) (x2 : Int64) (v : Int64) (σ9 : Mem) (hf : f_X11_setTime x1 x2 σ = some (.inl v, σ9)) : MetC l yX11_setTime cX11_setTime 6 (some .long) rm_X11_setTime B sz σ σ9 [.ref (wA B 0), .int x1, .long x2] (some (.long v)) := by
  refine met_in (by decide +kernel) (Nat.le_of_ble_eq_true rfl) ?_
  intro p e s m below meth c C0 hr w hsz ls hl
  have hx := C0.1.1
  have hb := C0.1.2.1
  unfold f_X11_setTime at hf
  refine lv_aload_n hx hb dX11_setTime_0 rfl (lv_at hl 0 rfl) ?_
  refine lv_iload_n hx hb dX11_setTime_1 rfl (lv_at hl 1 rfl) ?_
  obtain ⟨q1, h2, hf⟩ := bdE hf
  obtain ⟨v3, h5, hf⟩ := xmE1 hf
  subst h5
  refine cV (As := [.int x1]) (rest := []) (k := 0) (ci := 9) (T := TX11) (N := 9) C0 w (m_X11_needRay l B _ σ x1 v3 h2) ky_X11_needRay kv_X11_needRay lk_X11_159 rfl (by decide +kernel) ⟨Nat.le_of_ble_eq_true rfl, Nat.le_of_ble_eq_true rfl⟩ ⟨Nat.le_of_ble_eq_true rfl, Nat.le_of_ble_eq_true rfl⟩ rfl (by rfl) (Nat.le_of_ble_eq_true rfl) hl.1 dX11_setTime_2 (fun H locs w => ?_)
  refine lv_lload_n hx hb dX11_setTime_5 rfl (lv_at hl 2 rfl) ?_
  refine kLg C0 (-1) kc_X11_169 dX11_setTime_6 ?_
  refine lc_eq (tgt := 37) C0 dX11_setTime_9 dX11_setTime_10 (by decide) (fun c6 => ?_) (fun c6 => ?_)
  · rw [if_pos c6] at hf
    refine lv_aload_n hx hb dX11_setTime_37 rfl (lv_at hl 0 rfl) ?_
    refine gR C0 w 189 fk_X11_71 (by decide +kernel) dX11_setTime_38 ?_
    refine lv_aload_n hx hb dX11_setTime_41 rfl (lv_at hl 0 rfl) ?_
    refine gR C0 w 1 fk_X11_10 (by decide +kernel) dX11_setTime_42 ?_
    obtain ⟨q7, h8, hf⟩ := bdE hf
    refine cV (As := [.ref (wA B 1)]) (rest := []) (k := 189) (ci := 2) (T := TX3) (N := 3) C0 w (m_X3_save l B _ σ 1 q7 h8) ky_X3_save kv_X3_save lk_X11_97 rfl (by decide +kernel) ⟨Nat.le_of_ble_eq_true rfl, Nat.le_of_ble_eq_true rfl⟩ ⟨Nat.le_of_ble_eq_true rfl, Nat.le_of_ble_eq_true rfl⟩ rfl (by rfl) (Nat.le_of_ble_eq_true rfl) hl.1 dX11_setTime_45 (fun H locs w => ?_)
    refine lv_aload_n hx hb dX11_setTime_48 rfl (lv_at hl 0 rfl) ?_
    refine gR C0 w 1 fk_X11_10 (by decide +kernel) dX11_setTime_49 ?_
    refine gR C0 w 6 fk_X11_178 (by decide +kernel) dX11_setTime_52 ?_
    refine lv_iload_n hx hb dX11_setTime_55 rfl (lv_at hl 1 rfl) ?_
    obtain ⟨g9, hf⟩ := gdE hf
    refine aL C0 w (n := 16) (by decide +kernel) (inbE g9) dX11_setTime_56 ?_
    refine lv_lstore (lv' := [(4, .long (q7.2 6 x1.toNatClampNeg)), (0, .ref (wA B 0)), (1, .int x1), (2, .long x2)]) hx hb dX11_setTime_57 hl (by decide) rfl (fun ls hl => ?_)
    refine lv_aload_n hx hb dX11_setTime_59 rfl (lv_at hl 1 rfl) ?_
    refine gR C0 w 1 fk_X11_10 (by decide +kernel) dX11_setTime_60 ?_
    refine gR C0 w 6 fk_X11_178 (by decide +kernel) dX11_setTime_63 ?_
    refine lv_iload_n hx hb dX11_setTime_66 rfl (lv_at hl 2 rfl) ?_
    refine lv_lload_n hx hb dX11_setTime_67 rfl (lv_at hl 3 rfl) ?_
    obtain ⟨g10, hf⟩ := gdE hf
    refine sL C0 w (n := 16) (by decide +kernel) (inbE g10) dX11_setTime_68 (fun H locs w => ?_)
    refine lv_lload hx hb dX11_setTime_69 (lv_at hl 0 rfl) ?_
    obtain ⟨h8, h9⟩ := Prod.mk.inj (Option.some.inj hf)
    obtain rfl := Sum.inl.inj h8
    subst h9
    exact eL C0 hr w dX11_setTime_71
  · rw [if_neg c6] at hf
    refine lv_lload_n hx hb dX11_setTime_13 rfl (lv_at hl 2 rfl) ?_
    refine lv_lconst (v := 0) hx hb dX11_setTime_14 (by decide) ?_
    refine lc_lt (tgt := 27) C0 dX11_setTime_15 dX11_setTime_16 (by decide) (fun c11 => ?_) (fun c11 => ?_)
    · rw [if_pos c11] at hf
      exact nomatch (Prod.mk.inj (Option.some.inj hf)).1
    · rw [if_neg c11] at hf
      refine lv_lload_n hx hb dX11_setTime_19 rfl (lv_at hl 2 rfl) ?_
      refine kLg C0 100000000000 kc_X11_171 dX11_setTime_20 ?_
      refine lc_le (tgt := 37) C0 dX11_setTime_23 dX11_setTime_24 (by decide) (fun c12 => ?_) (fun c12 => ?_)
      · rw [if_pos c12] at hf
        refine lv_aload_n hx hb dX11_setTime_37 rfl (lv_at hl 0 rfl) ?_
        refine gR C0 w 189 fk_X11_71 (by decide +kernel) dX11_setTime_38 ?_
        refine lv_aload_n hx hb dX11_setTime_41 rfl (lv_at hl 0 rfl) ?_
        refine gR C0 w 1 fk_X11_10 (by decide +kernel) dX11_setTime_42 ?_
        obtain ⟨q13, h14, hf⟩ := bdE hf
        refine cV (As := [.ref (wA B 1)]) (rest := []) (k := 189) (ci := 2) (T := TX3) (N := 3) C0 w (m_X3_save l B _ σ 1 q13 h14) ky_X3_save kv_X3_save lk_X11_97 rfl (by decide +kernel) ⟨Nat.le_of_ble_eq_true rfl, Nat.le_of_ble_eq_true rfl⟩ ⟨Nat.le_of_ble_eq_true rfl, Nat.le_of_ble_eq_true rfl⟩ rfl (by rfl) (Nat.le_of_ble_eq_true rfl) hl.1 dX11_setTime_45 (fun H locs w => ?_)
        refine lv_aload_n hx hb dX11_setTime_48 rfl (lv_at hl 0 rfl) ?_
        refine gR C0 w 1 fk_X11_10 (by decide +kernel) dX11_setTime_49 ?_
        refine gR C0 w 6 fk_X11_178 (by decide +kernel) dX11_setTime_52 ?_
        refine lv_iload_n hx hb dX11_setTime_55 rfl (lv_at hl 1 rfl) ?_
        obtain ⟨g15, hf⟩ := gdE hf
        refine aL C0 w (n := 16) (by decide +kernel) (inbE g15) dX11_setTime_56 ?_
        refine lv_lstore (lv' := [(4, .long (q13.2 6 x1.toNatClampNeg)), (0, .ref (wA B 0)), (1, .int x1), (2, .long x2)]) hx hb dX11_setTime_57 hl (by decide) rfl (fun ls hl => ?_)
        refine lv_aload_n hx hb dX11_setTime_59 rfl (lv_at hl 1 rfl) ?_
        refine gR C0 w 1 fk_X11_10 (by decide +kernel) dX11_setTime_60 ?_
        refine gR C0 w 6 fk_X11_178 (by decide +kernel) dX11_setTime_63 ?_
        refine lv_iload_n hx hb dX11_setTime_66 rfl (lv_at hl 2 rfl) ?_
        refine lv_lload_n hx hb dX11_setTime_67 rfl (lv_at hl 3 rfl) ?_
        obtain ⟨g16, hf⟩ := gdE hf
        refine sL C0 w (n := 16) (by decide +kernel) (inbE g16) dX11_setTime_68 (fun H locs w => ?_)
        refine lv_lload hx hb dX11_setTime_69 (lv_at hl 0 rfl) ?_
        obtain ⟨h8, h9⟩ := Prod.mk.inj (Option.some.inj hf)
        obtain rfl := Sum.inl.inj h8
        subst h9
        exact eL C0 hr w dX11_setTime_71
      · rw [if_neg c12] at hf
        exact nomatch (Prod.mk.inj (Option.some.inj hf)).1
set_option maxHeartbeats 4000000 in
set_option maxRecDepth 100000 in
theorem t_X11_setTime (l : Launch) (hfl : l.stackTraces = false) (B : Wb) (sz : Nat) (σ : Mem) (x1 : Int32) (x2 : Int64) (E : String) (σ9 : Mem) (hf : f_X11_setTime x1 x2 σ = some (.inr E, σ9)) : MetT l yX11_setTime cX11_setTime 6 (some .long) rmt_X11_setTime B sz σ σ9 [.ref (wA B 0), .int x1, .long x2] E := by
  refine metT_in (by decide +kernel) (Nat.le_of_ble_eq_true rfl) ?_
  intro p e s m below meth c C0 hto w hsz ls hl
  have hx := C0.1.1
  have hb := C0.1.2.1
  unfold f_X11_setTime at hf
  refine lv_aload_n hx hb dX11_setTime_0 rfl (lv_at hl 0 rfl) ?_
  refine lv_iload_n hx hb dX11_setTime_1 rfl (lv_at hl 1 rfl) ?_
  obtain ⟨q1, h2, hf⟩ := bdE hf
  rcases xmE2 hf with ⟨v3, h5, hf⟩ | ⟨h5, h8⟩
  · subst h5
    refine cV (As := [.int x1]) (rest := []) (k := 0) (ci := 9) (T := TX11) (N := 9) C0 w (m_X11_needRay l B _ σ x1 v3 h2) ky_X11_needRay kv_X11_needRay lk_X11_159 rfl (by decide +kernel) ⟨Nat.le_of_ble_eq_true rfl, Nat.le_of_ble_eq_true rfl⟩ ⟨Nat.le_of_ble_eq_true rfl, Nat.le_of_ble_eq_true rfl⟩ rfl (by rfl) (Nat.le_of_ble_eq_true rfl) hl.1 dX11_setTime_2 (fun H locs w => ?_)
    refine lv_lload_n hx hb dX11_setTime_5 rfl (lv_at hl 2 rfl) ?_
    refine kLg C0 (-1) kc_X11_169 dX11_setTime_6 ?_
    refine lc_eq (tgt := 37) C0 dX11_setTime_9 dX11_setTime_10 (by decide) (fun c6 => ?_) (fun c6 => ?_)
    · rw [if_pos c6] at hf
      refine lv_aload_n hx hb dX11_setTime_37 rfl (lv_at hl 0 rfl) ?_
      refine gR C0 w 189 fk_X11_71 (by decide +kernel) dX11_setTime_38 ?_
      refine lv_aload_n hx hb dX11_setTime_41 rfl (lv_at hl 0 rfl) ?_
      refine gR C0 w 1 fk_X11_10 (by decide +kernel) dX11_setTime_42 ?_
      obtain ⟨q7, h8, hf⟩ := bdE hf
      refine cV (As := [.ref (wA B 1)]) (rest := []) (k := 189) (ci := 2) (T := TX3) (N := 3) C0 w (m_X3_save l B _ σ 1 q7 h8) ky_X3_save kv_X3_save lk_X11_97 rfl (by decide +kernel) ⟨Nat.le_of_ble_eq_true rfl, Nat.le_of_ble_eq_true rfl⟩ ⟨Nat.le_of_ble_eq_true rfl, Nat.le_of_ble_eq_true rfl⟩ rfl (by rfl) (Nat.le_of_ble_eq_true rfl) hl.1 dX11_setTime_45 (fun H locs w => ?_)
      refine lv_aload_n hx hb dX11_setTime_48 rfl (lv_at hl 0 rfl) ?_
      refine gR C0 w 1 fk_X11_10 (by decide +kernel) dX11_setTime_49 ?_
      refine gR C0 w 6 fk_X11_178 (by decide +kernel) dX11_setTime_52 ?_
      refine lv_iload_n hx hb dX11_setTime_55 rfl (lv_at hl 1 rfl) ?_
      obtain ⟨g9, hf⟩ := gdE hf
      refine aL C0 w (n := 16) (by decide +kernel) (inbE g9) dX11_setTime_56 ?_
      refine lv_lstore (lv' := [(4, .long (q7.2 6 x1.toNatClampNeg)), (0, .ref (wA B 0)), (1, .int x1), (2, .long x2)]) hx hb dX11_setTime_57 hl (by decide) rfl (fun ls hl => ?_)
      refine lv_aload_n hx hb dX11_setTime_59 rfl (lv_at hl 1 rfl) ?_
      refine gR C0 w 1 fk_X11_10 (by decide +kernel) dX11_setTime_60 ?_
      refine gR C0 w 6 fk_X11_178 (by decide +kernel) dX11_setTime_63 ?_
      refine lv_iload_n hx hb dX11_setTime_66 rfl (lv_at hl 2 rfl) ?_
      refine lv_lload_n hx hb dX11_setTime_67 rfl (lv_at hl 3 rfl) ?_
      obtain ⟨g10, hf⟩ := gdE hf
      refine sL C0 w (n := 16) (by decide +kernel) (inbE g10) dX11_setTime_68 (fun H locs w => ?_)
      refine lv_lload hx hb dX11_setTime_69 (lv_at hl 0 rfl) ?_
      exact nomatch (Prod.mk.inj (Option.some.inj hf)).1
    · rw [if_neg c6] at hf
      refine lv_lload_n hx hb dX11_setTime_13 rfl (lv_at hl 2 rfl) ?_
      refine lv_lconst (v := 0) hx hb dX11_setTime_14 (by decide) ?_
      refine lc_lt (tgt := 27) C0 dX11_setTime_15 dX11_setTime_16 (by decide) (fun c11 => ?_) (fun c11 => ?_)
      · rw [if_pos c11] at hf
        obtain ⟨h8, h9⟩ := Prod.mk.inj (Option.some.inj hf)
        obtain rfl := Sum.inr.inj h8
        subst h9
        exact xThrow C0 hfl hto w xk_X11_175_177 hl.1 dX11_setTime_27 dX11_setTime_30 dX11_setTime_31 dX11_setTime_33 dX11_setTime_36 (Nat.le_of_ble_eq_true rfl) (Nat.le_of_ble_eq_true rfl) (Nat.le_of_ble_eq_true rfl) (Nat.le_of_ble_eq_true rfl) (Nat.le_of_ble_eq_true rfl) (Nat.le_of_ble_eq_true rfl)
      · rw [if_neg c11] at hf
        refine lv_lload_n hx hb dX11_setTime_19 rfl (lv_at hl 2 rfl) ?_
        refine kLg C0 100000000000 kc_X11_171 dX11_setTime_20 ?_
        refine lc_le (tgt := 37) C0 dX11_setTime_23 dX11_setTime_24 (by decide) (fun c12 => ?_) (fun c12 => ?_)
        · rw [if_pos c12] at hf
          refine lv_aload_n hx hb dX11_setTime_37 rfl (lv_at hl 0 rfl) ?_
          refine gR C0 w 189 fk_X11_71 (by decide +kernel) dX11_setTime_38 ?_
          refine lv_aload_n hx hb dX11_setTime_41 rfl (lv_at hl 0 rfl) ?_
          refine gR C0 w 1 fk_X11_10 (by decide +kernel) dX11_setTime_42 ?_
          obtain ⟨q13, h14, hf⟩ := bdE hf
          refine cV (As := [.ref (wA B 1)]) (rest := []) (k := 189) (ci := 2) (T := TX3) (N := 3) C0 w (m_X3_save l B _ σ 1 q13 h14) ky_X3_save kv_X3_save lk_X11_97 rfl (by decide +kernel) ⟨Nat.le_of_ble_eq_true rfl, Nat.le_of_ble_eq_true rfl⟩ ⟨Nat.le_of_ble_eq_true rfl, Nat.le_of_ble_eq_true rfl⟩ rfl (by rfl) (Nat.le_of_ble_eq_true rfl) hl.1 dX11_setTime_45 (fun H locs w => ?_)
          refine lv_aload_n hx hb dX11_setTime_48 rfl (lv_at hl 0 rfl) ?_
          refine gR C0 w 1 fk_X11_10 (by decide +kernel) dX11_setTime_49 ?_
          refine gR C0 w 6 fk_X11_178 (by decide +kernel) dX11_setTime_52 ?_
          refine lv_iload_n hx hb dX11_setTime_55 rfl (lv_at hl 1 rfl) ?_
          obtain ⟨g15, hf⟩ := gdE hf
          refine aL C0 w (n := 16) (by decide +kernel) (inbE g15) dX11_setTime_56 ?_
          refine lv_lstore (lv' := [(4, .long (q13.2 6 x1.toNatClampNeg)), (0, .ref (wA B 0)), (1, .int x1), (2, .long x2)]) hx hb dX11_setTime_57 hl (by decide) rfl (fun ls hl => ?_)
          refine lv_aload_n hx hb dX11_setTime_59 rfl (lv_at hl 1 rfl) ?_
          refine gR C0 w 1 fk_X11_10 (by decide +kernel) dX11_setTime_60 ?_
          refine gR C0 w 6 fk_X11_178 (by decide +kernel) dX11_setTime_63 ?_
          refine lv_iload_n hx hb dX11_setTime_66 rfl (lv_at hl 2 rfl) ?_
          refine lv_lload_n hx hb dX11_setTime_67 rfl (lv_at hl 3 rfl) ?_
          obtain ⟨g16, hf⟩ := gdE hf
          refine sL C0 w (n := 16) (by decide +kernel) (inbE g16) dX11_setTime_68 (fun H locs w => ?_)
          refine lv_lload hx hb dX11_setTime_69 (lv_at hl 0 rfl) ?_
          exact nomatch (Prod.mk.inj (Option.some.inj hf)).1
        · rw [if_neg c12] at hf
          obtain ⟨h8, h9⟩ := Prod.mk.inj (Option.some.inj hf)
          obtain rfl := Sum.inr.inj h8
          subst h9
          exact xThrow C0 hfl hto w xk_X11_175_177 hl.1 dX11_setTime_27 dX11_setTime_30 dX11_setTime_31 dX11_setTime_33 dX11_setTime_36 (Nat.le_of_ble_eq_true rfl) (Nat.le_of_ble_eq_true rfl) (Nat.le_of_ble_eq_true rfl) (Nat.le_of_ble_eq_true rfl) (Nat.le_of_ble_eq_true rfl) (Nat.le_of_ble_eq_true rfl)
  · subst h5
    have h8 := h8.symm
    subst h8
    refine cVT (As := [.int x1]) (rest := []) (k := 0) (ci := 9) (T := TX11) (N := 9) C0 w (t_X11_needRay l hfl B _ σ x1 _ h2) ky_X11_needRay kv_X11_needRay lk_X11_159 rfl (by decide +kernel) ⟨Nat.le_of_ble_eq_true rfl, Nat.le_of_ble_eq_true rfl⟩ ⟨Nat.le_of_ble_eq_true rfl, Nat.le_of_ble_eq_true rfl⟩ rfl (by rfl) (Nat.le_of_ble_eq_true rfl) hl.1 dX11_setTime_2 (fun ce q9 H locs w g1 g2 g3 => ?_)
    exact xOut C0 hto w g1 g2 g3 (Nat.le_of_ble_eq_true rfl) (Nat.le_of_ble_eq_true rfl)
def f_X11_observe (x1 : Int32) (x2 : Int32) (σ : Mem) : Option ((Int32 ⊕ String) × Mem) :=
  bd (f_X11_needRange x1 0 1000 σ) (fun q1 =>
  xm q1 σ (fun v3 =>
  bd (f_X11_needRange x2 0 999999 σ) (fun q6 =>
  xm q6 σ (fun v8 =>
  bd (f_X3_save 1 σ) (fun q11 =>
  bd (f_X1_takeTimes x1 x2 q11) (fun q13 =>
  some (.inl (q13.1 1 7), q13)))))))
abbrev rm_X11_observe : Room := { frames := 3, cells := 0, slots := 0, locals := 91 }
abbrev rmt_X11_observe : Room := { frames := 7, cells := 1, slots := 6, locals := 112 }
set_option maxHeartbeats 4000000 in
set_option maxRecDepth 100000 in
theorem m_X11_observe (l : Launch) (B : Wb) (sz : Nat) (σ : Mem) (x1 : Int32) (x2 : Int32) (v : Int32) (σ9 : Mem) (hf : f_X11_observe x1 x2 σ = some (.inl v, σ9)) : MetC l yX11_observe cX11_observe 3 (some .int) rm_X11_observe B sz σ σ9 [.ref (wA B 0), .int x1, .int x2] (some (.int v)) := by
  refine met_in (by decide +kernel) (Nat.le_of_ble_eq_true rfl) ?_
  intro p e s m below meth c C0 hr w hsz ls hl
  have hx := C0.1.1
  have hb := C0.1.2.1
  unfold f_X11_observe at hf
  refine lv_iload_n hx hb dX11_observe_0 rfl (lv_at hl 1 rfl) ?_
  refine lv_iconst (v := 0) hx hb dX11_observe_1 (by decide) ?_
  refine lv_sipush (v := 1000) hx hb dX11_observe_2 (by decide) ?_
  obtain ⟨q1, h2, hf⟩ := bdE hf
  obtain ⟨v3, h5, hf⟩ := xmE1 hf
  subst h5
  refine cS (As := [.int x1, .int 0, .int 1000]) (rest := []) C0 w (m_X11_needRange l B _ σ x1 0 1000 v3 h2) ky_X11_needRange ks_X11_needRange lk_X11_93 ⟨Nat.le_of_ble_eq_true rfl, Nat.le_of_ble_eq_true rfl⟩ ⟨Nat.le_of_ble_eq_true rfl, Nat.le_of_ble_eq_true rfl⟩ rfl (by rfl) (Nat.le_of_ble_eq_true rfl) hl.1 dX11_observe_5 (fun H locs w => ?_)
  refine lv_iload_n hx hb dX11_observe_8 rfl (lv_at hl 2 rfl) ?_
  refine lv_iconst (v := 0) hx hb dX11_observe_9 (by decide) ?_
  refine kIn C0 999999 kc_X11_182 dX11_observe_10 ?_
  obtain ⟨q6, h7, hf⟩ := bdE hf
  obtain ⟨v8, h10, hf⟩ := xmE1 hf
  subst h10
  refine cS (As := [.int x2, .int 0, .int 999999]) (rest := []) C0 w (m_X11_needRange l B _ σ x2 0 999999 v8 h7) ky_X11_needRange ks_X11_needRange lk_X11_93 ⟨Nat.le_of_ble_eq_true rfl, Nat.le_of_ble_eq_true rfl⟩ ⟨Nat.le_of_ble_eq_true rfl, Nat.le_of_ble_eq_true rfl⟩ rfl (by rfl) (Nat.le_of_ble_eq_true rfl) hl.1 dX11_observe_12 (fun H locs w => ?_)
  refine lv_aload_n hx hb dX11_observe_15 rfl (lv_at hl 0 rfl) ?_
  refine gR C0 w 189 fk_X11_71 (by decide +kernel) dX11_observe_16 ?_
  refine lv_aload_n hx hb dX11_observe_19 rfl (lv_at hl 0 rfl) ?_
  refine gR C0 w 1 fk_X11_10 (by decide +kernel) dX11_observe_20 ?_
  obtain ⟨q11, h12, hf⟩ := bdE hf
  refine cV (As := [.ref (wA B 1)]) (rest := []) (k := 189) (ci := 2) (T := TX3) (N := 3) C0 w (m_X3_save l B _ σ 1 q11 h12) ky_X3_save kv_X3_save lk_X11_97 rfl (by decide +kernel) ⟨Nat.le_of_ble_eq_true rfl, Nat.le_of_ble_eq_true rfl⟩ ⟨Nat.le_of_ble_eq_true rfl, Nat.le_of_ble_eq_true rfl⟩ rfl (by rfl) (Nat.le_of_ble_eq_true rfl) hl.1 dX11_observe_23 (fun H locs w => ?_)
  refine lv_aload_n hx hb dX11_observe_26 rfl (lv_at hl 0 rfl) ?_
  refine gR C0 w 183 fk_X11_55 (by decide +kernel) dX11_observe_27 ?_
  refine lv_iload_n hx hb dX11_observe_30 rfl (lv_at hl 1 rfl) ?_
  refine lv_iload_n hx hb dX11_observe_31 rfl (lv_at hl 2 rfl) ?_
  obtain ⟨q13, h14, hf⟩ := bdE hf
  refine cV (As := [.int x1, .int x2]) (rest := []) (k := 183) (ci := 0) (T := TX1) (N := 7) C0 w (m_X1_takeTimes l B _ q11 x1 x2 q13 h14) ky_X1_takeTimes kv_X1_takeTimes lk_X11_183 rfl (by decide +kernel) ⟨Nat.le_of_ble_eq_true rfl, Nat.le_of_ble_eq_true rfl⟩ ⟨Nat.le_of_ble_eq_true rfl, Nat.le_of_ble_eq_true rfl⟩ rfl (by rfl) (Nat.le_of_ble_eq_true rfl) hl.1 dX11_observe_32 (fun H locs w => ?_)
  refine lv_aload_n hx hb dX11_observe_35 rfl (lv_at hl 0 rfl) ?_
  refine gR C0 w 1 fk_X11_10 (by decide +kernel) dX11_observe_36 ?_
  refine gI C0 w fk_X11_153 (by decide +kernel) dX11_observe_39 ?_
  obtain ⟨h8, h9⟩ := Prod.mk.inj (Option.some.inj hf)
  obtain rfl := Sum.inl.inj h8
  subst h9
  exact eI C0 hr w rfl dX11_observe_42
set_option maxHeartbeats 4000000 in
set_option maxRecDepth 100000 in
theorem t_X11_observe (l : Launch) (hfl : l.stackTraces = false) (B : Wb) (sz : Nat) (σ : Mem) (x1 : Int32) (x2 : Int32) (E : String) (σ9 : Mem) (hf : f_X11_observe x1 x2 σ = some (.inr E, σ9)) : MetT l yX11_observe cX11_observe 3 (some .int) rmt_X11_observe B sz σ σ9 [.ref (wA B 0), .int x1, .int x2] E := by
  refine metT_in (by decide +kernel) (Nat.le_of_ble_eq_true rfl) ?_
  intro p e s m below meth c C0 hto w hsz ls hl
  have hx := C0.1.1
  have hb := C0.1.2.1
  unfold f_X11_observe at hf
  refine lv_iload_n hx hb dX11_observe_0 rfl (lv_at hl 1 rfl) ?_
  refine lv_iconst (v := 0) hx hb dX11_observe_1 (by decide) ?_
  refine lv_sipush (v := 1000) hx hb dX11_observe_2 (by decide) ?_
  obtain ⟨q1, h2, hf⟩ := bdE hf
  rcases xmE2 hf with ⟨v3, h5, hf⟩ | ⟨h5, h8⟩
  · subst h5
    refine cS (As := [.int x1, .int 0, .int 1000]) (rest := []) C0 w (m_X11_needRange l B _ σ x1 0 1000 v3 h2) ky_X11_needRange ks_X11_needRange lk_X11_93 ⟨Nat.le_of_ble_eq_true rfl, Nat.le_of_ble_eq_true rfl⟩ ⟨Nat.le_of_ble_eq_true rfl, Nat.le_of_ble_eq_true rfl⟩ rfl (by rfl) (Nat.le_of_ble_eq_true rfl) hl.1 dX11_observe_5 (fun H locs w => ?_)
    refine lv_iload_n hx hb dX11_observe_8 rfl (lv_at hl 2 rfl) ?_
    refine lv_iconst (v := 0) hx hb dX11_observe_9 (by decide) ?_
    refine kIn C0 999999 kc_X11_182 dX11_observe_10 ?_
    obtain ⟨q6, h7, hf⟩ := bdE hf
    rcases xmE2 hf with ⟨v8, h10, hf⟩ | ⟨h10, h8⟩
    · subst h10
      refine cS (As := [.int x2, .int 0, .int 999999]) (rest := []) C0 w (m_X11_needRange l B _ σ x2 0 999999 v8 h7) ky_X11_needRange ks_X11_needRange lk_X11_93 ⟨Nat.le_of_ble_eq_true rfl, Nat.le_of_ble_eq_true rfl⟩ ⟨Nat.le_of_ble_eq_true rfl, Nat.le_of_ble_eq_true rfl⟩ rfl (by rfl) (Nat.le_of_ble_eq_true rfl) hl.1 dX11_observe_12 (fun H locs w => ?_)
      refine lv_aload_n hx hb dX11_observe_15 rfl (lv_at hl 0 rfl) ?_
      refine gR C0 w 189 fk_X11_71 (by decide +kernel) dX11_observe_16 ?_
      refine lv_aload_n hx hb dX11_observe_19 rfl (lv_at hl 0 rfl) ?_
      refine gR C0 w 1 fk_X11_10 (by decide +kernel) dX11_observe_20 ?_
      obtain ⟨q11, h12, hf⟩ := bdE hf
      refine cV (As := [.ref (wA B 1)]) (rest := []) (k := 189) (ci := 2) (T := TX3) (N := 3) C0 w (m_X3_save l B _ σ 1 q11 h12) ky_X3_save kv_X3_save lk_X11_97 rfl (by decide +kernel) ⟨Nat.le_of_ble_eq_true rfl, Nat.le_of_ble_eq_true rfl⟩ ⟨Nat.le_of_ble_eq_true rfl, Nat.le_of_ble_eq_true rfl⟩ rfl (by rfl) (Nat.le_of_ble_eq_true rfl) hl.1 dX11_observe_23 (fun H locs w => ?_)
      refine lv_aload_n hx hb dX11_observe_26 rfl (lv_at hl 0 rfl) ?_
      refine gR C0 w 183 fk_X11_55 (by decide +kernel) dX11_observe_27 ?_
      refine lv_iload_n hx hb dX11_observe_30 rfl (lv_at hl 1 rfl) ?_
      refine lv_iload_n hx hb dX11_observe_31 rfl (lv_at hl 2 rfl) ?_
      obtain ⟨q13, h14, hf⟩ := bdE hf
      refine cV (As := [.int x1, .int x2]) (rest := []) (k := 183) (ci := 0) (T := TX1) (N := 7) C0 w (m_X1_takeTimes l B _ q11 x1 x2 q13 h14) ky_X1_takeTimes kv_X1_takeTimes lk_X11_183 rfl (by decide +kernel) ⟨Nat.le_of_ble_eq_true rfl, Nat.le_of_ble_eq_true rfl⟩ ⟨Nat.le_of_ble_eq_true rfl, Nat.le_of_ble_eq_true rfl⟩ rfl (by rfl) (Nat.le_of_ble_eq_true rfl) hl.1 dX11_observe_32 (fun H locs w => ?_)
      refine lv_aload_n hx hb dX11_observe_35 rfl (lv_at hl 0 rfl) ?_
      refine gR C0 w 1 fk_X11_10 (by decide +kernel) dX11_observe_36 ?_
      refine gI C0 w fk_X11_153 (by decide +kernel) dX11_observe_39 ?_
      exact nomatch (Prod.mk.inj (Option.some.inj hf)).1
    · subst h10
      have h8 := h8.symm
      subst h8
      refine cST (As := [.int x2, .int 0, .int 999999]) (rest := []) C0 w (t_X11_needRange l hfl B _ σ x2 0 999999 _ h7) ky_X11_needRange ks_X11_needRange lk_X11_93 ⟨Nat.le_of_ble_eq_true rfl, Nat.le_of_ble_eq_true rfl⟩ ⟨Nat.le_of_ble_eq_true rfl, Nat.le_of_ble_eq_true rfl⟩ rfl (by rfl) (Nat.le_of_ble_eq_true rfl) hl.1 dX11_observe_12 (fun ce q9 H locs w g1 g2 g3 => ?_)
      exact xOut C0 hto w g1 g2 g3 (Nat.le_of_ble_eq_true rfl) (Nat.le_of_ble_eq_true rfl)
  · subst h5
    have h8 := h8.symm
    subst h8
    refine cST (As := [.int x1, .int 0, .int 1000]) (rest := []) C0 w (t_X11_needRange l hfl B _ σ x1 0 1000 _ h2) ky_X11_needRange ks_X11_needRange lk_X11_93 ⟨Nat.le_of_ble_eq_true rfl, Nat.le_of_ble_eq_true rfl⟩ ⟨Nat.le_of_ble_eq_true rfl, Nat.le_of_ble_eq_true rfl⟩ rfl (by rfl) (Nat.le_of_ble_eq_true rfl) hl.1 dX11_observe_5 (fun ce q9 H locs w g1 g2 g3 => ?_)
    exact xOut C0 hto w g1 g2 g3 (Nat.le_of_ble_eq_true rfl) (Nat.le_of_ble_eq_true rfl)
def f_X11_setOrder (x1 : Int32) (x2 : Int32) (x3 : Int32) (σ : Mem) : Option ((Int32 ⊕ String) × Mem) :=
  bd (f_X11_needRange x1 1 2000 σ) (fun q1 =>
  xm q1 σ (fun v3 =>
  bd (f_X11_needRange x2 0 3 σ) (fun q6 =>
  xm q6 σ (fun v8 =>
  bd (f_X11_needRange x3 0 999999 σ) (fun q11 =>
  xm q11 σ (fun v13 =>
  bd (f_X3_save 1 σ) (fun q16 =>
  some (.inl (q16.1 1 4), setL (setI (setI q16 1 4 x1) 1 5 x2) 1 6 x3.toInt64))))))))
abbrev rm_X11_setOrder : Room := { frames := 3, cells := 0, slots := 0, locals := 91 }
abbrev rmt_X11_setOrder : Room := { frames := 7, cells := 1, slots := 6, locals := 112 }
set_option maxHeartbeats 4000000 in
set_option maxRecDepth 100000 in
theorem m_X11_setOrder (l : Launch) (B : Wb) (sz : Nat) (σ : Mem) (x1 : Int32) (x2 : Int32) (x3 : Int32) (v : Int32) (σ9 : Mem) (hf : f_X11_setOrder x1 x2 x3 σ = some (.inl v, σ9)) : MetC l yX11_setOrder cX11_setOrder 5 (some .int) rm_X11_setOrder B sz σ σ9 [.ref (wA B 0), .int x1, .int x2, .int x3] (some (.int v)) := by
  refine met_in (by decide +kernel) (Nat.le_of_ble_eq_true rfl) ?_
  intro p e s m below meth c C0 hr w hsz ls hl
  have hx := C0.1.1
  have hb := C0.1.2.1
  unfold f_X11_setOrder at hf
  refine lv_iload_n hx hb dX11_setOrder_0 rfl (lv_at hl 1 rfl) ?_
  refine lv_iconst (v := 1) hx hb dX11_setOrder_1 (by decide) ?_
  refine lv_sipush (v := 2000) hx hb dX11_setOrder_2 (by decide) ?_
  obtain ⟨q1, h2, hf⟩ := bdE hf
  obtain ⟨v3, h5, hf⟩ := xmE1 hf
  subst h5
  refine cS (As := [.int x1, .int 1, .int 2000]) (rest := []) C0 w (m_X11_needRange l B _ σ x1 1 2000 v3 h2) ky_X11_needRange ks_X11_needRange lk_X11_93 ⟨Nat.le_of_ble_eq_true rfl, Nat.le_of_ble_eq_true rfl⟩ ⟨Nat.le_of_ble_eq_true rfl, Nat.le_of_ble_eq_true rfl⟩ rfl (by rfl) (Nat.le_of_ble_eq_true rfl) hl.1 dX11_setOrder_5 (fun H locs w => ?_)
  refine lv_iload_n hx hb dX11_setOrder_8 rfl (lv_at hl 2 rfl) ?_
  refine lv_iconst (v := 0) hx hb dX11_setOrder_9 (by decide) ?_
  refine lv_iconst (v := 3) hx hb dX11_setOrder_10 (by decide) ?_
  obtain ⟨q6, h7, hf⟩ := bdE hf
  obtain ⟨v8, h10, hf⟩ := xmE1 hf
  subst h10
  refine cS (As := [.int x2, .int 0, .int 3]) (rest := []) C0 w (m_X11_needRange l B _ σ x2 0 3 v8 h7) ky_X11_needRange ks_X11_needRange lk_X11_93 ⟨Nat.le_of_ble_eq_true rfl, Nat.le_of_ble_eq_true rfl⟩ ⟨Nat.le_of_ble_eq_true rfl, Nat.le_of_ble_eq_true rfl⟩ rfl (by rfl) (Nat.le_of_ble_eq_true rfl) hl.1 dX11_setOrder_11 (fun H locs w => ?_)
  refine lv_iload_n hx hb dX11_setOrder_14 rfl (lv_at hl 3 rfl) ?_
  refine lv_iconst (v := 0) hx hb dX11_setOrder_15 (by decide) ?_
  refine kIn C0 999999 kc_X11_182 dX11_setOrder_16 ?_
  obtain ⟨q11, h12, hf⟩ := bdE hf
  obtain ⟨v13, h15, hf⟩ := xmE1 hf
  subst h15
  refine cS (As := [.int x3, .int 0, .int 999999]) (rest := []) C0 w (m_X11_needRange l B _ σ x3 0 999999 v13 h12) ky_X11_needRange ks_X11_needRange lk_X11_93 ⟨Nat.le_of_ble_eq_true rfl, Nat.le_of_ble_eq_true rfl⟩ ⟨Nat.le_of_ble_eq_true rfl, Nat.le_of_ble_eq_true rfl⟩ rfl (by rfl) (Nat.le_of_ble_eq_true rfl) hl.1 dX11_setOrder_18 (fun H locs w => ?_)
  refine lv_aload_n hx hb dX11_setOrder_21 rfl (lv_at hl 0 rfl) ?_
  refine gR C0 w 189 fk_X11_71 (by decide +kernel) dX11_setOrder_22 ?_
  refine lv_aload_n hx hb dX11_setOrder_25 rfl (lv_at hl 0 rfl) ?_
  refine gR C0 w 1 fk_X11_10 (by decide +kernel) dX11_setOrder_26 ?_
  obtain ⟨q16, h17, hf⟩ := bdE hf
  refine cV (As := [.ref (wA B 1)]) (rest := []) (k := 189) (ci := 2) (T := TX3) (N := 3) C0 w (m_X3_save l B _ σ 1 q16 h17) ky_X3_save kv_X3_save lk_X11_97 rfl (by decide +kernel) ⟨Nat.le_of_ble_eq_true rfl, Nat.le_of_ble_eq_true rfl⟩ ⟨Nat.le_of_ble_eq_true rfl, Nat.le_of_ble_eq_true rfl⟩ rfl (by rfl) (Nat.le_of_ble_eq_true rfl) hl.1 dX11_setOrder_29 (fun H locs w => ?_)
  refine lv_aload_n hx hb dX11_setOrder_32 rfl (lv_at hl 0 rfl) ?_
  refine gR C0 w 1 fk_X11_10 (by decide +kernel) dX11_setOrder_33 ?_
  refine gI C0 w fk_X11_186 (by decide +kernel) dX11_setOrder_36 ?_
  refine lv_istore (lv' := [(4, .int (q16.1 1 4)), (0, .ref (wA B 0)), (1, .int x1), (2, .int x2), (3, .int x3)]) hx hb dX11_setOrder_39 hl (by decide) rfl (fun ls hl => ?_)
  refine lv_aload_n hx hb dX11_setOrder_41 rfl (lv_at hl 1 rfl) ?_
  refine gR C0 w 1 fk_X11_10 (by decide +kernel) dX11_setOrder_42 ?_
  refine lv_iload_n hx hb dX11_setOrder_45 rfl (lv_at hl 2 rfl) ?_
  refine pI C0 w fk_X11_186 fp_X7_4 (by decide +kernel) dX11_setOrder_46 (fun H locs w => ?_)
  refine lv_aload_n hx hb dX11_setOrder_49 rfl (lv_at hl 1 rfl) ?_
  refine gR C0 w 1 fk_X11_10 (by decide +kernel) dX11_setOrder_50 ?_
  refine lv_iload_n hx hb dX11_setOrder_53 rfl (lv_at hl 3 rfl) ?_
  refine pI C0 w fk_X11_189 fp_X7_5 (by decide +kernel) dX11_setOrder_54 (fun H locs w => ?_)
  refine lv_aload_n hx hb dX11_setOrder_57 rfl (lv_at hl 1 rfl) ?_
  refine gR C0 w 1 fk_X11_10 (by decide +kernel) dX11_setOrder_58 ?_
  refine lv_iload_n hx hb dX11_setOrder_61 rfl (lv_at hl 4 rfl) ?_
  refine lv_i2l hx hb dX11_setOrder_62 rfl ?_
  refine pL C0 w fk_X11_192 fp_X7_6 (by decide +kernel) dX11_setOrder_63 (fun H locs w => ?_)
  refine lv_iload hx hb dX11_setOrder_66 (lv_at hl 0 rfl) ?_
  obtain ⟨h8, h9⟩ := Prod.mk.inj (Option.some.inj hf)
  obtain rfl := Sum.inl.inj h8
  subst h9
  exact eI C0 hr w rfl dX11_setOrder_68
set_option maxHeartbeats 4000000 in
set_option maxRecDepth 100000 in
theorem t_X11_setOrder (l : Launch) (hfl : l.stackTraces = false) (B : Wb) (sz : Nat) (σ : Mem) (x1 : Int32) (x2 : Int32) (x3 : Int32) (E : String) (σ9 : Mem) (hf : f_X11_setOrder x1 x2 x3 σ = some (.inr E, σ9)) : MetT l yX11_setOrder cX11_setOrder 5 (some .int) rmt_X11_setOrder B sz σ σ9 [.ref (wA B 0), .int x1, .int x2, .int x3] E := by
  refine metT_in (by decide +kernel) (Nat.le_of_ble_eq_true rfl) ?_
  intro p e s m below meth c C0 hto w hsz ls hl
  have hx := C0.1.1
  have hb := C0.1.2.1
  unfold f_X11_setOrder at hf
  refine lv_iload_n hx hb dX11_setOrder_0 rfl (lv_at hl 1 rfl) ?_
  refine lv_iconst (v := 1) hx hb dX11_setOrder_1 (by decide) ?_
  refine lv_sipush (v := 2000) hx hb dX11_setOrder_2 (by decide) ?_
  obtain ⟨q1, h2, hf⟩ := bdE hf
  rcases xmE2 hf with ⟨v3, h5, hf⟩ | ⟨h5, h8⟩
  · subst h5
    refine cS (As := [.int x1, .int 1, .int 2000]) (rest := []) C0 w (m_X11_needRange l B _ σ x1 1 2000 v3 h2) ky_X11_needRange ks_X11_needRange lk_X11_93 ⟨Nat.le_of_ble_eq_true rfl, Nat.le_of_ble_eq_true rfl⟩ ⟨Nat.le_of_ble_eq_true rfl, Nat.le_of_ble_eq_true rfl⟩ rfl (by rfl) (Nat.le_of_ble_eq_true rfl) hl.1 dX11_setOrder_5 (fun H locs w => ?_)
    refine lv_iload_n hx hb dX11_setOrder_8 rfl (lv_at hl 2 rfl) ?_
    refine lv_iconst (v := 0) hx hb dX11_setOrder_9 (by decide) ?_
    refine lv_iconst (v := 3) hx hb dX11_setOrder_10 (by decide) ?_
    obtain ⟨q6, h7, hf⟩ := bdE hf
    rcases xmE2 hf with ⟨v8, h10, hf⟩ | ⟨h10, h8⟩
    · subst h10
      refine cS (As := [.int x2, .int 0, .int 3]) (rest := []) C0 w (m_X11_needRange l B _ σ x2 0 3 v8 h7) ky_X11_needRange ks_X11_needRange lk_X11_93 ⟨Nat.le_of_ble_eq_true rfl, Nat.le_of_ble_eq_true rfl⟩ ⟨Nat.le_of_ble_eq_true rfl, Nat.le_of_ble_eq_true rfl⟩ rfl (by rfl) (Nat.le_of_ble_eq_true rfl) hl.1 dX11_setOrder_11 (fun H locs w => ?_)
      refine lv_iload_n hx hb dX11_setOrder_14 rfl (lv_at hl 3 rfl) ?_
      refine lv_iconst (v := 0) hx hb dX11_setOrder_15 (by decide) ?_
      refine kIn C0 999999 kc_X11_182 dX11_setOrder_16 ?_
      obtain ⟨q11, h12, hf⟩ := bdE hf
      rcases xmE2 hf with ⟨v13, h15, hf⟩ | ⟨h15, h8⟩
      · subst h15
        refine cS (As := [.int x3, .int 0, .int 999999]) (rest := []) C0 w (m_X11_needRange l B _ σ x3 0 999999 v13 h12) ky_X11_needRange ks_X11_needRange lk_X11_93 ⟨Nat.le_of_ble_eq_true rfl, Nat.le_of_ble_eq_true rfl⟩ ⟨Nat.le_of_ble_eq_true rfl, Nat.le_of_ble_eq_true rfl⟩ rfl (by rfl) (Nat.le_of_ble_eq_true rfl) hl.1 dX11_setOrder_18 (fun H locs w => ?_)
        refine lv_aload_n hx hb dX11_setOrder_21 rfl (lv_at hl 0 rfl) ?_
        refine gR C0 w 189 fk_X11_71 (by decide +kernel) dX11_setOrder_22 ?_
        refine lv_aload_n hx hb dX11_setOrder_25 rfl (lv_at hl 0 rfl) ?_
        refine gR C0 w 1 fk_X11_10 (by decide +kernel) dX11_setOrder_26 ?_
        obtain ⟨q16, h17, hf⟩ := bdE hf
        refine cV (As := [.ref (wA B 1)]) (rest := []) (k := 189) (ci := 2) (T := TX3) (N := 3) C0 w (m_X3_save l B _ σ 1 q16 h17) ky_X3_save kv_X3_save lk_X11_97 rfl (by decide +kernel) ⟨Nat.le_of_ble_eq_true rfl, Nat.le_of_ble_eq_true rfl⟩ ⟨Nat.le_of_ble_eq_true rfl, Nat.le_of_ble_eq_true rfl⟩ rfl (by rfl) (Nat.le_of_ble_eq_true rfl) hl.1 dX11_setOrder_29 (fun H locs w => ?_)
        refine lv_aload_n hx hb dX11_setOrder_32 rfl (lv_at hl 0 rfl) ?_
        refine gR C0 w 1 fk_X11_10 (by decide +kernel) dX11_setOrder_33 ?_
        refine gI C0 w fk_X11_186 (by decide +kernel) dX11_setOrder_36 ?_
        refine lv_istore (lv' := [(4, .int (q16.1 1 4)), (0, .ref (wA B 0)), (1, .int x1), (2, .int x2), (3, .int x3)]) hx hb dX11_setOrder_39 hl (by decide) rfl (fun ls hl => ?_)
        refine lv_aload_n hx hb dX11_setOrder_41 rfl (lv_at hl 1 rfl) ?_
        refine gR C0 w 1 fk_X11_10 (by decide +kernel) dX11_setOrder_42 ?_
        refine lv_iload_n hx hb dX11_setOrder_45 rfl (lv_at hl 2 rfl) ?_
        refine pI C0 w fk_X11_186 fp_X7_4 (by decide +kernel) dX11_setOrder_46 (fun H locs w => ?_)
        refine lv_aload_n hx hb dX11_setOrder_49 rfl (lv_at hl 1 rfl) ?_
        refine gR C0 w 1 fk_X11_10 (by decide +kernel) dX11_setOrder_50 ?_
        refine lv_iload_n hx hb dX11_setOrder_53 rfl (lv_at hl 3 rfl) ?_
        refine pI C0 w fk_X11_189 fp_X7_5 (by decide +kernel) dX11_setOrder_54 (fun H locs w => ?_)
        refine lv_aload_n hx hb dX11_setOrder_57 rfl (lv_at hl 1 rfl) ?_
        refine gR C0 w 1 fk_X11_10 (by decide +kernel) dX11_setOrder_58 ?_
        refine lv_iload_n hx hb dX11_setOrder_61 rfl (lv_at hl 4 rfl) ?_
        refine lv_i2l hx hb dX11_setOrder_62 rfl ?_
        refine pL C0 w fk_X11_192 fp_X7_6 (by decide +kernel) dX11_setOrder_63 (fun H locs w => ?_)
        refine lv_iload hx hb dX11_setOrder_66 (lv_at hl 0 rfl) ?_
        exact nomatch (Prod.mk.inj (Option.some.inj hf)).1
      · subst h15
        have h8 := h8.symm
        subst h8
        refine cST (As := [.int x3, .int 0, .int 999999]) (rest := []) C0 w (t_X11_needRange l hfl B _ σ x3 0 999999 _ h12) ky_X11_needRange ks_X11_needRange lk_X11_93 ⟨Nat.le_of_ble_eq_true rfl, Nat.le_of_ble_eq_true rfl⟩ ⟨Nat.le_of_ble_eq_true rfl, Nat.le_of_ble_eq_true rfl⟩ rfl (by rfl) (Nat.le_of_ble_eq_true rfl) hl.1 dX11_setOrder_18 (fun ce q9 H locs w g1 g2 g3 => ?_)
        exact xOut C0 hto w g1 g2 g3 (Nat.le_of_ble_eq_true rfl) (Nat.le_of_ble_eq_true rfl)
    · subst h10
      have h8 := h8.symm
      subst h8
      refine cST (As := [.int x2, .int 0, .int 3]) (rest := []) C0 w (t_X11_needRange l hfl B _ σ x2 0 3 _ h7) ky_X11_needRange ks_X11_needRange lk_X11_93 ⟨Nat.le_of_ble_eq_true rfl, Nat.le_of_ble_eq_true rfl⟩ ⟨Nat.le_of_ble_eq_true rfl, Nat.le_of_ble_eq_true rfl⟩ rfl (by rfl) (Nat.le_of_ble_eq_true rfl) hl.1 dX11_setOrder_11 (fun ce q9 H locs w g1 g2 g3 => ?_)
      exact xOut C0 hto w g1 g2 g3 (Nat.le_of_ble_eq_true rfl) (Nat.le_of_ble_eq_true rfl)
  · subst h5
    have h8 := h8.symm
    subst h8
    refine cST (As := [.int x1, .int 1, .int 2000]) (rest := []) C0 w (t_X11_needRange l hfl B _ σ x1 1 2000 _ h2) ky_X11_needRange ks_X11_needRange lk_X11_93 ⟨Nat.le_of_ble_eq_true rfl, Nat.le_of_ble_eq_true rfl⟩ ⟨Nat.le_of_ble_eq_true rfl, Nat.le_of_ble_eq_true rfl⟩ rfl (by rfl) (Nat.le_of_ble_eq_true rfl) hl.1 dX11_setOrder_5 (fun ce q9 H locs w g1 g2 g3 => ?_)
    exact xOut C0 hto w g1 g2 g3 (Nat.le_of_ble_eq_true rfl) (Nat.le_of_ble_eq_true rfl)
def f_X11_needObserved (x1 : Int32) (σ : Mem) : Option (Unit ⊕ String) :=
  gd (inb x1 16) (
  if (σ.2 6 x1.toNatClampNeg) = ((-1 : Int64)) then (
    some (.inr xIS))
  else (
    some (.inl (()))))
abbrev rm_X11_needObserved : Room := { frames := 0, cells := 0, slots := 0, locals := 0 }
abbrev rmt_X11_needObserved : Room := { frames := 6, cells := 1, slots := 6, locals := 90 }
set_option maxHeartbeats 4000000 in
set_option maxRecDepth 100000 in
theorem m_X11_needObserved (l : Launch) (B : Wb) (sz : Nat) (σ : Mem) (x1 : Int32) (v : Unit) (hf : f_X11_needObserved x1 σ = some (.inl v)) : MetC l yX11_needObserved cX11_needObserved 2 none rm_X11_needObserved B sz σ σ [.ref (wA B 0), .int x1] (none) := by
  refine met_in (by decide +kernel) (Nat.le_of_ble_eq_true rfl) ?_
  intro p e s m below meth c C0 hr w hsz ls hl
  have hx := C0.1.1
  have hb := C0.1.2.1
  unfold f_X11_needObserved at hf
  refine lv_aload_n hx hb dX11_needObserved_0 rfl (lv_at hl 0 rfl) ?_
  refine gR C0 w 1 fk_X11_10 (by decide +kernel) dX11_needObserved_1 ?_
  refine gR C0 w 6 fk_X11_178 (by decide +kernel) dX11_needObserved_4 ?_
  refine lv_iload_n hx hb dX11_needObserved_7 rfl (lv_at hl 1 rfl) ?_
  obtain ⟨g1, hf⟩ := gdE hf
  refine aL C0 w (n := 16) (by decide +kernel) (inbE g1) dX11_needObserved_8 ?_
  refine kLg C0 (-1) kc_X11_169 dX11_needObserved_9 ?_
  refine lc_ne (tgt := 27) C0 dX11_needObserved_12 dX11_needObserved_13 (by decide) (fun c2 => ?_) (fun c2 => ?_)
  · rw [if_neg c2] at hf
    obtain rfl := Sum.inl.inj (Option.some.inj hf)
    exact eV C0 hr w dX11_needObserved_27
  · rw [if_pos c2] at hf
    exact nomatch Option.some.inj hf
set_option maxHeartbeats 4000000 in
set_option maxRecDepth 100000 in
theorem t_X11_needObserved (l : Launch) (hfl : l.stackTraces = false) (B : Wb) (sz : Nat) (σ : Mem) (x1 : Int32) (E : String) (hf : f_X11_needObserved x1 σ = some (.inr E)) : MetT l yX11_needObserved cX11_needObserved 2 none rmt_X11_needObserved B sz σ σ [.ref (wA B 0), .int x1] E := by
  refine metT_in (by decide +kernel) (Nat.le_of_ble_eq_true rfl) ?_
  intro p e s m below meth c C0 hto w hsz ls hl
  have hx := C0.1.1
  have hb := C0.1.2.1
  unfold f_X11_needObserved at hf
  refine lv_aload_n hx hb dX11_needObserved_0 rfl (lv_at hl 0 rfl) ?_
  refine gR C0 w 1 fk_X11_10 (by decide +kernel) dX11_needObserved_1 ?_
  refine gR C0 w 6 fk_X11_178 (by decide +kernel) dX11_needObserved_4 ?_
  refine lv_iload_n hx hb dX11_needObserved_7 rfl (lv_at hl 1 rfl) ?_
  obtain ⟨g1, hf⟩ := gdE hf
  refine aL C0 w (n := 16) (by decide +kernel) (inbE g1) dX11_needObserved_8 ?_
  refine kLg C0 (-1) kc_X11_169 dX11_needObserved_9 ?_
  refine lc_ne (tgt := 27) C0 dX11_needObserved_12 dX11_needObserved_13 (by decide) (fun c2 => ?_) (fun c2 => ?_)
  · rw [if_neg c2] at hf
    exact nomatch Option.some.inj hf
  · rw [if_pos c2] at hf
    obtain rfl := Sum.inr.inj (Option.some.inj hf)
    exact xThrowW C0 hfl hto w xk_X11_348_150 hl.1 dX11_needObserved_16 dX11_needObserved_19 dX11_needObserved_20 dX11_needObserved_23 dX11_needObserved_26 (Nat.le_of_ble_eq_true rfl) (Nat.le_of_ble_eq_true rfl) (Nat.le_of_ble_eq_true rfl) (Nat.le_of_ble_eq_true rfl) (Nat.le_of_ble_eq_true rfl) (Nat.le_of_ble_eq_true rfl)
def f_X11_correct (x1 : Int32) (σ : Mem) : Option ((Int32 ⊕ String) × Mem) :=
  bd (f_X11_needRay x1 σ) (fun q1 =>
  xm q1 σ (fun v3 =>
  bd (f_X11_needObserved x1 σ) (fun q6 =>
  xm q6 σ (fun v8 =>
  bd (f_X3_save 1 σ) (fun q11 =>
  bd (f_X1_project x1 q11) (fun q13 =>
  some (.inl q13.1, q13.2)))))))
abbrev rm_X11_correct : Room := { frames := 4, cells := 0, slots := 0, locals := 113 }
abbrev rmt_X11_correct : Room := { frames := 7, cells := 1, slots := 6, locals := 113 }
set_option maxHeartbeats 4000000 in
set_option maxRecDepth 100000 in
theorem m_X11_correct (l : Launch) (B : Wb) (sz : Nat) (σ : Mem) (x1 : Int32) (v : Int32) (σ9 : Mem) (hf : f_X11_correct x1 σ = some (.inl v, σ9)) : MetC l yX11_correct cX11_correct 2 (some .int) rm_X11_correct B sz σ σ9 [.ref (wA B 0), .int x1] (some (.int v)) := by
  refine met_in (by decide +kernel) (Nat.le_of_ble_eq_true rfl) ?_
  intro p e s m below meth c C0 hr w hsz ls hl
  have hx := C0.1.1
  have hb := C0.1.2.1
  unfold f_X11_correct at hf
  refine lv_aload_n hx hb dX11_correct_0 rfl (lv_at hl 0 rfl) ?_
  refine lv_iload_n hx hb dX11_correct_1 rfl (lv_at hl 1 rfl) ?_
  obtain ⟨q1, h2, hf⟩ := bdE hf
  obtain ⟨v3, h5, hf⟩ := xmE1 hf
  subst h5
  refine cV (As := [.int x1]) (rest := []) (k := 0) (ci := 9) (T := TX11) (N := 9) C0 w (m_X11_needRay l B _ σ x1 v3 h2) ky_X11_needRay kv_X11_needRay lk_X11_159 rfl (by decide +kernel) ⟨Nat.le_of_ble_eq_true rfl, Nat.le_of_ble_eq_true rfl⟩ ⟨Nat.le_of_ble_eq_true rfl, Nat.le_of_ble_eq_true rfl⟩ rfl (by rfl) (Nat.le_of_ble_eq_true rfl) hl.1 dX11_correct_2 (fun H locs w => ?_)
  refine lv_aload_n hx hb dX11_correct_5 rfl (lv_at hl 0 rfl) ?_
  refine lv_iload_n hx hb dX11_correct_6 rfl (lv_at hl 1 rfl) ?_
  obtain ⟨q6, h7, hf⟩ := bdE hf
  obtain ⟨v8, h10, hf⟩ := xmE1 hf
  subst h10
  refine cV (As := [.int x1]) (rest := []) (k := 0) (ci := 9) (T := TX11) (N := 9) C0 w (m_X11_needObserved l B _ σ x1 v8 h7) ky_X11_needObserved kv_X11_needObserved lk_X11_196 rfl (by decide +kernel) ⟨Nat.le_of_ble_eq_true rfl, Nat.le_of_ble_eq_true rfl⟩ ⟨Nat.le_of_ble_eq_true rfl, Nat.le_of_ble_eq_true rfl⟩ rfl (by rfl) (Nat.le_of_ble_eq_true rfl) hl.1 dX11_correct_7 (fun H locs w => ?_)
  refine lv_aload_n hx hb dX11_correct_10 rfl (lv_at hl 0 rfl) ?_
  refine gR C0 w 189 fk_X11_71 (by decide +kernel) dX11_correct_11 ?_
  refine lv_aload_n hx hb dX11_correct_14 rfl (lv_at hl 0 rfl) ?_
  refine gR C0 w 1 fk_X11_10 (by decide +kernel) dX11_correct_15 ?_
  obtain ⟨q11, h12, hf⟩ := bdE hf
  refine cV (As := [.ref (wA B 1)]) (rest := []) (k := 189) (ci := 2) (T := TX3) (N := 3) C0 w (m_X3_save l B _ σ 1 q11 h12) ky_X3_save kv_X3_save lk_X11_97 rfl (by decide +kernel) ⟨Nat.le_of_ble_eq_true rfl, Nat.le_of_ble_eq_true rfl⟩ ⟨Nat.le_of_ble_eq_true rfl, Nat.le_of_ble_eq_true rfl⟩ rfl (by rfl) (Nat.le_of_ble_eq_true rfl) hl.1 dX11_correct_18 (fun H locs w => ?_)
  refine lv_aload_n hx hb dX11_correct_21 rfl (lv_at hl 0 rfl) ?_
  refine gR C0 w 183 fk_X11_55 (by decide +kernel) dX11_correct_22 ?_
  refine lv_iload_n hx hb dX11_correct_25 rfl (lv_at hl 1 rfl) ?_
  obtain ⟨q13, h14, hf⟩ := bdE hf
  refine cV (As := [.int x1]) (rest := []) (k := 183) (ci := 0) (T := TX1) (N := 7) C0 w (m_X1_project l B _ q11 x1 q13 h14) ky_X1_project kv_X1_project lk_X11_199 rfl (by decide +kernel) ⟨Nat.le_of_ble_eq_true rfl, Nat.le_of_ble_eq_true rfl⟩ ⟨Nat.le_of_ble_eq_true rfl, Nat.le_of_ble_eq_true rfl⟩ rfl (by rfl) (Nat.le_of_ble_eq_true rfl) hl.1 dX11_correct_26 (fun H locs w => ?_)
  obtain ⟨h8, h9⟩ := Prod.mk.inj (Option.some.inj hf)
  obtain rfl := Sum.inl.inj h8
  subst h9
  exact eI C0 hr w rfl dX11_correct_29
set_option maxHeartbeats 4000000 in
set_option maxRecDepth 100000 in
theorem t_X11_correct (l : Launch) (hfl : l.stackTraces = false) (B : Wb) (sz : Nat) (σ : Mem) (x1 : Int32) (E : String) (σ9 : Mem) (hf : f_X11_correct x1 σ = some (.inr E, σ9)) : MetT l yX11_correct cX11_correct 2 (some .int) rmt_X11_correct B sz σ σ9 [.ref (wA B 0), .int x1] E := by
  refine metT_in (by decide +kernel) (Nat.le_of_ble_eq_true rfl) ?_
  intro p e s m below meth c C0 hto w hsz ls hl
  have hx := C0.1.1
  have hb := C0.1.2.1
  unfold f_X11_correct at hf
  refine lv_aload_n hx hb dX11_correct_0 rfl (lv_at hl 0 rfl) ?_
  refine lv_iload_n hx hb dX11_correct_1 rfl (lv_at hl 1 rfl) ?_
  obtain ⟨q1, h2, hf⟩ := bdE hf
  rcases xmE2 hf with ⟨v3, h5, hf⟩ | ⟨h5, h8⟩
  · subst h5
    refine cV (As := [.int x1]) (rest := []) (k := 0) (ci := 9) (T := TX11) (N := 9) C0 w (m_X11_needRay l B _ σ x1 v3 h2) ky_X11_needRay kv_X11_needRay lk_X11_159 rfl (by decide +kernel) ⟨Nat.le_of_ble_eq_true rfl, Nat.le_of_ble_eq_true rfl⟩ ⟨Nat.le_of_ble_eq_true rfl, Nat.le_of_ble_eq_true rfl⟩ rfl (by rfl) (Nat.le_of_ble_eq_true rfl) hl.1 dX11_correct_2 (fun H locs w => ?_)
    refine lv_aload_n hx hb dX11_correct_5 rfl (lv_at hl 0 rfl) ?_
    refine lv_iload_n hx hb dX11_correct_6 rfl (lv_at hl 1 rfl) ?_
    obtain ⟨q6, h7, hf⟩ := bdE hf
    rcases xmE2 hf with ⟨v8, h10, hf⟩ | ⟨h10, h8⟩
    · subst h10
      refine cV (As := [.int x1]) (rest := []) (k := 0) (ci := 9) (T := TX11) (N := 9) C0 w (m_X11_needObserved l B _ σ x1 v8 h7) ky_X11_needObserved kv_X11_needObserved lk_X11_196 rfl (by decide +kernel) ⟨Nat.le_of_ble_eq_true rfl, Nat.le_of_ble_eq_true rfl⟩ ⟨Nat.le_of_ble_eq_true rfl, Nat.le_of_ble_eq_true rfl⟩ rfl (by rfl) (Nat.le_of_ble_eq_true rfl) hl.1 dX11_correct_7 (fun H locs w => ?_)
      refine lv_aload_n hx hb dX11_correct_10 rfl (lv_at hl 0 rfl) ?_
      refine gR C0 w 189 fk_X11_71 (by decide +kernel) dX11_correct_11 ?_
      refine lv_aload_n hx hb dX11_correct_14 rfl (lv_at hl 0 rfl) ?_
      refine gR C0 w 1 fk_X11_10 (by decide +kernel) dX11_correct_15 ?_
      obtain ⟨q11, h12, hf⟩ := bdE hf
      refine cV (As := [.ref (wA B 1)]) (rest := []) (k := 189) (ci := 2) (T := TX3) (N := 3) C0 w (m_X3_save l B _ σ 1 q11 h12) ky_X3_save kv_X3_save lk_X11_97 rfl (by decide +kernel) ⟨Nat.le_of_ble_eq_true rfl, Nat.le_of_ble_eq_true rfl⟩ ⟨Nat.le_of_ble_eq_true rfl, Nat.le_of_ble_eq_true rfl⟩ rfl (by rfl) (Nat.le_of_ble_eq_true rfl) hl.1 dX11_correct_18 (fun H locs w => ?_)
      refine lv_aload_n hx hb dX11_correct_21 rfl (lv_at hl 0 rfl) ?_
      refine gR C0 w 183 fk_X11_55 (by decide +kernel) dX11_correct_22 ?_
      refine lv_iload_n hx hb dX11_correct_25 rfl (lv_at hl 1 rfl) ?_
      obtain ⟨q13, h14, hf⟩ := bdE hf
      refine cV (As := [.int x1]) (rest := []) (k := 183) (ci := 0) (T := TX1) (N := 7) C0 w (m_X1_project l B _ q11 x1 q13 h14) ky_X1_project kv_X1_project lk_X11_199 rfl (by decide +kernel) ⟨Nat.le_of_ble_eq_true rfl, Nat.le_of_ble_eq_true rfl⟩ ⟨Nat.le_of_ble_eq_true rfl, Nat.le_of_ble_eq_true rfl⟩ rfl (by rfl) (Nat.le_of_ble_eq_true rfl) hl.1 dX11_correct_26 (fun H locs w => ?_)
      exact nomatch (Prod.mk.inj (Option.some.inj hf)).1
    · subst h10
      have h8 := h8.symm
      subst h8
      refine cVT (As := [.int x1]) (rest := []) (k := 0) (ci := 9) (T := TX11) (N := 9) C0 w (t_X11_needObserved l hfl B _ σ x1 _ h7) ky_X11_needObserved kv_X11_needObserved lk_X11_196 rfl (by decide +kernel) ⟨Nat.le_of_ble_eq_true rfl, Nat.le_of_ble_eq_true rfl⟩ ⟨Nat.le_of_ble_eq_true rfl, Nat.le_of_ble_eq_true rfl⟩ rfl (by rfl) (Nat.le_of_ble_eq_true rfl) hl.1 dX11_correct_7 (fun ce q9 H locs w g1 g2 g3 => ?_)
      exact xOut C0 hto w g1 g2 g3 (Nat.le_of_ble_eq_true rfl) (Nat.le_of_ble_eq_true rfl)
  · subst h5
    have h8 := h8.symm
    subst h8
    refine cVT (As := [.int x1]) (rest := []) (k := 0) (ci := 9) (T := TX11) (N := 9) C0 w (t_X11_needRay l hfl B _ σ x1 _ h2) ky_X11_needRay kv_X11_needRay lk_X11_159 rfl (by decide +kernel) ⟨Nat.le_of_ble_eq_true rfl, Nat.le_of_ble_eq_true rfl⟩ ⟨Nat.le_of_ble_eq_true rfl, Nat.le_of_ble_eq_true rfl⟩ rfl (by rfl) (Nat.le_of_ble_eq_true rfl) hl.1 dX11_correct_2 (fun ce q9 H locs w g1 g2 g3 => ?_)
    exact xOut C0 hto w g1 g2 g3 (Nat.le_of_ble_eq_true rfl) (Nat.le_of_ble_eq_true rfl)
def f_X11_sweep (x1 : Int32) (σ : Mem) : Option ((Int32 ⊕ String) × Mem) :=
  bd (f_X11_needRange x1 1 20 σ) (fun q1 =>
  xm q1 σ (fun v3 =>
  bd (f_X3_save 1 σ) (fun q6 =>
  bd (f_X8_makeSweeps x1 q6) (fun q8 =>
  some (.inl q8.1, q8.2)))))
abbrev rm_X11_sweep : Room := { frames := 5, cells := 0, slots := 0, locals := 138 }
abbrev rmt_X11_sweep : Room := { frames := 7, cells := 1, slots := 6, locals := 138 }
set_option maxHeartbeats 4000000 in
set_option maxRecDepth 100000 in
theorem m_X11_sweep (l : Launch) (B : Wb) (sz : Nat) (σ : Mem) (x1 : Int32) (v : Int32) (σ9 : Mem) (hf : f_X11_sweep x1 σ = some (.inl v, σ9)) : MetC l yX11_sweep cX11_sweep 2 (some .int) rm_X11_sweep B sz σ σ9 [.ref (wA B 0), .int x1] (some (.int v)) := by
  refine met_in (by decide +kernel) (Nat.le_of_ble_eq_true rfl) ?_
  intro p e s m below meth c C0 hr w hsz ls hl
  have hx := C0.1.1
  have hb := C0.1.2.1
  unfold f_X11_sweep at hf
  refine lv_iload_n hx hb dX11_sweep_0 rfl (lv_at hl 1 rfl) ?_
  refine lv_iconst (v := 1) hx hb dX11_sweep_1 (by decide) ?_
  refine lv_bipush (v := 20) hx hb dX11_sweep_2 (by decide) ?_
  obtain ⟨q1, h2, hf⟩ := bdE hf
  obtain ⟨v3, h5, hf⟩ := xmE1 hf
  subst h5
  refine cS (As := [.int x1, .int 1, .int 20]) (rest := []) C0 w (m_X11_needRange l B _ σ x1 1 20 v3 h2) ky_X11_needRange ks_X11_needRange lk_X11_93 ⟨Nat.le_of_ble_eq_true rfl, Nat.le_of_ble_eq_true rfl⟩ ⟨Nat.le_of_ble_eq_true rfl, Nat.le_of_ble_eq_true rfl⟩ rfl (by rfl) (Nat.le_of_ble_eq_true rfl) hl.1 dX11_sweep_4 (fun H locs w => ?_)
  refine lv_aload_n hx hb dX11_sweep_7 rfl (lv_at hl 0 rfl) ?_
  refine gR C0 w 189 fk_X11_71 (by decide +kernel) dX11_sweep_8 ?_
  refine lv_aload_n hx hb dX11_sweep_11 rfl (lv_at hl 0 rfl) ?_
  refine gR C0 w 1 fk_X11_10 (by decide +kernel) dX11_sweep_12 ?_
  obtain ⟨q6, h7, hf⟩ := bdE hf
  refine cV (As := [.ref (wA B 1)]) (rest := []) (k := 189) (ci := 2) (T := TX3) (N := 3) C0 w (m_X3_save l B _ σ 1 q6 h7) ky_X3_save kv_X3_save lk_X11_97 rfl (by decide +kernel) ⟨Nat.le_of_ble_eq_true rfl, Nat.le_of_ble_eq_true rfl⟩ ⟨Nat.le_of_ble_eq_true rfl, Nat.le_of_ble_eq_true rfl⟩ rfl (by rfl) (Nat.le_of_ble_eq_true rfl) hl.1 dX11_sweep_15 (fun H locs w => ?_)
  refine lv_aload_n hx hb dX11_sweep_18 rfl (lv_at hl 0 rfl) ?_
  refine gR C0 w 186 fk_X11_64 (by decide +kernel) dX11_sweep_19 ?_
  refine lv_iload_n hx hb dX11_sweep_22 rfl (lv_at hl 1 rfl) ?_
  obtain ⟨q8, h9, hf⟩ := bdE hf
  refine cV (As := [.int x1]) (rest := []) (k := 186) (ci := 7) (T := TX8) (N := 5) C0 w (m_X8_makeSweeps l B _ q6 x1 q8 h9) ky_X8_makeSweeps kv_X8_makeSweeps lk_X11_203 rfl (by decide +kernel) ⟨Nat.le_of_ble_eq_true rfl, Nat.le_of_ble_eq_true rfl⟩ ⟨Nat.le_of_ble_eq_true rfl, Nat.le_of_ble_eq_true rfl⟩ rfl (by rfl) (Nat.le_of_ble_eq_true rfl) hl.1 dX11_sweep_23 (fun H locs w => ?_)
  obtain ⟨h8, h9⟩ := Prod.mk.inj (Option.some.inj hf)
  obtain rfl := Sum.inl.inj h8
  subst h9
  exact eI C0 hr w rfl dX11_sweep_26
set_option maxHeartbeats 4000000 in
set_option maxRecDepth 100000 in
theorem t_X11_sweep (l : Launch) (hfl : l.stackTraces = false) (B : Wb) (sz : Nat) (σ : Mem) (x1 : Int32) (E : String) (σ9 : Mem) (hf : f_X11_sweep x1 σ = some (.inr E, σ9)) : MetT l yX11_sweep cX11_sweep 2 (some .int) rmt_X11_sweep B sz σ σ9 [.ref (wA B 0), .int x1] E := by
  refine metT_in (by decide +kernel) (Nat.le_of_ble_eq_true rfl) ?_
  intro p e s m below meth c C0 hto w hsz ls hl
  have hx := C0.1.1
  have hb := C0.1.2.1
  unfold f_X11_sweep at hf
  refine lv_iload_n hx hb dX11_sweep_0 rfl (lv_at hl 1 rfl) ?_
  refine lv_iconst (v := 1) hx hb dX11_sweep_1 (by decide) ?_
  refine lv_bipush (v := 20) hx hb dX11_sweep_2 (by decide) ?_
  obtain ⟨q1, h2, hf⟩ := bdE hf
  rcases xmE2 hf with ⟨v3, h5, hf⟩ | ⟨h5, h8⟩
  · subst h5
    refine cS (As := [.int x1, .int 1, .int 20]) (rest := []) C0 w (m_X11_needRange l B _ σ x1 1 20 v3 h2) ky_X11_needRange ks_X11_needRange lk_X11_93 ⟨Nat.le_of_ble_eq_true rfl, Nat.le_of_ble_eq_true rfl⟩ ⟨Nat.le_of_ble_eq_true rfl, Nat.le_of_ble_eq_true rfl⟩ rfl (by rfl) (Nat.le_of_ble_eq_true rfl) hl.1 dX11_sweep_4 (fun H locs w => ?_)
    refine lv_aload_n hx hb dX11_sweep_7 rfl (lv_at hl 0 rfl) ?_
    refine gR C0 w 189 fk_X11_71 (by decide +kernel) dX11_sweep_8 ?_
    refine lv_aload_n hx hb dX11_sweep_11 rfl (lv_at hl 0 rfl) ?_
    refine gR C0 w 1 fk_X11_10 (by decide +kernel) dX11_sweep_12 ?_
    obtain ⟨q6, h7, hf⟩ := bdE hf
    refine cV (As := [.ref (wA B 1)]) (rest := []) (k := 189) (ci := 2) (T := TX3) (N := 3) C0 w (m_X3_save l B _ σ 1 q6 h7) ky_X3_save kv_X3_save lk_X11_97 rfl (by decide +kernel) ⟨Nat.le_of_ble_eq_true rfl, Nat.le_of_ble_eq_true rfl⟩ ⟨Nat.le_of_ble_eq_true rfl, Nat.le_of_ble_eq_true rfl⟩ rfl (by rfl) (Nat.le_of_ble_eq_true rfl) hl.1 dX11_sweep_15 (fun H locs w => ?_)
    refine lv_aload_n hx hb dX11_sweep_18 rfl (lv_at hl 0 rfl) ?_
    refine gR C0 w 186 fk_X11_64 (by decide +kernel) dX11_sweep_19 ?_
    refine lv_iload_n hx hb dX11_sweep_22 rfl (lv_at hl 1 rfl) ?_
    obtain ⟨q8, h9, hf⟩ := bdE hf
    refine cV (As := [.int x1]) (rest := []) (k := 186) (ci := 7) (T := TX8) (N := 5) C0 w (m_X8_makeSweeps l B _ q6 x1 q8 h9) ky_X8_makeSweeps kv_X8_makeSweeps lk_X11_203 rfl (by decide +kernel) ⟨Nat.le_of_ble_eq_true rfl, Nat.le_of_ble_eq_true rfl⟩ ⟨Nat.le_of_ble_eq_true rfl, Nat.le_of_ble_eq_true rfl⟩ rfl (by rfl) (Nat.le_of_ble_eq_true rfl) hl.1 dX11_sweep_23 (fun H locs w => ?_)
    exact nomatch (Prod.mk.inj (Option.some.inj hf)).1
  · subst h5
    have h8 := h8.symm
    subst h8
    refine cST (As := [.int x1, .int 1, .int 20]) (rest := []) C0 w (t_X11_needRange l hfl B _ σ x1 1 20 _ h2) ky_X11_needRange ks_X11_needRange lk_X11_93 ⟨Nat.le_of_ble_eq_true rfl, Nat.le_of_ble_eq_true rfl⟩ ⟨Nat.le_of_ble_eq_true rfl, Nat.le_of_ble_eq_true rfl⟩ rfl (by rfl) (Nat.le_of_ble_eq_true rfl) hl.1 dX11_sweep_4 (fun ce q9 H locs w g1 g2 g3 => ?_)
    exact xOut C0 hto w g1 g2 g3 (Nat.le_of_ble_eq_true rfl) (Nat.le_of_ble_eq_true rfl)
def f_X11_smooth (x1 : Int32) (σ : Mem) : Option ((Int32 ⊕ String) × Mem) :=
  bd (f_X11_needRange x1 1 100 σ) (fun q1 =>
  xm q1 σ (fun v3 =>
  bd (f_X3_save 1 σ) (fun q6 =>
  bd (f_X1_smoothOut x1 q6) (fun q8 =>
  some (.inl q8.1, q8.2)))))
abbrev rm_X11_smooth : Room := { frames := 3, cells := 0, slots := 0, locals := 91 }
abbrev rmt_X11_smooth : Room := { frames := 7, cells := 1, slots := 6, locals := 112 }
set_option maxHeartbeats 4000000 in
set_option maxRecDepth 100000 in
theorem m_X11_smooth (l : Launch) (B : Wb) (sz : Nat) (σ : Mem) (x1 : Int32) (v : Int32) (σ9 : Mem) (hf : f_X11_smooth x1 σ = some (.inl v, σ9)) : MetC l yX11_smooth cX11_smooth 2 (some .int) rm_X11_smooth B sz σ σ9 [.ref (wA B 0), .int x1] (some (.int v)) := by
  refine met_in (by decide +kernel) (Nat.le_of_ble_eq_true rfl) ?_
  intro p e s m below meth c C0 hr w hsz ls hl
  have hx := C0.1.1
  have hb := C0.1.2.1
  unfold f_X11_smooth at hf
  refine lv_iload_n hx hb dX11_smooth_0 rfl (lv_at hl 1 rfl) ?_
  refine lv_iconst (v := 1) hx hb dX11_smooth_1 (by decide) ?_
  refine lv_bipush (v := 100) hx hb dX11_smooth_2 (by decide) ?_
  obtain ⟨q1, h2, hf⟩ := bdE hf
  obtain ⟨v3, h5, hf⟩ := xmE1 hf
  subst h5
  refine cS (As := [.int x1, .int 1, .int 100]) (rest := []) C0 w (m_X11_needRange l B _ σ x1 1 100 v3 h2) ky_X11_needRange ks_X11_needRange lk_X11_93 ⟨Nat.le_of_ble_eq_true rfl, Nat.le_of_ble_eq_true rfl⟩ ⟨Nat.le_of_ble_eq_true rfl, Nat.le_of_ble_eq_true rfl⟩ rfl (by rfl) (Nat.le_of_ble_eq_true rfl) hl.1 dX11_smooth_4 (fun H locs w => ?_)
  refine lv_aload_n hx hb dX11_smooth_7 rfl (lv_at hl 0 rfl) ?_
  refine gR C0 w 189 fk_X11_71 (by decide +kernel) dX11_smooth_8 ?_
  refine lv_aload_n hx hb dX11_smooth_11 rfl (lv_at hl 0 rfl) ?_
  refine gR C0 w 1 fk_X11_10 (by decide +kernel) dX11_smooth_12 ?_
  obtain ⟨q6, h7, hf⟩ := bdE hf
  refine cV (As := [.ref (wA B 1)]) (rest := []) (k := 189) (ci := 2) (T := TX3) (N := 3) C0 w (m_X3_save l B _ σ 1 q6 h7) ky_X3_save kv_X3_save lk_X11_97 rfl (by decide +kernel) ⟨Nat.le_of_ble_eq_true rfl, Nat.le_of_ble_eq_true rfl⟩ ⟨Nat.le_of_ble_eq_true rfl, Nat.le_of_ble_eq_true rfl⟩ rfl (by rfl) (Nat.le_of_ble_eq_true rfl) hl.1 dX11_smooth_15 (fun H locs w => ?_)
  refine lv_aload_n hx hb dX11_smooth_18 rfl (lv_at hl 0 rfl) ?_
  refine gR C0 w 183 fk_X11_55 (by decide +kernel) dX11_smooth_19 ?_
  refine lv_iload_n hx hb dX11_smooth_22 rfl (lv_at hl 1 rfl) ?_
  obtain ⟨q8, h9, hf⟩ := bdE hf
  refine cV (As := [.int x1]) (rest := []) (k := 183) (ci := 0) (T := TX1) (N := 7) C0 w (m_X1_smoothOut l B _ q6 x1 q8 h9) ky_X1_smoothOut kv_X1_smoothOut lk_X11_206 rfl (by decide +kernel) ⟨Nat.le_of_ble_eq_true rfl, Nat.le_of_ble_eq_true rfl⟩ ⟨Nat.le_of_ble_eq_true rfl, Nat.le_of_ble_eq_true rfl⟩ rfl (by rfl) (Nat.le_of_ble_eq_true rfl) hl.1 dX11_smooth_23 (fun H locs w => ?_)
  obtain ⟨h8, h9⟩ := Prod.mk.inj (Option.some.inj hf)
  obtain rfl := Sum.inl.inj h8
  subst h9
  exact eI C0 hr w rfl dX11_smooth_26
set_option maxHeartbeats 4000000 in
set_option maxRecDepth 100000 in
theorem t_X11_smooth (l : Launch) (hfl : l.stackTraces = false) (B : Wb) (sz : Nat) (σ : Mem) (x1 : Int32) (E : String) (σ9 : Mem) (hf : f_X11_smooth x1 σ = some (.inr E, σ9)) : MetT l yX11_smooth cX11_smooth 2 (some .int) rmt_X11_smooth B sz σ σ9 [.ref (wA B 0), .int x1] E := by
  refine metT_in (by decide +kernel) (Nat.le_of_ble_eq_true rfl) ?_
  intro p e s m below meth c C0 hto w hsz ls hl
  have hx := C0.1.1
  have hb := C0.1.2.1
  unfold f_X11_smooth at hf
  refine lv_iload_n hx hb dX11_smooth_0 rfl (lv_at hl 1 rfl) ?_
  refine lv_iconst (v := 1) hx hb dX11_smooth_1 (by decide) ?_
  refine lv_bipush (v := 100) hx hb dX11_smooth_2 (by decide) ?_
  obtain ⟨q1, h2, hf⟩ := bdE hf
  rcases xmE2 hf with ⟨v3, h5, hf⟩ | ⟨h5, h8⟩
  · subst h5
    refine cS (As := [.int x1, .int 1, .int 100]) (rest := []) C0 w (m_X11_needRange l B _ σ x1 1 100 v3 h2) ky_X11_needRange ks_X11_needRange lk_X11_93 ⟨Nat.le_of_ble_eq_true rfl, Nat.le_of_ble_eq_true rfl⟩ ⟨Nat.le_of_ble_eq_true rfl, Nat.le_of_ble_eq_true rfl⟩ rfl (by rfl) (Nat.le_of_ble_eq_true rfl) hl.1 dX11_smooth_4 (fun H locs w => ?_)
    refine lv_aload_n hx hb dX11_smooth_7 rfl (lv_at hl 0 rfl) ?_
    refine gR C0 w 189 fk_X11_71 (by decide +kernel) dX11_smooth_8 ?_
    refine lv_aload_n hx hb dX11_smooth_11 rfl (lv_at hl 0 rfl) ?_
    refine gR C0 w 1 fk_X11_10 (by decide +kernel) dX11_smooth_12 ?_
    obtain ⟨q6, h7, hf⟩ := bdE hf
    refine cV (As := [.ref (wA B 1)]) (rest := []) (k := 189) (ci := 2) (T := TX3) (N := 3) C0 w (m_X3_save l B _ σ 1 q6 h7) ky_X3_save kv_X3_save lk_X11_97 rfl (by decide +kernel) ⟨Nat.le_of_ble_eq_true rfl, Nat.le_of_ble_eq_true rfl⟩ ⟨Nat.le_of_ble_eq_true rfl, Nat.le_of_ble_eq_true rfl⟩ rfl (by rfl) (Nat.le_of_ble_eq_true rfl) hl.1 dX11_smooth_15 (fun H locs w => ?_)
    refine lv_aload_n hx hb dX11_smooth_18 rfl (lv_at hl 0 rfl) ?_
    refine gR C0 w 183 fk_X11_55 (by decide +kernel) dX11_smooth_19 ?_
    refine lv_iload_n hx hb dX11_smooth_22 rfl (lv_at hl 1 rfl) ?_
    obtain ⟨q8, h9, hf⟩ := bdE hf
    refine cV (As := [.int x1]) (rest := []) (k := 183) (ci := 0) (T := TX1) (N := 7) C0 w (m_X1_smoothOut l B _ q6 x1 q8 h9) ky_X1_smoothOut kv_X1_smoothOut lk_X11_206 rfl (by decide +kernel) ⟨Nat.le_of_ble_eq_true rfl, Nat.le_of_ble_eq_true rfl⟩ ⟨Nat.le_of_ble_eq_true rfl, Nat.le_of_ble_eq_true rfl⟩ rfl (by rfl) (Nat.le_of_ble_eq_true rfl) hl.1 dX11_smooth_23 (fun H locs w => ?_)
    exact nomatch (Prod.mk.inj (Option.some.inj hf)).1
  · subst h5
    have h8 := h8.symm
    subst h8
    refine cST (As := [.int x1, .int 1, .int 100]) (rest := []) C0 w (t_X11_needRange l hfl B _ σ x1 1 100 _ h2) ky_X11_needRange ks_X11_needRange lk_X11_93 ⟨Nat.le_of_ble_eq_true rfl, Nat.le_of_ble_eq_true rfl⟩ ⟨Nat.le_of_ble_eq_true rfl, Nat.le_of_ble_eq_true rfl⟩ rfl (by rfl) (Nat.le_of_ble_eq_true rfl) hl.1 dX11_smooth_4 (fun ce q9 H locs w g1 g2 g3 => ?_)
    exact xOut C0 hto w g1 g2 g3 (Nat.le_of_ble_eq_true rfl) (Nat.le_of_ble_eq_true rfl)
def f_X11_fill (σ : Mem) : Option (Int32 × Mem) :=
  bd (f_X3_save 1 σ) (fun q1 =>
  bd (f_X1_fillGaps q1) (fun q3 =>
  some ((q3.1, q3.2))))
abbrev rm_X11_fill : Room := { frames := 5, cells := 0, slots := 0, locals := 123 }
set_option maxHeartbeats 4000000 in
set_option maxRecDepth 100000 in
theorem m_X11_fill (l : Launch) (B : Wb) (sz : Nat) (σ : Mem) (q : Int32 × Mem) (hf : f_X11_fill σ = some q) : MetC l yX11_fill cX11_fill 1 (some .int) rm_X11_fill B sz σ q.2 [.ref (wA B 0)] (some (.int q.1)) := by
  refine met_in (by decide +kernel) (Nat.le_of_ble_eq_true rfl) ?_
  intro p e s m below meth c C0 hr w hsz ls hl
  have hx := C0.1.1
  have hb := C0.1.2.1
  unfold f_X11_fill at hf
  refine lv_aload_n hx hb dX11_fill_0 rfl (lv_at hl 0 rfl) ?_
  refine gR C0 w 189 fk_X11_71 (by decide +kernel) dX11_fill_1 ?_
  refine lv_aload_n hx hb dX11_fill_4 rfl (lv_at hl 0 rfl) ?_
  refine gR C0 w 1 fk_X11_10 (by decide +kernel) dX11_fill_5 ?_
  obtain ⟨q1, h2, hf⟩ := bdE hf
  refine cV (As := [.ref (wA B 1)]) (rest := []) (k := 189) (ci := 2) (T := TX3) (N := 3) C0 w (m_X3_save l B _ σ 1 q1 h2) ky_X3_save kv_X3_save lk_X11_97 rfl (by decide +kernel) ⟨Nat.le_of_ble_eq_true rfl, Nat.le_of_ble_eq_true rfl⟩ ⟨Nat.le_of_ble_eq_true rfl, Nat.le_of_ble_eq_true rfl⟩ rfl (by rfl) (Nat.le_of_ble_eq_true rfl) hl.1 dX11_fill_8 (fun H locs w => ?_)
  refine lv_aload_n hx hb dX11_fill_11 rfl (lv_at hl 0 rfl) ?_
  refine gR C0 w 183 fk_X11_55 (by decide +kernel) dX11_fill_12 ?_
  obtain ⟨q3, h4, hf⟩ := bdE hf
  refine cV (As := []) (rest := []) (k := 183) (ci := 0) (T := TX1) (N := 7) C0 w (m_X1_fillGaps l B _ q1 q3 h4) ky_X1_fillGaps kv_X1_fillGaps lk_X11_209 rfl (by decide +kernel) ⟨Nat.le_of_ble_eq_true rfl, Nat.le_of_ble_eq_true rfl⟩ ⟨Nat.le_of_ble_eq_true rfl, Nat.le_of_ble_eq_true rfl⟩ rfl (by rfl) (Nat.le_of_ble_eq_true rfl) hl.1 dX11_fill_15 (fun H locs w => ?_)
  obtain rfl := Option.some.inj hf
  exact eI C0 hr w rfl dX11_fill_18
def f_X11_ray (x1 : Int32) (x2 : Int32) (σ : Mem) : Option ((Int32 ⊕ String) × Mem) :=
  bd (f_X11_needRay x1 σ) (fun q1 =>
  xm q1 σ (fun v3 =>
  bd (f_X11_needRange x2 0 4 σ) (fun q6 =>
  xm q6 σ (fun v8 =>
  if x2 = 0 then (
    gd (inb x1 16) (
    some (.inl (σ.1 4 x1.toNatClampNeg), σ)))
  else (
  if x2 = 1 then (
    gd (inb x1 16) (
    some (.inl (σ.1 5 x1.toNatClampNeg), σ)))
  else (
  if x2 = 2 then (
    gd (inb x1 16) (
    if (σ.1 7 x1.toNatClampNeg) = 0 then (
      some (.inl 0, σ))
    else (
      some (.inl 1, σ))))
  else (
  if x2 = 3 then (
    bd (f_X7_isActive x1 σ) (fun q19 =>
    if q19 = 0 then (
      some (.inl 0, σ))
    else (
      some (.inl 1, σ))))
  else (
    bd (f_X9_find x1 σ) (fun q22 =>
    gd (inb x1 16) (
    some (.inl (q22.2.1 147 x1.toNatClampNeg), q22.2)))))))))))
abbrev rm_X11_ray : Room := { frames := 3, cells := 0, slots := 0, locals := 79 }
abbrev rmt_X11_ray : Room := { frames := 7, cells := 1, slots := 6, locals := 112 }
set_option maxHeartbeats 4000000 in
set_option maxRecDepth 100000 in
theorem m_X11_ray (l : Launch) (B : Wb) (sz : Nat) (σ : Mem) (x1 : Int32) (x2 : Int32) (v : Int32) (σ9 : Mem) (hf : f_X11_ray x1 x2 σ = some (.inl v, σ9)) : MetC l yX11_ray cX11_ray 3 (some .int) rm_X11_ray B sz σ σ9 [.ref (wA B 0), .int x1, .int x2] (some (.int v)) := by
  refine met_in (by decide +kernel) (Nat.le_of_ble_eq_true rfl) ?_
  intro p e s m below meth c C0 hr w hsz ls hl
  have hx := C0.1.1
  have hb := C0.1.2.1
  unfold f_X11_ray at hf
  refine lv_aload_n hx hb dX11_ray_0 rfl (lv_at hl 0 rfl) ?_
  refine lv_iload_n hx hb dX11_ray_1 rfl (lv_at hl 1 rfl) ?_
  obtain ⟨q1, h2, hf⟩ := bdE hf
  obtain ⟨v3, h5, hf⟩ := xmE1 hf
  subst h5
  refine cV (As := [.int x1]) (rest := []) (k := 0) (ci := 9) (T := TX11) (N := 9) C0 w (m_X11_needRay l B _ σ x1 v3 h2) ky_X11_needRay kv_X11_needRay lk_X11_159 rfl (by decide +kernel) ⟨Nat.le_of_ble_eq_true rfl, Nat.le_of_ble_eq_true rfl⟩ ⟨Nat.le_of_ble_eq_true rfl, Nat.le_of_ble_eq_true rfl⟩ rfl (by rfl) (Nat.le_of_ble_eq_true rfl) hl.1 dX11_ray_2 (fun H locs w => ?_)
  refine lv_iload_n hx hb dX11_ray_5 rfl (lv_at hl 2 rfl) ?_
  refine lv_iconst (v := 0) hx hb dX11_ray_6 (by decide) ?_
  refine lv_iconst (v := 4) hx hb dX11_ray_7 (by decide) ?_
  obtain ⟨q6, h7, hf⟩ := bdE hf
  obtain ⟨v8, h10, hf⟩ := xmE1 hf
  subst h10
  refine cS (As := [.int x2, .int 0, .int 4]) (rest := []) C0 w (m_X11_needRange l B _ σ x2 0 4 v8 h7) ky_X11_needRange ks_X11_needRange lk_X11_93 ⟨Nat.le_of_ble_eq_true rfl, Nat.le_of_ble_eq_true rfl⟩ ⟨Nat.le_of_ble_eq_true rfl, Nat.le_of_ble_eq_true rfl⟩ rfl (by rfl) (Nat.le_of_ble_eq_true rfl) hl.1 dX11_ray_8 (fun H locs w => ?_)
  refine lv_iload_n hx hb dX11_ray_11 rfl (lv_at hl 2 rfl) ?_
  by_cases c11 : x2 = 0
  · rw [if_pos c11] at hf
    refine lv_tableIn (tgt := 44) hx hb dX11_ray_12 (by rw [c11]; decide) (by rw [c11]; decide) (by rw [c11]; rfl) (by decide) ?_
    refine lv_aload_n hx hb dX11_ray_44 rfl (lv_at hl 0 rfl) ?_
    refine gR C0 w 1 fk_X11_10 (by decide +kernel) dX11_ray_45 ?_
    refine gR C0 w 4 fk_X11_212 (by decide +kernel) dX11_ray_48 ?_
    refine lv_iload_n hx hb dX11_ray_51 rfl (lv_at hl 1 rfl) ?_
    obtain ⟨g12, hf⟩ := gdE hf
    refine aI C0 w (n := 16) (by decide +kernel) (inbE g12) dX11_ray_52 ?_
    obtain ⟨h8, h9⟩ := Prod.mk.inj (Option.some.inj hf)
    obtain rfl := Sum.inl.inj h8
    subst h9
    exact eI C0 hr w rfl dX11_ray_53
  · rw [if_neg c11] at hf
    by_cases c13 : x2 = 1
    · rw [if_pos c13] at hf
      refine lv_tableIn (tgt := 54) hx hb dX11_ray_12 (by rw [c13]; decide) (by rw [c13]; decide) (by rw [c13]; rfl) (by decide) ?_
      refine lv_aload_n hx hb dX11_ray_54 rfl (lv_at hl 0 rfl) ?_
      refine gR C0 w 1 fk_X11_10 (by decide +kernel) dX11_ray_55 ?_
      refine gR C0 w 5 fk_X11_215 (by decide +kernel) dX11_ray_58 ?_
      refine lv_iload_n hx hb dX11_ray_61 rfl (lv_at hl 1 rfl) ?_
      obtain ⟨g14, hf⟩ := gdE hf
      refine aI C0 w (n := 16) (by decide +kernel) (inbE g14) dX11_ray_62 ?_
      obtain ⟨h8, h9⟩ := Prod.mk.inj (Option.some.inj hf)
      obtain rfl := Sum.inl.inj h8
      subst h9
      exact eI C0 hr w rfl dX11_ray_63
    · rw [if_neg c13] at hf
      by_cases c15 : x2 = 2
      · rw [if_pos c15] at hf
        refine lv_tableIn (tgt := 64) hx hb dX11_ray_12 (by rw [c15]; decide) (by rw [c15]; decide) (by rw [c15]; rfl) (by decide) ?_
        refine lv_aload_n hx hb dX11_ray_64 rfl (lv_at hl 0 rfl) ?_
        refine gR C0 w 1 fk_X11_10 (by decide +kernel) dX11_ray_65 ?_
        refine gR C0 w 7 fk_X11_162 (by decide +kernel) dX11_ray_68 ?_
        refine lv_iload_n hx hb dX11_ray_71 rfl (lv_at hl 1 rfl) ?_
        obtain ⟨g16, hf⟩ := gdE hf
        refine aZ C0 w (n := 16) (by decide +kernel) (inbE g16) dX11_ray_72 ?_
        refine lv_if_eq (tgt := 80) hx hb dX11_ray_73 (by decide) (fun c17 => ?_) (fun c17 => ?_)
        · rw [if_pos c17] at hf
          refine lv_iconst (v := 0) hx hb dX11_ray_80 (by decide) ?_
          obtain ⟨h8, h9⟩ := Prod.mk.inj (Option.some.inj hf)
          obtain rfl := Sum.inl.inj h8
          subst h9
          exact eI C0 hr w rfl dX11_ray_81
        · rw [if_neg c17] at hf
          refine lv_iconst (v := 1) hx hb dX11_ray_76 (by decide) ?_
          refine lv_goto (tgt := 81) hx hb dX11_ray_77 (by decide) ?_
          obtain ⟨h8, h9⟩ := Prod.mk.inj (Option.some.inj hf)
          obtain rfl := Sum.inl.inj h8
          subst h9
          exact eI C0 hr w rfl dX11_ray_81
      · rw [if_neg c15] at hf
        by_cases c18 : x2 = 3
        · rw [if_pos c18] at hf
          refine lv_tableIn (tgt := 82) hx hb dX11_ray_12 (by rw [c18]; decide) (by rw [c18]; decide) (by rw [c18]; rfl) (by decide) ?_
          refine lv_aload_n hx hb dX11_ray_82 rfl (lv_at hl 0 rfl) ?_
          refine gR C0 w 1 fk_X11_10 (by decide +kernel) dX11_ray_83 ?_
          refine lv_iload_n hx hb dX11_ray_86 rfl (lv_at hl 1 rfl) ?_
          obtain ⟨q19, h20, hf⟩ := bdE hf
          refine cV (As := [.int x1]) (rest := []) (k := 1) (ci := 6) (T := TX7) (N := 14) C0 w (m_X7_isActive l B _ σ x1 q19 h20) ky_X7_isActive kv_X7_isActive lk_X11_218 rfl (by decide +kernel) ⟨Nat.le_of_ble_eq_true rfl, Nat.le_of_ble_eq_true rfl⟩ ⟨Nat.le_of_ble_eq_true rfl, Nat.le_of_ble_eq_true rfl⟩ rfl (by rfl) (Nat.le_of_ble_eq_true rfl) hl.1 dX11_ray_87 (fun H locs w => ?_)
          refine lv_if_eq (tgt := 97) hx hb dX11_ray_90 (by decide) (fun c21 => ?_) (fun c21 => ?_)
          · rw [if_pos c21] at hf
            refine lv_iconst (v := 0) hx hb dX11_ray_97 (by decide) ?_
            obtain ⟨h8, h9⟩ := Prod.mk.inj (Option.some.inj hf)
            obtain rfl := Sum.inl.inj h8
            subst h9
            exact eI C0 hr w rfl dX11_ray_98
          · rw [if_neg c21] at hf
            refine lv_iconst (v := 1) hx hb dX11_ray_93 (by decide) ?_
            refine lv_goto (tgt := 98) hx hb dX11_ray_94 (by decide) ?_
            obtain ⟨h8, h9⟩ := Prod.mk.inj (Option.some.inj hf)
            obtain rfl := Sum.inl.inj h8
            subst h9
            exact eI C0 hr w rfl dX11_ray_98
        · rw [if_neg c18] at hf
          refine lv_tableOut (tgt := 99) hx hb dX11_ray_12 (sw_out (by have q0 := sw_ne c11; have q1 := sw_ne c13; have q2 := sw_ne c15; have q3 := sw_ne c18; clear hf; simp at *; omega)) (by decide) ?_
          refine lv_aload_n hx hb dX11_ray_99 rfl (lv_at hl 0 rfl) ?_
          refine gR C0 w 143 fk_X11_37 (by decide +kernel) dX11_ray_100 ?_
          refine lv_iload_n hx hb dX11_ray_103 rfl (lv_at hl 1 rfl) ?_
          obtain ⟨q22, h23, hf⟩ := bdE hf
          refine cV (As := [.int x1]) (rest := []) (k := 143) (ci := 8) (T := TX9) (N := 9) C0 w (m_X9_find l B _ σ x1 q22 h23) ky_X9_find kv_X9_find lk_X11_222 rfl (by decide +kernel) ⟨Nat.le_of_ble_eq_true rfl, Nat.le_of_ble_eq_true rfl⟩ ⟨Nat.le_of_ble_eq_true rfl, Nat.le_of_ble_eq_true rfl⟩ rfl (by rfl) (Nat.le_of_ble_eq_true rfl) hl.1 dX11_ray_104 (fun H locs w => ?_)
          refine lv_pop2_2 hx hb dX11_ray_107 rfl ?_
          refine lv_aload_n hx hb dX11_ray_108 rfl (lv_at hl 0 rfl) ?_
          refine gR C0 w 143 fk_X11_37 (by decide +kernel) dX11_ray_109 ?_
          refine gR C0 w 147 fk_X11_226 (by decide +kernel) dX11_ray_112 ?_
          refine lv_iload_n hx hb dX11_ray_115 rfl (lv_at hl 1 rfl) ?_
          obtain ⟨g24, hf⟩ := gdE hf
          refine aI C0 w (n := 16) (by decide +kernel) (inbE g24) dX11_ray_116 ?_
          obtain ⟨h8, h9⟩ := Prod.mk.inj (Option.some.inj hf)
          obtain rfl := Sum.inl.inj h8
          subst h9
          exact eI C0 hr w rfl dX11_ray_117
set_option maxHeartbeats 4000000 in
set_option maxRecDepth 100000 in
theorem t_X11_ray (l : Launch) (hfl : l.stackTraces = false) (B : Wb) (sz : Nat) (σ : Mem) (x1 : Int32) (x2 : Int32) (E : String) (σ9 : Mem) (hf : f_X11_ray x1 x2 σ = some (.inr E, σ9)) : MetT l yX11_ray cX11_ray 3 (some .int) rmt_X11_ray B sz σ σ9 [.ref (wA B 0), .int x1, .int x2] E := by
  refine metT_in (by decide +kernel) (Nat.le_of_ble_eq_true rfl) ?_
  intro p e s m below meth c C0 hto w hsz ls hl
  have hx := C0.1.1
  have hb := C0.1.2.1
  unfold f_X11_ray at hf
  refine lv_aload_n hx hb dX11_ray_0 rfl (lv_at hl 0 rfl) ?_
  refine lv_iload_n hx hb dX11_ray_1 rfl (lv_at hl 1 rfl) ?_
  obtain ⟨q1, h2, hf⟩ := bdE hf
  rcases xmE2 hf with ⟨v3, h5, hf⟩ | ⟨h5, h8⟩
  · subst h5
    refine cV (As := [.int x1]) (rest := []) (k := 0) (ci := 9) (T := TX11) (N := 9) C0 w (m_X11_needRay l B _ σ x1 v3 h2) ky_X11_needRay kv_X11_needRay lk_X11_159 rfl (by decide +kernel) ⟨Nat.le_of_ble_eq_true rfl, Nat.le_of_ble_eq_true rfl⟩ ⟨Nat.le_of_ble_eq_true rfl, Nat.le_of_ble_eq_true rfl⟩ rfl (by rfl) (Nat.le_of_ble_eq_true rfl) hl.1 dX11_ray_2 (fun H locs w => ?_)
    refine lv_iload_n hx hb dX11_ray_5 rfl (lv_at hl 2 rfl) ?_
    refine lv_iconst (v := 0) hx hb dX11_ray_6 (by decide) ?_
    refine lv_iconst (v := 4) hx hb dX11_ray_7 (by decide) ?_
    obtain ⟨q6, h7, hf⟩ := bdE hf
    rcases xmE2 hf with ⟨v8, h10, hf⟩ | ⟨h10, h8⟩
    · subst h10
      refine cS (As := [.int x2, .int 0, .int 4]) (rest := []) C0 w (m_X11_needRange l B _ σ x2 0 4 v8 h7) ky_X11_needRange ks_X11_needRange lk_X11_93 ⟨Nat.le_of_ble_eq_true rfl, Nat.le_of_ble_eq_true rfl⟩ ⟨Nat.le_of_ble_eq_true rfl, Nat.le_of_ble_eq_true rfl⟩ rfl (by rfl) (Nat.le_of_ble_eq_true rfl) hl.1 dX11_ray_8 (fun H locs w => ?_)
      refine lv_iload_n hx hb dX11_ray_11 rfl (lv_at hl 2 rfl) ?_
      by_cases c11 : x2 = 0
      · rw [if_pos c11] at hf
        refine lv_tableIn (tgt := 44) hx hb dX11_ray_12 (by rw [c11]; decide) (by rw [c11]; decide) (by rw [c11]; rfl) (by decide) ?_
        refine lv_aload_n hx hb dX11_ray_44 rfl (lv_at hl 0 rfl) ?_
        refine gR C0 w 1 fk_X11_10 (by decide +kernel) dX11_ray_45 ?_
        refine gR C0 w 4 fk_X11_212 (by decide +kernel) dX11_ray_48 ?_
        refine lv_iload_n hx hb dX11_ray_51 rfl (lv_at hl 1 rfl) ?_
        obtain ⟨g12, hf⟩ := gdE hf
        refine aI C0 w (n := 16) (by decide +kernel) (inbE g12) dX11_ray_52 ?_
        exact nomatch (Prod.mk.inj (Option.some.inj hf)).1
      · rw [if_neg c11] at hf
        by_cases c13 : x2 = 1
        · rw [if_pos c13] at hf
          refine lv_tableIn (tgt := 54) hx hb dX11_ray_12 (by rw [c13]; decide) (by rw [c13]; decide) (by rw [c13]; rfl) (by decide) ?_
          refine lv_aload_n hx hb dX11_ray_54 rfl (lv_at hl 0 rfl) ?_
          refine gR C0 w 1 fk_X11_10 (by decide +kernel) dX11_ray_55 ?_
          refine gR C0 w 5 fk_X11_215 (by decide +kernel) dX11_ray_58 ?_
          refine lv_iload_n hx hb dX11_ray_61 rfl (lv_at hl 1 rfl) ?_
          obtain ⟨g14, hf⟩ := gdE hf
          refine aI C0 w (n := 16) (by decide +kernel) (inbE g14) dX11_ray_62 ?_
          exact nomatch (Prod.mk.inj (Option.some.inj hf)).1
        · rw [if_neg c13] at hf
          by_cases c15 : x2 = 2
          · rw [if_pos c15] at hf
            refine lv_tableIn (tgt := 64) hx hb dX11_ray_12 (by rw [c15]; decide) (by rw [c15]; decide) (by rw [c15]; rfl) (by decide) ?_
            refine lv_aload_n hx hb dX11_ray_64 rfl (lv_at hl 0 rfl) ?_
            refine gR C0 w 1 fk_X11_10 (by decide +kernel) dX11_ray_65 ?_
            refine gR C0 w 7 fk_X11_162 (by decide +kernel) dX11_ray_68 ?_
            refine lv_iload_n hx hb dX11_ray_71 rfl (lv_at hl 1 rfl) ?_
            obtain ⟨g16, hf⟩ := gdE hf
            refine aZ C0 w (n := 16) (by decide +kernel) (inbE g16) dX11_ray_72 ?_
            refine lv_if_eq (tgt := 80) hx hb dX11_ray_73 (by decide) (fun c17 => ?_) (fun c17 => ?_)
            · rw [if_pos c17] at hf
              refine lv_iconst (v := 0) hx hb dX11_ray_80 (by decide) ?_
              exact nomatch (Prod.mk.inj (Option.some.inj hf)).1
            · rw [if_neg c17] at hf
              refine lv_iconst (v := 1) hx hb dX11_ray_76 (by decide) ?_
              refine lv_goto (tgt := 81) hx hb dX11_ray_77 (by decide) ?_
              exact nomatch (Prod.mk.inj (Option.some.inj hf)).1
          · rw [if_neg c15] at hf
            by_cases c18 : x2 = 3
            · rw [if_pos c18] at hf
              refine lv_tableIn (tgt := 82) hx hb dX11_ray_12 (by rw [c18]; decide) (by rw [c18]; decide) (by rw [c18]; rfl) (by decide) ?_
              refine lv_aload_n hx hb dX11_ray_82 rfl (lv_at hl 0 rfl) ?_
              refine gR C0 w 1 fk_X11_10 (by decide +kernel) dX11_ray_83 ?_
              refine lv_iload_n hx hb dX11_ray_86 rfl (lv_at hl 1 rfl) ?_
              obtain ⟨q19, h20, hf⟩ := bdE hf
              refine cV (As := [.int x1]) (rest := []) (k := 1) (ci := 6) (T := TX7) (N := 14) C0 w (m_X7_isActive l B _ σ x1 q19 h20) ky_X7_isActive kv_X7_isActive lk_X11_218 rfl (by decide +kernel) ⟨Nat.le_of_ble_eq_true rfl, Nat.le_of_ble_eq_true rfl⟩ ⟨Nat.le_of_ble_eq_true rfl, Nat.le_of_ble_eq_true rfl⟩ rfl (by rfl) (Nat.le_of_ble_eq_true rfl) hl.1 dX11_ray_87 (fun H locs w => ?_)
              refine lv_if_eq (tgt := 97) hx hb dX11_ray_90 (by decide) (fun c21 => ?_) (fun c21 => ?_)
              · rw [if_pos c21] at hf
                refine lv_iconst (v := 0) hx hb dX11_ray_97 (by decide) ?_
                exact nomatch (Prod.mk.inj (Option.some.inj hf)).1
              · rw [if_neg c21] at hf
                refine lv_iconst (v := 1) hx hb dX11_ray_93 (by decide) ?_
                refine lv_goto (tgt := 98) hx hb dX11_ray_94 (by decide) ?_
                exact nomatch (Prod.mk.inj (Option.some.inj hf)).1
            · rw [if_neg c18] at hf
              refine lv_tableOut (tgt := 99) hx hb dX11_ray_12 (sw_out (by have q0 := sw_ne c11; have q1 := sw_ne c13; have q2 := sw_ne c15; have q3 := sw_ne c18; clear hf; simp at *; omega)) (by decide) ?_
              refine lv_aload_n hx hb dX11_ray_99 rfl (lv_at hl 0 rfl) ?_
              refine gR C0 w 143 fk_X11_37 (by decide +kernel) dX11_ray_100 ?_
              refine lv_iload_n hx hb dX11_ray_103 rfl (lv_at hl 1 rfl) ?_
              obtain ⟨q22, h23, hf⟩ := bdE hf
              refine cV (As := [.int x1]) (rest := []) (k := 143) (ci := 8) (T := TX9) (N := 9) C0 w (m_X9_find l B _ σ x1 q22 h23) ky_X9_find kv_X9_find lk_X11_222 rfl (by decide +kernel) ⟨Nat.le_of_ble_eq_true rfl, Nat.le_of_ble_eq_true rfl⟩ ⟨Nat.le_of_ble_eq_true rfl, Nat.le_of_ble_eq_true rfl⟩ rfl (by rfl) (Nat.le_of_ble_eq_true rfl) hl.1 dX11_ray_104 (fun H locs w => ?_)
              refine lv_pop2_2 hx hb dX11_ray_107 rfl ?_
              refine lv_aload_n hx hb dX11_ray_108 rfl (lv_at hl 0 rfl) ?_
              refine gR C0 w 143 fk_X11_37 (by decide +kernel) dX11_ray_109 ?_
              refine gR C0 w 147 fk_X11_226 (by decide +kernel) dX11_ray_112 ?_
              refine lv_iload_n hx hb dX11_ray_115 rfl (lv_at hl 1 rfl) ?_
              obtain ⟨g24, hf⟩ := gdE hf
              refine aI C0 w (n := 16) (by decide +kernel) (inbE g24) dX11_ray_116 ?_
              exact nomatch (Prod.mk.inj (Option.some.inj hf)).1
    · subst h10
      have h8 := h8.symm
      subst h8
      refine cST (As := [.int x2, .int 0, .int 4]) (rest := []) C0 w (t_X11_needRange l hfl B _ σ x2 0 4 _ h7) ky_X11_needRange ks_X11_needRange lk_X11_93 ⟨Nat.le_of_ble_eq_true rfl, Nat.le_of_ble_eq_true rfl⟩ ⟨Nat.le_of_ble_eq_true rfl, Nat.le_of_ble_eq_true rfl⟩ rfl (by rfl) (Nat.le_of_ble_eq_true rfl) hl.1 dX11_ray_8 (fun ce q9 H locs w g1 g2 g3 => ?_)
      exact xOut C0 hto w g1 g2 g3 (Nat.le_of_ble_eq_true rfl) (Nat.le_of_ble_eq_true rfl)
  · subst h5
    have h8 := h8.symm
    subst h8
    refine cVT (As := [.int x1]) (rest := []) (k := 0) (ci := 9) (T := TX11) (N := 9) C0 w (t_X11_needRay l hfl B _ σ x1 _ h2) ky_X11_needRay kv_X11_needRay lk_X11_159 rfl (by decide +kernel) ⟨Nat.le_of_ble_eq_true rfl, Nat.le_of_ble_eq_true rfl⟩ ⟨Nat.le_of_ble_eq_true rfl, Nat.le_of_ble_eq_true rfl⟩ rfl (by rfl) (Nat.le_of_ble_eq_true rfl) hl.1 dX11_ray_2 (fun ce q9 H locs w g1 g2 g3 => ?_)
    exact xOut C0 hto w g1 g2 g3 (Nat.le_of_ble_eq_true rfl) (Nat.le_of_ble_eq_true rfl)
def f_X11_time (x1 : Int32) (x2 : Int32) (σ : Mem) : Option ((Int64 ⊕ String) × Mem) :=
  bd (f_X11_needRay x1 σ) (fun q1 =>
  xm q1 σ (fun v3 =>
  bd (f_X11_needRange x2 0 1 σ) (fun q6 =>
  xm q6 σ (fun v8 =>
  if x2 = 1 then (
    gd (inb x1 16) (
    some (.inl (σ.2 6 x1.toNatClampNeg), σ)))
  else (
    bd (f_X9_find x1 σ) (fun q12 =>
    some (.inl q12.1, q12.2)))))))
abbrev rm_X11_time : Room := { frames := 3, cells := 0, slots := 0, locals := 79 }
abbrev rmt_X11_time : Room := { frames := 7, cells := 1, slots := 6, locals := 112 }
set_option maxHeartbeats 4000000 in
set_option maxRecDepth 100000 in
theorem m_X11_time (l : Launch) (B : Wb) (sz : Nat) (σ : Mem) (x1 : Int32) (x2 : Int32) (v : Int64) (σ9 : Mem) (hf : f_X11_time x1 x2 σ = some (.inl v, σ9)) : MetC l yX11_time cX11_time 3 (some .long) rm_X11_time B sz σ σ9 [.ref (wA B 0), .int x1, .int x2] (some (.long v)) := by
  refine met_in (by decide +kernel) (Nat.le_of_ble_eq_true rfl) ?_
  intro p e s m below meth c C0 hr w hsz ls hl
  have hx := C0.1.1
  have hb := C0.1.2.1
  unfold f_X11_time at hf
  refine lv_aload_n hx hb dX11_time_0 rfl (lv_at hl 0 rfl) ?_
  refine lv_iload_n hx hb dX11_time_1 rfl (lv_at hl 1 rfl) ?_
  obtain ⟨q1, h2, hf⟩ := bdE hf
  obtain ⟨v3, h5, hf⟩ := xmE1 hf
  subst h5
  refine cV (As := [.int x1]) (rest := []) (k := 0) (ci := 9) (T := TX11) (N := 9) C0 w (m_X11_needRay l B _ σ x1 v3 h2) ky_X11_needRay kv_X11_needRay lk_X11_159 rfl (by decide +kernel) ⟨Nat.le_of_ble_eq_true rfl, Nat.le_of_ble_eq_true rfl⟩ ⟨Nat.le_of_ble_eq_true rfl, Nat.le_of_ble_eq_true rfl⟩ rfl (by rfl) (Nat.le_of_ble_eq_true rfl) hl.1 dX11_time_2 (fun H locs w => ?_)
  refine lv_iload_n hx hb dX11_time_5 rfl (lv_at hl 2 rfl) ?_
  refine lv_iconst (v := 0) hx hb dX11_time_6 (by decide) ?_
  refine lv_iconst (v := 1) hx hb dX11_time_7 (by decide) ?_
  obtain ⟨q6, h7, hf⟩ := bdE hf
  obtain ⟨v8, h10, hf⟩ := xmE1 hf
  subst h10
  refine cS (As := [.int x2, .int 0, .int 1]) (rest := []) C0 w (m_X11_needRange l B _ σ x2 0 1 v8 h7) ky_X11_needRange ks_X11_needRange lk_X11_93 ⟨Nat.le_of_ble_eq_true rfl, Nat.le_of_ble_eq_true rfl⟩ ⟨Nat.le_of_ble_eq_true rfl, Nat.le_of_ble_eq_true rfl⟩ rfl (by rfl) (Nat.le_of_ble_eq_true rfl) hl.1 dX11_time_8 (fun H locs w => ?_)
  refine lv_iload_n hx hb dX11_time_11 rfl (lv_at hl 2 rfl) ?_
  refine lv_iconst (v := 1) hx hb dX11_time_12 (by decide) ?_
  refine lv_icmp_ne (tgt := 26) hx hb dX11_time_13 (by decide) (fun c11 => ?_) (fun c11 => ?_)
  · rw [if_neg c11] at hf
    refine lv_aload_n hx hb dX11_time_26 rfl (lv_at hl 0 rfl) ?_
    refine gR C0 w 143 fk_X11_37 (by decide +kernel) dX11_time_27 ?_
    refine lv_iload_n hx hb dX11_time_30 rfl (lv_at hl 1 rfl) ?_
    obtain ⟨q12, h13, hf⟩ := bdE hf
    refine cV (As := [.int x1]) (rest := []) (k := 143) (ci := 8) (T := TX9) (N := 9) C0 w (m_X9_find l B _ σ x1 q12 h13) ky_X9_find kv_X9_find lk_X11_222 rfl (by decide +kernel) ⟨Nat.le_of_ble_eq_true rfl, Nat.le_of_ble_eq_true rfl⟩ ⟨Nat.le_of_ble_eq_true rfl, Nat.le_of_ble_eq_true rfl⟩ rfl (by rfl) (Nat.le_of_ble_eq_true rfl) hl.1 dX11_time_31 (fun H locs w => ?_)
    obtain ⟨h8, h9⟩ := Prod.mk.inj (Option.some.inj hf)
    obtain rfl := Sum.inl.inj h8
    subst h9
    exact eL C0 hr w dX11_time_34
  · rw [if_pos c11] at hf
    refine lv_aload_n hx hb dX11_time_16 rfl (lv_at hl 0 rfl) ?_
    refine gR C0 w 1 fk_X11_10 (by decide +kernel) dX11_time_17 ?_
    refine gR C0 w 6 fk_X11_178 (by decide +kernel) dX11_time_20 ?_
    refine lv_iload_n hx hb dX11_time_23 rfl (lv_at hl 1 rfl) ?_
    obtain ⟨g14, hf⟩ := gdE hf
    refine aL C0 w (n := 16) (by decide +kernel) (inbE g14) dX11_time_24 ?_
    obtain ⟨h8, h9⟩ := Prod.mk.inj (Option.some.inj hf)
    obtain rfl := Sum.inl.inj h8
    subst h9
    exact eL C0 hr w dX11_time_25
set_option maxHeartbeats 4000000 in
set_option maxRecDepth 100000 in
theorem t_X11_time (l : Launch) (hfl : l.stackTraces = false) (B : Wb) (sz : Nat) (σ : Mem) (x1 : Int32) (x2 : Int32) (E : String) (σ9 : Mem) (hf : f_X11_time x1 x2 σ = some (.inr E, σ9)) : MetT l yX11_time cX11_time 3 (some .long) rmt_X11_time B sz σ σ9 [.ref (wA B 0), .int x1, .int x2] E := by
  refine metT_in (by decide +kernel) (Nat.le_of_ble_eq_true rfl) ?_
  intro p e s m below meth c C0 hto w hsz ls hl
  have hx := C0.1.1
  have hb := C0.1.2.1
  unfold f_X11_time at hf
  refine lv_aload_n hx hb dX11_time_0 rfl (lv_at hl 0 rfl) ?_
  refine lv_iload_n hx hb dX11_time_1 rfl (lv_at hl 1 rfl) ?_
  obtain ⟨q1, h2, hf⟩ := bdE hf
  rcases xmE2 hf with ⟨v3, h5, hf⟩ | ⟨h5, h8⟩
  · subst h5
    refine cV (As := [.int x1]) (rest := []) (k := 0) (ci := 9) (T := TX11) (N := 9) C0 w (m_X11_needRay l B _ σ x1 v3 h2) ky_X11_needRay kv_X11_needRay lk_X11_159 rfl (by decide +kernel) ⟨Nat.le_of_ble_eq_true rfl, Nat.le_of_ble_eq_true rfl⟩ ⟨Nat.le_of_ble_eq_true rfl, Nat.le_of_ble_eq_true rfl⟩ rfl (by rfl) (Nat.le_of_ble_eq_true rfl) hl.1 dX11_time_2 (fun H locs w => ?_)
    refine lv_iload_n hx hb dX11_time_5 rfl (lv_at hl 2 rfl) ?_
    refine lv_iconst (v := 0) hx hb dX11_time_6 (by decide) ?_
    refine lv_iconst (v := 1) hx hb dX11_time_7 (by decide) ?_
    obtain ⟨q6, h7, hf⟩ := bdE hf
    rcases xmE2 hf with ⟨v8, h10, hf⟩ | ⟨h10, h8⟩
    · subst h10
      refine cS (As := [.int x2, .int 0, .int 1]) (rest := []) C0 w (m_X11_needRange l B _ σ x2 0 1 v8 h7) ky_X11_needRange ks_X11_needRange lk_X11_93 ⟨Nat.le_of_ble_eq_true rfl, Nat.le_of_ble_eq_true rfl⟩ ⟨Nat.le_of_ble_eq_true rfl, Nat.le_of_ble_eq_true rfl⟩ rfl (by rfl) (Nat.le_of_ble_eq_true rfl) hl.1 dX11_time_8 (fun H locs w => ?_)
      refine lv_iload_n hx hb dX11_time_11 rfl (lv_at hl 2 rfl) ?_
      refine lv_iconst (v := 1) hx hb dX11_time_12 (by decide) ?_
      refine lv_icmp_ne (tgt := 26) hx hb dX11_time_13 (by decide) (fun c11 => ?_) (fun c11 => ?_)
      · rw [if_neg c11] at hf
        refine lv_aload_n hx hb dX11_time_26 rfl (lv_at hl 0 rfl) ?_
        refine gR C0 w 143 fk_X11_37 (by decide +kernel) dX11_time_27 ?_
        refine lv_iload_n hx hb dX11_time_30 rfl (lv_at hl 1 rfl) ?_
        obtain ⟨q12, h13, hf⟩ := bdE hf
        refine cV (As := [.int x1]) (rest := []) (k := 143) (ci := 8) (T := TX9) (N := 9) C0 w (m_X9_find l B _ σ x1 q12 h13) ky_X9_find kv_X9_find lk_X11_222 rfl (by decide +kernel) ⟨Nat.le_of_ble_eq_true rfl, Nat.le_of_ble_eq_true rfl⟩ ⟨Nat.le_of_ble_eq_true rfl, Nat.le_of_ble_eq_true rfl⟩ rfl (by rfl) (Nat.le_of_ble_eq_true rfl) hl.1 dX11_time_31 (fun H locs w => ?_)
        exact nomatch (Prod.mk.inj (Option.some.inj hf)).1
      · rw [if_pos c11] at hf
        refine lv_aload_n hx hb dX11_time_16 rfl (lv_at hl 0 rfl) ?_
        refine gR C0 w 1 fk_X11_10 (by decide +kernel) dX11_time_17 ?_
        refine gR C0 w 6 fk_X11_178 (by decide +kernel) dX11_time_20 ?_
        refine lv_iload_n hx hb dX11_time_23 rfl (lv_at hl 1 rfl) ?_
        obtain ⟨g14, hf⟩ := gdE hf
        refine aL C0 w (n := 16) (by decide +kernel) (inbE g14) dX11_time_24 ?_
        exact nomatch (Prod.mk.inj (Option.some.inj hf)).1
    · subst h10
      have h8 := h8.symm
      subst h8
      refine cST (As := [.int x2, .int 0, .int 1]) (rest := []) C0 w (t_X11_needRange l hfl B _ σ x2 0 1 _ h7) ky_X11_needRange ks_X11_needRange lk_X11_93 ⟨Nat.le_of_ble_eq_true rfl, Nat.le_of_ble_eq_true rfl⟩ ⟨Nat.le_of_ble_eq_true rfl, Nat.le_of_ble_eq_true rfl⟩ rfl (by rfl) (Nat.le_of_ble_eq_true rfl) hl.1 dX11_time_8 (fun ce q9 H locs w g1 g2 g3 => ?_)
      exact xOut C0 hto w g1 g2 g3 (Nat.le_of_ble_eq_true rfl) (Nat.le_of_ble_eq_true rfl)
  · subst h5
    have h8 := h8.symm
    subst h8
    refine cVT (As := [.int x1]) (rest := []) (k := 0) (ci := 9) (T := TX11) (N := 9) C0 w (t_X11_needRay l hfl B _ σ x1 _ h2) ky_X11_needRay kv_X11_needRay lk_X11_159 rfl (by decide +kernel) ⟨Nat.le_of_ble_eq_true rfl, Nat.le_of_ble_eq_true rfl⟩ ⟨Nat.le_of_ble_eq_true rfl, Nat.le_of_ble_eq_true rfl⟩ rfl (by rfl) (Nat.le_of_ble_eq_true rfl) hl.1 dX11_time_2 (fun ce q9 H locs w g1 g2 g3 => ?_)
    exact xOut C0 hto w g1 g2 g3 (Nat.le_of_ble_eq_true rfl) (Nat.le_of_ble_eq_true rfl)
def f_X11_residual (x1 : Int32) (σ : Mem) : Option ((Int64 ⊕ String) × Mem) :=
  bd (f_X11_needRay x1 σ) (fun q1 =>
  xm q1 σ (fun v3 =>
  bd (f_X11_needObserved x1 σ) (fun q6 =>
  xm q6 σ (fun v8 =>
  gd (inb x1 16) (
  bd (f_X9_find x1 σ) (fun q12 =>
  some (.inl ((σ.2 6 x1.toNatClampNeg) - q12.1), q12.2)))))))
abbrev rm_X11_residual : Room := { frames := 3, cells := 0, slots := 0, locals := 79 }
abbrev rmt_X11_residual : Room := { frames := 7, cells := 1, slots := 6, locals := 111 }
set_option maxHeartbeats 4000000 in
set_option maxRecDepth 100000 in
theorem m_X11_residual (l : Launch) (B : Wb) (sz : Nat) (σ : Mem) (x1 : Int32) (v : Int64) (σ9 : Mem) (hf : f_X11_residual x1 σ = some (.inl v, σ9)) : MetC l yX11_residual cX11_residual 2 (some .long) rm_X11_residual B sz σ σ9 [.ref (wA B 0), .int x1] (some (.long v)) := by
  refine met_in (by decide +kernel) (Nat.le_of_ble_eq_true rfl) ?_
  intro p e s m below meth c C0 hr w hsz ls hl
  have hx := C0.1.1
  have hb := C0.1.2.1
  unfold f_X11_residual at hf
  refine lv_aload_n hx hb dX11_residual_0 rfl (lv_at hl 0 rfl) ?_
  refine lv_iload_n hx hb dX11_residual_1 rfl (lv_at hl 1 rfl) ?_
  obtain ⟨q1, h2, hf⟩ := bdE hf
  obtain ⟨v3, h5, hf⟩ := xmE1 hf
  subst h5
  refine cV (As := [.int x1]) (rest := []) (k := 0) (ci := 9) (T := TX11) (N := 9) C0 w (m_X11_needRay l B _ σ x1 v3 h2) ky_X11_needRay kv_X11_needRay lk_X11_159 rfl (by decide +kernel) ⟨Nat.le_of_ble_eq_true rfl, Nat.le_of_ble_eq_true rfl⟩ ⟨Nat.le_of_ble_eq_true rfl, Nat.le_of_ble_eq_true rfl⟩ rfl (by rfl) (Nat.le_of_ble_eq_true rfl) hl.1 dX11_residual_2 (fun H locs w => ?_)
  refine lv_aload_n hx hb dX11_residual_5 rfl (lv_at hl 0 rfl) ?_
  refine lv_iload_n hx hb dX11_residual_6 rfl (lv_at hl 1 rfl) ?_
  obtain ⟨q6, h7, hf⟩ := bdE hf
  obtain ⟨v8, h10, hf⟩ := xmE1 hf
  subst h10
  refine cV (As := [.int x1]) (rest := []) (k := 0) (ci := 9) (T := TX11) (N := 9) C0 w (m_X11_needObserved l B _ σ x1 v8 h7) ky_X11_needObserved kv_X11_needObserved lk_X11_196 rfl (by decide +kernel) ⟨Nat.le_of_ble_eq_true rfl, Nat.le_of_ble_eq_true rfl⟩ ⟨Nat.le_of_ble_eq_true rfl, Nat.le_of_ble_eq_true rfl⟩ rfl (by rfl) (Nat.le_of_ble_eq_true rfl) hl.1 dX11_residual_7 (fun H locs w => ?_)
  refine lv_aload_n hx hb dX11_residual_10 rfl (lv_at hl 0 rfl) ?_
  refine gR C0 w 1 fk_X11_10 (by decide +kernel) dX11_residual_11 ?_
  refine gR C0 w 6 fk_X11_178 (by decide +kernel) dX11_residual_14 ?_
  refine lv_iload_n hx hb dX11_residual_17 rfl (lv_at hl 1 rfl) ?_
  obtain ⟨g11, hf⟩ := gdE hf
  refine aL C0 w (n := 16) (by decide +kernel) (inbE g11) dX11_residual_18 ?_
  refine lv_aload_n hx hb dX11_residual_19 rfl (lv_at hl 0 rfl) ?_
  refine gR C0 w 143 fk_X11_37 (by decide +kernel) dX11_residual_20 ?_
  refine lv_iload_n hx hb dX11_residual_23 rfl (lv_at hl 1 rfl) ?_
  obtain ⟨q12, h13, hf⟩ := bdE hf
  refine cV (As := [.int x1]) (rest := [.long (σ.2 6 x1.toNatClampNeg)]) (k := 143) (ci := 8) (T := TX9) (N := 9) C0 w (m_X9_find l B _ σ x1 q12 h13) ky_X9_find kv_X9_find lk_X11_222 rfl (by decide +kernel) ⟨Nat.le_of_ble_eq_true rfl, Nat.le_of_ble_eq_true rfl⟩ ⟨Nat.le_of_ble_eq_true rfl, Nat.le_of_ble_eq_true rfl⟩ rfl (by rfl) (Nat.le_of_ble_eq_true rfl) hl.1 dX11_residual_24 (fun H locs w => ?_)
  refine lv_lsub hx hb dX11_residual_27 ?_
  obtain ⟨h8, h9⟩ := Prod.mk.inj (Option.some.inj hf)
  obtain rfl := Sum.inl.inj h8
  subst h9
  exact eL C0 hr w dX11_residual_28
set_option maxHeartbeats 4000000 in
set_option maxRecDepth 100000 in
theorem t_X11_residual (l : Launch) (hfl : l.stackTraces = false) (B : Wb) (sz : Nat) (σ : Mem) (x1 : Int32) (E : String) (σ9 : Mem) (hf : f_X11_residual x1 σ = some (.inr E, σ9)) : MetT l yX11_residual cX11_residual 2 (some .long) rmt_X11_residual B sz σ σ9 [.ref (wA B 0), .int x1] E := by
  refine metT_in (by decide +kernel) (Nat.le_of_ble_eq_true rfl) ?_
  intro p e s m below meth c C0 hto w hsz ls hl
  have hx := C0.1.1
  have hb := C0.1.2.1
  unfold f_X11_residual at hf
  refine lv_aload_n hx hb dX11_residual_0 rfl (lv_at hl 0 rfl) ?_
  refine lv_iload_n hx hb dX11_residual_1 rfl (lv_at hl 1 rfl) ?_
  obtain ⟨q1, h2, hf⟩ := bdE hf
  rcases xmE2 hf with ⟨v3, h5, hf⟩ | ⟨h5, h8⟩
  · subst h5
    refine cV (As := [.int x1]) (rest := []) (k := 0) (ci := 9) (T := TX11) (N := 9) C0 w (m_X11_needRay l B _ σ x1 v3 h2) ky_X11_needRay kv_X11_needRay lk_X11_159 rfl (by decide +kernel) ⟨Nat.le_of_ble_eq_true rfl, Nat.le_of_ble_eq_true rfl⟩ ⟨Nat.le_of_ble_eq_true rfl, Nat.le_of_ble_eq_true rfl⟩ rfl (by rfl) (Nat.le_of_ble_eq_true rfl) hl.1 dX11_residual_2 (fun H locs w => ?_)
    refine lv_aload_n hx hb dX11_residual_5 rfl (lv_at hl 0 rfl) ?_
    refine lv_iload_n hx hb dX11_residual_6 rfl (lv_at hl 1 rfl) ?_
    obtain ⟨q6, h7, hf⟩ := bdE hf
    rcases xmE2 hf with ⟨v8, h10, hf⟩ | ⟨h10, h8⟩
    · subst h10
      refine cV (As := [.int x1]) (rest := []) (k := 0) (ci := 9) (T := TX11) (N := 9) C0 w (m_X11_needObserved l B _ σ x1 v8 h7) ky_X11_needObserved kv_X11_needObserved lk_X11_196 rfl (by decide +kernel) ⟨Nat.le_of_ble_eq_true rfl, Nat.le_of_ble_eq_true rfl⟩ ⟨Nat.le_of_ble_eq_true rfl, Nat.le_of_ble_eq_true rfl⟩ rfl (by rfl) (Nat.le_of_ble_eq_true rfl) hl.1 dX11_residual_7 (fun H locs w => ?_)
      refine lv_aload_n hx hb dX11_residual_10 rfl (lv_at hl 0 rfl) ?_
      refine gR C0 w 1 fk_X11_10 (by decide +kernel) dX11_residual_11 ?_
      refine gR C0 w 6 fk_X11_178 (by decide +kernel) dX11_residual_14 ?_
      refine lv_iload_n hx hb dX11_residual_17 rfl (lv_at hl 1 rfl) ?_
      obtain ⟨g11, hf⟩ := gdE hf
      refine aL C0 w (n := 16) (by decide +kernel) (inbE g11) dX11_residual_18 ?_
      refine lv_aload_n hx hb dX11_residual_19 rfl (lv_at hl 0 rfl) ?_
      refine gR C0 w 143 fk_X11_37 (by decide +kernel) dX11_residual_20 ?_
      refine lv_iload_n hx hb dX11_residual_23 rfl (lv_at hl 1 rfl) ?_
      obtain ⟨q12, h13, hf⟩ := bdE hf
      refine cV (As := [.int x1]) (rest := [.long (σ.2 6 x1.toNatClampNeg)]) (k := 143) (ci := 8) (T := TX9) (N := 9) C0 w (m_X9_find l B _ σ x1 q12 h13) ky_X9_find kv_X9_find lk_X11_222 rfl (by decide +kernel) ⟨Nat.le_of_ble_eq_true rfl, Nat.le_of_ble_eq_true rfl⟩ ⟨Nat.le_of_ble_eq_true rfl, Nat.le_of_ble_eq_true rfl⟩ rfl (by rfl) (Nat.le_of_ble_eq_true rfl) hl.1 dX11_residual_24 (fun H locs w => ?_)
      refine lv_lsub hx hb dX11_residual_27 ?_
      exact nomatch (Prod.mk.inj (Option.some.inj hf)).1
    · subst h10
      have h8 := h8.symm
      subst h8
      refine cVT (As := [.int x1]) (rest := []) (k := 0) (ci := 9) (T := TX11) (N := 9) C0 w (t_X11_needObserved l hfl B _ σ x1 _ h7) ky_X11_needObserved kv_X11_needObserved lk_X11_196 rfl (by decide +kernel) ⟨Nat.le_of_ble_eq_true rfl, Nat.le_of_ble_eq_true rfl⟩ ⟨Nat.le_of_ble_eq_true rfl, Nat.le_of_ble_eq_true rfl⟩ rfl (by rfl) (Nat.le_of_ble_eq_true rfl) hl.1 dX11_residual_7 (fun ce q9 H locs w g1 g2 g3 => ?_)
      exact xOut C0 hto w g1 g2 g3 (Nat.le_of_ble_eq_true rfl) (Nat.le_of_ble_eq_true rfl)
  · subst h5
    have h8 := h8.symm
    subst h8
    refine cVT (As := [.int x1]) (rest := []) (k := 0) (ci := 9) (T := TX11) (N := 9) C0 w (t_X11_needRay l hfl B _ σ x1 _ h2) ky_X11_needRay kv_X11_needRay lk_X11_159 rfl (by decide +kernel) ⟨Nat.le_of_ble_eq_true rfl, Nat.le_of_ble_eq_true rfl⟩ ⟨Nat.le_of_ble_eq_true rfl, Nat.le_of_ble_eq_true rfl⟩ rfl (by rfl) (Nat.le_of_ble_eq_true rfl) hl.1 dX11_residual_2 (fun ce q9 H locs w g1 g2 g3 => ?_)
    exact xOut C0 hto w g1 g2 g3 (Nat.le_of_ble_eq_true rfl) (Nat.le_of_ble_eq_true rfl)
