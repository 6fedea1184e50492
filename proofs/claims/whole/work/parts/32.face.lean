def f_X11_wayCell (x1 : Int32) (x2 : Int32) (σ : Mem) : Option ((Int32 ⊕ String) × Mem) :=
  bd (f_X11_needRay x1 σ) (fun q1 =>
  xm q1 σ (fun v3 =>
  if 0 ≤ x2 then (
    bd (f_X9_find x1 σ) (fun q7 =>
    gd (inb x1 16) (
    if (q7.2.1 147 x1.toNatClampNeg) ≤ x2 then (
      some (.inl ((-1 : Int32)), q7.2))
    else (
      gd (inb x1 16) (
      gd (shA (149 + 1 * x1.toNatClampNeg) 1 (aln (149 + 1 * x1.toNatClampNeg))) (
      gd (inb x2 (aln (149 + 1 * x1.toNatClampNeg))) (
      some (.inl (q7.2.1 (149 + 1 * x1.toNatClampNeg) x2.toNatClampNeg), q7.2))))))))
  else (
    some (.inr xIA, σ))))
abbrev rm_X11_wayCell : Room := { frames := 3, cells := 0, slots := 0, locals := 79 }
abbrev rmt_X11_wayCell : Room := { frames := 7, cells := 1, slots := 6, locals := 111 }
set_option maxHeartbeats 4000000 in
set_option maxRecDepth 100000 in
theorem m_X11_wayCell (l : Launch) (B : Wb) (sz : Nat) (σ : Mem) (x1 : Int32) (x2 : Int32) (v : Int32) (σ9 : Mem) (hf : f_X11_wayCell x1 x2 σ = some (.inl v, σ9)) : MetC l yX11_wayCell cX11_wayCell 3 (some .int) rm_X11_wayCell B sz σ σ9 [.ref (wA B 0), .int x1, .int x2] (some (.int v)) := by
  refine met_in (by decide +kernel) (Nat.le_of_ble_eq_true rfl) ?_
  intro p e s m below meth c C0 hr w hsz ls hl
  have hx := C0.1.1
  have hb := C0.1.2.1
  unfold f_X11_wayCell at hf
  refine lv_aload_n hx hb dX11_wayCell_0 rfl (lv_at hl 0 rfl) ?_
  refine lv_iload_n hx hb dX11_wayCell_1 rfl (lv_at hl 1 rfl) ?_
  obtain ⟨q1, h2, hf⟩ := bdE hf
  obtain ⟨v3, h5, hf⟩ := xmE1 hf
  subst h5
  refine cV (As := [.int x1]) (rest := []) (k := 0) (ci := 9) (T := TX11) (N := 9) C0 w (m_X11_needRay l B _ σ x1 v3 h2) ky_X11_needRay kv_X11_needRay lk_X11_159 rfl (by decide +kernel) ⟨Nat.le_of_ble_eq_true rfl, Nat.le_of_ble_eq_true rfl⟩ ⟨Nat.le_of_ble_eq_true rfl, Nat.le_of_ble_eq_true rfl⟩ rfl (by rfl) (Nat.le_of_ble_eq_true rfl) hl.1 dX11_wayCell_2 (fun H locs w => ?_)
  refine lv_iload_n hx hb dX11_wayCell_5 rfl (lv_at hl 2 rfl) ?_
  refine lv_if_ge (tgt := 19) hx hb dX11_wayCell_6 (by decide) (fun c6 => ?_) (fun c6 => ?_)
  · rw [if_pos c6] at hf
    refine lv_aload_n hx hb dX11_wayCell_19 rfl (lv_at hl 0 rfl) ?_
    refine gR C0 w 143 fk_X11_37 (by decide +kernel) dX11_wayCell_20 ?_
    refine lv_iload_n hx hb dX11_wayCell_23 rfl (lv_at hl 1 rfl) ?_
    obtain ⟨q7, h8, hf⟩ := bdE hf
    refine cV (As := [.int x1]) (rest := []) (k := 143) (ci := 8) (T := TX9) (N := 9) C0 w (m_X9_find l B _ σ x1 q7 h8) ky_X9_find kv_X9_find lk_X11_222 rfl (by decide +kernel) ⟨Nat.le_of_ble_eq_true rfl, Nat.le_of_ble_eq_true rfl⟩ ⟨Nat.le_of_ble_eq_true rfl, Nat.le_of_ble_eq_true rfl⟩ rfl (by rfl) (Nat.le_of_ble_eq_true rfl) hl.1 dX11_wayCell_24 (fun H locs w => ?_)
    refine lv_pop2_2 hx hb dX11_wayCell_27 rfl ?_
    refine lv_iload_n hx hb dX11_wayCell_28 rfl (lv_at hl 2 rfl) ?_
    refine lv_aload_n hx hb dX11_wayCell_29 rfl (lv_at hl 0 rfl) ?_
    refine gR C0 w 143 fk_X11_37 (by decide +kernel) dX11_wayCell_30 ?_
    refine gR C0 w 147 fk_X11_226 (by decide +kernel) dX11_wayCell_33 ?_
    refine lv_iload_n hx hb dX11_wayCell_36 rfl (lv_at hl 1 rfl) ?_
    obtain ⟨g9, hf⟩ := gdE hf
    refine aI C0 w (n := 16) (by decide +kernel) (inbE g9) dX11_wayCell_37 ?_
    refine lv_icmp_ge (tgt := 55) hx hb dX11_wayCell_38 (by decide) (fun c10 => ?_) (fun c10 => ?_)
    · rw [if_pos c10] at hf
      refine lv_iconst (v := (-1)) hx hb dX11_wayCell_55 (by decide) ?_
      obtain ⟨h8, h9⟩ := Prod.mk.inj (Option.some.inj hf)
      obtain rfl := Sum.inl.inj h8
      subst h9
      exact eI C0 hr w rfl dX11_wayCell_56
    · rw [if_neg c10] at hf
      refine lv_aload_n hx hb dX11_wayCell_41 rfl (lv_at hl 0 rfl) ?_
      refine gR C0 w 143 fk_X11_37 (by decide +kernel) dX11_wayCell_42 ?_
      refine gR C0 w 148 fk_X11_231 (by decide +kernel) dX11_wayCell_45 ?_
      refine lv_iload_n hx hb dX11_wayCell_48 rfl (lv_at hl 1 rfl) ?_
      obtain ⟨g11, hf⟩ := gdE hf
      refine aG C0 w (n := 16) 149 1 (by decide +kernel) rfl (inbE g11) dX11_wayCell_49 ?_
      refine lv_iload_n hx hb dX11_wayCell_50 rfl (lv_at hl 2 rfl) ?_
      obtain ⟨g12, hf⟩ := gdE hf
      obtain ⟨g13, hf⟩ := gdE hf
      refine aI C0 w g12 (inbE g13) dX11_wayCell_51 ?_
      refine lv_goto (tgt := 56) hx hb dX11_wayCell_52 (by decide) ?_
      obtain ⟨h8, h9⟩ := Prod.mk.inj (Option.some.inj hf)
      obtain rfl := Sum.inl.inj h8
      subst h9
      exact eI C0 hr w rfl dX11_wayCell_56
  · rw [if_neg c6] at hf
    exact nomatch (Prod.mk.inj (Option.some.inj hf)).1
set_option maxHeartbeats 4000000 in
set_option maxRecDepth 100000 in
theorem t_X11_wayCell (l : Launch) (hfl : l.stackTraces = false) (B : Wb) (sz : Nat) (σ : Mem) (x1 : Int32) (x2 : Int32) (E : String) (σ9 : Mem) (hf : f_X11_wayCell x1 x2 σ = some (.inr E, σ9)) : MetT l yX11_wayCell cX11_wayCell 3 (some .int) rmt_X11_wayCell B sz σ σ9 [.ref (wA B 0), .int x1, .int x2] E := by
  refine metT_in (by decide +kernel) (Nat.le_of_ble_eq_true rfl) ?_
  intro p e s m below meth c C0 hto w hsz ls hl
  have hx := C0.1.1
  have hb := C0.1.2.1
  unfold f_X11_wayCell at hf
  refine lv_aload_n hx hb dX11_wayCell_0 rfl (lv_at hl 0 rfl) ?_
  refine lv_iload_n hx hb dX11_wayCell_1 rfl (lv_at hl 1 rfl) ?_
  obtain ⟨q1, h2, hf⟩ := bdE hf
  rcases xmE2 hf with ⟨v3, h5, hf⟩ | ⟨h5, h8⟩
  · subst h5
    refine cV (As := [.int x1]) (rest := []) (k := 0) (ci := 9) (T := TX11) (N := 9) C0 w (m_X11_needRay l B _ σ x1 v3 h2) ky_X11_needRay kv_X11_needRay lk_X11_159 rfl (by decide +kernel) ⟨Nat.le_of_ble_eq_true rfl, Nat.le_of_ble_eq_true rfl⟩ ⟨Nat.le_of_ble_eq_true rfl, Nat.le_of_ble_eq_true rfl⟩ rfl (by rfl) (Nat.le_of_ble_eq_true rfl) hl.1 dX11_wayCell_2 (fun H locs w => ?_)
    refine lv_iload_n hx hb dX11_wayCell_5 rfl (lv_at hl 2 rfl) ?_
    refine lv_if_ge (tgt := 19) hx hb dX11_wayCell_6 (by decide) (fun c6 => ?_) (fun c6 => ?_)
    · rw [if_pos c6] at hf
      refine lv_aload_n hx hb dX11_wayCell_19 rfl (lv_at hl 0 rfl) ?_
      refine gR C0 w 143 fk_X11_37 (by decide +kernel) dX11_wayCell_20 ?_
      refine lv_iload_n hx hb dX11_wayCell_23 rfl (lv_at hl 1 rfl) ?_
      obtain ⟨q7, h8, hf⟩ := bdE hf
      refine cV (As := [.int x1]) (rest := []) (k := 143) (ci := 8) (T := TX9) (N := 9) C0 w (m_X9_find l B _ σ x1 q7 h8) ky_X9_find kv_X9_find lk_X11_222 rfl (by decide +kernel) ⟨Nat.le_of_ble_eq_true rfl, Nat.le_of_ble_eq_true rfl⟩ ⟨Nat.le_of_ble_eq_true rfl, Nat.le_of_ble_eq_true rfl⟩ rfl (by rfl) (Nat.le_of_ble_eq_true rfl) hl.1 dX11_wayCell_24 (fun H locs w => ?_)
      refine lv_pop2_2 hx hb dX11_wayCell_27 rfl ?_
      refine lv_iload_n hx hb dX11_wayCell_28 rfl (lv_at hl 2 rfl) ?_
      refine lv_aload_n hx hb dX11_wayCell_29 rfl (lv_at hl 0 rfl) ?_
      refine gR C0 w 143 fk_X11_37 (by decide +kernel) dX11_wayCell_30 ?_
      refine gR C0 w 147 fk_X11_226 (by decide +kernel) dX11_wayCell_33 ?_
      refine lv_iload_n hx hb dX11_wayCell_36 rfl (lv_at hl 1 rfl) ?_
      obtain ⟨g9, hf⟩ := gdE hf
      refine aI C0 w (n := 16) (by decide +kernel) (inbE g9) dX11_wayCell_37 ?_
      refine lv_icmp_ge (tgt := 55) hx hb dX11_wayCell_38 (by decide) (fun c10 => ?_) (fun c10 => ?_)
      · rw [if_pos c10] at hf
        refine lv_iconst (v := (-1)) hx hb dX11_wayCell_55 (by decide) ?_
        exact nomatch (Prod.mk.inj (Option.some.inj hf)).1
      · rw [if_neg c10] at hf
        refine lv_aload_n hx hb dX11_wayCell_41 rfl (lv_at hl 0 rfl) ?_
        refine gR C0 w 143 fk_X11_37 (by decide +kernel) dX11_wayCell_42 ?_
        refine gR C0 w 148 fk_X11_231 (by decide +kernel) dX11_wayCell_45 ?_
        refine lv_iload_n hx hb dX11_wayCell_48 rfl (lv_at hl 1 rfl) ?_
        obtain ⟨g11, hf⟩ := gdE hf
        refine aG C0 w (n := 16) 149 1 (by decide +kernel) rfl (inbE g11) dX11_wayCell_49 ?_
        refine lv_iload_n hx hb dX11_wayCell_50 rfl (lv_at hl 2 rfl) ?_
        obtain ⟨g12, hf⟩ := gdE hf
        obtain ⟨g13, hf⟩ := gdE hf
        refine aI C0 w g12 (inbE g13) dX11_wayCell_51 ?_
        refine lv_goto (tgt := 56) hx hb dX11_wayCell_52 (by decide) ?_
        exact nomatch (Prod.mk.inj (Option.some.inj hf)).1
    · rw [if_neg c6] at hf
      obtain ⟨h8, h9⟩ := Prod.mk.inj (Option.some.inj hf)
      obtain rfl := Sum.inr.inj h8
      subst h9
      exact xThrow C0 hfl hto w xk_X11_229_177 hl.1 dX11_wayCell_9 dX11_wayCell_12 dX11_wayCell_13 dX11_wayCell_15 dX11_wayCell_18 (Nat.le_of_ble_eq_true rfl) (Nat.le_of_ble_eq_true rfl) (Nat.le_of_ble_eq_true rfl) (Nat.le_of_ble_eq_true rfl) (Nat.le_of_ble_eq_true rfl) (Nat.le_of_ble_eq_true rfl)
  · subst h5
    have h8 := h8.symm
    subst h8
    refine cVT (As := [.int x1]) (rest := []) (k := 0) (ci := 9) (T := TX11) (N := 9) C0 w (t_X11_needRay l hfl B _ σ x1 _ h2) ky_X11_needRay kv_X11_needRay lk_X11_159 rfl (by decide +kernel) ⟨Nat.le_of_ble_eq_true rfl, Nat.le_of_ble_eq_true rfl⟩ ⟨Nat.le_of_ble_eq_true rfl, Nat.le_of_ble_eq_true rfl⟩ rfl (by rfl) (Nat.le_of_ble_eq_true rfl) hl.1 dX11_wayCell_2 (fun ce q9 H locs w g1 g2 g3 => ?_)
    exact xOut C0 hto w g1 g2 g3 (Nat.le_of_ble_eq_true rfl) (Nat.le_of_ble_eq_true rfl)
def f_X11_length (x1 : Int32) (x2 : Int32) (σ : Mem) : Option ((Int32 ⊕ String) × Mem) :=
  bd (f_X11_needRay x1 σ) (fun q1 =>
  xm q1 σ (fun v3 =>
  bd (f_X11_needCell x2 σ) (fun q6 =>
  xm q6 σ (fun v8 =>
  bd (f_X9_find x1 σ) (fun q11 =>
  gd (inb x1 16) (
  gd (shA (166 + 1 * x1.toNatClampNeg) 1 (aln (166 + 1 * x1.toNatClampNeg))) (
  gd (inb x2 (aln (166 + 1 * x1.toNatClampNeg))) (
  some (.inl (q11.2.1 (166 + 1 * x1.toNatClampNeg) x2.toNatClampNeg), q11.2)))))))))
abbrev rm_X11_length : Room := { frames := 3, cells := 0, slots := 0, locals := 79 }
abbrev rmt_X11_length : Room := { frames := 7, cells := 1, slots := 6, locals := 111 }
set_option maxHeartbeats 4000000 in
set_option maxRecDepth 100000 in
theorem m_X11_length (l : Launch) (B : Wb) (sz : Nat) (σ : Mem) (x1 : Int32) (x2 : Int32) (v : Int32) (σ9 : Mem) (hf : f_X11_length x1 x2 σ = some (.inl v, σ9)) : MetC l yX11_length cX11_length 3 (some .int) rm_X11_length B sz σ σ9 [.ref (wA B 0), .int x1, .int x2] (some (.int v)) := by
  refine met_in (by decide +kernel) (Nat.le_of_ble_eq_true rfl) ?_
  intro p e s m below meth c C0 hr w hsz ls hl
  have hx := C0.1.1
  have hb := C0.1.2.1
  unfold f_X11_length at hf
  refine lv_aload_n hx hb dX11_length_0 rfl (lv_at hl 0 rfl) ?_
  refine lv_iload_n hx hb dX11_length_1 rfl (lv_at hl 1 rfl) ?_
  obtain ⟨q1, h2, hf⟩ := bdE hf
  obtain ⟨v3, h5, hf⟩ := xmE1 hf
  subst h5
  refine cV (As := [.int x1]) (rest := []) (k := 0) (ci := 9) (T := TX11) (N := 9) C0 w (m_X11_needRay l B _ σ x1 v3 h2) ky_X11_needRay kv_X11_needRay lk_X11_159 rfl (by decide +kernel) ⟨Nat.le_of_ble_eq_true rfl, Nat.le_of_ble_eq_true rfl⟩ ⟨Nat.le_of_ble_eq_true rfl, Nat.le_of_ble_eq_true rfl⟩ rfl (by rfl) (Nat.le_of_ble_eq_true rfl) hl.1 dX11_length_2 (fun H locs w => ?_)
  refine lv_aload_n hx hb dX11_length_5 rfl (lv_at hl 0 rfl) ?_
  refine lv_iload_n hx hb dX11_length_6 rfl (lv_at hl 2 rfl) ?_
  obtain ⟨q6, h7, hf⟩ := bdE hf
  obtain ⟨v8, h10, hf⟩ := xmE1 hf
  subst h10
  refine cV (As := [.int x2]) (rest := []) (k := 0) (ci := 9) (T := TX11) (N := 9) C0 w (m_X11_needCell l B _ σ x2 v8 h7) ky_X11_needCell kv_X11_needCell lk_X11_111 rfl (by decide +kernel) ⟨Nat.le_of_ble_eq_true rfl, Nat.le_of_ble_eq_true rfl⟩ ⟨Nat.le_of_ble_eq_true rfl, Nat.le_of_ble_eq_true rfl⟩ rfl (by rfl) (Nat.le_of_ble_eq_true rfl) hl.1 dX11_length_7 (fun H locs w => ?_)
  refine lv_aload_n hx hb dX11_length_10 rfl (lv_at hl 0 rfl) ?_
  refine gR C0 w 143 fk_X11_37 (by decide +kernel) dX11_length_11 ?_
  refine lv_iload_n hx hb dX11_length_14 rfl (lv_at hl 1 rfl) ?_
  obtain ⟨q11, h12, hf⟩ := bdE hf
  refine cV (As := [.int x1]) (rest := []) (k := 143) (ci := 8) (T := TX9) (N := 9) C0 w (m_X9_find l B _ σ x1 q11 h12) ky_X9_find kv_X9_find lk_X11_222 rfl (by decide +kernel) ⟨Nat.le_of_ble_eq_true rfl, Nat.le_of_ble_eq_true rfl⟩ ⟨Nat.le_of_ble_eq_true rfl, Nat.le_of_ble_eq_true rfl⟩ rfl (by rfl) (Nat.le_of_ble_eq_true rfl) hl.1 dX11_length_15 (fun H locs w => ?_)
  refine lv_pop2_2 hx hb dX11_length_18 rfl ?_
  refine lv_aload_n hx hb dX11_length_19 rfl (lv_at hl 0 rfl) ?_
  refine gR C0 w 143 fk_X11_37 (by decide +kernel) dX11_length_20 ?_
  refine gR C0 w 165 fk_X11_235 (by decide +kernel) dX11_length_23 ?_
  refine lv_iload_n hx hb dX11_length_26 rfl (lv_at hl 1 rfl) ?_
  obtain ⟨g13, hf⟩ := gdE hf
  refine aG C0 w (n := 16) 166 1 (by decide +kernel) rfl (inbE g13) dX11_length_27 ?_
  refine lv_iload_n hx hb dX11_length_28 rfl (lv_at hl 2 rfl) ?_
  obtain ⟨g14, hf⟩ := gdE hf
  obtain ⟨g15, hf⟩ := gdE hf
  refine aI C0 w g14 (inbE g15) dX11_length_29 ?_
  obtain ⟨h8, h9⟩ := Prod.mk.inj (Option.some.inj hf)
  obtain rfl := Sum.inl.inj h8
  subst h9
  exact eI C0 hr w rfl dX11_length_30
set_option maxHeartbeats 4000000 in
set_option maxRecDepth 100000 in
theorem t_X11_length (l : Launch) (hfl : l.stackTraces = false) (B : Wb) (sz : Nat) (σ : Mem) (x1 : Int32) (x2 : Int32) (E : String) (σ9 : Mem) (hf : f_X11_length x1 x2 σ = some (.inr E, σ9)) : MetT l yX11_length cX11_length 3 (some .int) rmt_X11_length B sz σ σ9 [.ref (wA B 0), .int x1, .int x2] E := by
  refine metT_in (by decide +kernel) (Nat.le_of_ble_eq_true rfl) ?_
  intro p e s m below meth c C0 hto w hsz ls hl
  have hx := C0.1.1
  have hb := C0.1.2.1
  unfold f_X11_length at hf
  refine lv_aload_n hx hb dX11_length_0 rfl (lv_at hl 0 rfl) ?_
  refine lv_iload_n hx hb dX11_length_1 rfl (lv_at hl 1 rfl) ?_
  obtain ⟨q1, h2, hf⟩ := bdE hf
  rcases xmE2 hf with ⟨v3, h5, hf⟩ | ⟨h5, h8⟩
  · subst h5
    refine cV (As := [.int x1]) (rest := []) (k := 0) (ci := 9) (T := TX11) (N := 9) C0 w (m_X11_needRay l B _ σ x1 v3 h2) ky_X11_needRay kv_X11_needRay lk_X11_159 rfl (by decide +kernel) ⟨Nat.le_of_ble_eq_true rfl, Nat.le_of_ble_eq_true rfl⟩ ⟨Nat.le_of_ble_eq_true rfl, Nat.le_of_ble_eq_true rfl⟩ rfl (by rfl) (Nat.le_of_ble_eq_true rfl) hl.1 dX11_length_2 (fun H locs w => ?_)
    refine lv_aload_n hx hb dX11_length_5 rfl (lv_at hl 0 rfl) ?_
    refine lv_iload_n hx hb dX11_length_6 rfl (lv_at hl 2 rfl) ?_
    obtain ⟨q6, h7, hf⟩ := bdE hf
    rcases xmE2 hf with ⟨v8, h10, hf⟩ | ⟨h10, h8⟩
    · subst h10
      refine cV (As := [.int x2]) (rest := []) (k := 0) (ci := 9) (T := TX11) (N := 9) C0 w (m_X11_needCell l B _ σ x2 v8 h7) ky_X11_needCell kv_X11_needCell lk_X11_111 rfl (by decide +kernel) ⟨Nat.le_of_ble_eq_true rfl, Nat.le_of_ble_eq_true rfl⟩ ⟨Nat.le_of_ble_eq_true rfl, Nat.le_of_ble_eq_true rfl⟩ rfl (by rfl) (Nat.le_of_ble_eq_true rfl) hl.1 dX11_length_7 (fun H locs w => ?_)
      refine lv_aload_n hx hb dX11_length_10 rfl (lv_at hl 0 rfl) ?_
      refine gR C0 w 143 fk_X11_37 (by decide +kernel) dX11_length_11 ?_
      refine lv_iload_n hx hb dX11_length_14 rfl (lv_at hl 1 rfl) ?_
      obtain ⟨q11, h12, hf⟩ := bdE hf
      refine cV (As := [.int x1]) (rest := []) (k := 143) (ci := 8) (T := TX9) (N := 9) C0 w (m_X9_find l B _ σ x1 q11 h12) ky_X9_find kv_X9_find lk_X11_222 rfl (by decide +kernel) ⟨Nat.le_of_ble_eq_true rfl, Nat.le_of_ble_eq_true rfl⟩ ⟨Nat.le_of_ble_eq_true rfl, Nat.le_of_ble_eq_true rfl⟩ rfl (by rfl) (Nat.le_of_ble_eq_true rfl) hl.1 dX11_length_15 (fun H locs w => ?_)
      refine lv_pop2_2 hx hb dX11_length_18 rfl ?_
      refine lv_aload_n hx hb dX11_length_19 rfl (lv_at hl 0 rfl) ?_
      refine gR C0 w 143 fk_X11_37 (by decide +kernel) dX11_length_20 ?_
      refine gR C0 w 165 fk_X11_235 (by decide +kernel) dX11_length_23 ?_
      refine lv_iload_n hx hb dX11_length_26 rfl (lv_at hl 1 rfl) ?_
      obtain ⟨g13, hf⟩ := gdE hf
      refine aG C0 w (n := 16) 166 1 (by decide +kernel) rfl (inbE g13) dX11_length_27 ?_
      refine lv_iload_n hx hb dX11_length_28 rfl (lv_at hl 2 rfl) ?_
      obtain ⟨g14, hf⟩ := gdE hf
      obtain ⟨g15, hf⟩ := gdE hf
      refine aI C0 w g14 (inbE g15) dX11_length_29 ?_
      exact nomatch (Prod.mk.inj (Option.some.inj hf)).1
    · subst h10
      have h8 := h8.symm
      subst h8
      refine cVT (As := [.int x2]) (rest := []) (k := 0) (ci := 9) (T := TX11) (N := 9) C0 w (t_X11_needCell l hfl B _ σ x2 _ h7) ky_X11_needCell kv_X11_needCell lk_X11_111 rfl (by decide +kernel) ⟨Nat.le_of_ble_eq_true rfl, Nat.le_of_ble_eq_true rfl⟩ ⟨Nat.le_of_ble_eq_true rfl, Nat.le_of_ble_eq_true rfl⟩ rfl (by rfl) (Nat.le_of_ble_eq_true rfl) hl.1 dX11_length_7 (fun ce q9 H locs w g1 g2 g3 => ?_)
      exact xOut C0 hto w g1 g2 g3 (Nat.le_of_ble_eq_true rfl) (Nat.le_of_ble_eq_true rfl)
  · subst h5
    have h8 := h8.symm
    subst h8
    refine cVT (As := [.int x1]) (rest := []) (k := 0) (ci := 9) (T := TX11) (N := 9) C0 w (t_X11_needRay l hfl B _ σ x1 _ h2) ky_X11_needRay kv_X11_needRay lk_X11_159 rfl (by decide +kernel) ⟨Nat.le_of_ble_eq_true rfl, Nat.le_of_ble_eq_true rfl⟩ ⟨Nat.le_of_ble_eq_true rfl, Nat.le_of_ble_eq_true rfl⟩ rfl (by rfl) (Nat.le_of_ble_eq_true rfl) hl.1 dX11_length_2 (fun ce q9 H locs w g1 g2 g3 => ?_)
    exact xOut C0 hto w g1 g2 g3 (Nat.le_of_ble_eq_true rfl) (Nat.le_of_ble_eq_true rfl)
def f_X11_least (x1 : Int32) (x2 : Int32) (x3 : Int32) (σ : Mem) : Option ((Int64 ⊕ String) × Mem) :=
  bd (f_X11_needCell x1 σ) (fun q1 =>
  xm q1 σ (fun v3 =>
  bd (f_X11_needCell x2 σ) (fun q6 =>
  xm q6 σ (fun v8 =>
  if x3 = 0 then (
    bd (f_X6_leastTime 2 x1 x2 σ) (fun q12 =>
    some (.inl q12.1, q12.2)))
  else (
    bd (f_X6_leastTime 3 x1 x2 σ) (fun q14 =>
    some (.inl q14.1, q14.2)))))))
abbrev rm_X11_least : Room := { frames := 3, cells := 0, slots := 0, locals := 64 }
abbrev rmt_X11_least : Room := { frames := 7, cells := 1, slots := 6, locals := 111 }
set_option maxHeartbeats 4000000 in
set_option maxRecDepth 100000 in
theorem m_X11_least (l : Launch) (B : Wb) (sz : Nat) (σ : Mem) (x1 : Int32) (x2 : Int32) (x3 : Int32) (v : Int64) (σ9 : Mem) (hf : f_X11_least x1 x2 x3 σ = some (.inl v, σ9)) : MetC l yX11_least cX11_least 4 (some .long) rm_X11_least B sz σ σ9 [.ref (wA B 0), .int x1, .int x2, .int x3] (some (.long v)) := by
  refine met_in (by decide +kernel) (Nat.le_of_ble_eq_true rfl) ?_
  intro p e s m below meth c C0 hr w hsz ls hl
  have hx := C0.1.1
  have hb := C0.1.2.1
  unfold f_X11_least at hf
  refine lv_aload_n hx hb dX11_least_0 rfl (lv_at hl 0 rfl) ?_
  refine lv_iload_n hx hb dX11_least_1 rfl (lv_at hl 1 rfl) ?_
  obtain ⟨q1, h2, hf⟩ := bdE hf
  obtain ⟨v3, h5, hf⟩ := xmE1 hf
  subst h5
  refine cV (As := [.int x1]) (rest := []) (k := 0) (ci := 9) (T := TX11) (N := 9) C0 w (m_X11_needCell l B _ σ x1 v3 h2) ky_X11_needCell kv_X11_needCell lk_X11_111 rfl (by decide +kernel) ⟨Nat.le_of_ble_eq_true rfl, Nat.le_of_ble_eq_true rfl⟩ ⟨Nat.le_of_ble_eq_true rfl, Nat.le_of_ble_eq_true rfl⟩ rfl (by rfl) (Nat.le_of_ble_eq_true rfl) hl.1 dX11_least_2 (fun H locs w => ?_)
  refine lv_aload_n hx hb dX11_least_5 rfl (lv_at hl 0 rfl) ?_
  refine lv_iload_n hx hb dX11_least_6 rfl (lv_at hl 2 rfl) ?_
  obtain ⟨q6, h7, hf⟩ := bdE hf
  obtain ⟨v8, h10, hf⟩ := xmE1 hf
  subst h10
  refine cV (As := [.int x2]) (rest := []) (k := 0) (ci := 9) (T := TX11) (N := 9) C0 w (m_X11_needCell l B _ σ x2 v8 h7) ky_X11_needCell kv_X11_needCell lk_X11_111 rfl (by decide +kernel) ⟨Nat.le_of_ble_eq_true rfl, Nat.le_of_ble_eq_true rfl⟩ ⟨Nat.le_of_ble_eq_true rfl, Nat.le_of_ble_eq_true rfl⟩ rfl (by rfl) (Nat.le_of_ble_eq_true rfl) hl.1 dX11_least_7 (fun H locs w => ?_)
  refine lv_aload_n hx hb dX11_least_10 rfl (lv_at hl 0 rfl) ?_
  refine gR C0 w 140 fk_X11_28 (by decide +kernel) dX11_least_11 ?_
  refine lv_iload_n hx hb dX11_least_14 rfl (lv_at hl 3 rfl) ?_
  refine lv_if_eq (tgt := 28) hx hb dX11_least_15 (by decide) (fun c11 => ?_) (fun c11 => ?_)
  · rw [if_pos c11] at hf
    refine lv_aload_n hx hb dX11_least_28 rfl (lv_at hl 0 rfl) ?_
    refine gR C0 w 1 fk_X11_10 (by decide +kernel) dX11_least_29 ?_
    refine gR C0 w 2 fk_X11_116 (by decide +kernel) dX11_least_32 ?_
    refine lv_iload_n hx hb dX11_least_35 rfl (lv_at hl 1 rfl) ?_
    refine lv_iload_n hx hb dX11_least_36 rfl (lv_at hl 2 rfl) ?_
    obtain ⟨q12, h13, hf⟩ := bdE hf
    refine cV (As := [.ref (wA B 2), .int x1, .int x2]) (rest := []) (k := 140) (ci := 5) (T := TX6) (N := 4) C0 w (m_X6_leastTime l B _ σ 2 x1 x2 q12 h13) ky_X6_leastTime kv_X6_leastTime lk_X11_238 rfl (by decide +kernel) ⟨Nat.le_of_ble_eq_true rfl, Nat.le_of_ble_eq_true rfl⟩ ⟨Nat.le_of_ble_eq_true rfl, Nat.le_of_ble_eq_true rfl⟩ rfl (by rfl) (Nat.le_of_ble_eq_true rfl) hl.1 dX11_least_37 (fun H locs w => ?_)
    obtain ⟨h8, h9⟩ := Prod.mk.inj (Option.some.inj hf)
    obtain rfl := Sum.inl.inj h8
    subst h9
    exact eL C0 hr w dX11_least_40
  · rw [if_neg c11] at hf
    refine lv_aload_n hx hb dX11_least_18 rfl (lv_at hl 0 rfl) ?_
    refine gR C0 w 1 fk_X11_10 (by decide +kernel) dX11_least_19 ?_
    refine gR C0 w 3 fk_X11_123 (by decide +kernel) dX11_least_22 ?_
    refine lv_goto (tgt := 35) hx hb dX11_least_25 (by decide) ?_
    refine lv_iload_n hx hb dX11_least_35 rfl (lv_at hl 1 rfl) ?_
    refine lv_iload_n hx hb dX11_least_36 rfl (lv_at hl 2 rfl) ?_
    obtain ⟨q14, h15, hf⟩ := bdE hf
    refine cV (As := [.ref (wA B 3), .int x1, .int x2]) (rest := []) (k := 140) (ci := 5) (T := TX6) (N := 4) C0 w (m_X6_leastTime l B _ σ 3 x1 x2 q14 h15) ky_X6_leastTime kv_X6_leastTime lk_X11_238 rfl (by decide +kernel) ⟨Nat.le_of_ble_eq_true rfl, Nat.le_of_ble_eq_true rfl⟩ ⟨Nat.le_of_ble_eq_true rfl, Nat.le_of_ble_eq_true rfl⟩ rfl (by rfl) (Nat.le_of_ble_eq_true rfl) hl.1 dX11_least_37 (fun H locs w => ?_)
    obtain ⟨h8, h9⟩ := Prod.mk.inj (Option.some.inj hf)
    obtain rfl := Sum.inl.inj h8
    subst h9
    exact eL C0 hr w dX11_least_40
set_option maxHeartbeats 4000000 in
set_option maxRecDepth 100000 in
theorem t_X11_least (l : Launch) (hfl : l.stackTraces = false) (B : Wb) (sz : Nat) (σ : Mem) (x1 : Int32) (x2 : Int32) (x3 : Int32) (E : String) (σ9 : Mem) (hf : f_X11_least x1 x2 x3 σ = some (.inr E, σ9)) : MetT l yX11_least cX11_least 4 (some .long) rmt_X11_least B sz σ σ9 [.ref (wA B 0), .int x1, .int x2, .int x3] E := by
  refine metT_in (by decide +kernel) (Nat.le_of_ble_eq_true rfl) ?_
  intro p e s m below meth c C0 hto w hsz ls hl
  have hx := C0.1.1
  have hb := C0.1.2.1
  unfold f_X11_least at hf
  refine lv_aload_n hx hb dX11_least_0 rfl (lv_at hl 0 rfl) ?_
  refine lv_iload_n hx hb dX11_least_1 rfl (lv_at hl 1 rfl) ?_
  obtain ⟨q1, h2, hf⟩ := bdE hf
  rcases xmE2 hf with ⟨v3, h5, hf⟩ | ⟨h5, h8⟩
  · subst h5
    refine cV (As := [.int x1]) (rest := []) (k := 0) (ci := 9) (T := TX11) (N := 9) C0 w (m_X11_needCell l B _ σ x1 v3 h2) ky_X11_needCell kv_X11_needCell lk_X11_111 rfl (by decide +kernel) ⟨Nat.le_of_ble_eq_true rfl, Nat.le_of_ble_eq_true rfl⟩ ⟨Nat.le_of_ble_eq_true rfl, Nat.le_of_ble_eq_true rfl⟩ rfl (by rfl) (Nat.le_of_ble_eq_true rfl) hl.1 dX11_least_2 (fun H locs w => ?_)
    refine lv_aload_n hx hb dX11_least_5 rfl (lv_at hl 0 rfl) ?_
    refine lv_iload_n hx hb dX11_least_6 rfl (lv_at hl 2 rfl) ?_
    obtain ⟨q6, h7, hf⟩ := bdE hf
    rcases xmE2 hf with ⟨v8, h10, hf⟩ | ⟨h10, h8⟩
    · subst h10
      refine cV (As := [.int x2]) (rest := []) (k := 0) (ci := 9) (T := TX11) (N := 9) C0 w (m_X11_needCell l B _ σ x2 v8 h7) ky_X11_needCell kv_X11_needCell lk_X11_111 rfl (by decide +kernel) ⟨Nat.le_of_ble_eq_true rfl, Nat.le_of_ble_eq_true rfl⟩ ⟨Nat.le_of_ble_eq_true rfl, Nat.le_of_ble_eq_true rfl⟩ rfl (by rfl) (Nat.le_of_ble_eq_true rfl) hl.1 dX11_least_7 (fun H locs w => ?_)
      refine lv_aload_n hx hb dX11_least_10 rfl (lv_at hl 0 rfl) ?_
      refine gR C0 w 140 fk_X11_28 (by decide +kernel) dX11_least_11 ?_
      refine lv_iload_n hx hb dX11_least_14 rfl (lv_at hl 3 rfl) ?_
      refine lv_if_eq (tgt := 28) hx hb dX11_least_15 (by decide) (fun c11 => ?_) (fun c11 => ?_)
      · rw [if_pos c11] at hf
        refine lv_aload_n hx hb dX11_least_28 rfl (lv_at hl 0 rfl) ?_
        refine gR C0 w 1 fk_X11_10 (by decide +kernel) dX11_least_29 ?_
        refine gR C0 w 2 fk_X11_116 (by decide +kernel) dX11_least_32 ?_
        refine lv_iload_n hx hb dX11_least_35 rfl (lv_at hl 1 rfl) ?_
        refine lv_iload_n hx hb dX11_least_36 rfl (lv_at hl 2 rfl) ?_
        obtain ⟨q12, h13, hf⟩ := bdE hf
        refine cV (As := [.ref (wA B 2), .int x1, .int x2]) (rest := []) (k := 140) (ci := 5) (T := TX6) (N := 4) C0 w (m_X6_leastTime l B _ σ 2 x1 x2 q12 h13) ky_X6_leastTime kv_X6_leastTime lk_X11_238 rfl (by decide +kernel) ⟨Nat.le_of_ble_eq_true rfl, Nat.le_of_ble_eq_true rfl⟩ ⟨Nat.le_of_ble_eq_true rfl, Nat.le_of_ble_eq_true rfl⟩ rfl (by rfl) (Nat.le_of_ble_eq_true rfl) hl.1 dX11_least_37 (fun H locs w => ?_)
        exact nomatch (Prod.mk.inj (Option.some.inj hf)).1
      · rw [if_neg c11] at hf
        refine lv_aload_n hx hb dX11_least_18 rfl (lv_at hl 0 rfl) ?_
        refine gR C0 w 1 fk_X11_10 (by decide +kernel) dX11_least_19 ?_
        refine gR C0 w 3 fk_X11_123 (by decide +kernel) dX11_least_22 ?_
        refine lv_goto (tgt := 35) hx hb dX11_least_25 (by decide) ?_
        refine lv_iload_n hx hb dX11_least_35 rfl (lv_at hl 1 rfl) ?_
        refine lv_iload_n hx hb dX11_least_36 rfl (lv_at hl 2 rfl) ?_
        obtain ⟨q14, h15, hf⟩ := bdE hf
        refine cV (As := [.ref (wA B 3), .int x1, .int x2]) (rest := []) (k := 140) (ci := 5) (T := TX6) (N := 4) C0 w (m_X6_leastTime l B _ σ 3 x1 x2 q14 h15) ky_X6_leastTime kv_X6_leastTime lk_X11_238 rfl (by decide +kernel) ⟨Nat.le_of_ble_eq_true rfl, Nat.le_of_ble_eq_true rfl⟩ ⟨Nat.le_of_ble_eq_true rfl, Nat.le_of_ble_eq_true rfl⟩ rfl (by rfl) (Nat.le_of_ble_eq_true rfl) hl.1 dX11_least_37 (fun H locs w => ?_)
        exact nomatch (Prod.mk.inj (Option.some.inj hf)).1
    · subst h10
      have h8 := h8.symm
      subst h8
      refine cVT (As := [.int x2]) (rest := []) (k := 0) (ci := 9) (T := TX11) (N := 9) C0 w (t_X11_needCell l hfl B _ σ x2 _ h7) ky_X11_needCell kv_X11_needCell lk_X11_111 rfl (by decide +kernel) ⟨Nat.le_of_ble_eq_true rfl, Nat.le_of_ble_eq_true rfl⟩ ⟨Nat.le_of_ble_eq_true rfl, Nat.le_of_ble_eq_true rfl⟩ rfl (by rfl) (Nat.le_of_ble_eq_true rfl) hl.1 dX11_least_7 (fun ce q9 H locs w g1 g2 g3 => ?_)
      exact xOut C0 hto w g1 g2 g3 (Nat.le_of_ble_eq_true rfl) (Nat.le_of_ble_eq_true rfl)
  · subst h5
    have h8 := h8.symm
    subst h8
    refine cVT (As := [.int x1]) (rest := []) (k := 0) (ci := 9) (T := TX11) (N := 9) C0 w (t_X11_needCell l hfl B _ σ x1 _ h2) ky_X11_needCell kv_X11_needCell lk_X11_111 rfl (by decide +kernel) ⟨Nat.le_of_ble_eq_true rfl, Nat.le_of_ble_eq_true rfl⟩ ⟨Nat.le_of_ble_eq_true rfl, Nat.le_of_ble_eq_true rfl⟩ rfl (by rfl) (Nat.le_of_ble_eq_true rfl) hl.1 dX11_least_2 (fun ce q9 H locs w g1 g2 g3 => ?_)
    exact xOut C0 hto w g1 g2 g3 (Nat.le_of_ble_eq_true rfl) (Nat.le_of_ble_eq_true rfl)
def f_X11_cell (x1 : Int32) (x2 : Int32) (σ : Mem) : Option ((Int32 ⊕ String) × Mem) :=
  bd (f_X11_needCell x1 σ) (fun q1 =>
  xm q1 σ (fun v3 =>
  bd (f_X11_needRange x2 0 3 σ) (fun q6 =>
  xm q6 σ (fun v8 =>
  if x2 = 0 then (
    gd (inb x1 64) (
    some (.inl (σ.1 2 x1.toNatClampNeg), σ)))
  else (
  if x2 = 1 then (
    gd (inb x1 64) (
    some (.inl (σ.1 3 x1.toNatClampNeg), σ)))
  else (
  if x2 = 2 then (
    bd (f_X4_coverage x1 σ) (fun q16 =>
    some (.inl q16.1, q16.2)))
  else (
    bd (f_X4_lengthSum x1 σ) (fun q18 =>
    some (.inl q18.1, q18.2)))))))))
abbrev rm_X11_cell : Room := { frames := 4, cells := 0, slots := 0, locals := 102 }
abbrev rmt_X11_cell : Room := { frames := 7, cells := 1, slots := 6, locals := 112 }
set_option maxHeartbeats 4000000 in
set_option maxRecDepth 100000 in
theorem m_X11_cell (l : Launch) (B : Wb) (sz : Nat) (σ : Mem) (x1 : Int32) (x2 : Int32) (v : Int32) (σ9 : Mem) (hf : f_X11_cell x1 x2 σ = some (.inl v, σ9)) : MetC l yX11_cell cX11_cell 3 (some .int) rm_X11_cell B sz σ σ9 [.ref (wA B 0), .int x1, .int x2] (some (.int v)) := by
  refine met_in (by decide +kernel) (Nat.le_of_ble_eq_true rfl) ?_
  intro p e s m below meth c C0 hr w hsz ls hl
  have hx := C0.1.1
  have hb := C0.1.2.1
  unfold f_X11_cell at hf
  refine lv_aload_n hx hb dX11_cell_0 rfl (lv_at hl 0 rfl) ?_
  refine lv_iload_n hx hb dX11_cell_1 rfl (lv_at hl 1 rfl) ?_
  obtain ⟨q1, h2, hf⟩ := bdE hf
  obtain ⟨v3, h5, hf⟩ := xmE1 hf
  subst h5
  refine cV (As := [.int x1]) (rest := []) (k := 0) (ci := 9) (T := TX11) (N := 9) C0 w (m_X11_needCell l B _ σ x1 v3 h2) ky_X11_needCell kv_X11_needCell lk_X11_111 rfl (by decide +kernel) ⟨Nat.le_of_ble_eq_true rfl, Nat.le_of_ble_eq_true rfl⟩ ⟨Nat.le_of_ble_eq_true rfl, Nat.le_of_ble_eq_true rfl⟩ rfl (by rfl) (Nat.le_of_ble_eq_true rfl) hl.1 dX11_cell_2 (fun H locs w => ?_)
  refine lv_iload_n hx hb dX11_cell_5 rfl (lv_at hl 2 rfl) ?_
  refine lv_iconst (v := 0) hx hb dX11_cell_6 (by decide) ?_
  refine lv_iconst (v := 3) hx hb dX11_cell_7 (by decide) ?_
  obtain ⟨q6, h7, hf⟩ := bdE hf
  obtain ⟨v8, h10, hf⟩ := xmE1 hf
  subst h10
  refine cS (As := [.int x2, .int 0, .int 3]) (rest := []) C0 w (m_X11_needRange l B _ σ x2 0 3 v8 h7) ky_X11_needRange ks_X11_needRange lk_X11_93 ⟨Nat.le_of_ble_eq_true rfl, Nat.le_of_ble_eq_true rfl⟩ ⟨Nat.le_of_ble_eq_true rfl, Nat.le_of_ble_eq_true rfl⟩ rfl (by rfl) (Nat.le_of_ble_eq_true rfl) hl.1 dX11_cell_8 (fun H locs w => ?_)
  refine lv_iload_n hx hb dX11_cell_11 rfl (lv_at hl 2 rfl) ?_
  by_cases c11 : x2 = 0
  · rw [if_pos c11] at hf
    refine lv_tableIn (tgt := 40) hx hb dX11_cell_12 (by rw [c11]; decide) (by rw [c11]; decide) (by rw [c11]; rfl) (by decide) ?_
    refine lv_aload_n hx hb dX11_cell_40 rfl (lv_at hl 0 rfl) ?_
    refine gR C0 w 1 fk_X11_10 (by decide +kernel) dX11_cell_41 ?_
    refine gR C0 w 2 fk_X11_116 (by decide +kernel) dX11_cell_44 ?_
    refine lv_iload_n hx hb dX11_cell_47 rfl (lv_at hl 1 rfl) ?_
    obtain ⟨g12, hf⟩ := gdE hf
    refine aI C0 w (n := 64) (by decide +kernel) (inbE g12) dX11_cell_48 ?_
    obtain ⟨h8, h9⟩ := Prod.mk.inj (Option.some.inj hf)
    obtain rfl := Sum.inl.inj h8
    subst h9
    exact eI C0 hr w rfl dX11_cell_49
  · rw [if_neg c11] at hf
    by_cases c13 : x2 = 1
    · rw [if_pos c13] at hf
      refine lv_tableIn (tgt := 50) hx hb dX11_cell_12 (by rw [c13]; decide) (by rw [c13]; decide) (by rw [c13]; rfl) (by decide) ?_
      refine lv_aload_n hx hb dX11_cell_50 rfl (lv_at hl 0 rfl) ?_
      refine gR C0 w 1 fk_X11_10 (by decide +kernel) dX11_cell_51 ?_
      refine gR C0 w 3 fk_X11_123 (by decide +kernel) dX11_cell_54 ?_
      refine lv_iload_n hx hb dX11_cell_57 rfl (lv_at hl 1 rfl) ?_
      obtain ⟨g14, hf⟩ := gdE hf
      refine aI C0 w (n := 64) (by decide +kernel) (inbE g14) dX11_cell_58 ?_
      obtain ⟨h8, h9⟩ := Prod.mk.inj (Option.some.inj hf)
      obtain rfl := Sum.inl.inj h8
      subst h9
      exact eI C0 hr w rfl dX11_cell_59
    · rw [if_neg c13] at hf
      by_cases c15 : x2 = 2
      · rw [if_pos c15] at hf
        refine lv_tableIn (tgt := 60) hx hb dX11_cell_12 (by rw [c15]; decide) (by rw [c15]; decide) (by rw [c15]; rfl) (by decide) ?_
        refine lv_aload_n hx hb dX11_cell_60 rfl (lv_at hl 0 rfl) ?_
        refine gR C0 w 182 fk_X11_46 (by decide +kernel) dX11_cell_61 ?_
        refine lv_iload_n hx hb dX11_cell_64 rfl (lv_at hl 1 rfl) ?_
        obtain ⟨q16, h17, hf⟩ := bdE hf
        refine cV (As := [.int x1]) (rest := []) (k := 182) (ci := 3) (T := TX4) (N := 2) C0 w (m_X4_coverage l B _ σ x1 q16 h17) ky_X4_coverage kv_X4_coverage lk_X11_242 rfl (by decide +kernel) ⟨Nat.le_of_ble_eq_true rfl, Nat.le_of_ble_eq_true rfl⟩ ⟨Nat.le_of_ble_eq_true rfl, Nat.le_of_ble_eq_true rfl⟩ rfl (by rfl) (Nat.le_of_ble_eq_true rfl) hl.1 dX11_cell_65 (fun H locs w => ?_)
        obtain ⟨h8, h9⟩ := Prod.mk.inj (Option.some.inj hf)
        obtain rfl := Sum.inl.inj h8
        subst h9
        exact eI C0 hr w rfl dX11_cell_68
      · rw [if_neg c15] at hf
        refine lv_tableOut (tgt := 69) hx hb dX11_cell_12 (sw_out (by have q0 := sw_ne c11; have q1 := sw_ne c13; have q2 := sw_ne c15; clear hf; simp at *; omega)) (by decide) ?_
        refine lv_aload_n hx hb dX11_cell_69 rfl (lv_at hl 0 rfl) ?_
        refine gR C0 w 182 fk_X11_46 (by decide +kernel) dX11_cell_70 ?_
        refine lv_iload_n hx hb dX11_cell_73 rfl (lv_at hl 1 rfl) ?_
        obtain ⟨q18, h19, hf⟩ := bdE hf
        refine cV (As := [.int x1]) (rest := []) (k := 182) (ci := 3) (T := TX4) (N := 2) C0 w (m_X4_lengthSum l B _ σ x1 q18 h19) ky_X4_lengthSum kv_X4_lengthSum lk_X11_245 rfl (by decide +kernel) ⟨Nat.le_of_ble_eq_true rfl, Nat.le_of_ble_eq_true rfl⟩ ⟨Nat.le_of_ble_eq_true rfl, Nat.le_of_ble_eq_true rfl⟩ rfl (by rfl) (Nat.le_of_ble_eq_true rfl) hl.1 dX11_cell_74 (fun H locs w => ?_)
        obtain ⟨h8, h9⟩ := Prod.mk.inj (Option.some.inj hf)
        obtain rfl := Sum.inl.inj h8
        subst h9
        exact eI C0 hr w rfl dX11_cell_77
set_option maxHeartbeats 4000000 in
set_option maxRecDepth 100000 in
theorem t_X11_cell (l : Launch) (hfl : l.stackTraces = false) (B : Wb) (sz : Nat) (σ : Mem) (x1 : Int32) (x2 : Int32) (E : String) (σ9 : Mem) (hf : f_X11_cell x1 x2 σ = some (.inr E, σ9)) : MetT l yX11_cell cX11_cell 3 (some .int) rmt_X11_cell B sz σ σ9 [.ref (wA B 0), .int x1, .int x2] E := by
  refine metT_in (by decide +kernel) (Nat.le_of_ble_eq_true rfl) ?_
  intro p e s m below meth c C0 hto w hsz ls hl
  have hx := C0.1.1
  have hb := C0.1.2.1
  unfold f_X11_cell at hf
  refine lv_aload_n hx hb dX11_cell_0 rfl (lv_at hl 0 rfl) ?_
  refine lv_iload_n hx hb dX11_cell_1 rfl (lv_at hl 1 rfl) ?_
  obtain ⟨q1, h2, hf⟩ := bdE hf
  rcases xmE2 hf with ⟨v3, h5, hf⟩ | ⟨h5, h8⟩
  · subst h5
    refine cV (As := [.int x1]) (rest := []) (k := 0) (ci := 9) (T := TX11) (N := 9) C0 w (m_X11_needCell l B _ σ x1 v3 h2) ky_X11_needCell kv_X11_needCell lk_X11_111 rfl (by decide +kernel) ⟨Nat.le_of_ble_eq_true rfl, Nat.le_of_ble_eq_true rfl⟩ ⟨Nat.le_of_ble_eq_true rfl, Nat.le_of_ble_eq_true rfl⟩ rfl (by rfl) (Nat.le_of_ble_eq_true rfl) hl.1 dX11_cell_2 (fun H locs w => ?_)
    refine lv_iload_n hx hb dX11_cell_5 rfl (lv_at hl 2 rfl) ?_
    refine lv_iconst (v := 0) hx hb dX11_cell_6 (by decide) ?_
    refine lv_iconst (v := 3) hx hb dX11_cell_7 (by decide) ?_
    obtain ⟨q6, h7, hf⟩ := bdE hf
    rcases xmE2 hf with ⟨v8, h10, hf⟩ | ⟨h10, h8⟩
    · subst h10
      refine cS (As := [.int x2, .int 0, .int 3]) (rest := []) C0 w (m_X11_needRange l B _ σ x2 0 3 v8 h7) ky_X11_needRange ks_X11_needRange lk_X11_93 ⟨Nat.le_of_ble_eq_true rfl, Nat.le_of_ble_eq_true rfl⟩ ⟨Nat.le_of_ble_eq_true rfl, Nat.le_of_ble_eq_true rfl⟩ rfl (by rfl) (Nat.le_of_ble_eq_true rfl) hl.1 dX11_cell_8 (fun H locs w => ?_)
      refine lv_iload_n hx hb dX11_cell_11 rfl (lv_at hl 2 rfl) ?_
      by_cases c11 : x2 = 0
      · rw [if_pos c11] at hf
        refine lv_tableIn (tgt := 40) hx hb dX11_cell_12 (by rw [c11]; decide) (by rw [c11]; decide) (by rw [c11]; rfl) (by decide) ?_
        refine lv_aload_n hx hb dX11_cell_40 rfl (lv_at hl 0 rfl) ?_
        refine gR C0 w 1 fk_X11_10 (by decide +kernel) dX11_cell_41 ?_
        refine gR C0 w 2 fk_X11_116 (by decide +kernel) dX11_cell_44 ?_
        refine lv_iload_n hx hb dX11_cell_47 rfl (lv_at hl 1 rfl) ?_
        obtain ⟨g12, hf⟩ := gdE hf
        refine aI C0 w (n := 64) (by decide +kernel) (inbE g12) dX11_cell_48 ?_
        exact nomatch (Prod.mk.inj (Option.some.inj hf)).1
      · rw [if_neg c11] at hf
        by_cases c13 : x2 = 1
        · rw [if_pos c13] at hf
          refine lv_tableIn (tgt := 50) hx hb dX11_cell_12 (by rw [c13]; decide) (by rw [c13]; decide) (by rw [c13]; rfl) (by decide) ?_
          refine lv_aload_n hx hb dX11_cell_50 rfl (lv_at hl 0 rfl) ?_
          refine gR C0 w 1 fk_X11_10 (by decide +kernel) dX11_cell_51 ?_
          refine gR C0 w 3 fk_X11_123 (by decide +kernel) dX11_cell_54 ?_
          refine lv_iload_n hx hb dX11_cell_57 rfl (lv_at hl 1 rfl) ?_
          obtain ⟨g14, hf⟩ := gdE hf
          refine aI C0 w (n := 64) (by decide +kernel) (inbE g14) dX11_cell_58 ?_
          exact nomatch (Prod.mk.inj (Option.some.inj hf)).1
        · rw [if_neg c13] at hf
          by_cases c15 : x2 = 2
          · rw [if_pos c15] at hf
            refine lv_tableIn (tgt := 60) hx hb dX11_cell_12 (by rw [c15]; decide) (by rw [c15]; decide) (by rw [c15]; rfl) (by decide) ?_
            refine lv_aload_n hx hb dX11_cell_60 rfl (lv_at hl 0 rfl) ?_
            refine gR C0 w 182 fk_X11_46 (by decide +kernel) dX11_cell_61 ?_
            refine lv_iload_n hx hb dX11_cell_64 rfl (lv_at hl 1 rfl) ?_
            obtain ⟨q16, h17, hf⟩ := bdE hf
            refine cV (As := [.int x1]) (rest := []) (k := 182) (ci := 3) (T := TX4) (N := 2) C0 w (m_X4_coverage l B _ σ x1 q16 h17) ky_X4_coverage kv_X4_coverage lk_X11_242 rfl (by decide +kernel) ⟨Nat.le_of_ble_eq_true rfl, Nat.le_of_ble_eq_true rfl⟩ ⟨Nat.le_of_ble_eq_true rfl, Nat.le_of_ble_eq_true rfl⟩ rfl (by rfl) (Nat.le_of_ble_eq_true rfl) hl.1 dX11_cell_65 (fun H locs w => ?_)
            exact nomatch (Prod.mk.inj (Option.some.inj hf)).1
          · rw [if_neg c15] at hf
            refine lv_tableOut (tgt := 69) hx hb dX11_cell_12 (sw_out (by have q0 := sw_ne c11; have q1 := sw_ne c13; have q2 := sw_ne c15; clear hf; simp at *; omega)) (by decide) ?_
            refine lv_aload_n hx hb dX11_cell_69 rfl (lv_at hl 0 rfl) ?_
            refine gR C0 w 182 fk_X11_46 (by decide +kernel) dX11_cell_70 ?_
            refine lv_iload_n hx hb dX11_cell_73 rfl (lv_at hl 1 rfl) ?_
            obtain ⟨q18, h19, hf⟩ := bdE hf
            refine cV (As := [.int x1]) (rest := []) (k := 182) (ci := 3) (T := TX4) (N := 2) C0 w (m_X4_lengthSum l B _ σ x1 q18 h19) ky_X4_lengthSum kv_X4_lengthSum lk_X11_245 rfl (by decide +kernel) ⟨Nat.le_of_ble_eq_true rfl, Nat.le_of_ble_eq_true rfl⟩ ⟨Nat.le_of_ble_eq_true rfl, Nat.le_of_ble_eq_true rfl⟩ rfl (by rfl) (Nat.le_of_ble_eq_true rfl) hl.1 dX11_cell_74 (fun H locs w => ?_)
            exact nomatch (Prod.mk.inj (Option.some.inj hf)).1
    · subst h10
      have h8 := h8.symm
      subst h8
      refine cST (As := [.int x2, .int 0, .int 3]) (rest := []) C0 w (t_X11_needRange l hfl B _ σ x2 0 3 _ h7) ky_X11_needRange ks_X11_needRange lk_X11_93 ⟨Nat.le_of_ble_eq_true rfl, Nat.le_of_ble_eq_true rfl⟩ ⟨Nat.le_of_ble_eq_true rfl, Nat.le_of_ble_eq_true rfl⟩ rfl (by rfl) (Nat.le_of_ble_eq_true rfl) hl.1 dX11_cell_8 (fun ce q9 H locs w g1 g2 g3 => ?_)
      exact xOut C0 hto w g1 g2 g3 (Nat.le_of_ble_eq_true rfl) (Nat.le_of_ble_eq_true rfl)
  · subst h5
    have h8 := h8.symm
    subst h8
    refine cVT (As := [.int x1]) (rest := []) (k := 0) (ci := 9) (T := TX11) (N := 9) C0 w (t_X11_needCell l hfl B _ σ x1 _ h2) ky_X11_needCell kv_X11_needCell lk_X11_111 rfl (by decide +kernel) ⟨Nat.le_of_ble_eq_true rfl, Nat.le_of_ble_eq_true rfl⟩ ⟨Nat.le_of_ble_eq_true rfl, Nat.le_of_ble_eq_true rfl⟩ rfl (by rfl) (Nat.le_of_ble_eq_true rfl) hl.1 dX11_cell_2 (fun ce q9 H locs w g1 g2 g3 => ?_)
    exact xOut C0 hto w g1 g2 g3 (Nat.le_of_ble_eq_true rfl) (Nat.le_of_ble_eq_true rfl)
def f_X11_section (x1 : Int32) (σ : Mem) : Option ((Int32 ⊕ String) × Mem) :=
  bd (f_X11_needRange x1 0 8 σ) (fun q1 =>
  xm q1 σ (fun v3 =>
  if x1 = 0 then (
    some (.inl (σ.1 1 0), σ))
  else (
  if x1 = 1 then (
    some (.inl (σ.1 1 1), σ))
  else (
  if x1 = 2 then (
    some (.inl (σ.1 1 7), σ))
  else (
  if x1 = 3 then (
    bd (f_X4_activeRays σ) (fun q10 =>
    some (.inl q10, σ)))
  else (
  if x1 = 4 then (
    bd (f_X4_uncoveredCells σ) (fun q13 =>
    some (.inl q13.1, q13.2)))
  else (
  if x1 = 5 then (
    some (.inl (σ.1 1 2), σ))
  else (
  if x1 = 6 then (
    some (.inl (σ.1 1 3), σ))
  else (
  if x1 = 7 then (
    some (.inl (σ.1 1 4), σ))
  else (
    some (.inl (σ.1 1 5), σ)))))))))))
abbrev rm_X11_section : Room := { frames := 5, cells := 0, slots := 0, locals := 124 }
abbrev rmt_X11_section : Room := { frames := 7, cells := 1, slots := 6, locals := 124 }
set_option maxHeartbeats 4000000 in
set_option maxRecDepth 100000 in
theorem m_X11_section (l : Launch) (B : Wb) (sz : Nat) (σ : Mem) (x1 : Int32) (v : Int32) (σ9 : Mem) (hf : f_X11_section x1 σ = some (.inl v, σ9)) : MetC l yX11_section cX11_section 2 (some .int) rm_X11_section B sz σ σ9 [.ref (wA B 0), .int x1] (some (.int v)) := by
  refine met_in (by decide +kernel) (Nat.le_of_ble_eq_true rfl) ?_
  intro p e s m below meth c C0 hr w hsz ls hl
  have hx := C0.1.1
  have hb := C0.1.2.1
  unfold f_X11_section at hf
  refine lv_iload_n hx hb dX11_section_0 rfl (lv_at hl 1 rfl) ?_
  refine lv_iconst (v := 0) hx hb dX11_section_1 (by decide) ?_
  refine lv_bipush (v := 8) hx hb dX11_section_2 (by decide) ?_
  obtain ⟨q1, h2, hf⟩ := bdE hf
  obtain ⟨v3, h5, hf⟩ := xmE1 hf
  subst h5
  refine cS (As := [.int x1, .int 0, .int 8]) (rest := []) C0 w (m_X11_needRange l B _ σ x1 0 8 v3 h2) ky_X11_needRange ks_X11_needRange lk_X11_93 ⟨Nat.le_of_ble_eq_true rfl, Nat.le_of_ble_eq_true rfl⟩ ⟨Nat.le_of_ble_eq_true rfl, Nat.le_of_ble_eq_true rfl⟩ rfl (by rfl) (Nat.le_of_ble_eq_true rfl) hl.1 dX11_section_4 (fun H locs w => ?_)
  refine lv_iload_n hx hb dX11_section_7 rfl (lv_at hl 1 rfl) ?_
  by_cases c6 : x1 = 0
  · rw [if_pos c6] at hf
    refine lv_tableIn (tgt := 56) hx hb dX11_section_8 (by rw [c6]; decide) (by rw [c6]; decide) (by rw [c6]; rfl) (by decide) ?_
    refine lv_aload_n hx hb dX11_section_56 rfl (lv_at hl 0 rfl) ?_
    refine gR C0 w 1 fk_X11_10 (by decide +kernel) dX11_section_57 ?_
    refine gI C0 w fk_X11_82 (by decide +kernel) dX11_section_60 ?_
    obtain ⟨h8, h9⟩ := Prod.mk.inj (Option.some.inj hf)
    obtain rfl := Sum.inl.inj h8
    subst h9
    exact eI C0 hr w rfl dX11_section_63
  · rw [if_neg c6] at hf
    by_cases c7 : x1 = 1
    · rw [if_pos c7] at hf
      refine lv_tableIn (tgt := 64) hx hb dX11_section_8 (by rw [c7]; decide) (by rw [c7]; decide) (by rw [c7]; rfl) (by decide) ?_
      refine lv_aload_n hx hb dX11_section_64 rfl (lv_at hl 0 rfl) ?_
      refine gR C0 w 1 fk_X11_10 (by decide +kernel) dX11_section_65 ?_
      refine gI C0 w fk_X11_86 (by decide +kernel) dX11_section_68 ?_
      obtain ⟨h8, h9⟩ := Prod.mk.inj (Option.some.inj hf)
      obtain rfl := Sum.inl.inj h8
      subst h9
      exact eI C0 hr w rfl dX11_section_71
    · rw [if_neg c7] at hf
      by_cases c8 : x1 = 2
      · rw [if_pos c8] at hf
        refine lv_tableIn (tgt := 72) hx hb dX11_section_8 (by rw [c8]; decide) (by rw [c8]; decide) (by rw [c8]; rfl) (by decide) ?_
        refine lv_aload_n hx hb dX11_section_72 rfl (lv_at hl 0 rfl) ?_
        refine gR C0 w 1 fk_X11_10 (by decide +kernel) dX11_section_73 ?_
        refine gI C0 w fk_X11_153 (by decide +kernel) dX11_section_76 ?_
        obtain ⟨h8, h9⟩ := Prod.mk.inj (Option.some.inj hf)
        obtain rfl := Sum.inl.inj h8
        subst h9
        exact eI C0 hr w rfl dX11_section_79
      · rw [if_neg c8] at hf
        by_cases c9 : x1 = 3
        · rw [if_pos c9] at hf
          refine lv_tableIn (tgt := 80) hx hb dX11_section_8 (by rw [c9]; decide) (by rw [c9]; decide) (by rw [c9]; rfl) (by decide) ?_
          refine lv_aload_n hx hb dX11_section_80 rfl (lv_at hl 0 rfl) ?_
          refine gR C0 w 182 fk_X11_46 (by decide +kernel) dX11_section_81 ?_
          obtain ⟨q10, h11, hf⟩ := bdE hf
          refine cV (As := []) (rest := []) (k := 182) (ci := 3) (T := TX4) (N := 2) C0 w (m_X4_activeRays l B _ σ q10 h11) ky_X4_activeRays kv_X4_activeRays lk_X11_166 rfl (by decide +kernel) ⟨Nat.le_of_ble_eq_true rfl, Nat.le_of_ble_eq_true rfl⟩ ⟨Nat.le_of_ble_eq_true rfl, Nat.le_of_ble_eq_true rfl⟩ rfl (by rfl) (Nat.le_of_ble_eq_true rfl) hl.1 dX11_section_84 (fun H locs w => ?_)
          obtain ⟨h8, h9⟩ := Prod.mk.inj (Option.some.inj hf)
          obtain rfl := Sum.inl.inj h8
          subst h9
          exact eI C0 hr w rfl dX11_section_87
        · rw [if_neg c9] at hf
          by_cases c12 : x1 = 4
          · rw [if_pos c12] at hf
            refine lv_tableIn (tgt := 88) hx hb dX11_section_8 (by rw [c12]; decide) (by rw [c12]; decide) (by rw [c12]; rfl) (by decide) ?_
            refine lv_aload_n hx hb dX11_section_88 rfl (lv_at hl 0 rfl) ?_
            refine gR C0 w 182 fk_X11_46 (by decide +kernel) dX11_section_89 ?_
            obtain ⟨q13, h14, hf⟩ := bdE hf
            refine cV (As := []) (rest := []) (k := 182) (ci := 3) (T := TX4) (N := 2) C0 w (m_X4_uncoveredCells l B _ σ q13 h14) ky_X4_uncoveredCells kv_X4_uncoveredCells lk_X11_248 rfl (by decide +kernel) ⟨Nat.le_of_ble_eq_true rfl, Nat.le_of_ble_eq_true rfl⟩ ⟨Nat.le_of_ble_eq_true rfl, Nat.le_of_ble_eq_true rfl⟩ rfl (by rfl) (Nat.le_of_ble_eq_true rfl) hl.1 dX11_section_92 (fun H locs w => ?_)
            obtain ⟨h8, h9⟩ := Prod.mk.inj (Option.some.inj hf)
            obtain rfl := Sum.inl.inj h8
            subst h9
            exact eI C0 hr w rfl dX11_section_95
          · rw [if_neg c12] at hf
            by_cases c15 : x1 = 5
            · rw [if_pos c15] at hf
              refine lv_tableIn (tgt := 96) hx hb dX11_section_8 (by rw [c15]; decide) (by rw [c15]; decide) (by rw [c15]; rfl) (by decide) ?_
              refine lv_aload_n hx hb dX11_section_96 rfl (lv_at hl 0 rfl) ?_
              refine gR C0 w 1 fk_X11_10 (by decide +kernel) dX11_section_97 ?_
              refine gI C0 w fk_X11_130 (by decide +kernel) dX11_section_100 ?_
              obtain ⟨h8, h9⟩ := Prod.mk.inj (Option.some.inj hf)
              obtain rfl := Sum.inl.inj h8
              subst h9
              exact eI C0 hr w rfl dX11_section_103
            · rw [if_neg c15] at hf
              by_cases c16 : x1 = 6
              · rw [if_pos c16] at hf
                refine lv_tableIn (tgt := 104) hx hb dX11_section_8 (by rw [c16]; decide) (by rw [c16]; decide) (by rw [c16]; rfl) (by decide) ?_
                refine lv_aload_n hx hb dX11_section_104 rfl (lv_at hl 0 rfl) ?_
                refine gR C0 w 1 fk_X11_10 (by decide +kernel) dX11_section_105 ?_
                refine gI C0 w fk_X11_133 (by decide +kernel) dX11_section_108 ?_
                obtain ⟨h8, h9⟩ := Prod.mk.inj (Option.some.inj hf)
                obtain rfl := Sum.inl.inj h8
                subst h9
                exact eI C0 hr w rfl dX11_section_111
              · rw [if_neg c16] at hf
                by_cases c17 : x1 = 7
                · rw [if_pos c17] at hf
                  refine lv_tableIn (tgt := 112) hx hb dX11_section_8 (by rw [c17]; decide) (by rw [c17]; decide) (by rw [c17]; rfl) (by decide) ?_
                  refine lv_aload_n hx hb dX11_section_112 rfl (lv_at hl 0 rfl) ?_
                  refine gR C0 w 1 fk_X11_10 (by decide +kernel) dX11_section_113 ?_
                  refine gI C0 w fk_X11_186 (by decide +kernel) dX11_section_116 ?_
                  obtain ⟨h8, h9⟩ := Prod.mk.inj (Option.some.inj hf)
                  obtain rfl := Sum.inl.inj h8
                  subst h9
                  exact eI C0 hr w rfl dX11_section_119
                · rw [if_neg c17] at hf
                  refine lv_tableOut (tgt := 120) hx hb dX11_section_8 (sw_out (by have q0 := sw_ne c6; have q1 := sw_ne c7; have q2 := sw_ne c8; have q3 := sw_ne c9; have q4 := sw_ne c12; have q5 := sw_ne c15; have q6 := sw_ne c16; have q7 := sw_ne c17; clear hf; simp at *; omega)) (by decide) ?_
                  refine lv_aload_n hx hb dX11_section_120 rfl (lv_at hl 0 rfl) ?_
                  refine gR C0 w 1 fk_X11_10 (by decide +kernel) dX11_section_121 ?_
                  refine gI C0 w fk_X11_189 (by decide +kernel) dX11_section_124 ?_
                  obtain ⟨h8, h9⟩ := Prod.mk.inj (Option.some.inj hf)
                  obtain rfl := Sum.inl.inj h8
                  subst h9
                  exact eI C0 hr w rfl dX11_section_127
set_option maxHeartbeats 4000000 in
set_option maxRecDepth 100000 in
theorem t_X11_section (l : Launch) (hfl : l.stackTraces = false) (B : Wb) (sz : Nat) (σ : Mem) (x1 : Int32) (E : String) (σ9 : Mem) (hf : f_X11_section x1 σ = some (.inr E, σ9)) : MetT l yX11_section cX11_section 2 (some .int) rmt_X11_section B sz σ σ9 [.ref (wA B 0), .int x1] E := by
  refine metT_in (by decide +kernel) (Nat.le_of_ble_eq_true rfl) ?_
  intro p e s m below meth c C0 hto w hsz ls hl
  have hx := C0.1.1
  have hb := C0.1.2.1
  unfold f_X11_section at hf
  refine lv_iload_n hx hb dX11_section_0 rfl (lv_at hl 1 rfl) ?_
  refine lv_iconst (v := 0) hx hb dX11_section_1 (by decide) ?_
  refine lv_bipush (v := 8) hx hb dX11_section_2 (by decide) ?_
  obtain ⟨q1, h2, hf⟩ := bdE hf
  rcases xmE2 hf with ⟨v3, h5, hf⟩ | ⟨h5, h8⟩
  · subst h5
    refine cS (As := [.int x1, .int 0, .int 8]) (rest := []) C0 w (m_X11_needRange l B _ σ x1 0 8 v3 h2) ky_X11_needRange ks_X11_needRange lk_X11_93 ⟨Nat.le_of_ble_eq_true rfl, Nat.le_of_ble_eq_true rfl⟩ ⟨Nat.le_of_ble_eq_true rfl, Nat.le_of_ble_eq_true rfl⟩ rfl (by rfl) (Nat.le_of_ble_eq_true rfl) hl.1 dX11_section_4 (fun H locs w => ?_)
    refine lv_iload_n hx hb dX11_section_7 rfl (lv_at hl 1 rfl) ?_
    by_cases c6 : x1 = 0
    · rw [if_pos c6] at hf
      refine lv_tableIn (tgt := 56) hx hb dX11_section_8 (by rw [c6]; decide) (by rw [c6]; decide) (by rw [c6]; rfl) (by decide) ?_
      refine lv_aload_n hx hb dX11_section_56 rfl (lv_at hl 0 rfl) ?_
      refine gR C0 w 1 fk_X11_10 (by decide +kernel) dX11_section_57 ?_
      refine gI C0 w fk_X11_82 (by decide +kernel) dX11_section_60 ?_
      exact nomatch (Prod.mk.inj (Option.some.inj hf)).1
    · rw [if_neg c6] at hf
      by_cases c7 : x1 = 1
      · rw [if_pos c7] at hf
        refine lv_tableIn (tgt := 64) hx hb dX11_section_8 (by rw [c7]; decide) (by rw [c7]; decide) (by rw [c7]; rfl) (by decide) ?_
        refine lv_aload_n hx hb dX11_section_64 rfl (lv_at hl 0 rfl) ?_
        refine gR C0 w 1 fk_X11_10 (by decide +kernel) dX11_section_65 ?_
        refine gI C0 w fk_X11_86 (by decide +kernel) dX11_section_68 ?_
        exact nomatch (Prod.mk.inj (Option.some.inj hf)).1
      · rw [if_neg c7] at hf
        by_cases c8 : x1 = 2
        · rw [if_pos c8] at hf
          refine lv_tableIn (tgt := 72) hx hb dX11_section_8 (by rw [c8]; decide) (by rw [c8]; decide) (by rw [c8]; rfl) (by decide) ?_
          refine lv_aload_n hx hb dX11_section_72 rfl (lv_at hl 0 rfl) ?_
          refine gR C0 w 1 fk_X11_10 (by decide +kernel) dX11_section_73 ?_
          refine gI C0 w fk_X11_153 (by decide +kernel) dX11_section_76 ?_
          exact nomatch (Prod.mk.inj (Option.some.inj hf)).1
        · rw [if_neg c8] at hf
          by_cases c9 : x1 = 3
          · rw [if_pos c9] at hf
            refine lv_tableIn (tgt := 80) hx hb dX11_section_8 (by rw [c9]; decide) (by rw [c9]; decide) (by rw [c9]; rfl) (by decide) ?_
            refine lv_aload_n hx hb dX11_section_80 rfl (lv_at hl 0 rfl) ?_
            refine gR C0 w 182 fk_X11_46 (by decide +kernel) dX11_section_81 ?_
            obtain ⟨q10, h11, hf⟩ := bdE hf
            refine cV (As := []) (rest := []) (k := 182) (ci := 3) (T := TX4) (N := 2) C0 w (m_X4_activeRays l B _ σ q10 h11) ky_X4_activeRays kv_X4_activeRays lk_X11_166 rfl (by decide +kernel) ⟨Nat.le_of_ble_eq_true rfl, Nat.le_of_ble_eq_true rfl⟩ ⟨Nat.le_of_ble_eq_true rfl, Nat.le_of_ble_eq_true rfl⟩ rfl (by rfl) (Nat.le_of_ble_eq_true rfl) hl.1 dX11_section_84 (fun H locs w => ?_)
            exact nomatch (Prod.mk.inj (Option.some.inj hf)).1
          · rw [if_neg c9] at hf
            by_cases c12 : x1 = 4
            · rw [if_pos c12] at hf
              refine lv_tableIn (tgt := 88) hx hb dX11_section_8 (by rw [c12]; decide) (by rw [c12]; decide) (by rw [c12]; rfl) (by decide) ?_
              refine lv_aload_n hx hb dX11_section_88 rfl (lv_at hl 0 rfl) ?_
              refine gR C0 w 182 fk_X11_46 (by decide +kernel) dX11_section_89 ?_
              obtain ⟨q13, h14, hf⟩ := bdE hf
              refine cV (As := []) (rest := []) (k := 182) (ci := 3) (T := TX4) (N := 2) C0 w (m_X4_uncoveredCells l B _ σ q13 h14) ky_X4_uncoveredCells kv_X4_uncoveredCells lk_X11_248 rfl (by decide +kernel) ⟨Nat.le_of_ble_eq_true rfl, Nat.le_of_ble_eq_true rfl⟩ ⟨Nat.le_of_ble_eq_true rfl, Nat.le_of_ble_eq_true rfl⟩ rfl (by rfl) (Nat.le_of_ble_eq_true rfl) hl.1 dX11_section_92 (fun H locs w => ?_)
              exact nomatch (Prod.mk.inj (Option.some.inj hf)).1
            · rw [if_neg c12] at hf
              by_cases c15 : x1 = 5
              · rw [if_pos c15] at hf
                refine lv_tableIn (tgt := 96) hx hb dX11_section_8 (by rw [c15]; decide) (by rw [c15]; decide) (by rw [c15]; rfl) (by decide) ?_
                refine lv_aload_n hx hb dX11_section_96 rfl (lv_at hl 0 rfl) ?_
                refine gR C0 w 1 fk_X11_10 (by decide +kernel) dX11_section_97 ?_
                refine gI C0 w fk_X11_130 (by decide +kernel) dX11_section_100 ?_
                exact nomatch (Prod.mk.inj (Option.some.inj hf)).1
              · rw [if_neg c15] at hf
                by_cases c16 : x1 = 6
                · rw [if_pos c16] at hf
                  refine lv_tableIn (tgt := 104) hx hb dX11_section_8 (by rw [c16]; decide) (by rw [c16]; decide) (by rw [c16]; rfl) (by decide) ?_
                  refine lv_aload_n hx hb dX11_section_104 rfl (lv_at hl 0 rfl) ?_
                  refine gR C0 w 1 fk_X11_10 (by decide +kernel) dX11_section_105 ?_
                  refine gI C0 w fk_X11_133 (by decide +kernel) dX11_section_108 ?_
                  exact nomatch (Prod.mk.inj (Option.some.inj hf)).1
                · rw [if_neg c16] at hf
                  by_cases c17 : x1 = 7
                  · rw [if_pos c17] at hf
                    refine lv_tableIn (tgt := 112) hx hb dX11_section_8 (by rw [c17]; decide) (by rw [c17]; decide) (by rw [c17]; rfl) (by decide) ?_
                    refine lv_aload_n hx hb dX11_section_112 rfl (lv_at hl 0 rfl) ?_
                    refine gR C0 w 1 fk_X11_10 (by decide +kernel) dX11_section_113 ?_
                    refine gI C0 w fk_X11_186 (by decide +kernel) dX11_section_116 ?_
                    exact nomatch (Prod.mk.inj (Option.some.inj hf)).1
                  · rw [if_neg c17] at hf
                    refine lv_tableOut (tgt := 120) hx hb dX11_section_8 (sw_out (by have q0 := sw_ne c6; have q1 := sw_ne c7; have q2 := sw_ne c8; have q3 := sw_ne c9; have q4 := sw_ne c12; have q5 := sw_ne c15; have q6 := sw_ne c16; have q7 := sw_ne c17; clear hf; simp at *; omega)) (by decide) ?_
                    refine lv_aload_n hx hb dX11_section_120 rfl (lv_at hl 0 rfl) ?_
                    refine gR C0 w 1 fk_X11_10 (by decide +kernel) dX11_section_121 ?_
                    refine gI C0 w fk_X11_189 (by decide +kernel) dX11_section_124 ?_
                    exact nomatch (Prod.mk.inj (Option.some.inj hf)).1
  · subst h5
    have h8 := h8.symm
    subst h8
    refine cST (As := [.int x1, .int 0, .int 8]) (rest := []) C0 w (t_X11_needRange l hfl B _ σ x1 0 8 _ h2) ky_X11_needRange ks_X11_needRange lk_X11_93 ⟨Nat.le_of_ble_eq_true rfl, Nat.le_of_ble_eq_true rfl⟩ ⟨Nat.le_of_ble_eq_true rfl, Nat.le_of_ble_eq_true rfl⟩ rfl (by rfl) (Nat.le_of_ble_eq_true rfl) hl.1 dX11_section_4 (fun ce q9 H locs w g1 g2 g3 => ?_)
    exact xOut C0 hto w g1 g2 g3 (Nat.le_of_ble_eq_true rfl) (Nat.le_of_ble_eq_true rfl)
def f_X11_fit (x1 : Int32) (σ : Mem) : Option ((Int64 ⊕ String) × Mem) :=
  bd (f_X11_needRange x1 0 4 σ) (fun q1 =>
  xm q1 σ (fun v3 =>
  if x1 = 0 then (
    bd (f_X4_misfitSum σ) (fun q7 =>
    some (.inl q7.1, q7.2)))
  else (
  if x1 = 1 then (
    bd (f_X4_greatestMisfit σ) (fun q10 =>
    some (.inl q10.1, q10.2)))
  else (
  if x1 = 2 then (
    bd (f_X4_worstRay σ) (fun q13 =>
    some (.inl q13.1.toInt64, q13.2)))
  else (
  if x1 = 3 then (
    bd (f_X4_distanceFromTruth σ) (fun q16 =>
    some (.inl q16, σ)))
  else (
    bd (f_X4_slownessSum σ) (fun q18 =>
    some (.inl q18, σ))))))))
abbrev rm_X11_fit : Room := { frames := 5, cells := 0, slots := 0, locals := 126 }
abbrev rmt_X11_fit : Room := { frames := 7, cells := 1, slots := 6, locals := 126 }
set_option maxHeartbeats 4000000 in
set_option maxRecDepth 100000 in
theorem m_X11_fit (l : Launch) (B : Wb) (sz : Nat) (σ : Mem) (x1 : Int32) (v : Int64) (σ9 : Mem) (hf : f_X11_fit x1 σ = some (.inl v, σ9)) : MetC l yX11_fit cX11_fit 2 (some .long) rm_X11_fit B sz σ σ9 [.ref (wA B 0), .int x1] (some (.long v)) := by
  refine met_in (by decide +kernel) (Nat.le_of_ble_eq_true rfl) ?_
  intro p e s m below meth c C0 hr w hsz ls hl
  have hx := C0.1.1
  have hb := C0.1.2.1
  unfold f_X11_fit at hf
  refine lv_iload_n hx hb dX11_fit_0 rfl (lv_at hl 1 rfl) ?_
  refine lv_iconst (v := 0) hx hb dX11_fit_1 (by decide) ?_
  refine lv_iconst (v := 4) hx hb dX11_fit_2 (by decide) ?_
  obtain ⟨q1, h2, hf⟩ := bdE hf
  obtain ⟨v3, h5, hf⟩ := xmE1 hf
  subst h5
  refine cS (As := [.int x1, .int 0, .int 4]) (rest := []) C0 w (m_X11_needRange l B _ σ x1 0 4 v3 h2) ky_X11_needRange ks_X11_needRange lk_X11_93 ⟨Nat.le_of_ble_eq_true rfl, Nat.le_of_ble_eq_true rfl⟩ ⟨Nat.le_of_ble_eq_true rfl, Nat.le_of_ble_eq_true rfl⟩ rfl (by rfl) (Nat.le_of_ble_eq_true rfl) hl.1 dX11_fit_3 (fun H locs w => ?_)
  refine lv_iload_n hx hb dX11_fit_6 rfl (lv_at hl 1 rfl) ?_
  by_cases c6 : x1 = 0
  · rw [if_pos c6] at hf
    refine lv_tableIn (tgt := 36) hx hb dX11_fit_7 (by rw [c6]; decide) (by rw [c6]; decide) (by rw [c6]; rfl) (by decide) ?_
    refine lv_aload_n hx hb dX11_fit_36 rfl (lv_at hl 0 rfl) ?_
    refine gR C0 w 182 fk_X11_46 (by decide +kernel) dX11_fit_37 ?_
    obtain ⟨q7, h8, hf⟩ := bdE hf
    refine cV (As := []) (rest := []) (k := 182) (ci := 3) (T := TX4) (N := 2) C0 w (m_X4_misfitSum l B _ σ q7 h8) ky_X4_misfitSum kv_X4_misfitSum lk_X11_251 rfl (by decide +kernel) ⟨Nat.le_of_ble_eq_true rfl, Nat.le_of_ble_eq_true rfl⟩ ⟨Nat.le_of_ble_eq_true rfl, Nat.le_of_ble_eq_true rfl⟩ rfl (by rfl) (Nat.le_of_ble_eq_true rfl) hl.1 dX11_fit_40 (fun H locs w => ?_)
    obtain ⟨h8, h9⟩ := Prod.mk.inj (Option.some.inj hf)
    obtain rfl := Sum.inl.inj h8
    subst h9
    exact eL C0 hr w dX11_fit_43
  · rw [if_neg c6] at hf
    by_cases c9 : x1 = 1
    · rw [if_pos c9] at hf
      refine lv_tableIn (tgt := 44) hx hb dX11_fit_7 (by rw [c9]; decide) (by rw [c9]; decide) (by rw [c9]; rfl) (by decide) ?_
      refine lv_aload_n hx hb dX11_fit_44 rfl (lv_at hl 0 rfl) ?_
      refine gR C0 w 182 fk_X11_46 (by decide +kernel) dX11_fit_45 ?_
      obtain ⟨q10, h11, hf⟩ := bdE hf
      refine cV (As := []) (rest := []) (k := 182) (ci := 3) (T := TX4) (N := 2) C0 w (m_X4_greatestMisfit l B _ σ q10 h11) ky_X4_greatestMisfit kv_X4_greatestMisfit lk_X11_255 rfl (by decide +kernel) ⟨Nat.le_of_ble_eq_true rfl, Nat.le_of_ble_eq_true rfl⟩ ⟨Nat.le_of_ble_eq_true rfl, Nat.le_of_ble_eq_true rfl⟩ rfl (by rfl) (Nat.le_of_ble_eq_true rfl) hl.1 dX11_fit_48 (fun H locs w => ?_)
      obtain ⟨h8, h9⟩ := Prod.mk.inj (Option.some.inj hf)
      obtain rfl := Sum.inl.inj h8
      subst h9
      exact eL C0 hr w dX11_fit_51
    · rw [if_neg c9] at hf
      by_cases c12 : x1 = 2
      · rw [if_pos c12] at hf
        refine lv_tableIn (tgt := 52) hx hb dX11_fit_7 (by rw [c12]; decide) (by rw [c12]; decide) (by rw [c12]; rfl) (by decide) ?_
        refine lv_aload_n hx hb dX11_fit_52 rfl (lv_at hl 0 rfl) ?_
        refine gR C0 w 182 fk_X11_46 (by decide +kernel) dX11_fit_53 ?_
        obtain ⟨q13, h14, hf⟩ := bdE hf
        refine cV (As := []) (rest := []) (k := 182) (ci := 3) (T := TX4) (N := 2) C0 w (m_X4_worstRay l B _ σ q13 h14) ky_X4_worstRay kv_X4_worstRay lk_X11_258 rfl (by decide +kernel) ⟨Nat.le_of_ble_eq_true rfl, Nat.le_of_ble_eq_true rfl⟩ ⟨Nat.le_of_ble_eq_true rfl, Nat.le_of_ble_eq_true rfl⟩ rfl (by rfl) (Nat.le_of_ble_eq_true rfl) hl.1 dX11_fit_56 (fun H locs w => ?_)
        refine lv_i2l hx hb dX11_fit_59 rfl ?_
        obtain ⟨h8, h9⟩ := Prod.mk.inj (Option.some.inj hf)
        obtain rfl := Sum.inl.inj h8
        subst h9
        exact eL C0 hr w dX11_fit_60
      · rw [if_neg c12] at hf
        by_cases c15 : x1 = 3
        · rw [if_pos c15] at hf
          refine lv_tableIn (tgt := 61) hx hb dX11_fit_7 (by rw [c15]; decide) (by rw [c15]; decide) (by rw [c15]; rfl) (by decide) ?_
          refine lv_aload_n hx hb dX11_fit_61 rfl (lv_at hl 0 rfl) ?_
          refine gR C0 w 182 fk_X11_46 (by decide +kernel) dX11_fit_62 ?_
          obtain ⟨q16, h17, hf⟩ := bdE hf
          refine cV (As := []) (rest := []) (k := 182) (ci := 3) (T := TX4) (N := 2) C0 w (m_X4_distanceFromTruth l B _ σ q16 h17) ky_X4_distanceFromTruth kv_X4_distanceFromTruth lk_X11_261 rfl (by decide +kernel) ⟨Nat.le_of_ble_eq_true rfl, Nat.le_of_ble_eq_true rfl⟩ ⟨Nat.le_of_ble_eq_true rfl, Nat.le_of_ble_eq_true rfl⟩ rfl (by rfl) (Nat.le_of_ble_eq_true rfl) hl.1 dX11_fit_65 (fun H locs w => ?_)
          obtain ⟨h8, h9⟩ := Prod.mk.inj (Option.some.inj hf)
          obtain rfl := Sum.inl.inj h8
          subst h9
          exact eL C0 hr w dX11_fit_68
        · rw [if_neg c15] at hf
          refine lv_tableOut (tgt := 69) hx hb dX11_fit_7 (sw_out (by have q0 := sw_ne c6; have q1 := sw_ne c9; have q2 := sw_ne c12; have q3 := sw_ne c15; clear hf; simp at *; omega)) (by decide) ?_
          refine lv_aload_n hx hb dX11_fit_69 rfl (lv_at hl 0 rfl) ?_
          refine gR C0 w 182 fk_X11_46 (by decide +kernel) dX11_fit_70 ?_
          obtain ⟨q18, h19, hf⟩ := bdE hf
          refine cV (As := []) (rest := []) (k := 182) (ci := 3) (T := TX4) (N := 2) C0 w (m_X4_slownessSum l B _ σ q18 h19) ky_X4_slownessSum kv_X4_slownessSum lk_X11_264 rfl (by decide +kernel) ⟨Nat.le_of_ble_eq_true rfl, Nat.le_of_ble_eq_true rfl⟩ ⟨Nat.le_of_ble_eq_true rfl, Nat.le_of_ble_eq_true rfl⟩ rfl (by rfl) (Nat.le_of_ble_eq_true rfl) hl.1 dX11_fit_73 (fun H locs w => ?_)
          obtain ⟨h8, h9⟩ := Prod.mk.inj (Option.some.inj hf)
          obtain rfl := Sum.inl.inj h8
          subst h9
          exact eL C0 hr w dX11_fit_76
set_option maxHeartbeats 4000000 in
set_option maxRecDepth 100000 in
theorem t_X11_fit (l : Launch) (hfl : l.stackTraces = false) (B : Wb) (sz : Nat) (σ : Mem) (x1 : Int32) (E : String) (σ9 : Mem) (hf : f_X11_fit x1 σ = some (.inr E, σ9)) : MetT l yX11_fit cX11_fit 2 (some .long) rmt_X11_fit B sz σ σ9 [.ref (wA B 0), .int x1] E := by
  refine metT_in (by decide +kernel) (Nat.le_of_ble_eq_true rfl) ?_
  intro p e s m below meth c C0 hto w hsz ls hl
  have hx := C0.1.1
  have hb := C0.1.2.1
  unfold f_X11_fit at hf
  refine lv_iload_n hx hb dX11_fit_0 rfl (lv_at hl 1 rfl) ?_
  refine lv_iconst (v := 0) hx hb dX11_fit_1 (by decide) ?_
  refine lv_iconst (v := 4) hx hb dX11_fit_2 (by decide) ?_
  obtain ⟨q1, h2, hf⟩ := bdE hf
  rcases xmE2 hf with ⟨v3, h5, hf⟩ | ⟨h5, h8⟩
  · subst h5
    refine cS (As := [.int x1, .int 0, .int 4]) (rest := []) C0 w (m_X11_needRange l B _ σ x1 0 4 v3 h2) ky_X11_needRange ks_X11_needRange lk_X11_93 ⟨Nat.le_of_ble_eq_true rfl, Nat.le_of_ble_eq_true rfl⟩ ⟨Nat.le_of_ble_eq_true rfl, Nat.le_of_ble_eq_true rfl⟩ rfl (by rfl) (Nat.le_of_ble_eq_true rfl) hl.1 dX11_fit_3 (fun H locs w => ?_)
    refine lv_iload_n hx hb dX11_fit_6 rfl (lv_at hl 1 rfl) ?_
    by_cases c6 : x1 = 0
    · rw [if_pos c6] at hf
      refine lv_tableIn (tgt := 36) hx hb dX11_fit_7 (by rw [c6]; decide) (by rw [c6]; decide) (by rw [c6]; rfl) (by decide) ?_
      refine lv_aload_n hx hb dX11_fit_36 rfl (lv_at hl 0 rfl) ?_
      refine gR C0 w 182 fk_X11_46 (by decide +kernel) dX11_fit_37 ?_
      obtain ⟨q7, h8, hf⟩ := bdE hf
      refine cV (As := []) (rest := []) (k := 182) (ci := 3) (T := TX4) (N := 2) C0 w (m_X4_misfitSum l B _ σ q7 h8) ky_X4_misfitSum kv_X4_misfitSum lk_X11_251 rfl (by decide +kernel) ⟨Nat.le_of_ble_eq_true rfl, Nat.le_of_ble_eq_true rfl⟩ ⟨Nat.le_of_ble_eq_true rfl, Nat.le_of_ble_eq_true rfl⟩ rfl (by rfl) (Nat.le_of_ble_eq_true rfl) hl.1 dX11_fit_40 (fun H locs w => ?_)
      exact nomatch (Prod.mk.inj (Option.some.inj hf)).1
    · rw [if_neg c6] at hf
      by_cases c9 : x1 = 1
      · rw [if_pos c9] at hf
        refine lv_tableIn (tgt := 44) hx hb dX11_fit_7 (by rw [c9]; decide) (by rw [c9]; decide) (by rw [c9]; rfl) (by decide) ?_
        refine lv_aload_n hx hb dX11_fit_44 rfl (lv_at hl 0 rfl) ?_
        refine gR C0 w 182 fk_X11_46 (by decide +kernel) dX11_fit_45 ?_
        obtain ⟨q10, h11, hf⟩ := bdE hf
        refine cV (As := []) (rest := []) (k := 182) (ci := 3) (T := TX4) (N := 2) C0 w (m_X4_greatestMisfit l B _ σ q10 h11) ky_X4_greatestMisfit kv_X4_greatestMisfit lk_X11_255 rfl (by decide +kernel) ⟨Nat.le_of_ble_eq_true rfl, Nat.le_of_ble_eq_true rfl⟩ ⟨Nat.le_of_ble_eq_true rfl, Nat.le_of_ble_eq_true rfl⟩ rfl (by rfl) (Nat.le_of_ble_eq_true rfl) hl.1 dX11_fit_48 (fun H locs w => ?_)
        exact nomatch (Prod.mk.inj (Option.some.inj hf)).1
      · rw [if_neg c9] at hf
        by_cases c12 : x1 = 2
        · rw [if_pos c12] at hf
          refine lv_tableIn (tgt := 52) hx hb dX11_fit_7 (by rw [c12]; decide) (by rw [c12]; decide) (by rw [c12]; rfl) (by decide) ?_
          refine lv_aload_n hx hb dX11_fit_52 rfl (lv_at hl 0 rfl) ?_
          refine gR C0 w 182 fk_X11_46 (by decide +kernel) dX11_fit_53 ?_
          obtain ⟨q13, h14, hf⟩ := bdE hf
          refine cV (As := []) (rest := []) (k := 182) (ci := 3) (T := TX4) (N := 2) C0 w (m_X4_worstRay l B _ σ q13 h14) ky_X4_worstRay kv_X4_worstRay lk_X11_258 rfl (by decide +kernel) ⟨Nat.le_of_ble_eq_true rfl, Nat.le_of_ble_eq_true rfl⟩ ⟨Nat.le_of_ble_eq_true rfl, Nat.le_of_ble_eq_true rfl⟩ rfl (by rfl) (Nat.le_of_ble_eq_true rfl) hl.1 dX11_fit_56 (fun H locs w => ?_)
          refine lv_i2l hx hb dX11_fit_59 rfl ?_
          exact nomatch (Prod.mk.inj (Option.some.inj hf)).1
        · rw [if_neg c12] at hf
          by_cases c15 : x1 = 3
          · rw [if_pos c15] at hf
            refine lv_tableIn (tgt := 61) hx hb dX11_fit_7 (by rw [c15]; decide) (by rw [c15]; decide) (by rw [c15]; rfl) (by decide) ?_
            refine lv_aload_n hx hb dX11_fit_61 rfl (lv_at hl 0 rfl) ?_
            refine gR C0 w 182 fk_X11_46 (by decide +kernel) dX11_fit_62 ?_
            obtain ⟨q16, h17, hf⟩ := bdE hf
            refine cV (As := []) (rest := []) (k := 182) (ci := 3) (T := TX4) (N := 2) C0 w (m_X4_distanceFromTruth l B _ σ q16 h17) ky_X4_distanceFromTruth kv_X4_distanceFromTruth lk_X11_261 rfl (by decide +kernel) ⟨Nat.le_of_ble_eq_true rfl, Nat.le_of_ble_eq_true rfl⟩ ⟨Nat.le_of_ble_eq_true rfl, Nat.le_of_ble_eq_true rfl⟩ rfl (by rfl) (Nat.le_of_ble_eq_true rfl) hl.1 dX11_fit_65 (fun H locs w => ?_)
            exact nomatch (Prod.mk.inj (Option.some.inj hf)).1
          · rw [if_neg c15] at hf
            refine lv_tableOut (tgt := 69) hx hb dX11_fit_7 (sw_out (by have q0 := sw_ne c6; have q1 := sw_ne c9; have q2 := sw_ne c12; have q3 := sw_ne c15; clear hf; simp at *; omega)) (by decide) ?_
            refine lv_aload_n hx hb dX11_fit_69 rfl (lv_at hl 0 rfl) ?_
            refine gR C0 w 182 fk_X11_46 (by decide +kernel) dX11_fit_70 ?_
            obtain ⟨q18, h19, hf⟩ := bdE hf
            refine cV (As := []) (rest := []) (k := 182) (ci := 3) (T := TX4) (N := 2) C0 w (m_X4_slownessSum l B _ σ q18 h19) ky_X4_slownessSum kv_X4_slownessSum lk_X11_264 rfl (by decide +kernel) ⟨Nat.le_of_ble_eq_true rfl, Nat.le_of_ble_eq_true rfl⟩ ⟨Nat.le_of_ble_eq_true rfl, Nat.le_of_ble_eq_true rfl⟩ rfl (by rfl) (Nat.le_of_ble_eq_true rfl) hl.1 dX11_fit_73 (fun H locs w => ?_)
            exact nomatch (Prod.mk.inj (Option.some.inj hf)).1
  · subst h5
    have h8 := h8.symm
    subst h8
    refine cST (As := [.int x1, .int 0, .int 4]) (rest := []) C0 w (t_X11_needRange l hfl B _ σ x1 0 4 _ h2) ky_X11_needRange ks_X11_needRange lk_X11_93 ⟨Nat.le_of_ble_eq_true rfl, Nat.le_of_ble_eq_true rfl⟩ ⟨Nat.le_of_ble_eq_true rfl, Nat.le_of_ble_eq_true rfl⟩ rfl (by rfl) (Nat.le_of_ble_eq_true rfl) hl.1 dX11_fit_3 (fun ce q9 H locs w g1 g2 g3 => ?_)
    exact xOut C0 hto w g1 g2 g3 (Nat.le_of_ble_eq_true rfl) (Nat.le_of_ble_eq_true rfl)
def f_X11_whatIf (x1 : Int32) (x2 : Int32) (x3 : Int32) (σ : Mem) : Option ((Int64 ⊕ String) × Mem) :=
  bd (f_X11_needRay x1 σ) (fun q1 =>
  xm q1 σ (fun v3 =>
  bd (f_X11_needCell x2 σ) (fun q6 =>
  xm q6 σ (fun v8 =>
  bd (f_X11_needRange x3 1 100000 σ) (fun q11 =>
  xm q11 σ (fun v13 =>
  bd (f_X9_delayWith x1 x2 x3 σ) (fun q16 =>
  some (.inl q16.1, q16.2))))))))
abbrev rm_X11_whatIf : Room := { frames := 4, cells := 0, slots := 0, locals := 104 }
abbrev rmt_X11_whatIf : Room := { frames := 7, cells := 1, slots := 6, locals := 112 }
set_option maxHeartbeats 4000000 in
set_option maxRecDepth 100000 in
theorem m_X11_whatIf (l : Launch) (B : Wb) (sz : Nat) (σ : Mem) (x1 : Int32) (x2 : Int32) (x3 : Int32) (v : Int64) (σ9 : Mem) (hf : f_X11_whatIf x1 x2 x3 σ = some (.inl v, σ9)) : MetC l yX11_whatIf cX11_whatIf 4 (some .long) rm_X11_whatIf B sz σ σ9 [.ref (wA B 0), .int x1, .int x2, .int x3] (some (.long v)) := by
  refine met_in (by decide +kernel) (Nat.le_of_ble_eq_true rfl) ?_
  intro p e s m below meth c C0 hr w hsz ls hl
  have hx := C0.1.1
  have hb := C0.1.2.1
  unfold f_X11_whatIf at hf
  refine lv_aload_n hx hb dX11_whatIf_0 rfl (lv_at hl 0 rfl) ?_
  refine lv_iload_n hx hb dX11_whatIf_1 rfl (lv_at hl 1 rfl) ?_
  obtain ⟨q1, h2, hf⟩ := bdE hf
  obtain ⟨v3, h5, hf⟩ := xmE1 hf
  subst h5
  refine cV (As := [.int x1]) (rest := []) (k := 0) (ci := 9) (T := TX11) (N := 9) C0 w (m_X11_needRay l B _ σ x1 v3 h2) ky_X11_needRay kv_X11_needRay lk_X11_159 rfl (by decide +kernel) ⟨Nat.le_of_ble_eq_true rfl, Nat.le_of_ble_eq_true rfl⟩ ⟨Nat.le_of_ble_eq_true rfl, Nat.le_of_ble_eq_true rfl⟩ rfl (by rfl) (Nat.le_of_ble_eq_true rfl) hl.1 dX11_whatIf_2 (fun H locs w => ?_)
  refine lv_aload_n hx hb dX11_whatIf_5 rfl (lv_at hl 0 rfl) ?_
  refine lv_iload_n hx hb dX11_whatIf_6 rfl (lv_at hl 2 rfl) ?_
  obtain ⟨q6, h7, hf⟩ := bdE hf
  obtain ⟨v8, h10, hf⟩ := xmE1 hf
  subst h10
  refine cV (As := [.int x2]) (rest := []) (k := 0) (ci := 9) (T := TX11) (N := 9) C0 w (m_X11_needCell l B _ σ x2 v8 h7) ky_X11_needCell kv_X11_needCell lk_X11_111 rfl (by decide +kernel) ⟨Nat.le_of_ble_eq_true rfl, Nat.le_of_ble_eq_true rfl⟩ ⟨Nat.le_of_ble_eq_true rfl, Nat.le_of_ble_eq_true rfl⟩ rfl (by rfl) (Nat.le_of_ble_eq_true rfl) hl.1 dX11_whatIf_7 (fun H locs w => ?_)
  refine lv_iload_n hx hb dX11_whatIf_10 rfl (lv_at hl 3 rfl) ?_
  refine lv_iconst (v := 1) hx hb dX11_whatIf_11 (by decide) ?_
  refine kIn C0 100000 kc_X11_115 dX11_whatIf_12 ?_
  obtain ⟨q11, h12, hf⟩ := bdE hf
  obtain ⟨v13, h15, hf⟩ := xmE1 hf
  subst h15
  refine cS (As := [.int x3, .int 1, .int 100000]) (rest := []) C0 w (m_X11_needRange l B _ σ x3 1 100000 v13 h12) ky_X11_needRange ks_X11_needRange lk_X11_93 ⟨Nat.le_of_ble_eq_true rfl, Nat.le_of_ble_eq_true rfl⟩ ⟨Nat.le_of_ble_eq_true rfl, Nat.le_of_ble_eq_true rfl⟩ rfl (by rfl) (Nat.le_of_ble_eq_true rfl) hl.1 dX11_whatIf_14 (fun H locs w => ?_)
  refine lv_aload_n hx hb dX11_whatIf_17 rfl (lv_at hl 0 rfl) ?_
  refine gR C0 w 143 fk_X11_37 (by decide +kernel) dX11_whatIf_18 ?_
  refine lv_iload_n hx hb dX11_whatIf_21 rfl (lv_at hl 1 rfl) ?_
  refine lv_iload_n hx hb dX11_whatIf_22 rfl (lv_at hl 2 rfl) ?_
  refine lv_iload_n hx hb dX11_whatIf_23 rfl (lv_at hl 3 rfl) ?_
  obtain ⟨q16, h17, hf⟩ := bdE hf
  refine cV (As := [.int x1, .int x2, .int x3]) (rest := []) (k := 143) (ci := 8) (T := TX9) (N := 9) C0 w (m_X9_delayWith l B _ σ x1 x2 x3 q16 h17) ky_X9_delayWith kv_X9_delayWith lk_X11_267 rfl (by decide +kernel) ⟨Nat.le_of_ble_eq_true rfl, Nat.le_of_ble_eq_true rfl⟩ ⟨Nat.le_of_ble_eq_true rfl, Nat.le_of_ble_eq_true rfl⟩ rfl (by rfl) (Nat.le_of_ble_eq_true rfl) hl.1 dX11_whatIf_24 (fun H locs w => ?_)
  obtain ⟨h8, h9⟩ := Prod.mk.inj (Option.some.inj hf)
  obtain rfl := Sum.inl.inj h8
  subst h9
  exact eL C0 hr w dX11_whatIf_27
set_option maxHeartbeats 4000000 in
set_option maxRecDepth 100000 in
theorem t_X11_whatIf (l : Launch) (hfl : l.stackTraces = false) (B : Wb) (sz : Nat) (σ : Mem) (x1 : Int32) (x2 : Int32) (x3 : Int32) (E : String) (σ9 : Mem) (hf : f_X11_whatIf x1 x2 x3 σ = some (.inr E, σ9)) : MetT l yX11_whatIf cX11_whatIf 4 (some .long) rmt_X11_whatIf B sz σ σ9 [.ref (wA B 0), .int x1, .int x2, .int x3] E := by
  refine metT_in (by decide +kernel) (Nat.le_of_ble_eq_true rfl) ?_
  intro p e s m below meth c C0 hto w hsz ls hl
  have hx := C0.1.1
  have hb := C0.1.2.1
  unfold f_X11_whatIf at hf
  refine lv_aload_n hx hb dX11_whatIf_0 rfl (lv_at hl 0 rfl) ?_
  refine lv_iload_n hx hb dX11_whatIf_1 rfl (lv_at hl 1 rfl) ?_
  obtain ⟨q1, h2, hf⟩ := bdE hf
  rcases xmE2 hf with ⟨v3, h5, hf⟩ | ⟨h5, h8⟩
  · subst h5
    refine cV (As := [.int x1]) (rest := []) (k := 0) (ci := 9) (T := TX11) (N := 9) C0 w (m_X11_needRay l B _ σ x1 v3 h2) ky_X11_needRay kv_X11_needRay lk_X11_159 rfl (by decide +kernel) ⟨Nat.le_of_ble_eq_true rfl, Nat.le_of_ble_eq_true rfl⟩ ⟨Nat.le_of_ble_eq_true rfl, Nat.le_of_ble_eq_true rfl⟩ rfl (by rfl) (Nat.le_of_ble_eq_true rfl) hl.1 dX11_whatIf_2 (fun H locs w => ?_)
    refine lv_aload_n hx hb dX11_whatIf_5 rfl (lv_at hl 0 rfl) ?_
    refine lv_iload_n hx hb dX11_whatIf_6 rfl (lv_at hl 2 rfl) ?_
    obtain ⟨q6, h7, hf⟩ := bdE hf
    rcases xmE2 hf with ⟨v8, h10, hf⟩ | ⟨h10, h8⟩
    · subst h10
      refine cV (As := [.int x2]) (rest := []) (k := 0) (ci := 9) (T := TX11) (N := 9) C0 w (m_X11_needCell l B _ σ x2 v8 h7) ky_X11_needCell kv_X11_needCell lk_X11_111 rfl (by decide +kernel) ⟨Nat.le_of_ble_eq_true rfl, Nat.le_of_ble_eq_true rfl⟩ ⟨Nat.le_of_ble_eq_true rfl, Nat.le_of_ble_eq_true rfl⟩ rfl (by rfl) (Nat.le_of_ble_eq_true rfl) hl.1 dX11_whatIf_7 (fun H locs w => ?_)
      refine lv_iload_n hx hb dX11_whatIf_10 rfl (lv_at hl 3 rfl) ?_
      refine lv_iconst (v := 1) hx hb dX11_whatIf_11 (by decide) ?_
      refine kIn C0 100000 kc_X11_115 dX11_whatIf_12 ?_
      obtain ⟨q11, h12, hf⟩ := bdE hf
      rcases xmE2 hf with ⟨v13, h15, hf⟩ | ⟨h15, h8⟩
      · subst h15
        refine cS (As := [.int x3, .int 1, .int 100000]) (rest := []) C0 w (m_X11_needRange l B _ σ x3 1 100000 v13 h12) ky_X11_needRange ks_X11_needRange lk_X11_93 ⟨Nat.le_of_ble_eq_true rfl, Nat.le_of_ble_eq_true rfl⟩ ⟨Nat.le_of_ble_eq_true rfl, Nat.le_of_ble_eq_true rfl⟩ rfl (by rfl) (Nat.le_of_ble_eq_true rfl) hl.1 dX11_whatIf_14 (fun H locs w => ?_)
        refine lv_aload_n hx hb dX11_whatIf_17 rfl (lv_at hl 0 rfl) ?_
        refine gR C0 w 143 fk_X11_37 (by decide +kernel) dX11_whatIf_18 ?_
        refine lv_iload_n hx hb dX11_whatIf_21 rfl (lv_at hl 1 rfl) ?_
        refine lv_iload_n hx hb dX11_whatIf_22 rfl (lv_at hl 2 rfl) ?_
        refine lv_iload_n hx hb dX11_whatIf_23 rfl (lv_at hl 3 rfl) ?_
        obtain ⟨q16, h17, hf⟩ := bdE hf
        refine cV (As := [.int x1, .int x2, .int x3]) (rest := []) (k := 143) (ci := 8) (T := TX9) (N := 9) C0 w (m_X9_delayWith l B _ σ x1 x2 x3 q16 h17) ky_X9_delayWith kv_X9_delayWith lk_X11_267 rfl (by decide +kernel) ⟨Nat.le_of_ble_eq_true rfl, Nat.le_of_ble_eq_true rfl⟩ ⟨Nat.le_of_ble_eq_true rfl, Nat.le_of_ble_eq_true rfl⟩ rfl (by rfl) (Nat.le_of_ble_eq_true rfl) hl.1 dX11_whatIf_24 (fun H locs w => ?_)
        exact nomatch (Prod.mk.inj (Option.some.inj hf)).1
      · subst h15
        have h8 := h8.symm
        subst h8
        refine cST (As := [.int x3, .int 1, .int 100000]) (rest := []) C0 w (t_X11_needRange l hfl B _ σ x3 1 100000 _ h12) ky_X11_needRange ks_X11_needRange lk_X11_93 ⟨Nat.le_of_ble_eq_true rfl, Nat.le_of_ble_eq_true rfl⟩ ⟨Nat.le_of_ble_eq_true rfl, Nat.le_of_ble_eq_true rfl⟩ rfl (by rfl) (Nat.le_of_ble_eq_true rfl) hl.1 dX11_whatIf_14 (fun ce q9 H locs w g1 g2 g3 => ?_)
        exact xOut C0 hto w g1 g2 g3 (Nat.le_of_ble_eq_true rfl) (Nat.le_of_ble_eq_true rfl)
    · subst h10
      have h8 := h8.symm
      subst h8
      refine cVT (As := [.int x2]) (rest := []) (k := 0) (ci := 9) (T := TX11) (N := 9) C0 w (t_X11_needCell l hfl B _ σ x2 _ h7) ky_X11_needCell kv_X11_needCell lk_X11_111 rfl (by decide +kernel) ⟨Nat.le_of_ble_eq_true rfl, Nat.le_of_ble_eq_true rfl⟩ ⟨Nat.le_of_ble_eq_true rfl, Nat.le_of_ble_eq_true rfl⟩ rfl (by rfl) (Nat.le_of_ble_eq_true rfl) hl.1 dX11_whatIf_7 (fun ce q9 H locs w g1 g2 g3 => ?_)
      exact xOut C0 hto w g1 g2 g3 (Nat.le_of_ble_eq_true rfl) (Nat.le_of_ble_eq_true rfl)
  · subst h5
    have h8 := h8.symm
    subst h8
    refine cVT (As := [.int x1]) (rest := []) (k := 0) (ci := 9) (T := TX11) (N := 9) C0 w (t_X11_needRay l hfl B _ σ x1 _ h2) ky_X11_needRay kv_X11_needRay lk_X11_159 rfl (by decide +kernel) ⟨Nat.le_of_ble_eq_true rfl, Nat.le_of_ble_eq_true rfl⟩ ⟨Nat.le_of_ble_eq_true rfl, Nat.le_of_ble_eq_true rfl⟩ rfl (by rfl) (Nat.le_of_ble_eq_true rfl) hl.1 dX11_whatIf_2 (fun ce q9 H locs w g1 g2 g3 => ?_)
    exact xOut C0 hto w g1 g2 g3 (Nat.le_of_ble_eq_true rfl) (Nat.le_of_ble_eq_true rfl)
def f_X11_clearScript (σ : Mem) : Option (Int32 × Mem) :=
  some ((σ.1 219 1, setI σ 219 1 0))
abbrev rm_X11_clearScript : Room := { frames := 0, cells := 0, slots := 0, locals := 0 }
set_option maxHeartbeats 4000000 in
set_option maxRecDepth 100000 in
theorem m_X11_clearScript (l : Launch) (B : Wb) (sz : Nat) (σ : Mem) (q : Int32 × Mem) (hf : f_X11_clearScript σ = some q) : MetC l yX11_clearScript cX11_clearScript 2 (some .int) rm_X11_clearScript B sz σ q.2 [.ref (wA B 0)] (some (.int q.1)) := by
  refine met_in (by decide +kernel) (Nat.le_of_ble_eq_true rfl) ?_
  intro p e s m below meth c C0 hr w hsz ls hl
  have hx := C0.1.1
  have hb := C0.1.2.1
  unfold f_X11_clearScript at hf
  refine lv_aload_n hx hb dX11_clearScript_0 rfl (lv_at hl 0 rfl) ?_
  refine gR C0 w 219 fk_X11_78 (by decide +kernel) dX11_clearScript_1 ?_
  refine gI C0 w fk_X11_271 (by decide +kernel) dX11_clearScript_4 ?_
  refine lv_istore_n (lv' := [(1, .int (σ.1 219 1)), (0, .ref (wA B 0))]) hx hb dX11_clearScript_7 rfl hl (by decide) rfl (fun ls hl => ?_)
  refine lv_aload_n hx hb dX11_clearScript_8 rfl (lv_at hl 1 rfl) ?_
  refine gR C0 w 219 fk_X11_78 (by decide +kernel) dX11_clearScript_9 ?_
  refine lv_iconst (v := 0) hx hb dX11_clearScript_12 (by decide) ?_
  refine pI C0 w fk_X11_271 fp_X5_1 (by decide +kernel) dX11_clearScript_13 (fun H locs w => ?_)
  refine lv_iload_n hx hb dX11_clearScript_16 rfl (lv_at hl 0 rfl) ?_
  obtain rfl := Option.some.inj hf
  exact eI C0 hr w rfl dX11_clearScript_17
def f_X11_undo (σ : Mem) : Option ((Int32 ⊕ String) × Mem) :=
  if (σ.1 189 2) = 0 then (
    some (.inr xIS, σ))
  else (
    bd (f_X3_restore 1 σ) (fun q2 =>
    bd (f_X11_layOut q2) (fun q4 =>
    some (.inl (q4.1 189 2), q4))))
abbrev rm_X11_undo : Room := { frames := 4, cells := 0, slots := 0, locals := 95 }
abbrev rmt_X11_undo : Room := { frames := 6, cells := 1, slots := 6, locals := 95 }
set_option maxHeartbeats 4000000 in
set_option maxRecDepth 100000 in
theorem m_X11_undo (l : Launch) (B : Wb) (sz : Nat) (σ : Mem) (v : Int32) (σ9 : Mem) (hf : f_X11_undo σ = some (.inl v, σ9)) : MetC l yX11_undo cX11_undo 1 (some .int) rm_X11_undo B sz σ σ9 [.ref (wA B 0)] (some (.int v)) := by
  refine met_in (by decide +kernel) (Nat.le_of_ble_eq_true rfl) ?_
  intro p e s m below meth c C0 hr w hsz ls hl
  have hx := C0.1.1
  have hb := C0.1.2.1
  unfold f_X11_undo at hf
  refine lv_aload_n hx hb dX11_undo_0 rfl (lv_at hl 0 rfl) ?_
  refine gR C0 w 189 fk_X11_71 (by decide +kernel) dX11_undo_1 ?_
  refine gI C0 w fk_X11_288 (by decide +kernel) dX11_undo_4 ?_
  refine lv_if_ne (tgt := 21) hx hb dX11_undo_7 (by decide) (fun c1 => ?_) (fun c1 => ?_)
  · rw [if_neg c1] at hf
    refine lv_aload_n hx hb dX11_undo_21 rfl (lv_at hl 0 rfl) ?_
    refine gR C0 w 189 fk_X11_71 (by decide +kernel) dX11_undo_22 ?_
    refine lv_aload_n hx hb dX11_undo_25 rfl (lv_at hl 0 rfl) ?_
    refine gR C0 w 1 fk_X11_10 (by decide +kernel) dX11_undo_26 ?_
    obtain ⟨q2, h3, hf⟩ := bdE hf
    refine cV (As := [.ref (wA B 1)]) (rest := []) (k := 189) (ci := 2) (T := TX3) (N := 3) C0 w (m_X3_restore l B _ σ 1 q2 h3) ky_X3_restore kv_X3_restore lk_X11_293 rfl (by decide +kernel) ⟨Nat.le_of_ble_eq_true rfl, Nat.le_of_ble_eq_true rfl⟩ ⟨Nat.le_of_ble_eq_true rfl, Nat.le_of_ble_eq_true rfl⟩ rfl (by rfl) (Nat.le_of_ble_eq_true rfl) hl.1 dX11_undo_29 (fun H locs w => ?_)
    refine lv_aload_n hx hb dX11_undo_32 rfl (lv_at hl 0 rfl) ?_
    obtain ⟨q4, h5, hf⟩ := bdE hf
    refine cV (As := []) (rest := []) (k := 0) (ci := 9) (T := TX11) (N := 9) C0 w (m_X11_layOut l B _ q2 q4 h5) ky_X11_layOut kv_X11_layOut lk_X11_104 rfl (by decide +kernel) ⟨Nat.le_of_ble_eq_true rfl, Nat.le_of_ble_eq_true rfl⟩ ⟨Nat.le_of_ble_eq_true rfl, Nat.le_of_ble_eq_true rfl⟩ rfl (by rfl) (Nat.le_of_ble_eq_true rfl) hl.1 dX11_undo_33 (fun H locs w => ?_)
    refine lv_aload_n hx hb dX11_undo_36 rfl (lv_at hl 0 rfl) ?_
    refine gR C0 w 189 fk_X11_71 (by decide +kernel) dX11_undo_37 ?_
    refine gI C0 w fk_X11_288 (by decide +kernel) dX11_undo_40 ?_
    obtain ⟨h8, h9⟩ := Prod.mk.inj (Option.some.inj hf)
    obtain rfl := Sum.inl.inj h8
    subst h9
    exact eI C0 hr w rfl dX11_undo_43
  · rw [if_pos c1] at hf
    exact nomatch (Prod.mk.inj (Option.some.inj hf)).1
set_option maxHeartbeats 4000000 in
set_option maxRecDepth 100000 in
theorem t_X11_undo (l : Launch) (hfl : l.stackTraces = false) (B : Wb) (sz : Nat) (σ : Mem) (E : String) (σ9 : Mem) (hf : f_X11_undo σ = some (.inr E, σ9)) : MetT l yX11_undo cX11_undo 1 (some .int) rmt_X11_undo B sz σ σ9 [.ref (wA B 0)] E := by
  refine metT_in (by decide +kernel) (Nat.le_of_ble_eq_true rfl) ?_
  intro p e s m below meth c C0 hto w hsz ls hl
  have hx := C0.1.1
  have hb := C0.1.2.1
  unfold f_X11_undo at hf
  refine lv_aload_n hx hb dX11_undo_0 rfl (lv_at hl 0 rfl) ?_
  refine gR C0 w 189 fk_X11_71 (by decide +kernel) dX11_undo_1 ?_
  refine gI C0 w fk_X11_288 (by decide +kernel) dX11_undo_4 ?_
  refine lv_if_ne (tgt := 21) hx hb dX11_undo_7 (by decide) (fun c1 => ?_) (fun c1 => ?_)
  · rw [if_neg c1] at hf
    refine lv_aload_n hx hb dX11_undo_21 rfl (lv_at hl 0 rfl) ?_
    refine gR C0 w 189 fk_X11_71 (by decide +kernel) dX11_undo_22 ?_
    refine lv_aload_n hx hb dX11_undo_25 rfl (lv_at hl 0 rfl) ?_
    refine gR C0 w 1 fk_X11_10 (by decide +kernel) dX11_undo_26 ?_
    obtain ⟨q2, h3, hf⟩ := bdE hf
    refine cV (As := [.ref (wA B 1)]) (rest := []) (k := 189) (ci := 2) (T := TX3) (N := 3) C0 w (m_X3_restore l B _ σ 1 q2 h3) ky_X3_restore kv_X3_restore lk_X11_293 rfl (by decide +kernel) ⟨Nat.le_of_ble_eq_true rfl, Nat.le_of_ble_eq_true rfl⟩ ⟨Nat.le_of_ble_eq_true rfl, Nat.le_of_ble_eq_true rfl⟩ rfl (by rfl) (Nat.le_of_ble_eq_true rfl) hl.1 dX11_undo_29 (fun H locs w => ?_)
    refine lv_aload_n hx hb dX11_undo_32 rfl (lv_at hl 0 rfl) ?_
    obtain ⟨q4, h5, hf⟩ := bdE hf
    refine cV (As := []) (rest := []) (k := 0) (ci := 9) (T := TX11) (N := 9) C0 w (m_X11_layOut l B _ q2 q4 h5) ky_X11_layOut kv_X11_layOut lk_X11_104 rfl (by decide +kernel) ⟨Nat.le_of_ble_eq_true rfl, Nat.le_of_ble_eq_true rfl⟩ ⟨Nat.le_of_ble_eq_true rfl, Nat.le_of_ble_eq_true rfl⟩ rfl (by rfl) (Nat.le_of_ble_eq_true rfl) hl.1 dX11_undo_33 (fun H locs w => ?_)
    refine lv_aload_n hx hb dX11_undo_36 rfl (lv_at hl 0 rfl) ?_
    refine gR C0 w 189 fk_X11_71 (by decide +kernel) dX11_undo_37 ?_
    refine gI C0 w fk_X11_288 (by decide +kernel) dX11_undo_40 ?_
    exact nomatch (Prod.mk.inj (Option.some.inj hf)).1
  · rw [if_pos c1] at hf
    obtain ⟨h8, h9⟩ := Prod.mk.inj (Option.some.inj hf)
    obtain rfl := Sum.inr.inj h8
    subst h9
    exact xThrowW C0 hfl hto w xk_X11_291_150 hl.1 dX11_undo_10 dX11_undo_13 dX11_undo_14 dX11_undo_17 dX11_undo_20 (Nat.le_of_ble_eq_true rfl) (Nat.le_of_ble_eq_true rfl) (Nat.le_of_ble_eq_true rfl) (Nat.le_of_ble_eq_true rfl) (Nat.le_of_ble_eq_true rfl) (Nat.le_of_ble_eq_true rfl)
def f_X11_hashCells_20 (x5 : Int32) : Nat → Int64 → Int32 → Mem → Option (Int64 × Mem)
  | 0, _, _, _ => none
  | n + 1, x3, x6, σ =>
    if 4 ≤ x6 then (
      some ((x3, σ)))
    else (
      bd (f_X11_cell x5 x6 σ) (fun q2 =>
      xa q2 (fun v4 q5 =>
      f_X11_hashCells_20 x5 n ((31 * x3) + v4.toInt64) (x6 + 1) q5)))
def f_X11_hashCells_5 : Nat → Int64 → Int32 → Mem → Option (Int64 × Mem)
  | 0, _, _, _ => none
  | n + 1, x3, x5, σ =>
    bd (f_X7_cellCount σ) (fun q1 =>
    if q1 ≤ x5 then (
      some ((x3, σ)))
    else (
      bd (f_X11_hashCells_20 x5 100000 x3 0 σ) (fun q4 =>
      f_X11_hashCells_5 n q4.1 (x5 + 1) q4.2)))
def f_X11_hashCells (x1 : Int64) (σ : Mem) : Option (Int64 × Mem) :=
  bd (f_X11_hashCells_5 100000 x1 0 σ) (fun q1 =>
  some ((q1.1, q1.2)))
abbrev rm_X11_hashCells : Room := { frames := 5, cells := 0, slots := 0, locals := 124 }
set_option maxHeartbeats 4000000 in
set_option maxRecDepth 100000 in
theorem lp_X11_hashCells_20 {p : Program} {e : Env} {s : State} {m : MethodId} {args : Array Value} {below : List Frame} {meth : Method} {c : Code} {Q : State → Prop} (l : Launch) (B : Wb) (C0 : Cx p s m args meth c cX11_hashCells 7 RX11) (x5 : Int32) : ∀ (n : Nat) (x3 : Int64) (x6 : Int32) (σ : Mem) (o : Int64 × Mem) (H : Heap) (locs : List Loc) (ls : Array Slot), f_X11_hashCells_20 x5 n x3 x6 σ = some o → Wx B σ s H locs → lv_has ls 7 [(0, .ref (wA B 0)), (3, .long x3), (5, .int x5), (6, .int x6)] → (∀ (H : Heap) (locs : List Loc) (ls : Array Slot), Wx B o.2 s H locs → lv_has ls 7 [(0, .ref (wA B 0)), (3, .long o.1), (5, .int x5)] → W p l e rm_X11_hashCells s m args below meth c H locs 0 0 Q (F0 m 48 ls [])) → W p l e rm_X11_hashCells s m args below meth c H locs 0 0 Q (F0 m 20 ls []) := by
  have hx := C0.1.1
  have hb := C0.1.2.1
  intro n
  induction n with
  | zero =>
    intro x3 x6 σ o H locs ls hf w hl hK
    cases hf
  | succ n ih =>
    intro x3 x6 σ o H locs ls hf w hl hK
    rw [f_X11_hashCells_20] at hf
    refine lv_iload hx hb dX11_hashCells_20 (lv_at hl 3 rfl) ?_
    refine lv_iconst (v := 4) hx hb dX11_hashCells_22 (by decide) ?_
    refine lv_icmp_ge (tgt := 48) hx hb dX11_hashCells_23 (by decide) (fun c1 => ?_) (fun c1 => ?_)
    · rw [if_pos c1] at hf
      obtain rfl := Option.some.inj hf
      exact hK _ _ _ w (lv_sub hl [0, 1, 2] rfl)
    · rw [if_neg c1] at hf
      refine kLg C0 31 kc_X11_298 dX11_hashCells_26 ?_
      refine lv_lload_n hx hb dX11_hashCells_29 rfl (lv_at hl 1 rfl) ?_
      refine lv_lmul hx hb dX11_hashCells_30 ?_
      refine lv_aload_n hx hb dX11_hashCells_31 rfl (lv_at hl 0 rfl) ?_
      refine lv_iload hx hb dX11_hashCells_32 (lv_at hl 2 rfl) ?_
      refine lv_iload hx hb dX11_hashCells_34 (lv_at hl 3 rfl) ?_
      obtain ⟨q2, h3, hf⟩ := bdE hf
      obtain ⟨v4, q5, h6, hf⟩ := xaE hf
      subst h6
      refine cV (As := [.int x5, .int x6]) (rest := [.long (31 * x3)]) (k := 0) (ci := 9) (T := TX11) (N := 9) C0 w (m_X11_cell l B _ σ x5 x6 v4 q5 h3) ky_X11_cell kv_X11_cell lk_X11_313 rfl (by decide +kernel) ⟨Nat.le_of_ble_eq_true rfl, Nat.le_of_ble_eq_true rfl⟩ ⟨Nat.le_of_ble_eq_true rfl, Nat.le_of_ble_eq_true rfl⟩ rfl (by rfl) (Nat.le_of_ble_eq_true rfl) hl.1 dX11_hashCells_36 (fun H locs w => ?_)
      refine lv_i2l hx hb dX11_hashCells_39 rfl ?_
      refine lv_ladd hx hb dX11_hashCells_40 ?_
      refine lv_lstore_n (lv' := [(3, .long ((31 * x3) + v4.toInt64)), (0, .ref (wA B 0)), (5, .int x5), (6, .int x6)]) hx hb dX11_hashCells_41 rfl hl (by decide) rfl (fun ls hl => ?_)
      refine lv_iinc (k := 3) (v := x6 + 1) (lv' := [(6, .int (x6 + 1)), (3, .long ((31 * x3) + v4.toInt64)), (0, .ref (wA B 0)), (5, .int x5)]) hx hb dX11_hashCells_42 hl rfl (by rfl) (by decide) rfl (fun ls hl => ?_)
      refine lv_goto (tgt := 20) hx hb dX11_hashCells_45 (by decide) ?_
      exact ih ((31 * x3) + v4.toInt64) (x6 + 1) q5 _ _ _ _ hf w (lv_sub hl [2, 1, 3, 0] rfl) hK
set_option maxHeartbeats 4000000 in
set_option maxRecDepth 100000 in
theorem lp_X11_hashCells_5 {p : Program} {e : Env} {s : State} {m : MethodId} {args : Array Value} {below : List Frame} {meth : Method} {c : Code} {Q : State → Prop} (l : Launch) (B : Wb) (C0 : Cx p s m args meth c cX11_hashCells 7 RX11) : ∀ (n : Nat) (x3 : Int64) (x5 : Int32) (σ : Mem) (o : Int64 × Mem) (H : Heap) (locs : List Loc) (ls : Array Slot), f_X11_hashCells_5 n x3 x5 σ = some o → Wx B σ s H locs → lv_has ls 7 [(0, .ref (wA B 0)), (3, .long x3), (5, .int x5)] → (∀ (H : Heap) (locs : List Loc) (ls : Array Slot), Wx B o.2 s H locs → lv_has ls 7 [(3, .long o.1)] → W p l e rm_X11_hashCells s m args below meth c H locs 0 0 Q (F0 m 54 ls [])) → W p l e rm_X11_hashCells s m args below meth c H locs 0 0 Q (F0 m 5 ls []) := by
  have hx := C0.1.1
  have hb := C0.1.2.1
  intro n
  induction n with
  | zero =>
    intro x3 x5 σ o H locs ls hf w hl hK
    cases hf
  | succ n ih =>
    intro x3 x5 σ o H locs ls hf w hl hK
    rw [f_X11_hashCells_5] at hf
    refine lv_iload hx hb dX11_hashCells_5 (lv_at hl 2 rfl) ?_
    refine lv_aload_n hx hb dX11_hashCells_7 rfl (lv_at hl 0 rfl) ?_
    refine gR C0 w 1 fk_X11_10 (by decide +kernel) dX11_hashCells_8 ?_
    obtain ⟨q1, h2, hf⟩ := bdE hf
    refine cV (As := []) (rest := [.int x5]) (k := 1) (ci := 6) (T := TX7) (N := 14) C0 w (m_X7_cellCount l B _ σ q1 h2) ky_X7_cellCount kv_X7_cellCount lk_X11_107 rfl (by decide +kernel) ⟨Nat.le_of_ble_eq_true rfl, Nat.le_of_ble_eq_true rfl⟩ ⟨Nat.le_of_ble_eq_true rfl, Nat.le_of_ble_eq_true rfl⟩ rfl (by rfl) (Nat.le_of_ble_eq_true rfl) hl.1 dX11_hashCells_11 (fun H locs w => ?_)
    refine lv_icmp_ge (tgt := 54) hx hb dX11_hashCells_14 (by decide) (fun c3 => ?_) (fun c3 => ?_)
    · rw [if_pos c3] at hf
      obtain rfl := Option.some.inj hf
      exact hK _ _ _ w (lv_sub hl [1] rfl)
    · rw [if_neg c3] at hf
      refine lv_iconst (v := 0) hx hb dX11_hashCells_17 (by decide) ?_
      refine lv_istore (lv' := [(6, .int 0), (0, .ref (wA B 0)), (3, .long x3), (5, .int x5)]) hx hb dX11_hashCells_18 hl (by decide) rfl (fun ls hl => ?_)
      obtain ⟨q4, h5, hf⟩ := bdE hf
      refine lp_X11_hashCells_20 l B C0 x5 100000 x3 0 σ q4 _ _ _ h5 w (lv_sub hl [1, 2, 3, 0] rfl) (fun H locs ls w hl => ?_)
      refine lv_iinc (k := 2) (v := x5 + 1) (lv' := [(5, .int (x5 + 1)), (0, .ref (wA B 0)), (3, .long q4.1)]) hx hb dX11_hashCells_48 hl rfl (by rfl) (by decide) rfl (fun ls hl => ?_)
      refine lv_goto (tgt := 5) hx hb dX11_hashCells_51 (by decide) ?_
      exact ih q4.1 (x5 + 1) q4.2 _ _ _ _ hf w (lv_sub hl [1, 2, 0] rfl) hK
set_option maxHeartbeats 4000000 in
set_option maxRecDepth 100000 in
theorem m_X11_hashCells (l : Launch) (B : Wb) (sz : Nat) (σ : Mem) (x1 : Int64) (q : Int64 × Mem) (hf : f_X11_hashCells x1 σ = some q) : MetC l yX11_hashCells cX11_hashCells 7 (some .long) rm_X11_hashCells B sz σ q.2 [.ref (wA B 0), .long x1] (some (.long q.1)) := by
  refine met_in (by decide +kernel) (Nat.le_of_ble_eq_true rfl) ?_
  intro p e s m below meth c C0 hr w hsz ls hl
  have hx := C0.1.1
  have hb := C0.1.2.1
  unfold f_X11_hashCells at hf
  refine lv_lload_n hx hb dX11_hashCells_0 rfl (lv_at hl 1 rfl) ?_
  refine lv_lstore_n (lv' := [(3, .long x1), (0, .ref (wA B 0)), (1, .long x1)]) hx hb dX11_hashCells_1 rfl hl (by decide) rfl (fun ls hl => ?_)
  refine lv_iconst (v := 0) hx hb dX11_hashCells_2 (by decide) ?_
  refine lv_istore (lv' := [(5, .int 0), (3, .long x1), (0, .ref (wA B 0)), (1, .long x1)]) hx hb dX11_hashCells_3 hl (by decide) rfl (fun ls hl => ?_)
  obtain ⟨q1, h2, hf⟩ := bdE hf
  refine lp_X11_hashCells_5 l B C0 100000 x1 0 σ q1 _ _ _ h2 w (lv_sub hl [2, 1, 0] rfl) (fun H locs ls w hl => ?_)
  refine lv_lload_n hx hb dX11_hashCells_54 rfl (lv_at hl 0 rfl) ?_
  obtain rfl := Option.some.inj hf
  exact eL C0 hr w dX11_hashCells_55
def f_X11_hashRays_51 (x5 : Int32) : Nat → Int64 → Int32 → Mem → Option (Int64 × Mem)
  | 0, _, _, _ => none
  | n + 1, x3, x6, σ =>
    if 2 ≤ x6 then (
      some ((x3, σ)))
    else (
      bd (f_X11_time x5 x6 σ) (fun q2 =>
      xa q2 (fun v4 q5 =>
      f_X11_hashRays_51 x5 n ((31 * x3) + v4) (x6 + 1) q5)))
def f_X11_hashRays_20 (x5 : Int32) : Nat → Int64 → Int32 → Mem → Option (Int64 × Mem)
  | 0, _, _, _ => none
  | n + 1, x3, x6, σ =>
    if 5 ≤ x6 then (
      some ((x3, σ)))
    else (
      bd (f_X11_ray x5 x6 σ) (fun q2 =>
      xa q2 (fun v4 q5 =>
      f_X11_hashRays_20 x5 n ((31 * x3) + v4.toInt64) (x6 + 1) q5)))
def f_X11_hashRays_81 (x5 : Int32) (σ : Mem) : Nat → Int64 → Int32 → Option (Int64)
  | 0, _, _ => none
  | n + 1, x3, x6 =>
    gd (inb x5 16) (
    if (σ.1 147 x5.toNatClampNeg) ≤ x6 then (
      some x3)
    else (
      gd (inb x5 16) (
      gd (shA (149 + 1 * x5.toNatClampNeg) 1 (aln (149 + 1 * x5.toNatClampNeg))) (
      gd (inb x6 (aln (149 + 1 * x5.toNatClampNeg))) (
      f_X11_hashRays_81 x5 σ n ((31 * x3) + ((σ.1 (149 + 1 * x5.toNatClampNeg) x6.toNatClampNeg).toInt64)) (x6 + 1))))))
def f_X11_hashRays_5 : Nat → Int64 → Int32 → Mem → Option (Int64 × Mem)
  | 0, _, _, _ => none
  | n + 1, x3, x5, σ =>
    if (σ.1 1 7) ≤ x5 then (
      some ((x3, σ)))
    else (
      bd (f_X11_hashRays_20 x5 100000 x3 0 σ) (fun q2 =>
      bd (f_X11_hashRays_51 x5 100000 q2.1 0 q2.2) (fun q4 =>
      bd (f_X11_hashRays_81 x5 q4.2 100000 q4.1 0) (fun q6 =>
      f_X11_hashRays_5 n q6 (x5 + 1) q4.2))))
def f_X11_hashRays (x1 : Int64) (σ : Mem) : Option (Int64 × Mem) :=
  bd (f_X11_hashRays_5 100000 x1 0 σ) (fun q1 =>
  some ((q1.1, q1.2)))
abbrev rm_X11_hashRays : Room := { frames := 4, cells := 0, slots := 0, locals := 101 }
set_option maxHeartbeats 4000000 in
set_option maxRecDepth 100000 in
theorem lp_X11_hashRays_51 {p : Program} {e : Env} {s : State} {m : MethodId} {args : Array Value} {below : List Frame} {meth : Method} {c : Code} {Q : State → Prop} (l : Launch) (B : Wb) (C0 : Cx p s m args meth c cX11_hashRays 7 RX11) (x5 : Int32) : ∀ (n : Nat) (x3 : Int64) (x6 : Int32) (σ : Mem) (o : Int64 × Mem) (H : Heap) (locs : List Loc) (ls : Array Slot), f_X11_hashRays_51 x5 n x3 x6 σ = some o → Wx B σ s H locs → lv_has ls 7 [(0, .ref (wA B 0)), (3, .long x3), (5, .int x5), (6, .int x6)] → (∀ (H : Heap) (locs : List Loc) (ls : Array Slot), Wx B o.2 s H locs → lv_has ls 7 [(0, .ref (wA B 0)), (3, .long o.1), (5, .int x5)] → W p l e rm_X11_hashRays s m args below meth c H locs 0 0 Q (F0 m 78 ls [])) → W p l e rm_X11_hashRays s m args below meth c H locs 0 0 Q (F0 m 51 ls []) := by
  have hx := C0.1.1
  have hb := C0.1.2.1
  intro n
  induction n with
  | zero =>
    intro x3 x6 σ o H locs ls hf w hl hK
    cases hf
  | succ n ih =>
    intro x3 x6 σ o H locs ls hf w hl hK
    rw [f_X11_hashRays_51] at hf
    refine lv_iload hx hb dX11_hashRays_51 (lv_at hl 3 rfl) ?_
    refine lv_iconst (v := 2) hx hb dX11_hashRays_53 (by decide) ?_
    refine lv_icmp_ge (tgt := 78) hx hb dX11_hashRays_54 (by decide) (fun c1 => ?_) (fun c1 => ?_)
    · rw [if_pos c1] at hf
      obtain rfl := Option.some.inj hf
      exact hK _ _ _ w (lv_sub hl [0, 1, 2] rfl)
    · rw [if_neg c1] at hf
      refine kLg C0 31 kc_X11_298 dX11_hashRays_57 ?_
      refine lv_lload_n hx hb dX11_hashRays_60 rfl (lv_at hl 1 rfl) ?_
      refine lv_lmul hx hb dX11_hashRays_61 ?_
      refine lv_aload_n hx hb dX11_hashRays_62 rfl (lv_at hl 0 rfl) ?_
      refine lv_iload hx hb dX11_hashRays_63 (lv_at hl 2 rfl) ?_
      refine lv_iload hx hb dX11_hashRays_65 (lv_at hl 3 rfl) ?_
      obtain ⟨q2, h3, hf⟩ := bdE hf
      obtain ⟨v4, q5, h6, hf⟩ := xaE hf
      subst h6
      refine cV (As := [.int x5, .int x6]) (rest := [.long (31 * x3)]) (k := 0) (ci := 9) (T := TX11) (N := 9) C0 w (m_X11_time l B _ σ x5 x6 v4 q5 h3) ky_X11_time kv_X11_time lk_X11_320 rfl (by decide +kernel) ⟨Nat.le_of_ble_eq_true rfl, Nat.le_of_ble_eq_true rfl⟩ ⟨Nat.le_of_ble_eq_true rfl, Nat.le_of_ble_eq_true rfl⟩ rfl (by rfl) (Nat.le_of_ble_eq_true rfl) hl.1 dX11_hashRays_67 (fun H locs w => ?_)
      refine lv_ladd hx hb dX11_hashRays_70 ?_
      refine lv_lstore_n (lv' := [(3, .long ((31 * x3) + v4)), (0, .ref (wA B 0)), (5, .int x5), (6, .int x6)]) hx hb dX11_hashRays_71 rfl hl (by decide) rfl (fun ls hl => ?_)
      refine lv_iinc (k := 3) (v := x6 + 1) (lv' := [(6, .int (x6 + 1)), (3, .long ((31 * x3) + v4)), (0, .ref (wA B 0)), (5, .int x5)]) hx hb dX11_hashRays_72 hl rfl (by rfl) (by decide) rfl (fun ls hl => ?_)
      refine lv_goto (tgt := 51) hx hb dX11_hashRays_75 (by decide) ?_
      exact ih ((31 * x3) + v4) (x6 + 1) q5 _ _ _ _ hf w (lv_sub hl [2, 1, 3, 0] rfl) hK
set_option maxHeartbeats 4000000 in
set_option maxRecDepth 100000 in
theorem lp_X11_hashRays_20 {p : Program} {e : Env} {s : State} {m : MethodId} {args : Array Value} {below : List Frame} {meth : Method} {c : Code} {Q : State → Prop} (l : Launch) (B : Wb) (C0 : Cx p s m args meth c cX11_hashRays 7 RX11) (x5 : Int32) : ∀ (n : Nat) (x3 : Int64) (x6 : Int32) (σ : Mem) (o : Int64 × Mem) (H : Heap) (locs : List Loc) (ls : Array Slot), f_X11_hashRays_20 x5 n x3 x6 σ = some o → Wx B σ s H locs → lv_has ls 7 [(0, .ref (wA B 0)), (3, .long x3), (5, .int x5), (6, .int x6)] → (∀ (H : Heap) (locs : List Loc) (ls : Array Slot), Wx B o.2 s H locs → lv_has ls 7 [(0, .ref (wA B 0)), (3, .long o.1), (5, .int x5)] → W p l e rm_X11_hashRays s m args below meth c H locs 0 0 Q (F0 m 48 ls [])) → W p l e rm_X11_hashRays s m args below meth c H locs 0 0 Q (F0 m 20 ls []) := by
  have hx := C0.1.1
  have hb := C0.1.2.1
  intro n
  induction n with
  | zero =>
    intro x3 x6 σ o H locs ls hf w hl hK
    cases hf
  | succ n ih =>
    intro x3 x6 σ o H locs ls hf w hl hK
    rw [f_X11_hashRays_20] at hf
    refine lv_iload hx hb dX11_hashRays_20 (lv_at hl 3 rfl) ?_
    refine lv_iconst (v := 5) hx hb dX11_hashRays_22 (by decide) ?_
    refine lv_icmp_ge (tgt := 48) hx hb dX11_hashRays_23 (by decide) (fun c1 => ?_) (fun c1 => ?_)
    · rw [if_pos c1] at hf
      obtain rfl := Option.some.inj hf
      exact hK _ _ _ w (lv_sub hl [0, 1, 2] rfl)
    · rw [if_neg c1] at hf
      refine kLg C0 31 kc_X11_298 dX11_hashRays_26 ?_
      refine lv_lload_n hx hb dX11_hashRays_29 rfl (lv_at hl 1 rfl) ?_
      refine lv_lmul hx hb dX11_hashRays_30 ?_
      refine lv_aload_n hx hb dX11_hashRays_31 rfl (lv_at hl 0 rfl) ?_
      refine lv_iload hx hb dX11_hashRays_32 (lv_at hl 2 rfl) ?_
      refine lv_iload hx hb dX11_hashRays_34 (lv_at hl 3 rfl) ?_
      obtain ⟨q2, h3, hf⟩ := bdE hf
      obtain ⟨v4, q5, h6, hf⟩ := xaE hf
      subst h6
      refine cV (As := [.int x5, .int x6]) (rest := [.long (31 * x3)]) (k := 0) (ci := 9) (T := TX11) (N := 9) C0 w (m_X11_ray l B _ σ x5 x6 v4 q5 h3) ky_X11_ray kv_X11_ray lk_X11_317 rfl (by decide +kernel) ⟨Nat.le_of_ble_eq_true rfl, Nat.le_of_ble_eq_true rfl⟩ ⟨Nat.le_of_ble_eq_true rfl, Nat.le_of_ble_eq_true rfl⟩ rfl (by rfl) (Nat.le_of_ble_eq_true rfl) hl.1 dX11_hashRays_36 (fun H locs w => ?_)
      refine lv_i2l hx hb dX11_hashRays_39 rfl ?_
      refine lv_ladd hx hb dX11_hashRays_40 ?_
      refine lv_lstore_n (lv' := [(3, .long ((31 * x3) + v4.toInt64)), (0, .ref (wA B 0)), (5, .int x5), (6, .int x6)]) hx hb dX11_hashRays_41 rfl hl (by decide) rfl (fun ls hl => ?_)
      refine lv_iinc (k := 3) (v := x6 + 1) (lv' := [(6, .int (x6 + 1)), (3, .long ((31 * x3) + v4.toInt64)), (0, .ref (wA B 0)), (5, .int x5)]) hx hb dX11_hashRays_42 hl rfl (by rfl) (by decide) rfl (fun ls hl => ?_)
      refine lv_goto (tgt := 20) hx hb dX11_hashRays_45 (by decide) ?_
      exact ih ((31 * x3) + v4.toInt64) (x6 + 1) q5 _ _ _ _ hf w (lv_sub hl [2, 1, 3, 0] rfl) hK
set_option maxHeartbeats 4000000 in
set_option maxRecDepth 100000 in
theorem lp_X11_hashRays_81 {p : Program} {e : Env} {s : State} {m : MethodId} {args : Array Value} {below : List Frame} {meth : Method} {c : Code} {Q : State → Prop} (l : Launch) (B : Wb) (C0 : Cx p s m args meth c cX11_hashRays 7 RX11) (x5 : Int32) : ∀ (n : Nat) (x3 : Int64) (x6 : Int32) (σ : Mem) (o : Int64) (H : Heap) (locs : List Loc) (ls : Array Slot), f_X11_hashRays_81 x5 σ n x3 x6 = some o → Wx B σ s H locs → lv_has ls 7 [(0, .ref (wA B 0)), (3, .long x3), (5, .int x5), (6, .int x6)] → (∀ (H : Heap) (locs : List Loc) (ls : Array Slot), Wx B σ s H locs → lv_has ls 7 [(0, .ref (wA B 0)), (3, .long o), (5, .int x5)] → W p l e rm_X11_hashRays s m args below meth c H locs 0 0 Q (F0 m 123 ls [])) → W p l e rm_X11_hashRays s m args below meth c H locs 0 0 Q (F0 m 81 ls []) := by
  have hx := C0.1.1
  have hb := C0.1.2.1
  intro n
  induction n with
  | zero =>
    intro x3 x6 σ o H locs ls hf w hl hK
    cases hf
  | succ n ih =>
    intro x3 x6 σ o H locs ls hf w hl hK
    rw [f_X11_hashRays_81] at hf
    refine lv_iload hx hb dX11_hashRays_81 (lv_at hl 3 rfl) ?_
    refine lv_aload_n hx hb dX11_hashRays_83 rfl (lv_at hl 0 rfl) ?_
    refine gR C0 w 143 fk_X11_37 (by decide +kernel) dX11_hashRays_84 ?_
    refine gR C0 w 147 fk_X11_226 (by decide +kernel) dX11_hashRays_87 ?_
    refine lv_iload hx hb dX11_hashRays_90 (lv_at hl 2 rfl) ?_
    obtain ⟨g1, hf⟩ := gdE hf
    refine aI C0 w (n := 16) (by decide +kernel) (inbE g1) dX11_hashRays_92 ?_
    refine lv_icmp_ge (tgt := 123) hx hb dX11_hashRays_93 (by decide) (fun c2 => ?_) (fun c2 => ?_)
    · rw [if_pos c2] at hf
      obtain rfl := Option.some.inj hf
      exact hK _ _ _ w (lv_sub hl [0, 1, 2] rfl)
    · rw [if_neg c2] at hf
      refine kLg C0 31 kc_X11_298 dX11_hashRays_96 ?_
      refine lv_lload_n hx hb dX11_hashRays_99 rfl (lv_at hl 1 rfl) ?_
      refine lv_lmul hx hb dX11_hashRays_100 ?_
      refine lv_aload_n hx hb dX11_hashRays_101 rfl (lv_at hl 0 rfl) ?_
      refine gR C0 w 143 fk_X11_37 (by decide +kernel) dX11_hashRays_102 ?_
      refine gR C0 w 148 fk_X11_231 (by decide +kernel) dX11_hashRays_105 ?_
      refine lv_iload hx hb dX11_hashRays_108 (lv_at hl 2 rfl) ?_
      obtain ⟨g3, hf⟩ := gdE hf
      refine aG C0 w (n := 16) 149 1 (by decide +kernel) rfl (inbE g3) dX11_hashRays_110 ?_
      refine lv_iload hx hb dX11_hashRays_111 (lv_at hl 3 rfl) ?_
      obtain ⟨g4, hf⟩ := gdE hf
      obtain ⟨g5, hf⟩ := gdE hf
      refine aI C0 w g4 (inbE g5) dX11_hashRays_113 ?_
      refine lv_i2l hx hb dX11_hashRays_114 rfl ?_
      refine lv_ladd hx hb dX11_hashRays_115 ?_
      refine lv_lstore_n (lv' := [(3, .long ((31 * x3) + ((σ.1 (149 + 1 * x5.toNatClampNeg) x6.toNatClampNeg).toInt64))), (0, .ref (wA B 0)), (5, .int x5), (6, .int x6)]) hx hb dX11_hashRays_116 rfl hl (by decide) rfl (fun ls hl => ?_)
      refine lv_iinc (k := 3) (v := x6 + 1) (lv' := [(6, .int (x6 + 1)), (3, .long ((31 * x3) + ((σ.1 (149 + 1 * x5.toNatClampNeg) x6.toNatClampNeg).toInt64))), (0, .ref (wA B 0)), (5, .int x5)]) hx hb dX11_hashRays_117 hl rfl (by rfl) (by decide) rfl (fun ls hl => ?_)
      refine lv_goto (tgt := 81) hx hb dX11_hashRays_120 (by decide) ?_
      exact ih ((31 * x3) + ((σ.1 (149 + 1 * x5.toNatClampNeg) x6.toNatClampNeg).toInt64)) (x6 + 1) σ _ _ _ _ hf w (lv_sub hl [2, 1, 3, 0] rfl) hK
set_option maxHeartbeats 4000000 in
set_option maxRecDepth 100000 in
theorem lp_X11_hashRays_5 {p : Program} {e : Env} {s : State} {m : MethodId} {args : Array Value} {below : List Frame} {meth : Method} {c : Code} {Q : State → Prop} (l : Launch) (B : Wb) (C0 : Cx p s m args meth c cX11_hashRays 7 RX11) : ∀ (n : Nat) (x3 : Int64) (x5 : Int32) (σ : Mem) (o : Int64 × Mem) (H : Heap) (locs : List Loc) (ls : Array Slot), f_X11_hashRays_5 n x3 x5 σ = some o → Wx B σ s H locs → lv_has ls 7 [(0, .ref (wA B 0)), (3, .long x3), (5, .int x5)] → (∀ (H : Heap) (locs : List Loc) (ls : Array Slot), Wx B o.2 s H locs → lv_has ls 7 [(3, .long o.1)] → W p l e rm_X11_hashRays s m args below meth c H locs 0 0 Q (F0 m 129 ls [])) → W p l e rm_X11_hashRays s m args below meth c H locs 0 0 Q (F0 m 5 ls []) := by
  have hx := C0.1.1
  have hb := C0.1.2.1
  intro n
  induction n with
  | zero =>
    intro x3 x5 σ o H locs ls hf w hl hK
    cases hf
  | succ n ih =>
    intro x3 x5 σ o H locs ls hf w hl hK
    rw [f_X11_hashRays_5] at hf
    refine lv_iload hx hb dX11_hashRays_5 (lv_at hl 2 rfl) ?_
    refine lv_aload_n hx hb dX11_hashRays_7 rfl (lv_at hl 0 rfl) ?_
    refine gR C0 w 1 fk_X11_10 (by decide +kernel) dX11_hashRays_8 ?_
    refine gI C0 w fk_X11_153 (by decide +kernel) dX11_hashRays_11 ?_
    refine lv_icmp_ge (tgt := 129) hx hb dX11_hashRays_14 (by decide) (fun c1 => ?_) (fun c1 => ?_)
    · rw [if_pos c1] at hf
      obtain rfl := Option.some.inj hf
      exact hK _ _ _ w (lv_sub hl [1] rfl)
    · rw [if_neg c1] at hf
      refine lv_iconst (v := 0) hx hb dX11_hashRays_17 (by decide) ?_
      refine lv_istore (lv' := [(6, .int 0), (0, .ref (wA B 0)), (3, .long x3), (5, .int x5)]) hx hb dX11_hashRays_18 hl (by decide) rfl (fun ls hl => ?_)
      obtain ⟨q2, h3, hf⟩ := bdE hf
      refine lp_X11_hashRays_20 l B C0 x5 100000 x3 0 σ q2 _ _ _ h3 w (lv_sub hl [1, 2, 3, 0] rfl) (fun H locs ls w hl => ?_)
      refine lv_iconst (v := 0) hx hb dX11_hashRays_48 (by decide) ?_
      refine lv_istore (lv' := [(6, .int 0), (0, .ref (wA B 0)), (3, .long q2.1), (5, .int x5)]) hx hb dX11_hashRays_49 hl (by decide) rfl (fun ls hl => ?_)
      obtain ⟨q4, h5, hf⟩ := bdE hf
      refine lp_X11_hashRays_51 l B C0 x5 100000 q2.1 0 q2.2 q4 _ _ _ h5 w (lv_sub hl [1, 2, 3, 0] rfl) (fun H locs ls w hl => ?_)
      refine lv_iconst (v := 0) hx hb dX11_hashRays_78 (by decide) ?_
      refine lv_istore (lv' := [(6, .int 0), (0, .ref (wA B 0)), (3, .long q4.1), (5, .int x5)]) hx hb dX11_hashRays_79 hl (by decide) rfl (fun ls hl => ?_)
      obtain ⟨q6, h7, hf⟩ := bdE hf
      refine lp_X11_hashRays_81 l B C0 x5 100000 q4.1 0 q4.2 q6 _ _ _ h7 w (lv_sub hl [1, 2, 3, 0] rfl) (fun H locs ls w hl => ?_)
      refine lv_iinc (k := 2) (v := x5 + 1) (lv' := [(5, .int (x5 + 1)), (0, .ref (wA B 0)), (3, .long q6)]) hx hb dX11_hashRays_123 hl rfl (by rfl) (by decide) rfl (fun ls hl => ?_)
      refine lv_goto (tgt := 5) hx hb dX11_hashRays_126 (by decide) ?_
      exact ih q6 (x5 + 1) q4.2 _ _ _ _ hf w (lv_sub hl [1, 2, 0] rfl) hK
set_option maxHeartbeats 4000000 in
set_option maxRecDepth 100000 in
theorem m_X11_hashRays (l : Launch) (B : Wb) (sz : Nat) (σ : Mem) (x1 : Int64) (q : Int64 × Mem) (hf : f_X11_hashRays x1 σ = some q) : MetC l yX11_hashRays cX11_hashRays 7 (some .long) rm_X11_hashRays B sz σ q.2 [.ref (wA B 0), .long x1] (some (.long q.1)) := by
  refine met_in (by decide +kernel) (Nat.le_of_ble_eq_true rfl) ?_
  intro p e s m below meth c C0 hr w hsz ls hl
  have hx := C0.1.1
  have hb := C0.1.2.1
  unfold f_X11_hashRays at hf
  refine lv_lload_n hx hb dX11_hashRays_0 rfl (lv_at hl 1 rfl) ?_
  refine lv_lstore_n (lv' := [(3, .long x1), (0, .ref (wA B 0)), (1, .long x1)]) hx hb dX11_hashRays_1 rfl hl (by decide) rfl (fun ls hl => ?_)
  refine lv_iconst (v := 0) hx hb dX11_hashRays_2 (by decide) ?_
  refine lv_istore (lv' := [(5, .int 0), (3, .long x1), (0, .ref (wA B 0)), (1, .long x1)]) hx hb dX11_hashRays_3 hl (by decide) rfl (fun ls hl => ?_)
  obtain ⟨q1, h2, hf⟩ := bdE hf
  refine lp_X11_hashRays_5 l B C0 100000 x1 0 σ q1 _ _ _ h2 w (lv_sub hl [2, 1, 0] rfl) (fun H locs ls w hl => ?_)
  refine lv_lload_n hx hb dX11_hashRays_129 rfl (lv_at hl 0 rfl) ?_
  obtain rfl := Option.some.inj hf
  exact eL C0 hr w dX11_hashRays_130
def f_X11_digest_89 : Nat → Int64 → Int32 → Mem → Option (Int64 × Mem)
  | 0, _, _, _ => none
  | n + 1, x1, x3, σ =>
    if 5 ≤ x3 then (
      some ((x1, σ)))
    else (
      bd (f_X11_fit x3 σ) (fun q2 =>
      xa q2 (fun v4 q5 =>
      f_X11_digest_89 n ((31 * x1) + v4) (x3 + 1) q5)))
def f_X11_digest_36 : Nat → Int64 → Int32 → Mem → Option (Int64 × Mem)
  | 0, _, _, _ => none
  | n + 1, x1, x3, σ =>
    if 9 ≤ x3 then (
      some ((x1, σ)))
    else (
      bd (f_X11_section x3 σ) (fun q2 =>
      xa q2 (fun v4 q5 =>
      f_X11_digest_36 n ((31 * x1) + v4.toInt64) (x3 + 1) q5)))
def f_X11_digest (σ : Mem) : Option (Int64 × Mem) :=
  bd (f_X11_digest_36 100000 ((31 * ((31 * 11888) + ((σ.1 189 2).toInt64))) + ((σ.1 219 1).toInt64)) 0 σ) (fun q1 =>
  bd (f_X11_hashCells ((31 * q1.1) + (q1.2.2 1 6)) q1.2) (fun q3 =>
  bd (f_X11_hashRays q3.1 q3.2) (fun q5 =>
  bd (f_X11_digest_89 100000 q5.1 0 q5.2) (fun q7 =>
  some ((q7.1, q7.2))))))
abbrev rm_X11_digest : Room := { frames := 6, cells := 0, slots := 0, locals := 150 }
set_option maxHeartbeats 4000000 in
set_option maxRecDepth 100000 in
theorem lp_X11_digest_89 {p : Program} {e : Env} {s : State} {m : MethodId} {args : Array Value} {below : List Frame} {meth : Method} {c : Code} {Q : State → Prop} (l : Launch) (B : Wb) (C0 : Cx p s m args meth c cX11_digest 4 RX11) : ∀ (n : Nat) (x1 : Int64) (x3 : Int32) (σ : Mem) (o : Int64 × Mem) (H : Heap) (locs : List Loc) (ls : Array Slot), f_X11_digest_89 n x1 x3 σ = some o → Wx B σ s H locs → lv_has ls 4 [(0, .ref (wA B 0)), (1, .long x1), (3, .int x3)] → (∀ (H : Heap) (locs : List Loc) (ls : Array Slot), Wx B o.2 s H locs → lv_has ls 4 [(1, .long o.1)] → W p l e rm_X11_digest s m args below meth c H locs 0 0 Q (F0 m 112 ls [])) → W p l e rm_X11_digest s m args below meth c H locs 0 0 Q (F0 m 89 ls []) := by
  have hx := C0.1.1
  have hb := C0.1.2.1
  intro n
  induction n with
  | zero =>
    intro x1 x3 σ o H locs ls hf w hl hK
    cases hf
  | succ n ih =>
    intro x1 x3 σ o H locs ls hf w hl hK
    rw [f_X11_digest_89] at hf
    refine lv_iload_n hx hb dX11_digest_89 rfl (lv_at hl 2 rfl) ?_
    refine lv_iconst (v := 5) hx hb dX11_digest_90 (by decide) ?_
    refine lv_icmp_ge (tgt := 112) hx hb dX11_digest_91 (by decide) (fun c1 => ?_) (fun c1 => ?_)
    · rw [if_pos c1] at hf
      obtain rfl := Option.some.inj hf
      exact hK _ _ _ w (lv_sub hl [1] rfl)
    · rw [if_neg c1] at hf
      refine kLg C0 31 kc_X11_298 dX11_digest_94 ?_
      refine lv_lload_n hx hb dX11_digest_97 rfl (lv_at hl 1 rfl) ?_
      refine lv_lmul hx hb dX11_digest_98 ?_
      refine lv_aload_n hx hb dX11_digest_99 rfl (lv_at hl 0 rfl) ?_
      refine lv_iload_n hx hb dX11_digest_100 rfl (lv_at hl 2 rfl) ?_
      obtain ⟨q2, h3, hf⟩ := bdE hf
      obtain ⟨v4, q5, h6, hf⟩ := xaE hf
      subst h6
      refine cV (As := [.int x3]) (rest := [.long (31 * x1)]) (k := 0) (ci := 9) (T := TX11) (N := 9) C0 w (m_X11_fit l B _ σ x3 v4 q5 h3) ky_X11_fit kv_X11_fit lk_X11_310 rfl (by decide +kernel) ⟨Nat.le_of_ble_eq_true rfl, Nat.le_of_ble_eq_true rfl⟩ ⟨Nat.le_of_ble_eq_true rfl, Nat.le_of_ble_eq_true rfl⟩ rfl (by rfl) (Nat.le_of_ble_eq_true rfl) hl.1 dX11_digest_101 (fun H locs w => ?_)
      refine lv_ladd hx hb dX11_digest_104 ?_
      refine lv_lstore_n (lv' := [(1, .long ((31 * x1) + v4)), (0, .ref (wA B 0)), (3, .int x3)]) hx hb dX11_digest_105 rfl hl (by decide) rfl (fun ls hl => ?_)
      refine lv_iinc (k := 2) (v := x3 + 1) (lv' := [(3, .int (x3 + 1)), (1, .long ((31 * x1) + v4)), (0, .ref (wA B 0))]) hx hb dX11_digest_106 hl rfl (by rfl) (by decide) rfl (fun ls hl => ?_)
      refine lv_goto (tgt := 89) hx hb dX11_digest_109 (by decide) ?_
      exact ih ((31 * x1) + v4) (x3 + 1) q5 _ _ _ _ hf w (lv_sub hl [2, 1, 0] rfl) hK
set_option maxHeartbeats 4000000 in
set_option maxRecDepth 100000 in
theorem lp_X11_digest_36 {p : Program} {e : Env} {s : State} {m : MethodId} {args : Array Value} {below : List Frame} {meth : Method} {c : Code} {Q : State → Prop} (l : Launch) (B : Wb) (C0 : Cx p s m args meth c cX11_digest 4 RX11) : ∀ (n : Nat) (x1 : Int64) (x3 : Int32) (σ : Mem) (o : Int64 × Mem) (H : Heap) (locs : List Loc) (ls : Array Slot), f_X11_digest_36 n x1 x3 σ = some o → Wx B σ s H locs → lv_has ls 4 [(0, .ref (wA B 0)), (1, .long x1), (3, .int x3)] → (∀ (H : Heap) (locs : List Loc) (ls : Array Slot), Wx B o.2 s H locs → lv_has ls 4 [(0, .ref (wA B 0)), (1, .long o.1)] → W p l e rm_X11_digest s m args below meth c H locs 0 0 Q (F0 m 61 ls [])) → W p l e rm_X11_digest s m args below meth c H locs 0 0 Q (F0 m 36 ls []) := by
  have hx := C0.1.1
  have hb := C0.1.2.1
  intro n
  induction n with
  | zero =>
    intro x1 x3 σ o H locs ls hf w hl hK
    cases hf
  | succ n ih =>
    intro x1 x3 σ o H locs ls hf w hl hK
    rw [f_X11_digest_36] at hf
    refine lv_iload_n hx hb dX11_digest_36 rfl (lv_at hl 2 rfl) ?_
    refine lv_bipush (v := 9) hx hb dX11_digest_37 (by decide) ?_
    refine lv_icmp_ge (tgt := 61) hx hb dX11_digest_39 (by decide) (fun c1 => ?_) (fun c1 => ?_)
    · rw [if_pos c1] at hf
      obtain rfl := Option.some.inj hf
      exact hK _ _ _ w (lv_sub hl [0, 1] rfl)
    · rw [if_neg c1] at hf
      refine kLg C0 31 kc_X11_298 dX11_digest_42 ?_
      refine lv_lload_n hx hb dX11_digest_45 rfl (lv_at hl 1 rfl) ?_
      refine lv_lmul hx hb dX11_digest_46 ?_
      refine lv_aload_n hx hb dX11_digest_47 rfl (lv_at hl 0 rfl) ?_
      refine lv_iload_n hx hb dX11_digest_48 rfl (lv_at hl 2 rfl) ?_
      obtain ⟨q2, h3, hf⟩ := bdE hf
      obtain ⟨v4, q5, h6, hf⟩ := xaE hf
      subst h6
      refine cV (As := [.int x3]) (rest := [.long (31 * x1)]) (k := 0) (ci := 9) (T := TX11) (N := 9) C0 w (m_X11_section l B _ σ x3 v4 q5 h3) ky_X11_section kv_X11_section lk_X11_300 rfl (by decide +kernel) ⟨Nat.le_of_ble_eq_true rfl, Nat.le_of_ble_eq_true rfl⟩ ⟨Nat.le_of_ble_eq_true rfl, Nat.le_of_ble_eq_true rfl⟩ rfl (by rfl) (Nat.le_of_ble_eq_true rfl) hl.1 dX11_digest_49 (fun H locs w => ?_)
      refine lv_i2l hx hb dX11_digest_52 rfl ?_
      refine lv_ladd hx hb dX11_digest_53 ?_
      refine lv_lstore_n (lv' := [(1, .long ((31 * x1) + v4.toInt64)), (0, .ref (wA B 0)), (3, .int x3)]) hx hb dX11_digest_54 rfl hl (by decide) rfl (fun ls hl => ?_)
      refine lv_iinc (k := 2) (v := x3 + 1) (lv' := [(3, .int (x3 + 1)), (1, .long ((31 * x1) + v4.toInt64)), (0, .ref (wA B 0))]) hx hb dX11_digest_55 hl rfl (by rfl) (by decide) rfl (fun ls hl => ?_)
      refine lv_goto (tgt := 36) hx hb dX11_digest_58 (by decide) ?_
      exact ih ((31 * x1) + v4.toInt64) (x3 + 1) q5 _ _ _ _ hf w (lv_sub hl [2, 1, 0] rfl) hK
set_option maxHeartbeats 4000000 in
set_option maxRecDepth 100000 in
theorem m_X11_digest (l : Launch) (B : Wb) (sz : Nat) (σ : Mem) (q : Int64 × Mem) (hf : f_X11_digest σ = some q) : MetC l yX11_digest cX11_digest 4 (some .long) rm_X11_digest B sz σ q.2 [.ref (wA B 0)] (some (.long q.1)) := by
  refine met_in (by decide +kernel) (Nat.le_of_ble_eq_true rfl) ?_
  intro p e s m below meth c C0 hr w hsz ls hl
  have hx := C0.1.1
  have hb := C0.1.2.1
  unfold f_X11_digest at hf
  refine kLg C0 11888 kc_X11_296 dX11_digest_0 ?_
  refine lv_lstore_n (lv' := [(1, .long 11888), (0, .ref (wA B 0))]) hx hb dX11_digest_3 rfl hl (by decide) rfl (fun ls hl => ?_)
  refine kLg C0 31 kc_X11_298 dX11_digest_4 ?_
  refine lv_lload_n hx hb dX11_digest_7 rfl (lv_at hl 0 rfl) ?_
  refine lv_lmul hx hb dX11_digest_8 ?_
  refine lv_aload_n hx hb dX11_digest_9 rfl (lv_at hl 1 rfl) ?_
  refine gR C0 w 189 fk_X11_71 (by decide +kernel) dX11_digest_10 ?_
  refine gI C0 w fk_X11_288 (by decide +kernel) dX11_digest_13 ?_
  refine lv_i2l hx hb dX11_digest_16 rfl ?_
  refine lv_ladd hx hb dX11_digest_17 ?_
  refine lv_lstore_n (lv' := [(1, .long ((31 * 11888) + ((σ.1 189 2).toInt64))), (0, .ref (wA B 0))]) hx hb dX11_digest_18 rfl hl (by decide) rfl (fun ls hl => ?_)
  refine kLg C0 31 kc_X11_298 dX11_digest_19 ?_
  refine lv_lload_n hx hb dX11_digest_22 rfl (lv_at hl 0 rfl) ?_
  refine lv_lmul hx hb dX11_digest_23 ?_
  refine lv_aload_n hx hb dX11_digest_24 rfl (lv_at hl 1 rfl) ?_
  refine gR C0 w 219 fk_X11_78 (by decide +kernel) dX11_digest_25 ?_
  refine gI C0 w fk_X11_271 (by decide +kernel) dX11_digest_28 ?_
  refine lv_i2l hx hb dX11_digest_31 rfl ?_
  refine lv_ladd hx hb dX11_digest_32 ?_
  refine lv_lstore_n (lv' := [(1, .long ((31 * ((31 * 11888) + ((σ.1 189 2).toInt64))) + ((σ.1 219 1).toInt64))), (0, .ref (wA B 0))]) hx hb dX11_digest_33 rfl hl (by decide) rfl (fun ls hl => ?_)
  refine lv_iconst (v := 0) hx hb dX11_digest_34 (by decide) ?_
  refine lv_istore_n (lv' := [(3, .int 0), (1, .long ((31 * ((31 * 11888) + ((σ.1 189 2).toInt64))) + ((σ.1 219 1).toInt64))), (0, .ref (wA B 0))]) hx hb dX11_digest_35 rfl hl (by decide) rfl (fun ls hl => ?_)
  obtain ⟨q1, h2, hf⟩ := bdE hf
  refine lp_X11_digest_36 l B C0 100000 ((31 * ((31 * 11888) + ((σ.1 189 2).toInt64))) + ((σ.1 219 1).toInt64)) 0 σ q1 _ _ _ h2 w (lv_sub hl [2, 1, 0] rfl) (fun H locs ls w hl => ?_)
  refine kLg C0 31 kc_X11_298 dX11_digest_61 ?_
  refine lv_lload_n hx hb dX11_digest_64 rfl (lv_at hl 1 rfl) ?_
  refine lv_lmul hx hb dX11_digest_65 ?_
  refine lv_aload_n hx hb dX11_digest_66 rfl (lv_at hl 0 rfl) ?_
  refine gR C0 w 1 fk_X11_10 (by decide +kernel) dX11_digest_67 ?_
  refine gL C0 w fk_X11_192 (by decide +kernel) dX11_digest_70 ?_
  refine lv_ladd hx hb dX11_digest_73 ?_
  refine lv_lstore_n (lv' := [(1, .long ((31 * q1.1) + (q1.2.2 1 6))), (0, .ref (wA B 0))]) hx hb dX11_digest_74 rfl hl (by decide) rfl (fun ls hl => ?_)
  refine lv_aload_n hx hb dX11_digest_75 rfl (lv_at hl 1 rfl) ?_
  refine lv_lload_n hx hb dX11_digest_76 rfl (lv_at hl 0 rfl) ?_
  obtain ⟨q3, h4, hf⟩ := bdE hf
  refine cV (As := [.long ((31 * q1.1) + (q1.2.2 1 6))]) (rest := []) (k := 0) (ci := 9) (T := TX11) (N := 9) C0 w (m_X11_hashCells l B _ q1.2 ((31 * q1.1) + (q1.2.2 1 6)) q3 h4) ky_X11_hashCells kv_X11_hashCells lk_X11_303 rfl (by decide +kernel) ⟨Nat.le_of_ble_eq_true rfl, Nat.le_of_ble_eq_true rfl⟩ ⟨Nat.le_of_ble_eq_true rfl, Nat.le_of_ble_eq_true rfl⟩ rfl (by rfl) (Nat.le_of_ble_eq_true rfl) hl.1 dX11_digest_77 (fun H locs w => ?_)
  refine lv_lstore_n (lv' := [(1, .long q3.1), (0, .ref (wA B 0))]) hx hb dX11_digest_80 rfl hl (by decide) rfl (fun ls hl => ?_)
  refine lv_aload_n hx hb dX11_digest_81 rfl (lv_at hl 1 rfl) ?_
  refine lv_lload_n hx hb dX11_digest_82 rfl (lv_at hl 0 rfl) ?_
  obtain ⟨q5, h6, hf⟩ := bdE hf
  refine cV (As := [.long q3.1]) (rest := []) (k := 0) (ci := 9) (T := TX11) (N := 9) C0 w (m_X11_hashRays l B _ q3.2 q3.1 q5 h6) ky_X11_hashRays kv_X11_hashRays lk_X11_307 rfl (by decide +kernel) ⟨Nat.le_of_ble_eq_true rfl, Nat.le_of_ble_eq_true rfl⟩ ⟨Nat.le_of_ble_eq_true rfl, Nat.le_of_ble_eq_true rfl⟩ rfl (by rfl) (Nat.le_of_ble_eq_true rfl) hl.1 dX11_digest_83 (fun H locs w => ?_)
  refine lv_lstore_n (lv' := [(1, .long q5.1), (0, .ref (wA B 0))]) hx hb dX11_digest_86 rfl hl (by decide) rfl (fun ls hl => ?_)
  refine lv_iconst (v := 0) hx hb dX11_digest_87 (by decide) ?_
  refine lv_istore_n (lv' := [(3, .int 0), (1, .long q5.1), (0, .ref (wA B 0))]) hx hb dX11_digest_88 rfl hl (by decide) rfl (fun ls hl => ?_)
  obtain ⟨q7, h8, hf⟩ := bdE hf
  refine lp_X11_digest_89 l B C0 100000 q5.1 0 q5.2 q7 _ _ _ h8 w (lv_sub hl [2, 1, 0] rfl) (fun H locs ls w hl => ?_)
  refine lv_lload_n hx hb dX11_digest_112 rfl (lv_at hl 0 rfl) ?_
  obtain rfl := Option.some.inj hf
  exact eL C0 hr w dX11_digest_113
