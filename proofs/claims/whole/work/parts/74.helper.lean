abbrev rm_L_begin : Room := { frames := 8, cells := 1, slots := 6, locals := 134 }
set_option maxHeartbeats 4000000 in
set_option maxRecDepth 100000 in
theorem m_L_begin (l : Launch) (hfl : l.stackTraces = false) (B : Wb) (sz : Nat) (σ : Mem) (x1 : Int32) (x2 : Int32) (k : Int32) (σ9 : Mem) (hf : hlpI xIA xIA (f_X11_begin x1 x2) σ = some (k, σ9)) : MetL l yL_begin cL_begin 5 [(0, 10, 13, 13)] rm_L_begin B sz σ σ9 [.ref (wA B 0), .int x1, .int x2, .ref (wA B 239)] (some (.int k)) := by
  refine metL_in (by decide +kernel) (Nat.le_of_ble_eq_true rfl) ?_
  intro p e s m below meth c C0 hr hex w ls hl
  have hx := C0.1.1
  have hb := C0.1.2.1
  obtain ⟨⟨r, τ⟩, h1, h2⟩ := bdE hf
  cases r with
  | inl v =>
    obtain ⟨rfl, rfl⟩ := Prod.mk.inj (Option.some.inj (show some ((0 : Int32), setL τ 239 0 (v.toInt64)) = some (k, σ9) from h2))
    refine lv_aload_n hx hb dL_begin_0 rfl (lv_at hl 3 rfl) ?_
    refine lv_iconst (v := 0) hx hb dL_begin_1 (by decide) ?_
    refine lv_aload_n hx hb dL_begin_2 rfl (lv_at hl 0 rfl) ?_
    refine lv_iload_n hx hb dL_begin_3 rfl (lv_at hl 1 rfl) ?_
    refine lv_iload_n hx hb dL_begin_4 rfl (lv_at hl 2 rfl) ?_
    refine cV (As := [.int x1, .int x2]) (rest := [.int 0, .ref (wA B 239)]) (k := 0) (ci := 9) (T := TX11) (N := 9) C0 w (m_X11_begin l B _ σ x1 x2 _ _ h1) ky_X11_begin kv_X11_begin lk_L_7 rfl (by decide +kernel) ⟨Nat.le_of_ble_eq_true rfl, Nat.le_of_ble_eq_true rfl⟩ ⟨Nat.le_of_ble_eq_true rfl, Nat.le_of_ble_eq_true rfl⟩ rfl (by rfl) (Nat.le_of_ble_eq_true rfl) hl.1 dL_begin_5 (fun H locs w => ?_)
    refine lv_i2l hx hb dL_begin_8 rfl ?_
    refine sL C0 w (n := 1) (by decide +kernel) (inbE (by decide)) dL_begin_9 (fun H locs w => ?_)
    refine lv_goto (tgt := 17) hx hb dL_begin_10 (by decide) ?_
    refine lv_iconst (v := 0) hx hb dL_begin_17 (by decide) ?_
    refine W.widen (k := 1) (n := 6) (Nat.le_of_ble_eq_true rfl) (Nat.le_of_ble_eq_true rfl) ?_
    exact eI C0 hr w rfl dL_begin_18
  | inr E =>
    have h3 : (if E = xIA then some ((1 : Int32), τ) else if E = xIA then some (2, τ) else none) = some (k, σ9) := h2
    by_cases e1 : E = xIA
    · rw [if_pos e1] at h3
      subst e1
      obtain ⟨rfl, rfl⟩ := Prod.mk.inj (Option.some.inj h3)
      refine lv_aload_n hx hb dL_begin_0 rfl (lv_at hl 3 rfl) ?_
      refine lv_iconst (v := 0) hx hb dL_begin_1 (by decide) ?_
      refine lv_aload_n hx hb dL_begin_2 rfl (lv_at hl 0 rfl) ?_
      refine lv_iload_n hx hb dL_begin_3 rfl (lv_at hl 1 rfl) ?_
      refine lv_iload_n hx hb dL_begin_4 rfl (lv_at hl 2 rfl) ?_
      refine cVT (As := [.int x1, .int x2]) (rest := [.int 0, .ref (wA B 239)]) (k := 0) (ci := 9) (T := TX11) (N := 9) C0 w (t_X11_begin l hfl B _ σ x1 x2 _ _ h1) ky_X11_begin kv_X11_begin lk_L_7 rfl (by decide +kernel) ⟨Nat.le_of_ble_eq_true rfl, Nat.le_of_ble_eq_true rfl⟩ ⟨Nat.le_of_ble_eq_true rfl, Nat.le_of_ble_eq_true rfl⟩ rfl (by rfl) (Nat.le_of_ble_eq_true rfl) hl.1 dL_begin_5 (fun ce q9 H locs w g1 g2 g3 => ?_)
      refine xCat C0 w (E := xIA) (pre := []) hex (fun z hz => nomatch hz) (fun x a b => by simp [covers, a, b]) (by decide) kl_L_13 (by decide +kernel) g1 g2 g3 ?_
      refine lv_astore hx hb dL_begin_13 hl (by decide) rfl (fun ls hl => ?_)
      refine lv_iconst (v := 1) hx hb dL_begin_15 (by decide) ?_
      refine W.widen (k := 1) (n := 6) (Nat.le_of_ble_eq_true rfl) (Nat.le_of_ble_eq_true rfl) ?_
      exact eI C0 hr w rfl dL_begin_16
    · rw [if_neg e1, if_neg e1] at h3
      exact nomatch h3
abbrev rm_L_setCell : Room := { frames := 8, cells := 1, slots := 6, locals := 135 }
set_option maxHeartbeats 4000000 in
set_option maxRecDepth 100000 in
theorem m_L_setCell (l : Launch) (hfl : l.stackTraces = false) (B : Wb) (sz : Nat) (σ : Mem) (x1 : Int32) (x2 : Int32) (k : Int32) (σ9 : Mem) (hf : hlpI xIO xIA (f_X11_setCell x1 x2) σ = some (k, σ9)) : MetL l yL_setCell cL_setCell 5 [(0, 10, 13, 18), (0, 10, 17, 13)] rm_L_setCell B sz σ σ9 [.ref (wA B 0), .int x1, .int x2, .ref (wA B 239)] (some (.int k)) := by
  refine metL_in (by decide +kernel) (Nat.le_of_ble_eq_true rfl) ?_
  intro p e s m below meth c C0 hr hex w ls hl
  have hx := C0.1.1
  have hb := C0.1.2.1
  obtain ⟨⟨r, τ⟩, h1, h2⟩ := bdE hf
  cases r with
  | inl v =>
    obtain ⟨rfl, rfl⟩ := Prod.mk.inj (Option.some.inj (show some ((0 : Int32), setL τ 239 0 (v.toInt64)) = some (k, σ9) from h2))
    refine lv_aload_n hx hb dL_setCell_0 rfl (lv_at hl 3 rfl) ?_
    refine lv_iconst (v := 0) hx hb dL_setCell_1 (by decide) ?_
    refine lv_aload_n hx hb dL_setCell_2 rfl (lv_at hl 0 rfl) ?_
    refine lv_iload_n hx hb dL_setCell_3 rfl (lv_at hl 1 rfl) ?_
    refine lv_iload_n hx hb dL_setCell_4 rfl (lv_at hl 2 rfl) ?_
    refine cV (As := [.int x1, .int x2]) (rest := [.int 0, .ref (wA B 239)]) (k := 0) (ci := 9) (T := TX11) (N := 9) C0 w (m_X11_setCell l B _ σ x1 x2 _ _ h1) ky_X11_setCell kv_X11_setCell lk_L_15 rfl (by decide +kernel) ⟨Nat.le_of_ble_eq_true rfl, Nat.le_of_ble_eq_true rfl⟩ ⟨Nat.le_of_ble_eq_true rfl, Nat.le_of_ble_eq_true rfl⟩ rfl (by rfl) (Nat.le_of_ble_eq_true rfl) hl.1 dL_setCell_5 (fun H locs w => ?_)
    refine lv_i2l hx hb dL_setCell_8 rfl ?_
    refine sL C0 w (n := 1) (by decide +kernel) (inbE (by decide)) dL_setCell_9 (fun H locs w => ?_)
    refine lv_goto (tgt := 21) hx hb dL_setCell_10 (by decide) ?_
    refine lv_iconst (v := 0) hx hb dL_setCell_21 (by decide) ?_
    refine W.widen (k := 1) (n := 6) (Nat.le_of_ble_eq_true rfl) (Nat.le_of_ble_eq_true rfl) ?_
    exact eI C0 hr w rfl dL_setCell_22
  | inr E =>
    have h3 : (if E = xIO then some ((1 : Int32), τ) else if E = xIA then some (2, τ) else none) = some (k, σ9) := h2
    by_cases e1 : E = xIO
    · rw [if_pos e1] at h3
      subst e1
      obtain ⟨rfl, rfl⟩ := Prod.mk.inj (Option.some.inj h3)
      refine lv_aload_n hx hb dL_setCell_0 rfl (lv_at hl 3 rfl) ?_
      refine lv_iconst (v := 0) hx hb dL_setCell_1 (by decide) ?_
      refine lv_aload_n hx hb dL_setCell_2 rfl (lv_at hl 0 rfl) ?_
      refine lv_iload_n hx hb dL_setCell_3 rfl (lv_at hl 1 rfl) ?_
      refine lv_iload_n hx hb dL_setCell_4 rfl (lv_at hl 2 rfl) ?_
      refine cVT (As := [.int x1, .int x2]) (rest := [.int 0, .ref (wA B 239)]) (k := 0) (ci := 9) (T := TX11) (N := 9) C0 w (t_X11_setCell l hfl B _ σ x1 x2 _ _ h1) ky_X11_setCell kv_X11_setCell lk_L_15 rfl (by decide +kernel) ⟨Nat.le_of_ble_eq_true rfl, Nat.le_of_ble_eq_true rfl⟩ ⟨Nat.le_of_ble_eq_true rfl, Nat.le_of_ble_eq_true rfl⟩ rfl (by rfl) (Nat.le_of_ble_eq_true rfl) hl.1 dL_setCell_5 (fun ce q9 H locs w g1 g2 g3 => ?_)
      refine xCat C0 w (E := xIO) (pre := []) hex (fun z hz => nomatch hz) (fun x a b => by simp [covers, a, b]) (by decide) kl_L_18 (by decide +kernel) g1 g2 g3 ?_
      refine lv_astore hx hb dL_setCell_13 hl (by decide) rfl (fun ls hl => ?_)
      refine lv_iconst (v := 1) hx hb dL_setCell_15 (by decide) ?_
      refine W.widen (k := 1) (n := 6) (Nat.le_of_ble_eq_true rfl) (Nat.le_of_ble_eq_true rfl) ?_
      exact eI C0 hr w rfl dL_setCell_16
    by_cases e2 : E = xIA
    · rw [if_neg e1, if_pos e2] at h3
      subst e2
      obtain ⟨rfl, rfl⟩ := Prod.mk.inj (Option.some.inj h3)
      refine lv_aload_n hx hb dL_setCell_0 rfl (lv_at hl 3 rfl) ?_
      refine lv_iconst (v := 0) hx hb dL_setCell_1 (by decide) ?_
      refine lv_aload_n hx hb dL_setCell_2 rfl (lv_at hl 0 rfl) ?_
      refine lv_iload_n hx hb dL_setCell_3 rfl (lv_at hl 1 rfl) ?_
      refine lv_iload_n hx hb dL_setCell_4 rfl (lv_at hl 2 rfl) ?_
      refine cVT (As := [.int x1, .int x2]) (rest := [.int 0, .ref (wA B 239)]) (k := 0) (ci := 9) (T := TX11) (N := 9) C0 w (t_X11_setCell l hfl B _ σ x1 x2 _ _ h1) ky_X11_setCell kv_X11_setCell lk_L_15 rfl (by decide +kernel) ⟨Nat.le_of_ble_eq_true rfl, Nat.le_of_ble_eq_true rfl⟩ ⟨Nat.le_of_ble_eq_true rfl, Nat.le_of_ble_eq_true rfl⟩ rfl (by rfl) (Nat.le_of_ble_eq_true rfl) hl.1 dL_setCell_5 (fun ce q9 H locs w g1 g2 g3 => ?_)
      refine xCat C0 w (E := xIA) (pre := [(0, 10, 13, 18)]) hex (fun z hz => by rcases List.mem_singleton.mp hz with rfl; exact ⟨by decide, xIO, kl_L_18, by decide +kernel⟩) (fun x a b => by simp [covers, a, b]) (by decide) kl_L_13 (by decide +kernel) g1 g2 g3 ?_
      refine lv_astore hx hb dL_setCell_17 hl (by decide) rfl (fun ls hl => ?_)
      refine lv_iconst (v := 2) hx hb dL_setCell_19 (by decide) ?_
      refine W.widen (k := 1) (n := 6) (Nat.le_of_ble_eq_true rfl) (Nat.le_of_ble_eq_true rfl) ?_
      exact eI C0 hr w rfl dL_setCell_20
    · rw [if_neg e1, if_neg e2] at h3
      exact nomatch h3
abbrev rm_L_setTrue : Room := { frames := 8, cells := 1, slots := 6, locals := 135 }
set_option maxHeartbeats 4000000 in
set_option maxRecDepth 100000 in
theorem m_L_setTrue (l : Launch) (hfl : l.stackTraces = false) (B : Wb) (sz : Nat) (σ : Mem) (x1 : Int32) (x2 : Int32) (k : Int32) (σ9 : Mem) (hf : hlpI xIO xIA (f_X11_setTrue x1 x2) σ = some (k, σ9)) : MetL l yL_setTrue cL_setTrue 5 [(0, 10, 13, 18), (0, 10, 17, 13)] rm_L_setTrue B sz σ σ9 [.ref (wA B 0), .int x1, .int x2, .ref (wA B 239)] (some (.int k)) := by
  refine metL_in (by decide +kernel) (Nat.le_of_ble_eq_true rfl) ?_
  intro p e s m below meth c C0 hr hex w ls hl
  have hx := C0.1.1
  have hb := C0.1.2.1
  obtain ⟨⟨r, τ⟩, h1, h2⟩ := bdE hf
  cases r with
  | inl v =>
    obtain ⟨rfl, rfl⟩ := Prod.mk.inj (Option.some.inj (show some ((0 : Int32), setL τ 239 0 (v.toInt64)) = some (k, σ9) from h2))
    refine lv_aload_n hx hb dL_setTrue_0 rfl (lv_at hl 3 rfl) ?_
    refine lv_iconst (v := 0) hx hb dL_setTrue_1 (by decide) ?_
    refine lv_aload_n hx hb dL_setTrue_2 rfl (lv_at hl 0 rfl) ?_
    refine lv_iload_n hx hb dL_setTrue_3 rfl (lv_at hl 1 rfl) ?_
    refine lv_iload_n hx hb dL_setTrue_4 rfl (lv_at hl 2 rfl) ?_
    refine cV (As := [.int x1, .int x2]) (rest := [.int 0, .ref (wA B 239)]) (k := 0) (ci := 9) (T := TX11) (N := 9) C0 w (m_X11_setTrue l B _ σ x1 x2 _ _ h1) ky_X11_setTrue kv_X11_setTrue lk_L_20 rfl (by decide +kernel) ⟨Nat.le_of_ble_eq_true rfl, Nat.le_of_ble_eq_true rfl⟩ ⟨Nat.le_of_ble_eq_true rfl, Nat.le_of_ble_eq_true rfl⟩ rfl (by rfl) (Nat.le_of_ble_eq_true rfl) hl.1 dL_setTrue_5 (fun H locs w => ?_)
    refine lv_i2l hx hb dL_setTrue_8 rfl ?_
    refine sL C0 w (n := 1) (by decide +kernel) (inbE (by decide)) dL_setTrue_9 (fun H locs w => ?_)
    refine lv_goto (tgt := 21) hx hb dL_setTrue_10 (by decide) ?_
    refine lv_iconst (v := 0) hx hb dL_setTrue_21 (by decide) ?_
    refine W.widen (k := 1) (n := 6) (Nat.le_of_ble_eq_true rfl) (Nat.le_of_ble_eq_true rfl) ?_
    exact eI C0 hr w rfl dL_setTrue_22
  | inr E =>
    have h3 : (if E = xIO then some ((1 : Int32), τ) else if E = xIA then some (2, τ) else none) = some (k, σ9) := h2
    by_cases e1 : E = xIO
    · rw [if_pos e1] at h3
      subst e1
      obtain ⟨rfl, rfl⟩ := Prod.mk.inj (Option.some.inj h3)
      refine lv_aload_n hx hb dL_setTrue_0 rfl (lv_at hl 3 rfl) ?_
      refine lv_iconst (v := 0) hx hb dL_setTrue_1 (by decide) ?_
      refine lv_aload_n hx hb dL_setTrue_2 rfl (lv_at hl 0 rfl) ?_
      refine lv_iload_n hx hb dL_setTrue_3 rfl (lv_at hl 1 rfl) ?_
      refine lv_iload_n hx hb dL_setTrue_4 rfl (lv_at hl 2 rfl) ?_
      refine cVT (As := [.int x1, .int x2]) (rest := [.int 0, .ref (wA B 239)]) (k := 0) (ci := 9) (T := TX11) (N := 9) C0 w (t_X11_setTrue l hfl B _ σ x1 x2 _ _ h1) ky_X11_setTrue kv_X11_setTrue lk_L_20 rfl (by decide +kernel) ⟨Nat.le_of_ble_eq_true rfl, Nat.le_of_ble_eq_true rfl⟩ ⟨Nat.le_of_ble_eq_true rfl, Nat.le_of_ble_eq_true rfl⟩ rfl (by rfl) (Nat.le_of_ble_eq_true rfl) hl.1 dL_setTrue_5 (fun ce q9 H locs w g1 g2 g3 => ?_)
      refine xCat C0 w (E := xIO) (pre := []) hex (fun z hz => nomatch hz) (fun x a b => by simp [covers, a, b]) (by decide) kl_L_18 (by decide +kernel) g1 g2 g3 ?_
      refine lv_astore hx hb dL_setTrue_13 hl (by decide) rfl (fun ls hl => ?_)
      refine lv_iconst (v := 1) hx hb dL_setTrue_15 (by decide) ?_
      refine W.widen (k := 1) (n := 6) (Nat.le_of_ble_eq_true rfl) (Nat.le_of_ble_eq_true rfl) ?_
      exact eI C0 hr w rfl dL_setTrue_16
    by_cases e2 : E = xIA
    · rw [if_neg e1, if_pos e2] at h3
      subst e2
      obtain ⟨rfl, rfl⟩ := Prod.mk.inj (Option.some.inj h3)
      refine lv_aload_n hx hb dL_setTrue_0 rfl (lv_at hl 3 rfl) ?_
      refine lv_iconst (v := 0) hx hb dL_setTrue_1 (by decide) ?_
      refine lv_aload_n hx hb dL_setTrue_2 rfl (lv_at hl 0 rfl) ?_
      refine lv_iload_n hx hb dL_setTrue_3 rfl (lv_at hl 1 rfl) ?_
      refine lv_iload_n hx hb dL_setTrue_4 rfl (lv_at hl 2 rfl) ?_
      refine cVT (As := [.int x1, .int x2]) (rest := [.int 0, .ref (wA B 239)]) (k := 0) (ci := 9) (T := TX11) (N := 9) C0 w (t_X11_setTrue l hfl B _ σ x1 x2 _ _ h1) ky_X11_setTrue kv_X11_setTrue lk_L_20 rfl (by decide +kernel) ⟨Nat.le_of_ble_eq_true rfl, Nat.le_of_ble_eq_true rfl⟩ ⟨Nat.le_of_ble_eq_true rfl, Nat.le_of_ble_eq_true rfl⟩ rfl (by rfl) (Nat.le_of_ble_eq_true rfl) hl.1 dL_setTrue_5 (fun ce q9 H locs w g1 g2 g3 => ?_)
      refine xCat C0 w (E := xIA) (pre := [(0, 10, 13, 18)]) hex (fun z hz => by rcases List.mem_singleton.mp hz with rfl; exact ⟨by decide, xIO, kl_L_18, by decide +kernel⟩) (fun x a b => by simp [covers, a, b]) (by decide) kl_L_13 (by decide +kernel) g1 g2 g3 ?_
      refine lv_astore hx hb dL_setTrue_17 hl (by decide) rfl (fun ls hl => ?_)
      refine lv_iconst (v := 2) hx hb dL_setTrue_19 (by decide) ?_
      refine W.widen (k := 1) (n := 6) (Nat.le_of_ble_eq_true rfl) (Nat.le_of_ble_eq_true rfl) ?_
      exact eI C0 hr w rfl dL_setTrue_20
    · rw [if_neg e1, if_neg e2] at h3
      exact nomatch h3
abbrev rm_L_slope : Room := { frames := 8, cells := 1, slots := 6, locals := 136 }
set_option maxHeartbeats 4000000 in
set_option maxRecDepth 100000 in
theorem m_L_slope (l : Launch) (hfl : l.stackTraces = false) (B : Wb) (sz : Nat) (σ : Mem) (x1 : Int32) (x2 : Int32) (x3 : Int32) (x4 : Int32) (k : Int32) (σ9 : Mem) (hf : hlpI xIA xIA (f_X11_slope x1 x2 x3 x4) σ = some (k, σ9)) : MetL l yL_slope cL_slope 7 [(0, 14, 17, 13)] rm_L_slope B sz σ σ9 [.ref (wA B 0), .int x1, .int x2, .int x3, .int x4, .ref (wA B 239)] (some (.int k)) := by
  refine metL_in (by decide +kernel) (Nat.le_of_ble_eq_true rfl) ?_
  intro p e s m below meth c C0 hr hex w ls hl
  have hx := C0.1.1
  have hb := C0.1.2.1
  obtain ⟨⟨r, τ⟩, h1, h2⟩ := bdE hf
  cases r with
  | inl v =>
    obtain ⟨rfl, rfl⟩ := Prod.mk.inj (Option.some.inj (show some ((0 : Int32), setL τ 239 0 (v.toInt64)) = some (k, σ9) from h2))
    refine lv_aload hx hb dL_slope_0 (lv_at hl 5 rfl) ?_
    refine lv_iconst (v := 0) hx hb dL_slope_2 (by decide) ?_
    refine lv_aload_n hx hb dL_slope_3 rfl (lv_at hl 0 rfl) ?_
    refine lv_iload_n hx hb dL_slope_4 rfl (lv_at hl 1 rfl) ?_
    refine lv_iload_n hx hb dL_slope_5 rfl (lv_at hl 2 rfl) ?_
    refine lv_iload_n hx hb dL_slope_6 rfl (lv_at hl 3 rfl) ?_
    refine lv_iload hx hb dL_slope_7 (lv_at hl 4 rfl) ?_
    refine cV (As := [.int x1, .int x2, .int x3, .int x4]) (rest := [.int 0, .ref (wA B 239)]) (k := 0) (ci := 9) (T := TX11) (N := 9) C0 w (m_X11_slope l B _ σ x1 x2 x3 x4 _ _ h1) ky_X11_slope kv_X11_slope lk_L_23 rfl (by decide +kernel) ⟨Nat.le_of_ble_eq_true rfl, Nat.le_of_ble_eq_true rfl⟩ ⟨Nat.le_of_ble_eq_true rfl, Nat.le_of_ble_eq_true rfl⟩ rfl (by rfl) (Nat.le_of_ble_eq_true rfl) hl.1 dL_slope_9 (fun H locs w => ?_)
    refine lv_i2l hx hb dL_slope_12 rfl ?_
    refine sL C0 w (n := 1) (by decide +kernel) (inbE (by decide)) dL_slope_13 (fun H locs w => ?_)
    refine lv_goto (tgt := 21) hx hb dL_slope_14 (by decide) ?_
    refine lv_iconst (v := 0) hx hb dL_slope_21 (by decide) ?_
    refine W.widen (k := 1) (n := 6) (Nat.le_of_ble_eq_true rfl) (Nat.le_of_ble_eq_true rfl) ?_
    exact eI C0 hr w rfl dL_slope_22
  | inr E =>
    have h3 : (if E = xIA then some ((1 : Int32), τ) else if E = xIA then some (2, τ) else none) = some (k, σ9) := h2
    by_cases e1 : E = xIA
    · rw [if_pos e1] at h3
      subst e1
      obtain ⟨rfl, rfl⟩ := Prod.mk.inj (Option.some.inj h3)
      refine lv_aload hx hb dL_slope_0 (lv_at hl 5 rfl) ?_
      refine lv_iconst (v := 0) hx hb dL_slope_2 (by decide) ?_
      refine lv_aload_n hx hb dL_slope_3 rfl (lv_at hl 0 rfl) ?_
      refine lv_iload_n hx hb dL_slope_4 rfl (lv_at hl 1 rfl) ?_
      refine lv_iload_n hx hb dL_slope_5 rfl (lv_at hl 2 rfl) ?_
      refine lv_iload_n hx hb dL_slope_6 rfl (lv_at hl 3 rfl) ?_
      refine lv_iload hx hb dL_slope_7 (lv_at hl 4 rfl) ?_
      refine cVT (As := [.int x1, .int x2, .int x3, .int x4]) (rest := [.int 0, .ref (wA B 239)]) (k := 0) (ci := 9) (T := TX11) (N := 9) C0 w (t_X11_slope l hfl B _ σ x1 x2 x3 x4 _ _ h1) ky_X11_slope kv_X11_slope lk_L_23 rfl (by decide +kernel) ⟨Nat.le_of_ble_eq_true rfl, Nat.le_of_ble_eq_true rfl⟩ ⟨Nat.le_of_ble_eq_true rfl, Nat.le_of_ble_eq_true rfl⟩ rfl (by rfl) (Nat.le_of_ble_eq_true rfl) hl.1 dL_slope_9 (fun ce q9 H locs w g1 g2 g3 => ?_)
      refine xCat C0 w (E := xIA) (pre := []) hex (fun z hz => nomatch hz) (fun x a b => by simp [covers, a, b]) (by decide) kl_L_13 (by decide +kernel) g1 g2 g3 ?_
      refine lv_astore hx hb dL_slope_17 hl (by decide) rfl (fun ls hl => ?_)
      refine lv_iconst (v := 1) hx hb dL_slope_19 (by decide) ?_
      refine W.widen (k := 1) (n := 6) (Nat.le_of_ble_eq_true rfl) (Nat.le_of_ble_eq_true rfl) ?_
      exact eI C0 hr w rfl dL_slope_20
    · rw [if_neg e1, if_neg e1] at h3
      exact nomatch h3
abbrev rm_L_setBounds : Room := { frames := 8, cells := 1, slots := 6, locals := 134 }
set_option maxHeartbeats 4000000 in
set_option maxRecDepth 100000 in
theorem m_L_setBounds (l : Launch) (hfl : l.stackTraces = false) (B : Wb) (sz : Nat) (σ : Mem) (x1 : Int32) (x2 : Int32) (k : Int32) (σ9 : Mem) (hf : hlpI xIA xIA (f_X11_setBounds x1 x2) σ = some (k, σ9)) : MetL l yL_setBounds cL_setBounds 5 [(0, 10, 13, 13)] rm_L_setBounds B sz σ σ9 [.ref (wA B 0), .int x1, .int x2, .ref (wA B 239)] (some (.int k)) := by
  refine metL_in (by decide +kernel) (Nat.le_of_ble_eq_true rfl) ?_
  intro p e s m below meth c C0 hr hex w ls hl
  have hx := C0.1.1
  have hb := C0.1.2.1
  obtain ⟨⟨r, τ⟩, h1, h2⟩ := bdE hf
  cases r with
  | inl v =>
    obtain ⟨rfl, rfl⟩ := Prod.mk.inj (Option.some.inj (show some ((0 : Int32), setL τ 239 0 (v.toInt64)) = some (k, σ9) from h2))
    refine lv_aload_n hx hb dL_setBounds_0 rfl (lv_at hl 3 rfl) ?_
    refine lv_iconst (v := 0) hx hb dL_setBounds_1 (by decide) ?_
    refine lv_aload_n hx hb dL_setBounds_2 rfl (lv_at hl 0 rfl) ?_
    refine lv_iload_n hx hb dL_setBounds_3 rfl (lv_at hl 1 rfl) ?_
    refine lv_iload_n hx hb dL_setBounds_4 rfl (lv_at hl 2 rfl) ?_
    refine cV (As := [.int x1, .int x2]) (rest := [.int 0, .ref (wA B 239)]) (k := 0) (ci := 9) (T := TX11) (N := 9) C0 w (m_X11_setBounds l B _ σ x1 x2 _ _ h1) ky_X11_setBounds kv_X11_setBounds lk_L_27 rfl (by decide +kernel) ⟨Nat.le_of_ble_eq_true rfl, Nat.le_of_ble_eq_true rfl⟩ ⟨Nat.le_of_ble_eq_true rfl, Nat.le_of_ble_eq_true rfl⟩ rfl (by rfl) (Nat.le_of_ble_eq_true rfl) hl.1 dL_setBounds_5 (fun H locs w => ?_)
    refine lv_i2l hx hb dL_setBounds_8 rfl ?_
    refine sL C0 w (n := 1) (by decide +kernel) (inbE (by decide)) dL_setBounds_9 (fun H locs w => ?_)
    refine lv_goto (tgt := 17) hx hb dL_setBounds_10 (by decide) ?_
    refine lv_iconst (v := 0) hx hb dL_setBounds_17 (by decide) ?_
    refine W.widen (k := 1) (n := 6) (Nat.le_of_ble_eq_true rfl) (Nat.le_of_ble_eq_true rfl) ?_
    exact eI C0 hr w rfl dL_setBounds_18
  | inr E =>
    have h3 : (if E = xIA then some ((1 : Int32), τ) else if E = xIA then some (2, τ) else none) = some (k, σ9) := h2
    by_cases e1 : E = xIA
    · rw [if_pos e1] at h3
      subst e1
      obtain ⟨rfl, rfl⟩ := Prod.mk.inj (Option.some.inj h3)
      refine lv_aload_n hx hb dL_setBounds_0 rfl (lv_at hl 3 rfl) ?_
      refine lv_iconst (v := 0) hx hb dL_setBounds_1 (by decide) ?_
      refine lv_aload_n hx hb dL_setBounds_2 rfl (lv_at hl 0 rfl) ?_
      refine lv_iload_n hx hb dL_setBounds_3 rfl (lv_at hl 1 rfl) ?_
      refine lv_iload_n hx hb dL_setBounds_4 rfl (lv_at hl 2 rfl) ?_
      refine cVT (As := [.int x1, .int x2]) (rest := [.int 0, .ref (wA B 239)]) (k := 0) (ci := 9) (T := TX11) (N := 9) C0 w (t_X11_setBounds l hfl B _ σ x1 x2 _ _ h1) ky_X11_setBounds kv_X11_setBounds lk_L_27 rfl (by decide +kernel) ⟨Nat.le_of_ble_eq_true rfl, Nat.le_of_ble_eq_true rfl⟩ ⟨Nat.le_of_ble_eq_true rfl, Nat.le_of_ble_eq_true rfl⟩ rfl (by rfl) (Nat.le_of_ble_eq_true rfl) hl.1 dL_setBounds_5 (fun ce q9 H locs w g1 g2 g3 => ?_)
      refine xCat C0 w (E := xIA) (pre := []) hex (fun z hz => nomatch hz) (fun x a b => by simp [covers, a, b]) (by decide) kl_L_13 (by decide +kernel) g1 g2 g3 ?_
      refine lv_astore hx hb dL_setBounds_13 hl (by decide) rfl (fun ls hl => ?_)
      refine lv_iconst (v := 1) hx hb dL_setBounds_15 (by decide) ?_
      refine W.widen (k := 1) (n := 6) (Nat.le_of_ble_eq_true rfl) (Nat.le_of_ble_eq_true rfl) ?_
      exact eI C0 hr w rfl dL_setBounds_16
    · rw [if_neg e1, if_neg e1] at h3
      exact nomatch h3
abbrev rm_L_addRay : Room := { frames := 8, cells := 1, slots := 6, locals := 134 }
set_option maxHeartbeats 4000000 in
set_option maxRecDepth 100000 in
theorem m_L_addRay (l : Launch) (hfl : l.stackTraces = false) (B : Wb) (sz : Nat) (σ : Mem) (x1 : Int32) (x2 : Int32) (k : Int32) (σ9 : Mem) (hf : hlpI xIO xIS (f_X11_addRay x1 x2) σ = some (k, σ9)) : MetL l yL_addRay cL_addRay 5 [(0, 10, 13, 18), (0, 10, 17, 33)] rm_L_addRay B sz σ σ9 [.ref (wA B 0), .int x1, .int x2, .ref (wA B 239)] (some (.int k)) := by
  refine metL_in (by decide +kernel) (Nat.le_of_ble_eq_true rfl) ?_
  intro p e s m below meth c C0 hr hex w ls hl
  have hx := C0.1.1
  have hb := C0.1.2.1
  obtain ⟨⟨r, τ⟩, h1, h2⟩ := bdE hf
  cases r with
  | inl v =>
    obtain ⟨rfl, rfl⟩ := Prod.mk.inj (Option.some.inj (show some ((0 : Int32), setL τ 239 0 (v.toInt64)) = some (k, σ9) from h2))
    refine lv_aload_n hx hb dL_addRay_0 rfl (lv_at hl 3 rfl) ?_
    refine lv_iconst (v := 0) hx hb dL_addRay_1 (by decide) ?_
    refine lv_aload_n hx hb dL_addRay_2 rfl (lv_at hl 0 rfl) ?_
    refine lv_iload_n hx hb dL_addRay_3 rfl (lv_at hl 1 rfl) ?_
    refine lv_iload_n hx hb dL_addRay_4 rfl (lv_at hl 2 rfl) ?_
    refine cV (As := [.int x1, .int x2]) (rest := [.int 0, .ref (wA B 239)]) (k := 0) (ci := 9) (T := TX11) (N := 9) C0 w (m_X11_addRay l B _ σ x1 x2 _ _ h1) ky_X11_addRay kv_X11_addRay lk_L_30 rfl (by decide +kernel) ⟨Nat.le_of_ble_eq_true rfl, Nat.le_of_ble_eq_true rfl⟩ ⟨Nat.le_of_ble_eq_true rfl, Nat.le_of_ble_eq_true rfl⟩ rfl (by rfl) (Nat.le_of_ble_eq_true rfl) hl.1 dL_addRay_5 (fun H locs w => ?_)
    refine lv_i2l hx hb dL_addRay_8 rfl ?_
    refine sL C0 w (n := 1) (by decide +kernel) (inbE (by decide)) dL_addRay_9 (fun H locs w => ?_)
    refine lv_goto (tgt := 21) hx hb dL_addRay_10 (by decide) ?_
    refine lv_iconst (v := 0) hx hb dL_addRay_21 (by decide) ?_
    refine W.widen (k := 1) (n := 6) (Nat.le_of_ble_eq_true rfl) (Nat.le_of_ble_eq_true rfl) ?_
    exact eI C0 hr w rfl dL_addRay_22
  | inr E =>
    have h3 : (if E = xIO then some ((1 : Int32), τ) else if E = xIS then some (2, τ) else none) = some (k, σ9) := h2
    by_cases e1 : E = xIO
    · rw [if_pos e1] at h3
      subst e1
      obtain ⟨rfl, rfl⟩ := Prod.mk.inj (Option.some.inj h3)
      refine lv_aload_n hx hb dL_addRay_0 rfl (lv_at hl 3 rfl) ?_
      refine lv_iconst (v := 0) hx hb dL_addRay_1 (by decide) ?_
      refine lv_aload_n hx hb dL_addRay_2 rfl (lv_at hl 0 rfl) ?_
      refine lv_iload_n hx hb dL_addRay_3 rfl (lv_at hl 1 rfl) ?_
      refine lv_iload_n hx hb dL_addRay_4 rfl (lv_at hl 2 rfl) ?_
      refine cVT (As := [.int x1, .int x2]) (rest := [.int 0, .ref (wA B 239)]) (k := 0) (ci := 9) (T := TX11) (N := 9) C0 w (t_X11_addRay l hfl B _ σ x1 x2 _ _ h1) ky_X11_addRay kv_X11_addRay lk_L_30 rfl (by decide +kernel) ⟨Nat.le_of_ble_eq_true rfl, Nat.le_of_ble_eq_true rfl⟩ ⟨Nat.le_of_ble_eq_true rfl, Nat.le_of_ble_eq_true rfl⟩ rfl (by rfl) (Nat.le_of_ble_eq_true rfl) hl.1 dL_addRay_5 (fun ce q9 H locs w g1 g2 g3 => ?_)
      refine xCat C0 w (E := xIO) (pre := []) hex (fun z hz => nomatch hz) (fun x a b => by simp [covers, a, b]) (by decide) kl_L_18 (by decide +kernel) g1 g2 g3 ?_
      refine lv_astore hx hb dL_addRay_13 hl (by decide) rfl (fun ls hl => ?_)
      refine lv_iconst (v := 1) hx hb dL_addRay_15 (by decide) ?_
      refine W.widen (k := 1) (n := 6) (Nat.le_of_ble_eq_true rfl) (Nat.le_of_ble_eq_true rfl) ?_
      exact eI C0 hr w rfl dL_addRay_16
    by_cases e2 : E = xIS
    · rw [if_neg e1, if_pos e2] at h3
      subst e2
      obtain ⟨rfl, rfl⟩ := Prod.mk.inj (Option.some.inj h3)
      refine lv_aload_n hx hb dL_addRay_0 rfl (lv_at hl 3 rfl) ?_
      refine lv_iconst (v := 0) hx hb dL_addRay_1 (by decide) ?_
      refine lv_aload_n hx hb dL_addRay_2 rfl (lv_at hl 0 rfl) ?_
      refine lv_iload_n hx hb dL_addRay_3 rfl (lv_at hl 1 rfl) ?_
      refine lv_iload_n hx hb dL_addRay_4 rfl (lv_at hl 2 rfl) ?_
      refine cVT (As := [.int x1, .int x2]) (rest := [.int 0, .ref (wA B 239)]) (k := 0) (ci := 9) (T := TX11) (N := 9) C0 w (t_X11_addRay l hfl B _ σ x1 x2 _ _ h1) ky_X11_addRay kv_X11_addRay lk_L_30 rfl (by decide +kernel) ⟨Nat.le_of_ble_eq_true rfl, Nat.le_of_ble_eq_true rfl⟩ ⟨Nat.le_of_ble_eq_true rfl, Nat.le_of_ble_eq_true rfl⟩ rfl (by rfl) (Nat.le_of_ble_eq_true rfl) hl.1 dL_addRay_5 (fun ce q9 H locs w g1 g2 g3 => ?_)
      refine xCat C0 w (E := xIS) (pre := [(0, 10, 13, 18)]) hex (fun z hz => by rcases List.mem_singleton.mp hz with rfl; exact ⟨by decide, xIO, kl_L_18, by decide +kernel⟩) (fun x a b => by simp [covers, a, b]) (by decide) kl_L_33 (by decide +kernel) g1 g2 g3 ?_
      refine lv_astore hx hb dL_addRay_17 hl (by decide) rfl (fun ls hl => ?_)
      refine lv_iconst (v := 2) hx hb dL_addRay_19 (by decide) ?_
      refine W.widen (k := 1) (n := 6) (Nat.le_of_ble_eq_true rfl) (Nat.le_of_ble_eq_true rfl) ?_
      exact eI C0 hr w rfl dL_addRay_20
    · rw [if_neg e1, if_neg e2] at h3
      exact nomatch h3
abbrev rm_L_setUsed : Room := { frames := 8, cells := 1, slots := 6, locals := 133 }
set_option maxHeartbeats 4000000 in
set_option maxRecDepth 100000 in
theorem m_L_setUsed (l : Launch) (hfl : l.stackTraces = false) (B : Wb) (sz : Nat) (σ : Mem) (x1 : Int32) (x2 : Int32) (k : Int32) (σ9 : Mem) (hf : hlpI xIO xIO (f_X11_setUsed x1 x2) σ = some (k, σ9)) : MetL l yL_setUsed cL_setUsed 5 [(0, 10, 13, 18)] rm_L_setUsed B sz σ σ9 [.ref (wA B 0), .int x1, .int x2, .ref (wA B 239)] (some (.int k)) := by
  refine metL_in (by decide +kernel) (Nat.le_of_ble_eq_true rfl) ?_
  intro p e s m below meth c C0 hr hex w ls hl
  have hx := C0.1.1
  have hb := C0.1.2.1
  obtain ⟨⟨r, τ⟩, h1, h2⟩ := bdE hf
  cases r with
  | inl v =>
    obtain ⟨rfl, rfl⟩ := Prod.mk.inj (Option.some.inj (show some ((0 : Int32), setL τ 239 0 (v.toInt64)) = some (k, σ9) from h2))
    refine lv_aload_n hx hb dL_setUsed_0 rfl (lv_at hl 3 rfl) ?_
    refine lv_iconst (v := 0) hx hb dL_setUsed_1 (by decide) ?_
    refine lv_aload_n hx hb dL_setUsed_2 rfl (lv_at hl 0 rfl) ?_
    refine lv_iload_n hx hb dL_setUsed_3 rfl (lv_at hl 1 rfl) ?_
    refine lv_iload_n hx hb dL_setUsed_4 rfl (lv_at hl 2 rfl) ?_
    refine cV (As := [.int x1, .int x2]) (rest := [.int 0, .ref (wA B 239)]) (k := 0) (ci := 9) (T := TX11) (N := 9) C0 w (m_X11_setUsed l B _ σ x1 x2 _ _ h1) ky_X11_setUsed kv_X11_setUsed lk_L_35 rfl (by decide +kernel) ⟨Nat.le_of_ble_eq_true rfl, Nat.le_of_ble_eq_true rfl⟩ ⟨Nat.le_of_ble_eq_true rfl, Nat.le_of_ble_eq_true rfl⟩ rfl (by rfl) (Nat.le_of_ble_eq_true rfl) hl.1 dL_setUsed_5 (fun H locs w => ?_)
    refine lv_i2l hx hb dL_setUsed_8 rfl ?_
    refine sL C0 w (n := 1) (by decide +kernel) (inbE (by decide)) dL_setUsed_9 (fun H locs w => ?_)
    refine lv_goto (tgt := 17) hx hb dL_setUsed_10 (by decide) ?_
    refine lv_iconst (v := 0) hx hb dL_setUsed_17 (by decide) ?_
    refine W.widen (k := 1) (n := 6) (Nat.le_of_ble_eq_true rfl) (Nat.le_of_ble_eq_true rfl) ?_
    exact eI C0 hr w rfl dL_setUsed_18
  | inr E =>
    have h3 : (if E = xIO then some ((1 : Int32), τ) else if E = xIO then some (2, τ) else none) = some (k, σ9) := h2
    by_cases e1 : E = xIO
    · rw [if_pos e1] at h3
      subst e1
      obtain ⟨rfl, rfl⟩ := Prod.mk.inj (Option.some.inj h3)
      refine lv_aload_n hx hb dL_setUsed_0 rfl (lv_at hl 3 rfl) ?_
      refine lv_iconst (v := 0) hx hb dL_setUsed_1 (by decide) ?_
      refine lv_aload_n hx hb dL_setUsed_2 rfl (lv_at hl 0 rfl) ?_
      refine lv_iload_n hx hb dL_setUsed_3 rfl (lv_at hl 1 rfl) ?_
      refine lv_iload_n hx hb dL_setUsed_4 rfl (lv_at hl 2 rfl) ?_
      refine cVT (As := [.int x1, .int x2]) (rest := [.int 0, .ref (wA B 239)]) (k := 0) (ci := 9) (T := TX11) (N := 9) C0 w (t_X11_setUsed l hfl B _ σ x1 x2 _ _ h1) ky_X11_setUsed kv_X11_setUsed lk_L_35 rfl (by decide +kernel) ⟨Nat.le_of_ble_eq_true rfl, Nat.le_of_ble_eq_true rfl⟩ ⟨Nat.le_of_ble_eq_true rfl, Nat.le_of_ble_eq_true rfl⟩ rfl (by rfl) (Nat.le_of_ble_eq_true rfl) hl.1 dL_setUsed_5 (fun ce q9 H locs w g1 g2 g3 => ?_)
      refine xCat C0 w (E := xIO) (pre := []) hex (fun z hz => nomatch hz) (fun x a b => by simp [covers, a, b]) (by decide) kl_L_18 (by decide +kernel) g1 g2 g3 ?_
      refine lv_astore hx hb dL_setUsed_13 hl (by decide) rfl (fun ls hl => ?_)
      refine lv_iconst (v := 1) hx hb dL_setUsed_15 (by decide) ?_
      refine W.widen (k := 1) (n := 6) (Nat.le_of_ble_eq_true rfl) (Nat.le_of_ble_eq_true rfl) ?_
      exact eI C0 hr w rfl dL_setUsed_16
    · rw [if_neg e1, if_neg e1] at h3
      exact nomatch h3
abbrev rm_L_setTime : Room := { frames := 8, cells := 1, slots := 6, locals := 136 }
set_option maxHeartbeats 4000000 in
set_option maxRecDepth 100000 in
theorem m_L_setTime (l : Launch) (hfl : l.stackTraces = false) (B : Wb) (sz : Nat) (σ : Mem) (x1 : Int32) (x2 : Int64) (k : Int32) (σ9 : Mem) (hf : hlpL xIO xIA (f_X11_setTime x1 x2) σ = some (k, σ9)) : MetL l yL_setTime cL_setTime 6 [(0, 10, 13, 18), (0, 10, 17, 13)] rm_L_setTime B sz σ σ9 [.ref (wA B 0), .int x1, .long x2, .ref (wA B 239)] (some (.int k)) := by
  refine metL_in (by decide +kernel) (Nat.le_of_ble_eq_true rfl) ?_
  intro p e s m below meth c C0 hr hex w ls hl
  have hx := C0.1.1
  have hb := C0.1.2.1
  obtain ⟨⟨r, τ⟩, h1, h2⟩ := bdE hf
  cases r with
  | inl v =>
    obtain ⟨rfl, rfl⟩ := Prod.mk.inj (Option.some.inj (show some ((0 : Int32), setL τ 239 0 (v)) = some (k, σ9) from h2))
    refine lv_aload hx hb dL_setTime_0 (lv_at hl 3 rfl) ?_
    refine lv_iconst (v := 0) hx hb dL_setTime_2 (by decide) ?_
    refine lv_aload_n hx hb dL_setTime_3 rfl (lv_at hl 0 rfl) ?_
    refine lv_iload_n hx hb dL_setTime_4 rfl (lv_at hl 1 rfl) ?_
    refine lv_lload_n hx hb dL_setTime_5 rfl (lv_at hl 2 rfl) ?_
    refine cV (As := [.int x1, .long x2]) (rest := [.int 0, .ref (wA B 239)]) (k := 0) (ci := 9) (T := TX11) (N := 9) C0 w (m_X11_setTime l B _ σ x1 x2 _ _ h1) ky_X11_setTime kv_X11_setTime lk_L_39 rfl (by decide +kernel) ⟨Nat.le_of_ble_eq_true rfl, Nat.le_of_ble_eq_true rfl⟩ ⟨Nat.le_of_ble_eq_true rfl, Nat.le_of_ble_eq_true rfl⟩ rfl (by rfl) (Nat.le_of_ble_eq_true rfl) hl.1 dL_setTime_6 (fun H locs w => ?_)
    refine sL C0 w (n := 1) (by decide +kernel) (inbE (by decide)) dL_setTime_9 (fun H locs w => ?_)
    refine lv_goto (tgt := 21) hx hb dL_setTime_10 (by decide) ?_
    refine lv_iconst (v := 0) hx hb dL_setTime_21 (by decide) ?_
    refine W.widen (k := 1) (n := 6) (Nat.le_of_ble_eq_true rfl) (Nat.le_of_ble_eq_true rfl) ?_
    exact eI C0 hr w rfl dL_setTime_22
  | inr E =>
    have h3 : (if E = xIO then some ((1 : Int32), τ) else if E = xIA then some (2, τ) else none) = some (k, σ9) := h2
    by_cases e1 : E = xIO
    · rw [if_pos e1] at h3
      subst e1
      obtain ⟨rfl, rfl⟩ := Prod.mk.inj (Option.some.inj h3)
      refine lv_aload hx hb dL_setTime_0 (lv_at hl 3 rfl) ?_
      refine lv_iconst (v := 0) hx hb dL_setTime_2 (by decide) ?_
      refine lv_aload_n hx hb dL_setTime_3 rfl (lv_at hl 0 rfl) ?_
      refine lv_iload_n hx hb dL_setTime_4 rfl (lv_at hl 1 rfl) ?_
      refine lv_lload_n hx hb dL_setTime_5 rfl (lv_at hl 2 rfl) ?_
      refine cVT (As := [.int x1, .long x2]) (rest := [.int 0, .ref (wA B 239)]) (k := 0) (ci := 9) (T := TX11) (N := 9) C0 w (t_X11_setTime l hfl B _ σ x1 x2 _ _ h1) ky_X11_setTime kv_X11_setTime lk_L_39 rfl (by decide +kernel) ⟨Nat.le_of_ble_eq_true rfl, Nat.le_of_ble_eq_true rfl⟩ ⟨Nat.le_of_ble_eq_true rfl, Nat.le_of_ble_eq_true rfl⟩ rfl (by rfl) (Nat.le_of_ble_eq_true rfl) hl.1 dL_setTime_6 (fun ce q9 H locs w g1 g2 g3 => ?_)
      refine xCat C0 w (E := xIO) (pre := []) hex (fun z hz => nomatch hz) (fun x a b => by simp [covers, a, b]) (by decide) kl_L_18 (by decide +kernel) g1 g2 g3 ?_
      refine lv_astore hx hb dL_setTime_13 hl (by decide) rfl (fun ls hl => ?_)
      refine lv_iconst (v := 1) hx hb dL_setTime_15 (by decide) ?_
      refine W.widen (k := 1) (n := 6) (Nat.le_of_ble_eq_true rfl) (Nat.le_of_ble_eq_true rfl) ?_
      exact eI C0 hr w rfl dL_setTime_16
    by_cases e2 : E = xIA
    · rw [if_neg e1, if_pos e2] at h3
      subst e2
      obtain ⟨rfl, rfl⟩ := Prod.mk.inj (Option.some.inj h3)
      refine lv_aload hx hb dL_setTime_0 (lv_at hl 3 rfl) ?_
      refine lv_iconst (v := 0) hx hb dL_setTime_2 (by decide) ?_
      refine lv_aload_n hx hb dL_setTime_3 rfl (lv_at hl 0 rfl) ?_
      refine lv_iload_n hx hb dL_setTime_4 rfl (lv_at hl 1 rfl) ?_
      refine lv_lload_n hx hb dL_setTime_5 rfl (lv_at hl 2 rfl) ?_
      refine cVT (As := [.int x1, .long x2]) (rest := [.int 0, .ref (wA B 239)]) (k := 0) (ci := 9) (T := TX11) (N := 9) C0 w (t_X11_setTime l hfl B _ σ x1 x2 _ _ h1) ky_X11_setTime kv_X11_setTime lk_L_39 rfl (by decide +kernel) ⟨Nat.le_of_ble_eq_true rfl, Nat.le_of_ble_eq_true rfl⟩ ⟨Nat.le_of_ble_eq_true rfl, Nat.le_of_ble_eq_true rfl⟩ rfl (by rfl) (Nat.le_of_ble_eq_true rfl) hl.1 dL_setTime_6 (fun ce q9 H locs w g1 g2 g3 => ?_)
      refine xCat C0 w (E := xIA) (pre := [(0, 10, 13, 18)]) hex (fun z hz => by rcases List.mem_singleton.mp hz with rfl; exact ⟨by decide, xIO, kl_L_18, by decide +kernel⟩) (fun x a b => by simp [covers, a, b]) (by decide) kl_L_13 (by decide +kernel) g1 g2 g3 ?_
      refine lv_astore hx hb dL_setTime_17 hl (by decide) rfl (fun ls hl => ?_)
      refine lv_iconst (v := 2) hx hb dL_setTime_19 (by decide) ?_
      refine W.widen (k := 1) (n := 6) (Nat.le_of_ble_eq_true rfl) (Nat.le_of_ble_eq_true rfl) ?_
      exact eI C0 hr w rfl dL_setTime_20
    · rw [if_neg e1, if_neg e2] at h3
      exact nomatch h3
abbrev rm_L_observe : Room := { frames := 8, cells := 1, slots := 6, locals := 134 }
set_option maxHeartbeats 4000000 in
set_option maxRecDepth 100000 in
theorem m_L_observe (l : Launch) (hfl : l.stackTraces = false) (B : Wb) (sz : Nat) (σ : Mem) (x1 : Int32) (x2 : Int32) (k : Int32) (σ9 : Mem) (hf : hlpI xIA xIA (f_X11_observe x1 x2) σ = some (k, σ9)) : MetL l yL_observe cL_observe 5 [(0, 10, 13, 13)] rm_L_observe B sz σ σ9 [.ref (wA B 0), .int x1, .int x2, .ref (wA B 239)] (some (.int k)) := by
  refine metL_in (by decide +kernel) (Nat.le_of_ble_eq_true rfl) ?_
  intro p e s m below meth c C0 hr hex w ls hl
  have hx := C0.1.1
  have hb := C0.1.2.1
  obtain ⟨⟨r, τ⟩, h1, h2⟩ := bdE hf
  cases r with
  | inl v =>
    obtain ⟨rfl, rfl⟩ := Prod.mk.inj (Option.some.inj (show some ((0 : Int32), setL τ 239 0 (v.toInt64)) = some (k, σ9) from h2))
    refine lv_aload_n hx hb dL_observe_0 rfl (lv_at hl 3 rfl) ?_
    refine lv_iconst (v := 0) hx hb dL_observe_1 (by decide) ?_
    refine lv_aload_n hx hb dL_observe_2 rfl (lv_at hl 0 rfl) ?_
    refine lv_iload_n hx hb dL_observe_3 rfl (lv_at hl 1 rfl) ?_
    refine lv_iload_n hx hb dL_observe_4 rfl (lv_at hl 2 rfl) ?_
    refine cV (As := [.int x1, .int x2]) (rest := [.int 0, .ref (wA B 239)]) (k := 0) (ci := 9) (T := TX11) (N := 9) C0 w (m_X11_observe l B _ σ x1 x2 _ _ h1) ky_X11_observe kv_X11_observe lk_L_43 rfl (by decide +kernel) ⟨Nat.le_of_ble_eq_true rfl, Nat.le_of_ble_eq_true rfl⟩ ⟨Nat.le_of_ble_eq_true rfl, Nat.le_of_ble_eq_true rfl⟩ rfl (by rfl) (Nat.le_of_ble_eq_true rfl) hl.1 dL_observe_5 (fun H locs w => ?_)
    refine lv_i2l hx hb dL_observe_8 rfl ?_
    refine sL C0 w (n := 1) (by decide +kernel) (inbE (by decide)) dL_observe_9 (fun H locs w => ?_)
    refine lv_goto (tgt := 17) hx hb dL_observe_10 (by decide) ?_
    refine lv_iconst (v := 0) hx hb dL_observe_17 (by decide) ?_
    refine W.widen (k := 1) (n := 6) (Nat.le_of_ble_eq_true rfl) (Nat.le_of_ble_eq_true rfl) ?_
    exact eI C0 hr w rfl dL_observe_18
  | inr E =>
    have h3 : (if E = xIA then some ((1 : Int32), τ) else if E = xIA then some (2, τ) else none) = some (k, σ9) := h2
    by_cases e1 : E = xIA
    · rw [if_pos e1] at h3
      subst e1
      obtain ⟨rfl, rfl⟩ := Prod.mk.inj (Option.some.inj h3)
      refine lv_aload_n hx hb dL_observe_0 rfl (lv_at hl 3 rfl) ?_
      refine lv_iconst (v := 0) hx hb dL_observe_1 (by decide) ?_
      refine lv_aload_n hx hb dL_observe_2 rfl (lv_at hl 0 rfl) ?_
      refine lv_iload_n hx hb dL_observe_3 rfl (lv_at hl 1 rfl) ?_
      refine lv_iload_n hx hb dL_observe_4 rfl (lv_at hl 2 rfl) ?_
      refine cVT (As := [.int x1, .int x2]) (rest := [.int 0, .ref (wA B 239)]) (k := 0) (ci := 9) (T := TX11) (N := 9) C0 w (t_X11_observe l hfl B _ σ x1 x2 _ _ h1) ky_X11_observe kv_X11_observe lk_L_43 rfl (by decide +kernel) ⟨Nat.le_of_ble_eq_true rfl, Nat.le_of_ble_eq_true rfl⟩ ⟨Nat.le_of_ble_eq_true rfl, Nat.le_of_ble_eq_true rfl⟩ rfl (by rfl) (Nat.le_of_ble_eq_true rfl) hl.1 dL_observe_5 (fun ce q9 H locs w g1 g2 g3 => ?_)
      refine xCat C0 w (E := xIA) (pre := []) hex (fun z hz => nomatch hz) (fun x a b => by simp [covers, a, b]) (by decide) kl_L_13 (by decide +kernel) g1 g2 g3 ?_
      refine lv_astore hx hb dL_observe_13 hl (by decide) rfl (fun ls hl => ?_)
      refine lv_iconst (v := 1) hx hb dL_observe_15 (by decide) ?_
      refine W.widen (k := 1) (n := 6) (Nat.le_of_ble_eq_true rfl) (Nat.le_of_ble_eq_true rfl) ?_
      exact eI C0 hr w rfl dL_observe_16
    · rw [if_neg e1, if_neg e1] at h3
      exact nomatch h3
abbrev rm_L_setOrder : Room := { frames := 8, cells := 1, slots := 6, locals := 136 }
set_option maxHeartbeats 4000000 in
set_option maxRecDepth 100000 in
theorem m_L_setOrder (l : Launch) (hfl : l.stackTraces = false) (B : Wb) (sz : Nat) (σ : Mem) (x1 : Int32) (x2 : Int32) (x3 : Int32) (k : Int32) (σ9 : Mem) (hf : hlpI xIA xIA (f_X11_setOrder x1 x2 x3) σ = some (k, σ9)) : MetL l yL_setOrder cL_setOrder 6 [(0, 12, 15, 13)] rm_L_setOrder B sz σ σ9 [.ref (wA B 0), .int x1, .int x2, .int x3, .ref (wA B 239)] (some (.int k)) := by
  refine metL_in (by decide +kernel) (Nat.le_of_ble_eq_true rfl) ?_
  intro p e s m below meth c C0 hr hex w ls hl
  have hx := C0.1.1
  have hb := C0.1.2.1
  obtain ⟨⟨r, τ⟩, h1, h2⟩ := bdE hf
  cases r with
  | inl v =>
    obtain ⟨rfl, rfl⟩ := Prod.mk.inj (Option.some.inj (show some ((0 : Int32), setL τ 239 0 (v.toInt64)) = some (k, σ9) from h2))
    refine lv_aload hx hb dL_setOrder_0 (lv_at hl 4 rfl) ?_
    refine lv_iconst (v := 0) hx hb dL_setOrder_2 (by decide) ?_
    refine lv_aload_n hx hb dL_setOrder_3 rfl (lv_at hl 0 rfl) ?_
    refine lv_iload_n hx hb dL_setOrder_4 rfl (lv_at hl 1 rfl) ?_
    refine lv_iload_n hx hb dL_setOrder_5 rfl (lv_at hl 2 rfl) ?_
    refine lv_iload_n hx hb dL_setOrder_6 rfl (lv_at hl 3 rfl) ?_
    refine cV (As := [.int x1, .int x2, .int x3]) (rest := [.int 0, .ref (wA B 239)]) (k := 0) (ci := 9) (T := TX11) (N := 9) C0 w (m_X11_setOrder l B _ σ x1 x2 x3 _ _ h1) ky_X11_setOrder kv_X11_setOrder lk_L_46 rfl (by decide +kernel) ⟨Nat.le_of_ble_eq_true rfl, Nat.le_of_ble_eq_true rfl⟩ ⟨Nat.le_of_ble_eq_true rfl, Nat.le_of_ble_eq_true rfl⟩ rfl (by rfl) (Nat.le_of_ble_eq_true rfl) hl.1 dL_setOrder_7 (fun H locs w => ?_)
    refine lv_i2l hx hb dL_setOrder_10 rfl ?_
    refine sL C0 w (n := 1) (by decide +kernel) (inbE (by decide)) dL_setOrder_11 (fun H locs w => ?_)
    refine lv_goto (tgt := 19) hx hb dL_setOrder_12 (by decide) ?_
    refine lv_iconst (v := 0) hx hb dL_setOrder_19 (by decide) ?_
    refine W.widen (k := 1) (n := 6) (Nat.le_of_ble_eq_true rfl) (Nat.le_of_ble_eq_true rfl) ?_
    exact eI C0 hr w rfl dL_setOrder_20
  | inr E =>
    have h3 : (if E = xIA then some ((1 : Int32), τ) else if E = xIA then some (2, τ) else none) = some (k, σ9) := h2
    by_cases e1 : E = xIA
    · rw [if_pos e1] at h3
      subst e1
      obtain ⟨rfl, rfl⟩ := Prod.mk.inj (Option.some.inj h3)
      refine lv_aload hx hb dL_setOrder_0 (lv_at hl 4 rfl) ?_
      refine lv_iconst (v := 0) hx hb dL_setOrder_2 (by decide) ?_
      refine lv_aload_n hx hb dL_setOrder_3 rfl (lv_at hl 0 rfl) ?_
      refine lv_iload_n hx hb dL_setOrder_4 rfl (lv_at hl 1 rfl) ?_
      refine lv_iload_n hx hb dL_setOrder_5 rfl (lv_at hl 2 rfl) ?_
      refine lv_iload_n hx hb dL_setOrder_6 rfl (lv_at hl 3 rfl) ?_
      refine cVT (As := [.int x1, .int x2, .int x3]) (rest := [.int 0, .ref (wA B 239)]) (k := 0) (ci := 9) (T := TX11) (N := 9) C0 w (t_X11_setOrder l hfl B _ σ x1 x2 x3 _ _ h1) ky_X11_setOrder kv_X11_setOrder lk_L_46 rfl (by decide +kernel) ⟨Nat.le_of_ble_eq_true rfl, Nat.le_of_ble_eq_true rfl⟩ ⟨Nat.le_of_ble_eq_true rfl, Nat.le_of_ble_eq_true rfl⟩ rfl (by rfl) (Nat.le_of_ble_eq_true rfl) hl.1 dL_setOrder_7 (fun ce q9 H locs w g1 g2 g3 => ?_)
      refine xCat C0 w (E := xIA) (pre := []) hex (fun z hz => nomatch hz) (fun x a b => by simp [covers, a, b]) (by decide) kl_L_13 (by decide +kernel) g1 g2 g3 ?_
      refine lv_astore hx hb dL_setOrder_15 hl (by decide) rfl (fun ls hl => ?_)
      refine lv_iconst (v := 1) hx hb dL_setOrder_17 (by decide) ?_
      refine W.widen (k := 1) (n := 6) (Nat.le_of_ble_eq_true rfl) (Nat.le_of_ble_eq_true rfl) ?_
      exact eI C0 hr w rfl dL_setOrder_18
    · rw [if_neg e1, if_neg e1] at h3
      exact nomatch h3
abbrev rm_L_correct : Room := { frames := 8, cells := 1, slots := 6, locals := 134 }
set_option maxHeartbeats 4000000 in
set_option maxRecDepth 100000 in
theorem m_L_correct (l : Launch) (hfl : l.stackTraces = false) (B : Wb) (sz : Nat) (σ : Mem) (x1 : Int32) (k : Int32) (σ9 : Mem) (hf : hlpI xIO xIS (f_X11_correct x1) σ = some (k, σ9)) : MetL l yL_correct cL_correct 4 [(0, 9, 12, 18), (0, 9, 15, 33)] rm_L_correct B sz σ σ9 [.ref (wA B 0), .int x1, .ref (wA B 239)] (some (.int k)) := by
  refine metL_in (by decide +kernel) (Nat.le_of_ble_eq_true rfl) ?_
  intro p e s m below meth c C0 hr hex w ls hl
  have hx := C0.1.1
  have hb := C0.1.2.1
  obtain ⟨⟨r, τ⟩, h1, h2⟩ := bdE hf
  cases r with
  | inl v =>
    obtain ⟨rfl, rfl⟩ := Prod.mk.inj (Option.some.inj (show some ((0 : Int32), setL τ 239 0 (v.toInt64)) = some (k, σ9) from h2))
    refine lv_aload_n hx hb dL_correct_0 rfl (lv_at hl 2 rfl) ?_
    refine lv_iconst (v := 0) hx hb dL_correct_1 (by decide) ?_
    refine lv_aload_n hx hb dL_correct_2 rfl (lv_at hl 0 rfl) ?_
    refine lv_iload_n hx hb dL_correct_3 rfl (lv_at hl 1 rfl) ?_
    refine cV (As := [.int x1]) (rest := [.int 0, .ref (wA B 239)]) (k := 0) (ci := 9) (T := TX11) (N := 9) C0 w (m_X11_correct l B _ σ x1 _ _ h1) ky_X11_correct kv_X11_correct lk_L_50 rfl (by decide +kernel) ⟨Nat.le_of_ble_eq_true rfl, Nat.le_of_ble_eq_true rfl⟩ ⟨Nat.le_of_ble_eq_true rfl, Nat.le_of_ble_eq_true rfl⟩ rfl (by rfl) (Nat.le_of_ble_eq_true rfl) hl.1 dL_correct_4 (fun H locs w => ?_)
    refine lv_i2l hx hb dL_correct_7 rfl ?_
    refine sL C0 w (n := 1) (by decide +kernel) (inbE (by decide)) dL_correct_8 (fun H locs w => ?_)
    refine lv_goto (tgt := 18) hx hb dL_correct_9 (by decide) ?_
    refine lv_iconst (v := 0) hx hb dL_correct_18 (by decide) ?_
    refine W.widen (k := 1) (n := 6) (Nat.le_of_ble_eq_true rfl) (Nat.le_of_ble_eq_true rfl) ?_
    exact eI C0 hr w rfl dL_correct_19
  | inr E =>
    have h3 : (if E = xIO then some ((1 : Int32), τ) else if E = xIS then some (2, τ) else none) = some (k, σ9) := h2
    by_cases e1 : E = xIO
    · rw [if_pos e1] at h3
      subst e1
      obtain ⟨rfl, rfl⟩ := Prod.mk.inj (Option.some.inj h3)
      refine lv_aload_n hx hb dL_correct_0 rfl (lv_at hl 2 rfl) ?_
      refine lv_iconst (v := 0) hx hb dL_correct_1 (by decide) ?_
      refine lv_aload_n hx hb dL_correct_2 rfl (lv_at hl 0 rfl) ?_
      refine lv_iload_n hx hb dL_correct_3 rfl (lv_at hl 1 rfl) ?_
      refine cVT (As := [.int x1]) (rest := [.int 0, .ref (wA B 239)]) (k := 0) (ci := 9) (T := TX11) (N := 9) C0 w (t_X11_correct l hfl B _ σ x1 _ _ h1) ky_X11_correct kv_X11_correct lk_L_50 rfl (by decide +kernel) ⟨Nat.le_of_ble_eq_true rfl, Nat.le_of_ble_eq_true rfl⟩ ⟨Nat.le_of_ble_eq_true rfl, Nat.le_of_ble_eq_true rfl⟩ rfl (by rfl) (Nat.le_of_ble_eq_true rfl) hl.1 dL_correct_4 (fun ce q9 H locs w g1 g2 g3 => ?_)
      refine xCat C0 w (E := xIO) (pre := []) hex (fun z hz => nomatch hz) (fun x a b => by simp [covers, a, b]) (by decide) kl_L_18 (by decide +kernel) g1 g2 g3 ?_
      refine lv_astore_n hx hb dL_correct_12 rfl hl (by decide) rfl (fun ls hl => ?_)
      refine lv_iconst (v := 1) hx hb dL_correct_13 (by decide) ?_
      refine W.widen (k := 1) (n := 6) (Nat.le_of_ble_eq_true rfl) (Nat.le_of_ble_eq_true rfl) ?_
      exact eI C0 hr w rfl dL_correct_14
    by_cases e2 : E = xIS
    · rw [if_neg e1, if_pos e2] at h3
      subst e2
      obtain ⟨rfl, rfl⟩ := Prod.mk.inj (Option.some.inj h3)
      refine lv_aload_n hx hb dL_correct_0 rfl (lv_at hl 2 rfl) ?_
      refine lv_iconst (v := 0) hx hb dL_correct_1 (by decide) ?_
      refine lv_aload_n hx hb dL_correct_2 rfl (lv_at hl 0 rfl) ?_
      refine lv_iload_n hx hb dL_correct_3 rfl (lv_at hl 1 rfl) ?_
      refine cVT (As := [.int x1]) (rest := [.int 0, .ref (wA B 239)]) (k := 0) (ci := 9) (T := TX11) (N := 9) C0 w (t_X11_correct l hfl B _ σ x1 _ _ h1) ky_X11_correct kv_X11_correct lk_L_50 rfl (by decide +kernel) ⟨Nat.le_of_ble_eq_true rfl, Nat.le_of_ble_eq_true rfl⟩ ⟨Nat.le_of_ble_eq_true rfl, Nat.le_of_ble_eq_true rfl⟩ rfl (by rfl) (Nat.le_of_ble_eq_true rfl) hl.1 dL_correct_4 (fun ce q9 H locs w g1 g2 g3 => ?_)
      refine xCat C0 w (E := xIS) (pre := [(0, 9, 12, 18)]) hex (fun z hz => by rcases List.mem_singleton.mp hz with rfl; exact ⟨by decide, xIO, kl_L_18, by decide +kernel⟩) (fun x a b => by simp [covers, a, b]) (by decide) kl_L_33 (by decide +kernel) g1 g2 g3 ?_
      refine lv_astore_n hx hb dL_correct_15 rfl hl (by decide) rfl (fun ls hl => ?_)
      refine lv_iconst (v := 2) hx hb dL_correct_16 (by decide) ?_
      refine W.widen (k := 1) (n := 6) (Nat.le_of_ble_eq_true rfl) (Nat.le_of_ble_eq_true rfl) ?_
      exact eI C0 hr w rfl dL_correct_17
    · rw [if_neg e1, if_neg e2] at h3
      exact nomatch h3
abbrev rm_L_sweep : Room := { frames := 8, cells := 1, slots := 6, locals := 159 }
set_option maxHeartbeats 4000000 in
set_option maxRecDepth 100000 in
theorem m_L_sweep (l : Launch) (hfl : l.stackTraces = false) (B : Wb) (sz : Nat) (σ : Mem) (x1 : Int32) (k : Int32) (σ9 : Mem) (hf : hlpI xIA xIA (f_X11_sweep x1) σ = some (k, σ9)) : MetL l yL_sweep cL_sweep 4 [(0, 9, 12, 13)] rm_L_sweep B sz σ σ9 [.ref (wA B 0), .int x1, .ref (wA B 239)] (some (.int k)) := by
  refine metL_in (by decide +kernel) (Nat.le_of_ble_eq_true rfl) ?_
  intro p e s m below meth c C0 hr hex w ls hl
  have hx := C0.1.1
  have hb := C0.1.2.1
  obtain ⟨⟨r, τ⟩, h1, h2⟩ := bdE hf
  cases r with
  | inl v =>
    obtain ⟨rfl, rfl⟩ := Prod.mk.inj (Option.some.inj (show some ((0 : Int32), setL τ 239 0 (v.toInt64)) = some (k, σ9) from h2))
    refine lv_aload_n hx hb dL_sweep_0 rfl (lv_at hl 2 rfl) ?_
    refine lv_iconst (v := 0) hx hb dL_sweep_1 (by decide) ?_
    refine lv_aload_n hx hb dL_sweep_2 rfl (lv_at hl 0 rfl) ?_
    refine lv_iload_n hx hb dL_sweep_3 rfl (lv_at hl 1 rfl) ?_
    refine cV (As := [.int x1]) (rest := [.int 0, .ref (wA B 239)]) (k := 0) (ci := 9) (T := TX11) (N := 9) C0 w (m_X11_sweep l B _ σ x1 _ _ h1) ky_X11_sweep kv_X11_sweep lk_L_54 rfl (by decide +kernel) ⟨Nat.le_of_ble_eq_true rfl, Nat.le_of_ble_eq_true rfl⟩ ⟨Nat.le_of_ble_eq_true rfl, Nat.le_of_ble_eq_true rfl⟩ rfl (by rfl) (Nat.le_of_ble_eq_true rfl) hl.1 dL_sweep_4 (fun H locs w => ?_)
    refine lv_i2l hx hb dL_sweep_7 rfl ?_
    refine sL C0 w (n := 1) (by decide +kernel) (inbE (by decide)) dL_sweep_8 (fun H locs w => ?_)
    refine lv_goto (tgt := 15) hx hb dL_sweep_9 (by decide) ?_
    refine lv_iconst (v := 0) hx hb dL_sweep_15 (by decide) ?_
    refine W.widen (k := 1) (n := 6) (Nat.le_of_ble_eq_true rfl) (Nat.le_of_ble_eq_true rfl) ?_
    exact eI C0 hr w rfl dL_sweep_16
  | inr E =>
    have h3 : (if E = xIA then some ((1 : Int32), τ) else if E = xIA then some (2, τ) else none) = some (k, σ9) := h2
    by_cases e1 : E = xIA
    · rw [if_pos e1] at h3
      subst e1
      obtain ⟨rfl, rfl⟩ := Prod.mk.inj (Option.some.inj h3)
      refine lv_aload_n hx hb dL_sweep_0 rfl (lv_at hl 2 rfl) ?_
      refine lv_iconst (v := 0) hx hb dL_sweep_1 (by decide) ?_
      refine lv_aload_n hx hb dL_sweep_2 rfl (lv_at hl 0 rfl) ?_
      refine lv_iload_n hx hb dL_sweep_3 rfl (lv_at hl 1 rfl) ?_
      refine cVT (As := [.int x1]) (rest := [.int 0, .ref (wA B 239)]) (k := 0) (ci := 9) (T := TX11) (N := 9) C0 w (t_X11_sweep l hfl B _ σ x1 _ _ h1) ky_X11_sweep kv_X11_sweep lk_L_54 rfl (by decide +kernel) ⟨Nat.le_of_ble_eq_true rfl, Nat.le_of_ble_eq_true rfl⟩ ⟨Nat.le_of_ble_eq_true rfl, Nat.le_of_ble_eq_true rfl⟩ rfl (by rfl) (Nat.le_of_ble_eq_true rfl) hl.1 dL_sweep_4 (fun ce q9 H locs w g1 g2 g3 => ?_)
      refine xCat C0 w (E := xIA) (pre := []) hex (fun z hz => nomatch hz) (fun x a b => by simp [covers, a, b]) (by decide) kl_L_13 (by decide +kernel) g1 g2 g3 ?_
      refine lv_astore_n hx hb dL_sweep_12 rfl hl (by decide) rfl (fun ls hl => ?_)
      refine lv_iconst (v := 1) hx hb dL_sweep_13 (by decide) ?_
      refine W.widen (k := 1) (n := 6) (Nat.le_of_ble_eq_true rfl) (Nat.le_of_ble_eq_true rfl) ?_
      exact eI C0 hr w rfl dL_sweep_14
    · rw [if_neg e1, if_neg e1] at h3
      exact nomatch h3
abbrev rm_L_smooth : Room := { frames := 8, cells := 1, slots := 6, locals := 133 }
set_option maxHeartbeats 4000000 in
set_option maxRecDepth 100000 in
theorem m_L_smooth (l : Launch) (hfl : l.stackTraces = false) (B : Wb) (sz : Nat) (σ : Mem) (x1 : Int32) (k : Int32) (σ9 : Mem) (hf : hlpI xIA xIA (f_X11_smooth x1) σ = some (k, σ9)) : MetL l yL_smooth cL_smooth 4 [(0, 9, 12, 13)] rm_L_smooth B sz σ σ9 [.ref (wA B 0), .int x1, .ref (wA B 239)] (some (.int k)) := by
  refine metL_in (by decide +kernel) (Nat.le_of_ble_eq_true rfl) ?_
  intro p e s m below meth c C0 hr hex w ls hl
  have hx := C0.1.1
  have hb := C0.1.2.1
  obtain ⟨⟨r, τ⟩, h1, h2⟩ := bdE hf
  cases r with
  | inl v =>
    obtain ⟨rfl, rfl⟩ := Prod.mk.inj (Option.some.inj (show some ((0 : Int32), setL τ 239 0 (v.toInt64)) = some (k, σ9) from h2))
    refine lv_aload_n hx hb dL_smooth_0 rfl (lv_at hl 2 rfl) ?_
    refine lv_iconst (v := 0) hx hb dL_smooth_1 (by decide) ?_
    refine lv_aload_n hx hb dL_smooth_2 rfl (lv_at hl 0 rfl) ?_
    refine lv_iload_n hx hb dL_smooth_3 rfl (lv_at hl 1 rfl) ?_
    refine cV (As := [.int x1]) (rest := [.int 0, .ref (wA B 239)]) (k := 0) (ci := 9) (T := TX11) (N := 9) C0 w (m_X11_smooth l B _ σ x1 _ _ h1) ky_X11_smooth kv_X11_smooth lk_L_57 rfl (by decide +kernel) ⟨Nat.le_of_ble_eq_true rfl, Nat.le_of_ble_eq_true rfl⟩ ⟨Nat.le_of_ble_eq_true rfl, Nat.le_of_ble_eq_true rfl⟩ rfl (by rfl) (Nat.le_of_ble_eq_true rfl) hl.1 dL_smooth_4 (fun H locs w => ?_)
    refine lv_i2l hx hb dL_smooth_7 rfl ?_
    refine sL C0 w (n := 1) (by decide +kernel) (inbE (by decide)) dL_smooth_8 (fun H locs w => ?_)
    refine lv_goto (tgt := 15) hx hb dL_smooth_9 (by decide) ?_
    refine lv_iconst (v := 0) hx hb dL_smooth_15 (by decide) ?_
    refine W.widen (k := 1) (n := 6) (Nat.le_of_ble_eq_true rfl) (Nat.le_of_ble_eq_true rfl) ?_
    exact eI C0 hr w rfl dL_smooth_16
  | inr E =>
    have h3 : (if E = xIA then some ((1 : Int32), τ) else if E = xIA then some (2, τ) else none) = some (k, σ9) := h2
    by_cases e1 : E = xIA
    · rw [if_pos e1] at h3
      subst e1
      obtain ⟨rfl, rfl⟩ := Prod.mk.inj (Option.some.inj h3)
      refine lv_aload_n hx hb dL_smooth_0 rfl (lv_at hl 2 rfl) ?_
      refine lv_iconst (v := 0) hx hb dL_smooth_1 (by decide) ?_
      refine lv_aload_n hx hb dL_smooth_2 rfl (lv_at hl 0 rfl) ?_
      refine lv_iload_n hx hb dL_smooth_3 rfl (lv_at hl 1 rfl) ?_
      refine cVT (As := [.int x1]) (rest := [.int 0, .ref (wA B 239)]) (k := 0) (ci := 9) (T := TX11) (N := 9) C0 w (t_X11_smooth l hfl B _ σ x1 _ _ h1) ky_X11_smooth kv_X11_smooth lk_L_57 rfl (by decide +kernel) ⟨Nat.le_of_ble_eq_true rfl, Nat.le_of_ble_eq_true rfl⟩ ⟨Nat.le_of_ble_eq_true rfl, Nat.le_of_ble_eq_true rfl⟩ rfl (by rfl) (Nat.le_of_ble_eq_true rfl) hl.1 dL_smooth_4 (fun ce q9 H locs w g1 g2 g3 => ?_)
      refine xCat C0 w (E := xIA) (pre := []) hex (fun z hz => nomatch hz) (fun x a b => by simp [covers, a, b]) (by decide) kl_L_13 (by decide +kernel) g1 g2 g3 ?_
      refine lv_astore_n hx hb dL_smooth_12 rfl hl (by decide) rfl (fun ls hl => ?_)
      refine lv_iconst (v := 1) hx hb dL_smooth_13 (by decide) ?_
      refine W.widen (k := 1) (n := 6) (Nat.le_of_ble_eq_true rfl) (Nat.le_of_ble_eq_true rfl) ?_
      exact eI C0 hr w rfl dL_smooth_14
    · rw [if_neg e1, if_neg e1] at h3
      exact nomatch h3
