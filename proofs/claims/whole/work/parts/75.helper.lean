abbrev rm_L_ray : Room := { frames := 8, cells := 1, slots := 6, locals := 134 }
set_option maxHeartbeats 4000000 in
set_option maxRecDepth 100000 in
theorem m_L_ray (l : Launch) (hfl : l.stackTraces = false) (B : Wb) (sz : Nat) (σ : Mem) (x1 : Int32) (x2 : Int32) (k : Int32) (σ9 : Mem) (hf : hlpI xIO xIA (f_X11_ray x1 x2) σ = some (k, σ9)) : MetL l yL_ray cL_ray 5 [(0, 10, 13, 18), (0, 10, 17, 13)] rm_L_ray B sz σ σ9 [.ref (wA B 0), .int x1, .int x2, .ref (wA B 239)] (some (.int k)) := by
  refine metL_in (by decide +kernel) (Nat.le_of_ble_eq_true rfl) ?_
  intro p e s m below meth c C0 hr hex w ls hl
  have hx := C0.1.1
  have hb := C0.1.2.1
  obtain ⟨⟨r, τ⟩, h1, h2⟩ := bdE hf
  cases r with
  | inl v =>
    obtain ⟨rfl, rfl⟩ := Prod.mk.inj (Option.some.inj (show some ((0 : Int32), setL τ 239 0 (v.toInt64)) = some (k, σ9) from h2))
    refine lv_aload_n hx hb dL_ray_0 rfl (lv_at hl 3 rfl) ?_
    refine lv_iconst (v := 0) hx hb dL_ray_1 (by decide) ?_
    refine lv_aload_n hx hb dL_ray_2 rfl (lv_at hl 0 rfl) ?_
    refine lv_iload_n hx hb dL_ray_3 rfl (lv_at hl 1 rfl) ?_
    refine lv_iload_n hx hb dL_ray_4 rfl (lv_at hl 2 rfl) ?_
    refine cV (As := [.int x1, .int x2]) (rest := [.int 0, .ref (wA B 239)]) (k := 0) (ci := 9) (T := TX11) (N := 9) C0 w (m_X11_ray l B _ σ x1 x2 _ _ h1) ky_X11_ray kv_X11_ray lk_L_60 rfl (by decide +kernel) ⟨Nat.le_of_ble_eq_true rfl, Nat.le_of_ble_eq_true rfl⟩ ⟨Nat.le_of_ble_eq_true rfl, Nat.le_of_ble_eq_true rfl⟩ rfl (by rfl) (Nat.le_of_ble_eq_true rfl) hl.1 dL_ray_5 (fun H locs w => ?_)
    refine lv_i2l hx hb dL_ray_8 rfl ?_
    refine sL C0 w (n := 1) (by decide +kernel) (inbE (by decide)) dL_ray_9 (fun H locs w => ?_)
    refine lv_goto (tgt := 21) hx hb dL_ray_10 (by decide) ?_
    refine lv_iconst (v := 0) hx hb dL_ray_21 (by decide) ?_
    refine W.widen (k := 1) (n := 6) (Nat.le_of_ble_eq_true rfl) (Nat.le_of_ble_eq_true rfl) ?_
    exact eI C0 hr w rfl dL_ray_22
  | inr E =>
    have h3 : (if E = xIO then some ((1 : Int32), τ) else if E = xIA then some (2, τ) else none) = some (k, σ9) := h2
    by_cases e1 : E = xIO
    · rw [if_pos e1] at h3
      subst e1
      obtain ⟨rfl, rfl⟩ := Prod.mk.inj (Option.some.inj h3)
      refine lv_aload_n hx hb dL_ray_0 rfl (lv_at hl 3 rfl) ?_
      refine lv_iconst (v := 0) hx hb dL_ray_1 (by decide) ?_
      refine lv_aload_n hx hb dL_ray_2 rfl (lv_at hl 0 rfl) ?_
      refine lv_iload_n hx hb dL_ray_3 rfl (lv_at hl 1 rfl) ?_
      refine lv_iload_n hx hb dL_ray_4 rfl (lv_at hl 2 rfl) ?_
      refine cVT (As := [.int x1, .int x2]) (rest := [.int 0, .ref (wA B 239)]) (k := 0) (ci := 9) (T := TX11) (N := 9) C0 w (t_X11_ray l hfl B _ σ x1 x2 _ _ h1) ky_X11_ray kv_X11_ray lk_L_60 rfl (by decide +kernel) ⟨Nat.le_of_ble_eq_true rfl, Nat.le_of_ble_eq_true rfl⟩ ⟨Nat.le_of_ble_eq_true rfl, Nat.le_of_ble_eq_true rfl⟩ rfl (by rfl) (Nat.le_of_ble_eq_true rfl) hl.1 dL_ray_5 (fun ce q9 H locs w g1 g2 g3 => ?_)
      refine xCat C0 w (E := xIO) (pre := []) hex (fun z hz => nomatch hz) (fun x a b => by simp [covers, a, b]) (by decide) kl_L_18 (by decide +kernel) g1 g2 g3 ?_
      refine lv_astore hx hb dL_ray_13 hl (by decide) rfl (fun ls hl => ?_)
      refine lv_iconst (v := 1) hx hb dL_ray_15 (by decide) ?_
      refine W.widen (k := 1) (n := 6) (Nat.le_of_ble_eq_true rfl) (Nat.le_of_ble_eq_true rfl) ?_
      exact eI C0 hr w rfl dL_ray_16
    by_cases e2 : E = xIA
    · rw [if_neg e1, if_pos e2] at h3
      subst e2
      obtain ⟨rfl, rfl⟩ := Prod.mk.inj (Option.some.inj h3)
      refine lv_aload_n hx hb dL_ray_0 rfl (lv_at hl 3 rfl) ?_
      refine lv_iconst (v := 0) hx hb dL_ray_1 (by decide) ?_
      refine lv_aload_n hx hb dL_ray_2 rfl (lv_at hl 0 rfl) ?_
      refine lv_iload_n hx hb dL_ray_3 rfl (lv_at hl 1 rfl) ?_
      refine lv_iload_n hx hb dL_ray_4 rfl (lv_at hl 2 rfl) ?_
      refine cVT (As := [.int x1, .int x2]) (rest := [.int 0, .ref (wA B 239)]) (k := 0) (ci := 9) (T := TX11) (N := 9) C0 w (t_X11_ray l hfl B _ σ x1 x2 _ _ h1) ky_X11_ray kv_X11_ray lk_L_60 rfl (by decide +kernel) ⟨Nat.le_of_ble_eq_true rfl, Nat.le_of_ble_eq_true rfl⟩ ⟨Nat.le_of_ble_eq_true rfl, Nat.le_of_ble_eq_true rfl⟩ rfl (by rfl) (Nat.le_of_ble_eq_true rfl) hl.1 dL_ray_5 (fun ce q9 H locs w g1 g2 g3 => ?_)
      refine xCat C0 w (E := xIA) (pre := [(0, 10, 13, 18)]) hex (fun z hz => by rcases List.mem_singleton.mp hz with rfl; exact ⟨by decide, xIO, kl_L_18, by decide +kernel⟩) (fun x a b => by simp [covers, a, b]) (by decide) kl_L_13 (by decide +kernel) g1 g2 g3 ?_
      refine lv_astore hx hb dL_ray_17 hl (by decide) rfl (fun ls hl => ?_)
      refine lv_iconst (v := 2) hx hb dL_ray_19 (by decide) ?_
      refine W.widen (k := 1) (n := 6) (Nat.le_of_ble_eq_true rfl) (Nat.le_of_ble_eq_true rfl) ?_
      exact eI C0 hr w rfl dL_ray_20
    · rw [if_neg e1, if_neg e2] at h3
      exact nomatch h3
abbrev rm_L_time : Room := { frames := 8, cells := 1, slots := 6, locals := 134 }
set_option maxHeartbeats 4000000 in
set_option maxRecDepth 100000 in
theorem m_L_time (l : Launch) (hfl : l.stackTraces = false) (B : Wb) (sz : Nat) (σ : Mem) (x1 : Int32) (x2 : Int32) (k : Int32) (σ9 : Mem) (hf : hlpL xIO xIA (f_X11_time x1 x2) σ = some (k, σ9)) : MetL l yL_time cL_time 5 [(0, 9, 12, 18), (0, 9, 16, 13)] rm_L_time B sz σ σ9 [.ref (wA B 0), .int x1, .int x2, .ref (wA B 239)] (some (.int k)) := by
  refine metL_in (by decide +kernel) (Nat.le_of_ble_eq_true rfl) ?_
  intro p e s m below meth c C0 hr hex w ls hl
  have hx := C0.1.1
  have hb := C0.1.2.1
  obtain ⟨⟨r, τ⟩, h1, h2⟩ := bdE hf
  cases r with
  | inl v =>
    obtain ⟨rfl, rfl⟩ := Prod.mk.inj (Option.some.inj (show some ((0 : Int32), setL τ 239 0 (v)) = some (k, σ9) from h2))
    refine lv_aload_n hx hb dL_time_0 rfl (lv_at hl 3 rfl) ?_
    refine lv_iconst (v := 0) hx hb dL_time_1 (by decide) ?_
    refine lv_aload_n hx hb dL_time_2 rfl (lv_at hl 0 rfl) ?_
    refine lv_iload_n hx hb dL_time_3 rfl (lv_at hl 1 rfl) ?_
    refine lv_iload_n hx hb dL_time_4 rfl (lv_at hl 2 rfl) ?_
    refine cV (As := [.int x1, .int x2]) (rest := [.int 0, .ref (wA B 239)]) (k := 0) (ci := 9) (T := TX11) (N := 9) C0 w (m_X11_time l B _ σ x1 x2 _ _ h1) ky_X11_time kv_X11_time lk_L_63 rfl (by decide +kernel) ⟨Nat.le_of_ble_eq_true rfl, Nat.le_of_ble_eq_true rfl⟩ ⟨Nat.le_of_ble_eq_true rfl, Nat.le_of_ble_eq_true rfl⟩ rfl (by rfl) (Nat.le_of_ble_eq_true rfl) hl.1 dL_time_5 (fun H locs w => ?_)
    refine sL C0 w (n := 1) (by decide +kernel) (inbE (by decide)) dL_time_8 (fun H locs w => ?_)
    refine lv_goto (tgt := 20) hx hb dL_time_9 (by decide) ?_
    refine lv_iconst (v := 0) hx hb dL_time_20 (by decide) ?_
    refine W.widen (k := 1) (n := 6) (Nat.le_of_ble_eq_true rfl) (Nat.le_of_ble_eq_true rfl) ?_
    exact eI C0 hr w rfl dL_time_21
  | inr E =>
    have h3 : (if E = xIO then some ((1 : Int32), τ) else if E = xIA then some (2, τ) else none) = some (k, σ9) := h2
    by_cases e1 : E = xIO
    · rw [if_pos e1] at h3
      subst e1
      obtain ⟨rfl, rfl⟩ := Prod.mk.inj (Option.some.inj h3)
      refine lv_aload_n hx hb dL_time_0 rfl (lv_at hl 3 rfl) ?_
      refine lv_iconst (v := 0) hx hb dL_time_1 (by decide) ?_
      refine lv_aload_n hx hb dL_time_2 rfl (lv_at hl 0 rfl) ?_
      refine lv_iload_n hx hb dL_time_3 rfl (lv_at hl 1 rfl) ?_
      refine lv_iload_n hx hb dL_time_4 rfl (lv_at hl 2 rfl) ?_
      refine cVT (As := [.int x1, .int x2]) (rest := [.int 0, .ref (wA B 239)]) (k := 0) (ci := 9) (T := TX11) (N := 9) C0 w (t_X11_time l hfl B _ σ x1 x2 _ _ h1) ky_X11_time kv_X11_time lk_L_63 rfl (by decide +kernel) ⟨Nat.le_of_ble_eq_true rfl, Nat.le_of_ble_eq_true rfl⟩ ⟨Nat.le_of_ble_eq_true rfl, Nat.le_of_ble_eq_true rfl⟩ rfl (by rfl) (Nat.le_of_ble_eq_true rfl) hl.1 dL_time_5 (fun ce q9 H locs w g1 g2 g3 => ?_)
      refine xCat C0 w (E := xIO) (pre := []) hex (fun z hz => nomatch hz) (fun x a b => by simp [covers, a, b]) (by decide) kl_L_18 (by decide +kernel) g1 g2 g3 ?_
      refine lv_astore hx hb dL_time_12 hl (by decide) rfl (fun ls hl => ?_)
      refine lv_iconst (v := 1) hx hb dL_time_14 (by decide) ?_
      refine W.widen (k := 1) (n := 6) (Nat.le_of_ble_eq_true rfl) (Nat.le_of_ble_eq_true rfl) ?_
      exact eI C0 hr w rfl dL_time_15
    by_cases e2 : E = xIA
    · rw [if_neg e1, if_pos e2] at h3
      subst e2
      obtain ⟨rfl, rfl⟩ := Prod.mk.inj (Option.some.inj h3)
      refine lv_aload_n hx hb dL_time_0 rfl (lv_at hl 3 rfl) ?_
      refine lv_iconst (v := 0) hx hb dL_time_1 (by decide) ?_
      refine lv_aload_n hx hb dL_time_2 rfl (lv_at hl 0 rfl) ?_
      refine lv_iload_n hx hb dL_time_3 rfl (lv_at hl 1 rfl) ?_
      refine lv_iload_n hx hb dL_time_4 rfl (lv_at hl 2 rfl) ?_
      refine cVT (As := [.int x1, .int x2]) (rest := [.int 0, .ref (wA B 239)]) (k := 0) (ci := 9) (T := TX11) (N := 9) C0 w (t_X11_time l hfl B _ σ x1 x2 _ _ h1) ky_X11_time kv_X11_time lk_L_63 rfl (by decide +kernel) ⟨Nat.le_of_ble_eq_true rfl, Nat.le_of_ble_eq_true rfl⟩ ⟨Nat.le_of_ble_eq_true rfl, Nat.le_of_ble_eq_true rfl⟩ rfl (by rfl) (Nat.le_of_ble_eq_true rfl) hl.1 dL_time_5 (fun ce q9 H locs w g1 g2 g3 => ?_)
      refine xCat C0 w (E := xIA) (pre := [(0, 9, 12, 18)]) hex (fun z hz => by rcases List.mem_singleton.mp hz with rfl; exact ⟨by decide, xIO, kl_L_18, by decide +kernel⟩) (fun x a b => by simp [covers, a, b]) (by decide) kl_L_13 (by decide +kernel) g1 g2 g3 ?_
      refine lv_astore hx hb dL_time_16 hl (by decide) rfl (fun ls hl => ?_)
      refine lv_iconst (v := 2) hx hb dL_time_18 (by decide) ?_
      refine W.widen (k := 1) (n := 6) (Nat.le_of_ble_eq_true rfl) (Nat.le_of_ble_eq_true rfl) ?_
      exact eI C0 hr w rfl dL_time_19
    · rw [if_neg e1, if_neg e2] at h3
      exact nomatch h3
abbrev rm_L_residual : Room := { frames := 8, cells := 1, slots := 6, locals := 132 }
set_option maxHeartbeats 4000000 in
set_option maxRecDepth 100000 in
theorem m_L_residual (l : Launch) (hfl : l.stackTraces = false) (B : Wb) (sz : Nat) (σ : Mem) (x1 : Int32) (k : Int32) (σ9 : Mem) (hf : hlpL xIO xIS (f_X11_residual x1) σ = some (k, σ9)) : MetL l yL_residual cL_residual 4 [(0, 8, 11, 18), (0, 8, 14, 33)] rm_L_residual B sz σ σ9 [.ref (wA B 0), .int x1, .ref (wA B 239)] (some (.int k)) := by
  refine metL_in (by decide +kernel) (Nat.le_of_ble_eq_true rfl) ?_
  intro p e s m below meth c C0 hr hex w ls hl
  have hx := C0.1.1
  have hb := C0.1.2.1
  obtain ⟨⟨r, τ⟩, h1, h2⟩ := bdE hf
  cases r with
  | inl v =>
    obtain ⟨rfl, rfl⟩ := Prod.mk.inj (Option.some.inj (show some ((0 : Int32), setL τ 239 0 (v)) = some (k, σ9) from h2))
    refine lv_aload_n hx hb dL_residual_0 rfl (lv_at hl 2 rfl) ?_
    refine lv_iconst (v := 0) hx hb dL_residual_1 (by decide) ?_
    refine lv_aload_n hx hb dL_residual_2 rfl (lv_at hl 0 rfl) ?_
    refine lv_iload_n hx hb dL_residual_3 rfl (lv_at hl 1 rfl) ?_
    refine cV (As := [.int x1]) (rest := [.int 0, .ref (wA B 239)]) (k := 0) (ci := 9) (T := TX11) (N := 9) C0 w (m_X11_residual l B _ σ x1 _ _ h1) ky_X11_residual kv_X11_residual lk_L_67 rfl (by decide +kernel) ⟨Nat.le_of_ble_eq_true rfl, Nat.le_of_ble_eq_true rfl⟩ ⟨Nat.le_of_ble_eq_true rfl, Nat.le_of_ble_eq_true rfl⟩ rfl (by rfl) (Nat.le_of_ble_eq_true rfl) hl.1 dL_residual_4 (fun H locs w => ?_)
    refine sL C0 w (n := 1) (by decide +kernel) (inbE (by decide)) dL_residual_7 (fun H locs w => ?_)
    refine lv_goto (tgt := 17) hx hb dL_residual_8 (by decide) ?_
    refine lv_iconst (v := 0) hx hb dL_residual_17 (by decide) ?_
    refine W.widen (k := 1) (n := 6) (Nat.le_of_ble_eq_true rfl) (Nat.le_of_ble_eq_true rfl) ?_
    exact eI C0 hr w rfl dL_residual_18
  | inr E =>
    have h3 : (if E = xIO then some ((1 : Int32), τ) else if E = xIS then some (2, τ) else none) = some (k, σ9) := h2
    by_cases e1 : E = xIO
    · rw [if_pos e1] at h3
      subst e1
      obtain ⟨rfl, rfl⟩ := Prod.mk.inj (Option.some.inj h3)
      refine lv_aload_n hx hb dL_residual_0 rfl (lv_at hl 2 rfl) ?_
      refine lv_iconst (v := 0) hx hb dL_residual_1 (by decide) ?_
      refine lv_aload_n hx hb dL_residual_2 rfl (lv_at hl 0 rfl) ?_
      refine lv_iload_n hx hb dL_residual_3 rfl (lv_at hl 1 rfl) ?_
      refine cVT (As := [.int x1]) (rest := [.int 0, .ref (wA B 239)]) (k := 0) (ci := 9) (T := TX11) (N := 9) C0 w (t_X11_residual l hfl B _ σ x1 _ _ h1) ky_X11_residual kv_X11_residual lk_L_67 rfl (by decide +kernel) ⟨Nat.le_of_ble_eq_true rfl, Nat.le_of_ble_eq_true rfl⟩ ⟨Nat.le_of_ble_eq_true rfl, Nat.le_of_ble_eq_true rfl⟩ rfl (by rfl) (Nat.le_of_ble_eq_true rfl) hl.1 dL_residual_4 (fun ce q9 H locs w g1 g2 g3 => ?_)
      refine xCat C0 w (E := xIO) (pre := []) hex (fun z hz => nomatch hz) (fun x a b => by simp [covers, a, b]) (by decide) kl_L_18 (by decide +kernel) g1 g2 g3 ?_
      refine lv_astore_n hx hb dL_residual_11 rfl hl (by decide) rfl (fun ls hl => ?_)
      refine lv_iconst (v := 1) hx hb dL_residual_12 (by decide) ?_
      refine W.widen (k := 1) (n := 6) (Nat.le_of_ble_eq_true rfl) (Nat.le_of_ble_eq_true rfl) ?_
      exact eI C0 hr w rfl dL_residual_13
    by_cases e2 : E = xIS
    · rw [if_neg e1, if_pos e2] at h3
      subst e2
      obtain ⟨rfl, rfl⟩ := Prod.mk.inj (Option.some.inj h3)
      refine lv_aload_n hx hb dL_residual_0 rfl (lv_at hl 2 rfl) ?_
      refine lv_iconst (v := 0) hx hb dL_residual_1 (by decide) ?_
      refine lv_aload_n hx hb dL_residual_2 rfl (lv_at hl 0 rfl) ?_
      refine lv_iload_n hx hb dL_residual_3 rfl (lv_at hl 1 rfl) ?_
      refine cVT (As := [.int x1]) (rest := [.int 0, .ref (wA B 239)]) (k := 0) (ci := 9) (T := TX11) (N := 9) C0 w (t_X11_residual l hfl B _ σ x1 _ _ h1) ky_X11_residual kv_X11_residual lk_L_67 rfl (by decide +kernel) ⟨Nat.le_of_ble_eq_true rfl, Nat.le_of_ble_eq_true rfl⟩ ⟨Nat.le_of_ble_eq_true rfl, Nat.le_of_ble_eq_true rfl⟩ rfl (by rfl) (Nat.le_of_ble_eq_true rfl) hl.1 dL_residual_4 (fun ce q9 H locs w g1 g2 g3 => ?_)
      refine xCat C0 w (E := xIS) (pre := [(0, 8, 11, 18)]) hex (fun z hz => by rcases List.mem_singleton.mp hz with rfl; exact ⟨by decide, xIO, kl_L_18, by decide +kernel⟩) (fun x a b => by simp [covers, a, b]) (by decide) kl_L_33 (by decide +kernel) g1 g2 g3 ?_
      refine lv_astore_n hx hb dL_residual_14 rfl hl (by decide) rfl (fun ls hl => ?_)
      refine lv_iconst (v := 2) hx hb dL_residual_15 (by decide) ?_
      refine W.widen (k := 1) (n := 6) (Nat.le_of_ble_eq_true rfl) (Nat.le_of_ble_eq_true rfl) ?_
      exact eI C0 hr w rfl dL_residual_16
    · rw [if_neg e1, if_neg e2] at h3
      exact nomatch h3
abbrev rm_L_wayCell : Room := { frames := 8, cells := 1, slots := 6, locals := 133 }
set_option maxHeartbeats 4000000 in
set_option maxRecDepth 100000 in
theorem m_L_wayCell (l : Launch) (hfl : l.stackTraces = false) (B : Wb) (sz : Nat) (σ : Mem) (x1 : Int32) (x2 : Int32) (k : Int32) (σ9 : Mem) (hf : hlpI xIO xIA (f_X11_wayCell x1 x2) σ = some (k, σ9)) : MetL l yL_wayCell cL_wayCell 5 [(0, 10, 13, 18), (0, 10, 17, 13)] rm_L_wayCell B sz σ σ9 [.ref (wA B 0), .int x1, .int x2, .ref (wA B 239)] (some (.int k)) := by
  refine metL_in (by decide +kernel) (Nat.le_of_ble_eq_true rfl) ?_
  intro p e s m below meth c C0 hr hex w ls hl
  have hx := C0.1.1
  have hb := C0.1.2.1
  obtain ⟨⟨r, τ⟩, h1, h2⟩ := bdE hf
  cases r with
  | inl v =>
    obtain ⟨rfl, rfl⟩ := Prod.mk.inj (Option.some.inj (show some ((0 : Int32), setL τ 239 0 (v.toInt64)) = some (k, σ9) from h2))
    refine lv_aload_n hx hb dL_wayCell_0 rfl (lv_at hl 3 rfl) ?_
    refine lv_iconst (v := 0) hx hb dL_wayCell_1 (by decide) ?_
    refine lv_aload_n hx hb dL_wayCell_2 rfl (lv_at hl 0 rfl) ?_
    refine lv_iload_n hx hb dL_wayCell_3 rfl (lv_at hl 1 rfl) ?_
    refine lv_iload_n hx hb dL_wayCell_4 rfl (lv_at hl 2 rfl) ?_
    refine cV (As := [.int x1, .int x2]) (rest := [.int 0, .ref (wA B 239)]) (k := 0) (ci := 9) (T := TX11) (N := 9) C0 w (m_X11_wayCell l B _ σ x1 x2 _ _ h1) ky_X11_wayCell kv_X11_wayCell lk_L_71 rfl (by decide +kernel) ⟨Nat.le_of_ble_eq_true rfl, Nat.le_of_ble_eq_true rfl⟩ ⟨Nat.le_of_ble_eq_true rfl, Nat.le_of_ble_eq_true rfl⟩ rfl (by rfl) (Nat.le_of_ble_eq_true rfl) hl.1 dL_wayCell_5 (fun H locs w => ?_)
    refine lv_i2l hx hb dL_wayCell_8 rfl ?_
    refine sL C0 w (n := 1) (by decide +kernel) (inbE (by decide)) dL_wayCell_9 (fun H locs w => ?_)
    refine lv_goto (tgt := 21) hx hb dL_wayCell_10 (by decide) ?_
    refine lv_iconst (v := 0) hx hb dL_wayCell_21 (by decide) ?_
    refine W.widen (k := 1) (n := 6) (Nat.le_of_ble_eq_true rfl) (Nat.le_of_ble_eq_true rfl) ?_
    exact eI C0 hr w rfl dL_wayCell_22
  | inr E =>
    have h3 : (if E = xIO then some ((1 : Int32), τ) else if E = xIA then some (2, τ) else none) = some (k, σ9) := h2
    by_cases e1 : E = xIO
    · rw [if_pos e1] at h3
      subst e1
      obtain ⟨rfl, rfl⟩ := Prod.mk.inj (Option.some.inj h3)
      refine lv_aload_n hx hb dL_wayCell_0 rfl (lv_at hl 3 rfl) ?_
      refine lv_iconst (v := 0) hx hb dL_wayCell_1 (by decide) ?_
      refine lv_aload_n hx hb dL_wayCell_2 rfl (lv_at hl 0 rfl) ?_
      refine lv_iload_n hx hb dL_wayCell_3 rfl (lv_at hl 1 rfl) ?_
      refine lv_iload_n hx hb dL_wayCell_4 rfl (lv_at hl 2 rfl) ?_
      refine cVT (As := [.int x1, .int x2]) (rest := [.int 0, .ref (wA B 239)]) (k := 0) (ci := 9) (T := TX11) (N := 9) C0 w (t_X11_wayCell l hfl B _ σ x1 x2 _ _ h1) ky_X11_wayCell kv_X11_wayCell lk_L_71 rfl (by decide +kernel) ⟨Nat.le_of_ble_eq_true rfl, Nat.le_of_ble_eq_true rfl⟩ ⟨Nat.le_of_ble_eq_true rfl, Nat.le_of_ble_eq_true rfl⟩ rfl (by rfl) (Nat.le_of_ble_eq_true rfl) hl.1 dL_wayCell_5 (fun ce q9 H locs w g1 g2 g3 => ?_)
      refine xCat C0 w (E := xIO) (pre := []) hex (fun z hz => nomatch hz) (fun x a b => by simp [covers, a, b]) (by decide) kl_L_18 (by decide +kernel) g1 g2 g3 ?_
      refine lv_astore hx hb dL_wayCell_13 hl (by decide) rfl (fun ls hl => ?_)
      refine lv_iconst (v := 1) hx hb dL_wayCell_15 (by decide) ?_
      refine W.widen (k := 1) (n := 6) (Nat.le_of_ble_eq_true rfl) (Nat.le_of_ble_eq_true rfl) ?_
      exact eI C0 hr w rfl dL_wayCell_16
    by_cases e2 : E = xIA
    · rw [if_neg e1, if_pos e2] at h3
      subst e2
      obtain ⟨rfl, rfl⟩ := Prod.mk.inj (Option.some.inj h3)
      refine lv_aload_n hx hb dL_wayCell_0 rfl (lv_at hl 3 rfl) ?_
      refine lv_iconst (v := 0) hx hb dL_wayCell_1 (by decide) ?_
      refine lv_aload_n hx hb dL_wayCell_2 rfl (lv_at hl 0 rfl) ?_
      refine lv_iload_n hx hb dL_wayCell_3 rfl (lv_at hl 1 rfl) ?_
      refine lv_iload_n hx hb dL_wayCell_4 rfl (lv_at hl 2 rfl) ?_
      refine cVT (As := [.int x1, .int x2]) (rest := [.int 0, .ref (wA B 239)]) (k := 0) (ci := 9) (T := TX11) (N := 9) C0 w (t_X11_wayCell l hfl B _ σ x1 x2 _ _ h1) ky_X11_wayCell kv_X11_wayCell lk_L_71 rfl (by decide +kernel) ⟨Nat.le_of_ble_eq_true rfl, Nat.le_of_ble_eq_true rfl⟩ ⟨Nat.le_of_ble_eq_true rfl, Nat.le_of_ble_eq_true rfl⟩ rfl (by rfl) (Nat.le_of_ble_eq_true rfl) hl.1 dL_wayCell_5 (fun ce q9 H locs w g1 g2 g3 => ?_)
      refine xCat C0 w (E := xIA) (pre := [(0, 10, 13, 18)]) hex (fun z hz => by rcases List.mem_singleton.mp hz with rfl; exact ⟨by decide, xIO, kl_L_18, by decide +kernel⟩) (fun x a b => by simp [covers, a, b]) (by decide) kl_L_13 (by decide +kernel) g1 g2 g3 ?_
      refine lv_astore hx hb dL_wayCell_17 hl (by decide) rfl (fun ls hl => ?_)
      refine lv_iconst (v := 2) hx hb dL_wayCell_19 (by decide) ?_
      refine W.widen (k := 1) (n := 6) (Nat.le_of_ble_eq_true rfl) (Nat.le_of_ble_eq_true rfl) ?_
      exact eI C0 hr w rfl dL_wayCell_20
    · rw [if_neg e1, if_neg e2] at h3
      exact nomatch h3
abbrev rm_L_length : Room := { frames := 8, cells := 1, slots := 6, locals := 133 }
set_option maxHeartbeats 4000000 in
set_option maxRecDepth 100000 in
theorem m_L_length (l : Launch) (hfl : l.stackTraces = false) (B : Wb) (sz : Nat) (σ : Mem) (x1 : Int32) (x2 : Int32) (k : Int32) (σ9 : Mem) (hf : hlpI xIO xIO (f_X11_length x1 x2) σ = some (k, σ9)) : MetL l yL_length cL_length 5 [(0, 10, 13, 18)] rm_L_length B sz σ σ9 [.ref (wA B 0), .int x1, .int x2, .ref (wA B 239)] (some (.int k)) := by
  refine metL_in (by decide +kernel) (Nat.le_of_ble_eq_true rfl) ?_
  intro p e s m below meth c C0 hr hex w ls hl
  have hx := C0.1.1
  have hb := C0.1.2.1
  obtain ⟨⟨r, τ⟩, h1, h2⟩ := bdE hf
  cases r with
  | inl v =>
    obtain ⟨rfl, rfl⟩ := Prod.mk.inj (Option.some.inj (show some ((0 : Int32), setL τ 239 0 (v.toInt64)) = some (k, σ9) from h2))
    refine lv_aload_n hx hb dL_length_0 rfl (lv_at hl 3 rfl) ?_
    refine lv_iconst (v := 0) hx hb dL_length_1 (by decide) ?_
    refine lv_aload_n hx hb dL_length_2 rfl (lv_at hl 0 rfl) ?_
    refine lv_iload_n hx hb dL_length_3 rfl (lv_at hl 1 rfl) ?_
    refine lv_iload_n hx hb dL_length_4 rfl (lv_at hl 2 rfl) ?_
    refine cV (As := [.int x1, .int x2]) (rest := [.int 0, .ref (wA B 239)]) (k := 0) (ci := 9) (T := TX11) (N := 9) C0 w (m_X11_length l B _ σ x1 x2 _ _ h1) ky_X11_length kv_X11_length lk_L_74 rfl (by decide +kernel) ⟨Nat.le_of_ble_eq_true rfl, Nat.le_of_ble_eq_true rfl⟩ ⟨Nat.le_of_ble_eq_true rfl, Nat.le_of_ble_eq_true rfl⟩ rfl (by rfl) (Nat.le_of_ble_eq_true rfl) hl.1 dL_length_5 (fun H locs w => ?_)
    refine lv_i2l hx hb dL_length_8 rfl ?_
    refine sL C0 w (n := 1) (by decide +kernel) (inbE (by decide)) dL_length_9 (fun H locs w => ?_)
    refine lv_goto (tgt := 17) hx hb dL_length_10 (by decide) ?_
    refine lv_iconst (v := 0) hx hb dL_length_17 (by decide) ?_
    refine W.widen (k := 1) (n := 6) (Nat.le_of_ble_eq_true rfl) (Nat.le_of_ble_eq_true rfl) ?_
    exact eI C0 hr w rfl dL_length_18
  | inr E =>
    have h3 : (if E = xIO then some ((1 : Int32), τ) else if E = xIO then some (2, τ) else none) = some (k, σ9) := h2
    by_cases e1 : E = xIO
    · rw [if_pos e1] at h3
      subst e1
      obtain ⟨rfl, rfl⟩ := Prod.mk.inj (Option.some.inj h3)
      refine lv_aload_n hx hb dL_length_0 rfl (lv_at hl 3 rfl) ?_
      refine lv_iconst (v := 0) hx hb dL_length_1 (by decide) ?_
      refine lv_aload_n hx hb dL_length_2 rfl (lv_at hl 0 rfl) ?_
      refine lv_iload_n hx hb dL_length_3 rfl (lv_at hl 1 rfl) ?_
      refine lv_iload_n hx hb dL_length_4 rfl (lv_at hl 2 rfl) ?_
      refine cVT (As := [.int x1, .int x2]) (rest := [.int 0, .ref (wA B 239)]) (k := 0) (ci := 9) (T := TX11) (N := 9) C0 w (t_X11_length l hfl B _ σ x1 x2 _ _ h1) ky_X11_length kv_X11_length lk_L_74 rfl (by decide +kernel) ⟨Nat.le_of_ble_eq_true rfl, Nat.le_of_ble_eq_true rfl⟩ ⟨Nat.le_of_ble_eq_true rfl, Nat.le_of_ble_eq_true rfl⟩ rfl (by rfl) (Nat.le_of_ble_eq_true rfl) hl.1 dL_length_5 (fun ce q9 H locs w g1 g2 g3 => ?_)
      refine xCat C0 w (E := xIO) (pre := []) hex (fun z hz => nomatch hz) (fun x a b => by simp [covers, a, b]) (by decide) kl_L_18 (by decide +kernel) g1 g2 g3 ?_
      refine lv_astore hx hb dL_length_13 hl (by decide) rfl (fun ls hl => ?_)
      refine lv_iconst (v := 1) hx hb dL_length_15 (by decide) ?_
      refine W.widen (k := 1) (n := 6) (Nat.le_of_ble_eq_true rfl) (Nat.le_of_ble_eq_true rfl) ?_
      exact eI C0 hr w rfl dL_length_16
    · rw [if_neg e1, if_neg e1] at h3
      exact nomatch h3
abbrev rm_L_least : Room := { frames := 8, cells := 1, slots := 6, locals := 134 }
set_option maxHeartbeats 4000000 in
set_option maxRecDepth 100000 in
theorem m_L_least (l : Launch) (hfl : l.stackTraces = false) (B : Wb) (sz : Nat) (σ : Mem) (x1 : Int32) (x2 : Int32) (x3 : Int32) (k : Int32) (σ9 : Mem) (hf : hlpL xIO xIO (f_X11_least x1 x2 x3) σ = some (k, σ9)) : MetL l yL_least cL_least 6 [(0, 11, 14, 18)] rm_L_least B sz σ σ9 [.ref (wA B 0), .int x1, .int x2, .int x3, .ref (wA B 239)] (some (.int k)) := by
  refine metL_in (by decide +kernel) (Nat.le_of_ble_eq_true rfl) ?_
  intro p e s m below meth c C0 hr hex w ls hl
  have hx := C0.1.1
  have hb := C0.1.2.1
  obtain ⟨⟨r, τ⟩, h1, h2⟩ := bdE hf
  cases r with
  | inl v =>
    obtain ⟨rfl, rfl⟩ := Prod.mk.inj (Option.some.inj (show some ((0 : Int32), setL τ 239 0 (v)) = some (k, σ9) from h2))
    refine lv_aload hx hb dL_least_0 (lv_at hl 4 rfl) ?_
    refine lv_iconst (v := 0) hx hb dL_least_2 (by decide) ?_
    refine lv_aload_n hx hb dL_least_3 rfl (lv_at hl 0 rfl) ?_
    refine lv_iload_n hx hb dL_least_4 rfl (lv_at hl 1 rfl) ?_
    refine lv_iload_n hx hb dL_least_5 rfl (lv_at hl 2 rfl) ?_
    refine lv_iload_n hx hb dL_least_6 rfl (lv_at hl 3 rfl) ?_
    refine cV (As := [.int x1, .int x2, .int x3]) (rest := [.int 0, .ref (wA B 239)]) (k := 0) (ci := 9) (T := TX11) (N := 9) C0 w (m_X11_least l B _ σ x1 x2 x3 _ _ h1) ky_X11_least kv_X11_least lk_L_77 rfl (by decide +kernel) ⟨Nat.le_of_ble_eq_true rfl, Nat.le_of_ble_eq_true rfl⟩ ⟨Nat.le_of_ble_eq_true rfl, Nat.le_of_ble_eq_true rfl⟩ rfl (by rfl) (Nat.le_of_ble_eq_true rfl) hl.1 dL_least_7 (fun H locs w => ?_)
    refine sL C0 w (n := 1) (by decide +kernel) (inbE (by decide)) dL_least_10 (fun H locs w => ?_)
    refine lv_goto (tgt := 18) hx hb dL_least_11 (by decide) ?_
    refine lv_iconst (v := 0) hx hb dL_least_18 (by decide) ?_
    refine W.widen (k := 1) (n := 6) (Nat.le_of_ble_eq_true rfl) (Nat.le_of_ble_eq_true rfl) ?_
    exact eI C0 hr w rfl dL_least_19
  | inr E =>
    have h3 : (if E = xIO then some ((1 : Int32), τ) else if E = xIO then some (2, τ) else none) = some (k, σ9) := h2
    by_cases e1 : E = xIO
    · rw [if_pos e1] at h3
      subst e1
      obtain ⟨rfl, rfl⟩ := Prod.mk.inj (Option.some.inj h3)
      refine lv_aload hx hb dL_least_0 (lv_at hl 4 rfl) ?_
      refine lv_iconst (v := 0) hx hb dL_least_2 (by decide) ?_
      refine lv_aload_n hx hb dL_least_3 rfl (lv_at hl 0 rfl) ?_
      refine lv_iload_n hx hb dL_least_4 rfl (lv_at hl 1 rfl) ?_
      refine lv_iload_n hx hb dL_least_5 rfl (lv_at hl 2 rfl) ?_
      refine lv_iload_n hx hb dL_least_6 rfl (lv_at hl 3 rfl) ?_
      refine cVT (As := [.int x1, .int x2, .int x3]) (rest := [.int 0, .ref (wA B 239)]) (k := 0) (ci := 9) (T := TX11) (N := 9) C0 w (t_X11_least l hfl B _ σ x1 x2 x3 _ _ h1) ky_X11_least kv_X11_least lk_L_77 rfl (by decide +kernel) ⟨Nat.le_of_ble_eq_true rfl, Nat.le_of_ble_eq_true rfl⟩ ⟨Nat.le_of_ble_eq_true rfl, Nat.le_of_ble_eq_true rfl⟩ rfl (by rfl) (Nat.le_of_ble_eq_true rfl) hl.1 dL_least_7 (fun ce q9 H locs w g1 g2 g3 => ?_)
      refine xCat C0 w (E := xIO) (pre := []) hex (fun z hz => nomatch hz) (fun x a b => by simp [covers, a, b]) (by decide) kl_L_18 (by decide +kernel) g1 g2 g3 ?_
      refine lv_astore hx hb dL_least_14 hl (by decide) rfl (fun ls hl => ?_)
      refine lv_iconst (v := 1) hx hb dL_least_16 (by decide) ?_
      refine W.widen (k := 1) (n := 6) (Nat.le_of_ble_eq_true rfl) (Nat.le_of_ble_eq_true rfl) ?_
      exact eI C0 hr w rfl dL_least_17
    · rw [if_neg e1, if_neg e1] at h3
      exact nomatch h3
abbrev rm_L_cell : Room := { frames := 8, cells := 1, slots := 6, locals := 134 }
set_option maxHeartbeats 4000000 in
set_option maxRecDepth 100000 in
theorem m_L_cell (l : Launch) (hfl : l.stackTraces = false) (B : Wb) (sz : Nat) (σ : Mem) (x1 : Int32) (x2 : Int32) (k : Int32) (σ9 : Mem) (hf : hlpI xIO xIA (f_X11_cell x1 x2) σ = some (k, σ9)) : MetL l yL_cell cL_cell 5 [(0, 10, 13, 18), (0, 10, 17, 13)] rm_L_cell B sz σ σ9 [.ref (wA B 0), .int x1, .int x2, .ref (wA B 239)] (some (.int k)) := by
  refine metL_in (by decide +kernel) (Nat.le_of_ble_eq_true rfl) ?_
  intro p e s m below meth c C0 hr hex w ls hl
  have hx := C0.1.1
  have hb := C0.1.2.1
  obtain ⟨⟨r, τ⟩, h1, h2⟩ := bdE hf
  cases r with
  | inl v =>
    obtain ⟨rfl, rfl⟩ := Prod.mk.inj (Option.some.inj (show some ((0 : Int32), setL τ 239 0 (v.toInt64)) = some (k, σ9) from h2))
    refine lv_aload_n hx hb dL_cell_0 rfl (lv_at hl 3 rfl) ?_
    refine lv_iconst (v := 0) hx hb dL_cell_1 (by decide) ?_
    refine lv_aload_n hx hb dL_cell_2 rfl (lv_at hl 0 rfl) ?_
    refine lv_iload_n hx hb dL_cell_3 rfl (lv_at hl 1 rfl) ?_
    refine lv_iload_n hx hb dL_cell_4 rfl (lv_at hl 2 rfl) ?_
    refine cV (As := [.int x1, .int x2]) (rest := [.int 0, .ref (wA B 239)]) (k := 0) (ci := 9) (T := TX11) (N := 9) C0 w (m_X11_cell l B _ σ x1 x2 _ _ h1) ky_X11_cell kv_X11_cell lk_L_81 rfl (by decide +kernel) ⟨Nat.le_of_ble_eq_true rfl, Nat.le_of_ble_eq_true rfl⟩ ⟨Nat.le_of_ble_eq_true rfl, Nat.le_of_ble_eq_true rfl⟩ rfl (by rfl) (Nat.le_of_ble_eq_true rfl) hl.1 dL_cell_5 (fun H locs w => ?_)
    refine lv_i2l hx hb dL_cell_8 rfl ?_
    refine sL C0 w (n := 1) (by decide +kernel) (inbE (by decide)) dL_cell_9 (fun H locs w => ?_)
    refine lv_goto (tgt := 21) hx hb dL_cell_10 (by decide) ?_
    refine lv_iconst (v := 0) hx hb dL_cell_21 (by decide) ?_
    refine W.widen (k := 1) (n := 6) (Nat.le_of_ble_eq_true rfl) (Nat.le_of_ble_eq_true rfl) ?_
    exact eI C0 hr w rfl dL_cell_22
  | inr E =>
    have h3 : (if E = xIO then some ((1 : Int32), τ) else if E = xIA then some (2, τ) else none) = some (k, σ9) := h2
    by_cases e1 : E = xIO
    · rw [if_pos e1] at h3
      subst e1
      obtain ⟨rfl, rfl⟩ := Prod.mk.inj (Option.some.inj h3)
      refine lv_aload_n hx hb dL_cell_0 rfl (lv_at hl 3 rfl) ?_
      refine lv_iconst (v := 0) hx hb dL_cell_1 (by decide) ?_
      refine lv_aload_n hx hb dL_cell_2 rfl (lv_at hl 0 rfl) ?_
      refine lv_iload_n hx hb dL_cell_3 rfl (lv_at hl 1 rfl) ?_
      refine lv_iload_n hx hb dL_cell_4 rfl (lv_at hl 2 rfl) ?_
      refine cVT (As := [.int x1, .int x2]) (rest := [.int 0, .ref (wA B 239)]) (k := 0) (ci := 9) (T := TX11) (N := 9) C0 w (t_X11_cell l hfl B _ σ x1 x2 _ _ h1) ky_X11_cell kv_X11_cell lk_L_81 rfl (by decide +kernel) ⟨Nat.le_of_ble_eq_true rfl, Nat.le_of_ble_eq_true rfl⟩ ⟨Nat.le_of_ble_eq_true rfl, Nat.le_of_ble_eq_true rfl⟩ rfl (by rfl) (Nat.le_of_ble_eq_true rfl) hl.1 dL_cell_5 (fun ce q9 H locs w g1 g2 g3 => ?_)
      refine xCat C0 w (E := xIO) (pre := []) hex (fun z hz => nomatch hz) (fun x a b => by simp [covers, a, b]) (by decide) kl_L_18 (by decide +kernel) g1 g2 g3 ?_
      refine lv_astore hx hb dL_cell_13 hl (by decide) rfl (fun ls hl => ?_)
      refine lv_iconst (v := 1) hx hb dL_cell_15 (by decide) ?_
      refine W.widen (k := 1) (n := 6) (Nat.le_of_ble_eq_true rfl) (Nat.le_of_ble_eq_true rfl) ?_
      exact eI C0 hr w rfl dL_cell_16
    by_cases e2 : E = xIA
    · rw [if_neg e1, if_pos e2] at h3
      subst e2
      obtain ⟨rfl, rfl⟩ := Prod.mk.inj (Option.some.inj h3)
      refine lv_aload_n hx hb dL_cell_0 rfl (lv_at hl 3 rfl) ?_
      refine lv_iconst (v := 0) hx hb dL_cell_1 (by decide) ?_
      refine lv_aload_n hx hb dL_cell_2 rfl (lv_at hl 0 rfl) ?_
      refine lv_iload_n hx hb dL_cell_3 rfl (lv_at hl 1 rfl) ?_
      refine lv_iload_n hx hb dL_cell_4 rfl (lv_at hl 2 rfl) ?_
      refine cVT (As := [.int x1, .int x2]) (rest := [.int 0, .ref (wA B 239)]) (k := 0) (ci := 9) (T := TX11) (N := 9) C0 w (t_X11_cell l hfl B _ σ x1 x2 _ _ h1) ky_X11_cell kv_X11_cell lk_L_81 rfl (by decide +kernel) ⟨Nat.le_of_ble_eq_true rfl, Nat.le_of_ble_eq_true rfl⟩ ⟨Nat.le_of_ble_eq_true rfl, Nat.le_of_ble_eq_true rfl⟩ rfl (by rfl) (Nat.le_of_ble_eq_true rfl) hl.1 dL_cell_5 (fun ce q9 H locs w g1 g2 g3 => ?_)
      refine xCat C0 w (E := xIA) (pre := [(0, 10, 13, 18)]) hex (fun z hz => by rcases List.mem_singleton.mp hz with rfl; exact ⟨by decide, xIO, kl_L_18, by decide +kernel⟩) (fun x a b => by simp [covers, a, b]) (by decide) kl_L_13 (by decide +kernel) g1 g2 g3 ?_
      refine lv_astore hx hb dL_cell_17 hl (by decide) rfl (fun ls hl => ?_)
      refine lv_iconst (v := 2) hx hb dL_cell_19 (by decide) ?_
      refine W.widen (k := 1) (n := 6) (Nat.le_of_ble_eq_true rfl) (Nat.le_of_ble_eq_true rfl) ?_
      exact eI C0 hr w rfl dL_cell_20
    · rw [if_neg e1, if_neg e2] at h3
      exact nomatch h3
abbrev rm_L_section : Room := { frames := 8, cells := 1, slots := 6, locals := 145 }
set_option maxHeartbeats 4000000 in
set_option maxRecDepth 100000 in
theorem m_L_section (l : Launch) (hfl : l.stackTraces = false) (B : Wb) (sz : Nat) (σ : Mem) (x1 : Int32) (k : Int32) (σ9 : Mem) (hf : hlpI xIA xIA (f_X11_section x1) σ = some (k, σ9)) : MetL l yL_section cL_section 4 [(0, 9, 12, 13)] rm_L_section B sz σ σ9 [.ref (wA B 0), .int x1, .ref (wA B 239)] (some (.int k)) := by
  refine metL_in (by decide +kernel) (Nat.le_of_ble_eq_true rfl) ?_
  intro p e s m below meth c C0 hr hex w ls hl
  have hx := C0.1.1
  have hb := C0.1.2.1
  obtain ⟨⟨r, τ⟩, h1, h2⟩ := bdE hf
  cases r with
  | inl v =>
    obtain ⟨rfl, rfl⟩ := Prod.mk.inj (Option.some.inj (show some ((0 : Int32), setL τ 239 0 (v.toInt64)) = some (k, σ9) from h2))
    refine lv_aload_n hx hb dL_section_0 rfl (lv_at hl 2 rfl) ?_
    refine lv_iconst (v := 0) hx hb dL_section_1 (by decide) ?_
    refine lv_aload_n hx hb dL_section_2 rfl (lv_at hl 0 rfl) ?_
    refine lv_iload_n hx hb dL_section_3 rfl (lv_at hl 1 rfl) ?_
    refine cV (As := [.int x1]) (rest := [.int 0, .ref (wA B 239)]) (k := 0) (ci := 9) (T := TX11) (N := 9) C0 w (m_X11_section l B _ σ x1 _ _ h1) ky_X11_section kv_X11_section lk_L_84 rfl (by decide +kernel) ⟨Nat.le_of_ble_eq_true rfl, Nat.le_of_ble_eq_true rfl⟩ ⟨Nat.le_of_ble_eq_true rfl, Nat.le_of_ble_eq_true rfl⟩ rfl (by rfl) (Nat.le_of_ble_eq_true rfl) hl.1 dL_section_4 (fun H locs w => ?_)
    refine lv_i2l hx hb dL_section_7 rfl ?_
    refine sL C0 w (n := 1) (by decide +kernel) (inbE (by decide)) dL_section_8 (fun H locs w => ?_)
    refine lv_goto (tgt := 15) hx hb dL_section_9 (by decide) ?_
    refine lv_iconst (v := 0) hx hb dL_section_15 (by decide) ?_
    refine W.widen (k := 1) (n := 6) (Nat.le_of_ble_eq_true rfl) (Nat.le_of_ble_eq_true rfl) ?_
    exact eI C0 hr w rfl dL_section_16
  | inr E =>
    have h3 : (if E = xIA then some ((1 : Int32), τ) else if E = xIA then some (2, τ) else none) = some (k, σ9) := h2
    by_cases e1 : E = xIA
    · rw [if_pos e1] at h3
      subst e1
      obtain ⟨rfl, rfl⟩ := Prod.mk.inj (Option.some.inj h3)
      refine lv_aload_n hx hb dL_section_0 rfl (lv_at hl 2 rfl) ?_
      refine lv_iconst (v := 0) hx hb dL_section_1 (by decide) ?_
      refine lv_aload_n hx hb dL_section_2 rfl (lv_at hl 0 rfl) ?_
      refine lv_iload_n hx hb dL_section_3 rfl (lv_at hl 1 rfl) ?_
      refine cVT (As := [.int x1]) (rest := [.int 0, .ref (wA B 239)]) (k := 0) (ci := 9) (T := TX11) (N := 9) C0 w (t_X11_section l hfl B _ σ x1 _ _ h1) ky_X11_section kv_X11_section lk_L_84 rfl (by decide +kernel) ⟨Nat.le_of_ble_eq_true rfl, Nat.le_of_ble_eq_true rfl⟩ ⟨Nat.le_of_ble_eq_true rfl, Nat.le_of_ble_eq_true rfl⟩ rfl (by rfl) (Nat.le_of_ble_eq_true rfl) hl.1 dL_section_4 (fun ce q9 H locs w g1 g2 g3 => ?_)
      refine xCat C0 w (E := xIA) (pre := []) hex (fun z hz => nomatch hz) (fun x a b => by simp [covers, a, b]) (by decide) kl_L_13 (by decide +kernel) g1 g2 g3 ?_
      refine lv_astore_n hx hb dL_section_12 rfl hl (by decide) rfl (fun ls hl => ?_)
      refine lv_iconst (v := 1) hx hb dL_section_13 (by decide) ?_
      refine W.widen (k := 1) (n := 6) (Nat.le_of_ble_eq_true rfl) (Nat.le_of_ble_eq_true rfl) ?_
      exact eI C0 hr w rfl dL_section_14
    · rw [if_neg e1, if_neg e1] at h3
      exact nomatch h3
abbrev rm_L_fit : Room := { frames := 8, cells := 1, slots := 6, locals := 147 }
set_option maxHeartbeats 4000000 in
set_option maxRecDepth 100000 in
theorem m_L_fit (l : Launch) (hfl : l.stackTraces = false) (B : Wb) (sz : Nat) (σ : Mem) (x1 : Int32) (k : Int32) (σ9 : Mem) (hf : hlpL xIA xIA (f_X11_fit x1) σ = some (k, σ9)) : MetL l yL_fit cL_fit 4 [(0, 8, 11, 13)] rm_L_fit B sz σ σ9 [.ref (wA B 0), .int x1, .ref (wA B 239)] (some (.int k)) := by
  refine metL_in (by decide +kernel) (Nat.le_of_ble_eq_true rfl) ?_
  intro p e s m below meth c C0 hr hex w ls hl
  have hx := C0.1.1
  have hb := C0.1.2.1
  obtain ⟨⟨r, τ⟩, h1, h2⟩ := bdE hf
  cases r with
  | inl v =>
    obtain ⟨rfl, rfl⟩ := Prod.mk.inj (Option.some.inj (show some ((0 : Int32), setL τ 239 0 (v)) = some (k, σ9) from h2))
    refine lv_aload_n hx hb dL_fit_0 rfl (lv_at hl 2 rfl) ?_
    refine lv_iconst (v := 0) hx hb dL_fit_1 (by decide) ?_
    refine lv_aload_n hx hb dL_fit_2 rfl (lv_at hl 0 rfl) ?_
    refine lv_iload_n hx hb dL_fit_3 rfl (lv_at hl 1 rfl) ?_
    refine cV (As := [.int x1]) (rest := [.int 0, .ref (wA B 239)]) (k := 0) (ci := 9) (T := TX11) (N := 9) C0 w (m_X11_fit l B _ σ x1 _ _ h1) ky_X11_fit kv_X11_fit lk_L_87 rfl (by decide +kernel) ⟨Nat.le_of_ble_eq_true rfl, Nat.le_of_ble_eq_true rfl⟩ ⟨Nat.le_of_ble_eq_true rfl, Nat.le_of_ble_eq_true rfl⟩ rfl (by rfl) (Nat.le_of_ble_eq_true rfl) hl.1 dL_fit_4 (fun H locs w => ?_)
    refine sL C0 w (n := 1) (by decide +kernel) (inbE (by decide)) dL_fit_7 (fun H locs w => ?_)
    refine lv_goto (tgt := 14) hx hb dL_fit_8 (by decide) ?_
    refine lv_iconst (v := 0) hx hb dL_fit_14 (by decide) ?_
    refine W.widen (k := 1) (n := 6) (Nat.le_of_ble_eq_true rfl) (Nat.le_of_ble_eq_true rfl) ?_
    exact eI C0 hr w rfl dL_fit_15
  | inr E =>
    have h3 : (if E = xIA then some ((1 : Int32), τ) else if E = xIA then some (2, τ) else none) = some (k, σ9) := h2
    by_cases e1 : E = xIA
    · rw [if_pos e1] at h3
      subst e1
      obtain ⟨rfl, rfl⟩ := Prod.mk.inj (Option.some.inj h3)
      refine lv_aload_n hx hb dL_fit_0 rfl (lv_at hl 2 rfl) ?_
      refine lv_iconst (v := 0) hx hb dL_fit_1 (by decide) ?_
      refine lv_aload_n hx hb dL_fit_2 rfl (lv_at hl 0 rfl) ?_
      refine lv_iload_n hx hb dL_fit_3 rfl (lv_at hl 1 rfl) ?_
      refine cVT (As := [.int x1]) (rest := [.int 0, .ref (wA B 239)]) (k := 0) (ci := 9) (T := TX11) (N := 9) C0 w (t_X11_fit l hfl B _ σ x1 _ _ h1) ky_X11_fit kv_X11_fit lk_L_87 rfl (by decide +kernel) ⟨Nat.le_of_ble_eq_true rfl, Nat.le_of_ble_eq_true rfl⟩ ⟨Nat.le_of_ble_eq_true rfl, Nat.le_of_ble_eq_true rfl⟩ rfl (by rfl) (Nat.le_of_ble_eq_true rfl) hl.1 dL_fit_4 (fun ce q9 H locs w g1 g2 g3 => ?_)
      refine xCat C0 w (E := xIA) (pre := []) hex (fun z hz => nomatch hz) (fun x a b => by simp [covers, a, b]) (by decide) kl_L_13 (by decide +kernel) g1 g2 g3 ?_
      refine lv_astore_n hx hb dL_fit_11 rfl hl (by decide) rfl (fun ls hl => ?_)
      refine lv_iconst (v := 1) hx hb dL_fit_12 (by decide) ?_
      refine W.widen (k := 1) (n := 6) (Nat.le_of_ble_eq_true rfl) (Nat.le_of_ble_eq_true rfl) ?_
      exact eI C0 hr w rfl dL_fit_13
    · rw [if_neg e1, if_neg e1] at h3
      exact nomatch h3
abbrev rm_L_whatIf : Room := { frames := 8, cells := 1, slots := 6, locals := 135 }
set_option maxHeartbeats 4000000 in
set_option maxRecDepth 100000 in
theorem m_L_whatIf (l : Launch) (hfl : l.stackTraces = false) (B : Wb) (sz : Nat) (σ : Mem) (x1 : Int32) (x2 : Int32) (x3 : Int32) (k : Int32) (σ9 : Mem) (hf : hlpL xIO xIA (f_X11_whatIf x1 x2 x3) σ = some (k, σ9)) : MetL l yL_whatIf cL_whatIf 6 [(0, 11, 14, 18), (0, 11, 18, 13)] rm_L_whatIf B sz σ σ9 [.ref (wA B 0), .int x1, .int x2, .int x3, .ref (wA B 239)] (some (.int k)) := by
  refine metL_in (by decide +kernel) (Nat.le_of_ble_eq_true rfl) ?_
  intro p e s m below meth c C0 hr hex w ls hl
  have hx := C0.1.1
  have hb := C0.1.2.1
  obtain ⟨⟨r, τ⟩, h1, h2⟩ := bdE hf
  cases r with
  | inl v =>
    obtain ⟨rfl, rfl⟩ := Prod.mk.inj (Option.some.inj (show some ((0 : Int32), setL τ 239 0 (v)) = some (k, σ9) from h2))
    refine lv_aload hx hb dL_whatIf_0 (lv_at hl 4 rfl) ?_
    refine lv_iconst (v := 0) hx hb dL_whatIf_2 (by decide) ?_
    refine lv_aload_n hx hb dL_whatIf_3 rfl (lv_at hl 0 rfl) ?_
    refine lv_iload_n hx hb dL_whatIf_4 rfl (lv_at hl 1 rfl) ?_
    refine lv_iload_n hx hb dL_whatIf_5 rfl (lv_at hl 2 rfl) ?_
    refine lv_iload_n hx hb dL_whatIf_6 rfl (lv_at hl 3 rfl) ?_
    refine cV (As := [.int x1, .int x2, .int x3]) (rest := [.int 0, .ref (wA B 239)]) (k := 0) (ci := 9) (T := TX11) (N := 9) C0 w (m_X11_whatIf l B _ σ x1 x2 x3 _ _ h1) ky_X11_whatIf kv_X11_whatIf lk_L_90 rfl (by decide +kernel) ⟨Nat.le_of_ble_eq_true rfl, Nat.le_of_ble_eq_true rfl⟩ ⟨Nat.le_of_ble_eq_true rfl, Nat.le_of_ble_eq_true rfl⟩ rfl (by rfl) (Nat.le_of_ble_eq_true rfl) hl.1 dL_whatIf_7 (fun H locs w => ?_)
    refine sL C0 w (n := 1) (by decide +kernel) (inbE (by decide)) dL_whatIf_10 (fun H locs w => ?_)
    refine lv_goto (tgt := 22) hx hb dL_whatIf_11 (by decide) ?_
    refine lv_iconst (v := 0) hx hb dL_whatIf_22 (by decide) ?_
    refine W.widen (k := 1) (n := 6) (Nat.le_of_ble_eq_true rfl) (Nat.le_of_ble_eq_true rfl) ?_
    exact eI C0 hr w rfl dL_whatIf_23
  | inr E =>
    have h3 : (if E = xIO then some ((1 : Int32), τ) else if E = xIA then some (2, τ) else none) = some (k, σ9) := h2
    by_cases e1 : E = xIO
    · rw [if_pos e1] at h3
      subst e1
      obtain ⟨rfl, rfl⟩ := Prod.mk.inj (Option.some.inj h3)
      refine lv_aload hx hb dL_whatIf_0 (lv_at hl 4 rfl) ?_
      refine lv_iconst (v := 0) hx hb dL_whatIf_2 (by decide) ?_
      refine lv_aload_n hx hb dL_whatIf_3 rfl (lv_at hl 0 rfl) ?_
      refine lv_iload_n hx hb dL_whatIf_4 rfl (lv_at hl 1 rfl) ?_
      refine lv_iload_n hx hb dL_whatIf_5 rfl (lv_at hl 2 rfl) ?_
      refine lv_iload_n hx hb dL_whatIf_6 rfl (lv_at hl 3 rfl) ?_
      refine cVT (As := [.int x1, .int x2, .int x3]) (rest := [.int 0, .ref (wA B 239)]) (k := 0) (ci := 9) (T := TX11) (N := 9) C0 w (t_X11_whatIf l hfl B _ σ x1 x2 x3 _ _ h1) ky_X11_whatIf kv_X11_whatIf lk_L_90 rfl (by decide +kernel) ⟨Nat.le_of_ble_eq_true rfl, Nat.le_of_ble_eq_true rfl⟩ ⟨Nat.le_of_ble_eq_true rfl, Nat.le_of_ble_eq_true rfl⟩ rfl (by rfl) (Nat.le_of_ble_eq_true rfl) hl.1 dL_whatIf_7 (fun ce q9 H locs w g1 g2 g3 => ?_)
      refine xCat C0 w (E := xIO) (pre := []) hex (fun z hz => nomatch hz) (fun x a b => by simp [covers, a, b]) (by decide) kl_L_18 (by decide +kernel) g1 g2 g3 ?_
      refine lv_astore hx hb dL_whatIf_14 hl (by decide) rfl (fun ls hl => ?_)
      refine lv_iconst (v := 1) hx hb dL_whatIf_16 (by decide) ?_
      refine W.widen (k := 1) (n := 6) (Nat.le_of_ble_eq_true rfl) (Nat.le_of_ble_eq_true rfl) ?_
      exact eI C0 hr w rfl dL_whatIf_17
    by_cases e2 : E = xIA
    · rw [if_neg e1, if_pos e2] at h3
      subst e2
      obtain ⟨rfl, rfl⟩ := Prod.mk.inj (Option.some.inj h3)
      refine lv_aload hx hb dL_whatIf_0 (lv_at hl 4 rfl) ?_
      refine lv_iconst (v := 0) hx hb dL_whatIf_2 (by decide) ?_
      refine lv_aload_n hx hb dL_whatIf_3 rfl (lv_at hl 0 rfl) ?_
      refine lv_iload_n hx hb dL_whatIf_4 rfl (lv_at hl 1 rfl) ?_
      refine lv_iload_n hx hb dL_whatIf_5 rfl (lv_at hl 2 rfl) ?_
      refine lv_iload_n hx hb dL_whatIf_6 rfl (lv_at hl 3 rfl) ?_
      refine cVT (As := [.int x1, .int x2, .int x3]) (rest := [.int 0, .ref (wA B 239)]) (k := 0) (ci := 9) (T := TX11) (N := 9) C0 w (t_X11_whatIf l hfl B _ σ x1 x2 x3 _ _ h1) ky_X11_whatIf kv_X11_whatIf lk_L_90 rfl (by decide +kernel) ⟨Nat.le_of_ble_eq_true rfl, Nat.le_of_ble_eq_true rfl⟩ ⟨Nat.le_of_ble_eq_true rfl, Nat.le_of_ble_eq_true rfl⟩ rfl (by rfl) (Nat.le_of_ble_eq_true rfl) hl.1 dL_whatIf_7 (fun ce q9 H locs w g1 g2 g3 => ?_)
      refine xCat C0 w (E := xIA) (pre := [(0, 11, 14, 18)]) hex (fun z hz => by rcases List.mem_singleton.mp hz with rfl; exact ⟨by decide, xIO, kl_L_18, by decide +kernel⟩) (fun x a b => by simp [covers, a, b]) (by decide) kl_L_13 (by decide +kernel) g1 g2 g3 ?_
      refine lv_astore hx hb dL_whatIf_18 hl (by decide) rfl (fun ls hl => ?_)
      refine lv_iconst (v := 2) hx hb dL_whatIf_20 (by decide) ?_
      refine W.widen (k := 1) (n := 6) (Nat.le_of_ble_eq_true rfl) (Nat.le_of_ble_eq_true rfl) ?_
      exact eI C0 hr w rfl dL_whatIf_21
    · rw [if_neg e1, if_neg e2] at h3
      exact nomatch h3
abbrev rm_L_type : Room := { frames := 8, cells := 1, slots := 6, locals := 133 }
set_option maxHeartbeats 4000000 in
set_option maxRecDepth 100000 in
theorem m_L_type (l : Launch) (hfl : l.stackTraces = false) (B : Wb) (sz : Nat) (σ : Mem) (x1 : Int32) (k : Int32) (σ9 : Mem) (hf : hlpI xIA xIS (f_X11_type x1) σ = some (k, σ9)) : MetL l yL_type cL_type 4 [(0, 9, 12, 13), (0, 9, 15, 33)] rm_L_type B sz σ σ9 [.ref (wA B 0), .int x1, .ref (wA B 239)] (some (.int k)) := by
  refine metL_in (by decide +kernel) (Nat.le_of_ble_eq_true rfl) ?_
  intro p e s m below meth c C0 hr hex w ls hl
  have hx := C0.1.1
  have hb := C0.1.2.1
  obtain ⟨⟨r, τ⟩, h1, h2⟩ := bdE hf
  cases r with
  | inl v =>
    obtain ⟨rfl, rfl⟩ := Prod.mk.inj (Option.some.inj (show some ((0 : Int32), setL τ 239 0 (v.toInt64)) = some (k, σ9) from h2))
    refine lv_aload_n hx hb dL_type_0 rfl (lv_at hl 2 rfl) ?_
    refine lv_iconst (v := 0) hx hb dL_type_1 (by decide) ?_
    refine lv_aload_n hx hb dL_type_2 rfl (lv_at hl 0 rfl) ?_
    refine lv_iload_n hx hb dL_type_3 rfl (lv_at hl 1 rfl) ?_
    refine cV (As := [.int x1]) (rest := [.int 0, .ref (wA B 239)]) (k := 0) (ci := 9) (T := TX11) (N := 9) C0 w (m_X11_type l B _ σ x1 _ _ h1) ky_X11_type kv_X11_type lk_L_94 rfl (by decide +kernel) ⟨Nat.le_of_ble_eq_true rfl, Nat.le_of_ble_eq_true rfl⟩ ⟨Nat.le_of_ble_eq_true rfl, Nat.le_of_ble_eq_true rfl⟩ rfl (by rfl) (Nat.le_of_ble_eq_true rfl) hl.1 dL_type_4 (fun H locs w => ?_)
    refine lv_i2l hx hb dL_type_7 rfl ?_
    refine sL C0 w (n := 1) (by decide +kernel) (inbE (by decide)) dL_type_8 (fun H locs w => ?_)
    refine lv_goto (tgt := 18) hx hb dL_type_9 (by decide) ?_
    refine lv_iconst (v := 0) hx hb dL_type_18 (by decide) ?_
    refine W.widen (k := 1) (n := 6) (Nat.le_of_ble_eq_true rfl) (Nat.le_of_ble_eq_true rfl) ?_
    exact eI C0 hr w rfl dL_type_19
  | inr E =>
    have h3 : (if E = xIA then some ((1 : Int32), τ) else if E = xIS then some (2, τ) else none) = some (k, σ9) := h2
    by_cases e1 : E = xIA
    · rw [if_pos e1] at h3
      subst e1
      obtain ⟨rfl, rfl⟩ := Prod.mk.inj (Option.some.inj h3)
      refine lv_aload_n hx hb dL_type_0 rfl (lv_at hl 2 rfl) ?_
      refine lv_iconst (v := 0) hx hb dL_type_1 (by decide) ?_
      refine lv_aload_n hx hb dL_type_2 rfl (lv_at hl 0 rfl) ?_
      refine lv_iload_n hx hb dL_type_3 rfl (lv_at hl 1 rfl) ?_
      refine cVT (As := [.int x1]) (rest := [.int 0, .ref (wA B 239)]) (k := 0) (ci := 9) (T := TX11) (N := 9) C0 w (t_X11_type l hfl B _ σ x1 _ _ h1) ky_X11_type kv_X11_type lk_L_94 rfl (by decide +kernel) ⟨Nat.le_of_ble_eq_true rfl, Nat.le_of_ble_eq_true rfl⟩ ⟨Nat.le_of_ble_eq_true rfl, Nat.le_of_ble_eq_true rfl⟩ rfl (by rfl) (Nat.le_of_ble_eq_true rfl) hl.1 dL_type_4 (fun ce q9 H locs w g1 g2 g3 => ?_)
      refine xCat C0 w (E := xIA) (pre := []) hex (fun z hz => nomatch hz) (fun x a b => by simp [covers, a, b]) (by decide) kl_L_13 (by decide +kernel) g1 g2 g3 ?_
      refine lv_astore_n hx hb dL_type_12 rfl hl (by decide) rfl (fun ls hl => ?_)
      refine lv_iconst (v := 1) hx hb dL_type_13 (by decide) ?_
      refine W.widen (k := 1) (n := 6) (Nat.le_of_ble_eq_true rfl) (Nat.le_of_ble_eq_true rfl) ?_
      exact eI C0 hr w rfl dL_type_14
    by_cases e2 : E = xIS
    · rw [if_neg e1, if_pos e2] at h3
      subst e2
      obtain ⟨rfl, rfl⟩ := Prod.mk.inj (Option.some.inj h3)
      refine lv_aload_n hx hb dL_type_0 rfl (lv_at hl 2 rfl) ?_
      refine lv_iconst (v := 0) hx hb dL_type_1 (by decide) ?_
      refine lv_aload_n hx hb dL_type_2 rfl (lv_at hl 0 rfl) ?_
      refine lv_iload_n hx hb dL_type_3 rfl (lv_at hl 1 rfl) ?_
      refine cVT (As := [.int x1]) (rest := [.int 0, .ref (wA B 239)]) (k := 0) (ci := 9) (T := TX11) (N := 9) C0 w (t_X11_type l hfl B _ σ x1 _ _ h1) ky_X11_type kv_X11_type lk_L_94 rfl (by decide +kernel) ⟨Nat.le_of_ble_eq_true rfl, Nat.le_of_ble_eq_true rfl⟩ ⟨Nat.le_of_ble_eq_true rfl, Nat.le_of_ble_eq_true rfl⟩ rfl (by rfl) (Nat.le_of_ble_eq_true rfl) hl.1 dL_type_4 (fun ce q9 H locs w g1 g2 g3 => ?_)
      refine xCat C0 w (E := xIS) (pre := [(0, 9, 12, 13)]) hex (fun z hz => by rcases List.mem_singleton.mp hz with rfl; exact ⟨by decide, xIA, kl_L_13, by decide +kernel⟩) (fun x a b => by simp [covers, a, b]) (by decide) kl_L_33 (by decide +kernel) g1 g2 g3 ?_
      refine lv_astore_n hx hb dL_type_15 rfl hl (by decide) rfl (fun ls hl => ?_)
      refine lv_iconst (v := 2) hx hb dL_type_16 (by decide) ?_
      refine W.widen (k := 1) (n := 6) (Nat.le_of_ble_eq_true rfl) (Nat.le_of_ble_eq_true rfl) ?_
      exact eI C0 hr w rfl dL_type_17
    · rw [if_neg e1, if_neg e2] at h3
      exact nomatch h3
abbrev rm_L_undo : Room := { frames := 7, cells := 1, slots := 6, locals := 115 }
set_option maxHeartbeats 4000000 in
set_option maxRecDepth 100000 in
theorem m_L_undo (l : Launch) (hfl : l.stackTraces = false) (B : Wb) (sz : Nat) (σ : Mem) (k : Int32) (σ9 : Mem) (hf : hlpI xIS xIS f_X11_undo σ = some (k, σ9)) : MetL l yL_undo cL_undo 3 [(0, 8, 11, 33)] rm_L_undo B sz σ σ9 [.ref (wA B 0), .ref (wA B 239)] (some (.int k)) := by
  refine metL_in (by decide +kernel) (Nat.le_of_ble_eq_true rfl) ?_
  intro p e s m below meth c C0 hr hex w ls hl
  have hx := C0.1.1
  have hb := C0.1.2.1
  obtain ⟨⟨r, τ⟩, h1, h2⟩ := bdE hf
  cases r with
  | inl v =>
    obtain ⟨rfl, rfl⟩ := Prod.mk.inj (Option.some.inj (show some ((0 : Int32), setL τ 239 0 (v.toInt64)) = some (k, σ9) from h2))
    refine lv_aload_n hx hb dL_undo_0 rfl (lv_at hl 1 rfl) ?_
    refine lv_iconst (v := 0) hx hb dL_undo_1 (by decide) ?_
    refine lv_aload_n hx hb dL_undo_2 rfl (lv_at hl 0 rfl) ?_
    refine cV (As := []) (rest := [.int 0, .ref (wA B 239)]) (k := 0) (ci := 9) (T := TX11) (N := 9) C0 w (m_X11_undo l B _ σ _ _ h1) ky_X11_undo kv_X11_undo lk_L_97 rfl (by decide +kernel) ⟨Nat.le_of_ble_eq_true rfl, Nat.le_of_ble_eq_true rfl⟩ ⟨Nat.le_of_ble_eq_true rfl, Nat.le_of_ble_eq_true rfl⟩ rfl (by rfl) (Nat.le_of_ble_eq_true rfl) hl.1 dL_undo_3 (fun H locs w => ?_)
    refine lv_i2l hx hb dL_undo_6 rfl ?_
    refine sL C0 w (n := 1) (by decide +kernel) (inbE (by decide)) dL_undo_7 (fun H locs w => ?_)
    refine lv_goto (tgt := 14) hx hb dL_undo_8 (by decide) ?_
    refine lv_iconst (v := 0) hx hb dL_undo_14 (by decide) ?_
    refine W.widen (k := 1) (n := 6) (Nat.le_of_ble_eq_true rfl) (Nat.le_of_ble_eq_true rfl) ?_
    exact eI C0 hr w rfl dL_undo_15
  | inr E =>
    have h3 : (if E = xIS then some ((1 : Int32), τ) else if E = xIS then some (2, τ) else none) = some (k, σ9) := h2
    by_cases e1 : E = xIS
    · rw [if_pos e1] at h3
      subst e1
      obtain ⟨rfl, rfl⟩ := Prod.mk.inj (Option.some.inj h3)
      refine lv_aload_n hx hb dL_undo_0 rfl (lv_at hl 1 rfl) ?_
      refine lv_iconst (v := 0) hx hb dL_undo_1 (by decide) ?_
      refine lv_aload_n hx hb dL_undo_2 rfl (lv_at hl 0 rfl) ?_
      refine cVT (As := []) (rest := [.int 0, .ref (wA B 239)]) (k := 0) (ci := 9) (T := TX11) (N := 9) C0 w (t_X11_undo l hfl B _ σ _ _ h1) ky_X11_undo kv_X11_undo lk_L_97 rfl (by decide +kernel) ⟨Nat.le_of_ble_eq_true rfl, Nat.le_of_ble_eq_true rfl⟩ ⟨Nat.le_of_ble_eq_true rfl, Nat.le_of_ble_eq_true rfl⟩ rfl (by rfl) (Nat.le_of_ble_eq_true rfl) hl.1 dL_undo_3 (fun ce q9 H locs w g1 g2 g3 => ?_)
      refine xCat C0 w (E := xIS) (pre := []) hex (fun z hz => nomatch hz) (fun x a b => by simp [covers, a, b]) (by decide) kl_L_33 (by decide +kernel) g1 g2 g3 ?_
      refine lv_astore_n hx hb dL_undo_11 rfl hl (by decide) rfl (fun ls hl => ?_)
      refine lv_iconst (v := 1) hx hb dL_undo_12 (by decide) ?_
      refine W.widen (k := 1) (n := 6) (Nat.le_of_ble_eq_true rfl) (Nat.le_of_ble_eq_true rfl) ?_
      exact eI C0 hr w rfl dL_undo_13
    · rw [if_neg e1, if_neg e1] at h3
      exact nomatch h3
