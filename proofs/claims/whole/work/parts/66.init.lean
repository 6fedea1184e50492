/-! ===== the constructor of the face ===== -/
theorem lk_X11_1 : Cond.methodLink RX11 1 objectInit ∈ GL := gl_in 31 (by decide +kernel) (by decide +kernel)
theorem kl_X11_7 : Cond.classLink RX11 7 RX7 ∈ GL := gl_in 34 (by decide +kernel) (by decide +kernel)
theorem lk_X11_9 : Cond.methodLink RX11 9 yX7_init ∈ GL := gl_in 36 (by decide +kernel) (by decide +kernel)
theorem ff_X11_0 : FptF 9 0 (.object "SlownessImager$State") := ⟨RX11, TX11, 9, tyX11, rfl, tyX11_ok, nmX11, rfl, by decide +kernel⟩
theorem kl_X11_16 : Cond.classLink RX11 16 RX2 ∈ GL := gl_in 124 (by decide +kernel) (by decide +kernel)
theorem ini_X2 : Cond.initialized RX2 ∈ GL := gl_in 4 (by decide +kernel) (by decide +kernel)
theorem ins_X2 : Cond.instantiable RX2 4 ∈ GL := gl_in 125 (by decide +kernel) (by decide +kernel)
theorem ky_X2_init : Ky yX2_init cX2_init 1 none 0 := ⟨gl_in 128 (by decide +kernel) (by decide +kernel), gl_in 4 (by decide +kernel) (by decide +kernel), by decide +kernel, by decide +kernel, by decide +kernel⟩
theorem in_X2i : Cond.instanceMethod yX2_init ∈ GL := gl_in 127 (by decide +kernel) (by decide +kernel)
theorem ff_X11_1 : FptF 9 1 (.object "SlownessImager$Grid") := ⟨RX11, TX11, 9, tyX11, rfl, tyX11_ok, nmX11, rfl, by decide +kernel⟩
theorem kl_X11_23 : Cond.classLink RX11 23 RX6 ∈ GL := gl_in 154 (by decide +kernel) (by decide +kernel)
theorem ini_X6 : Cond.initialized RX6 ∈ GL := gl_in 5 (by decide +kernel) (by decide +kernel)
theorem ins_X6 : Cond.instantiable RX6 4 ∈ GL := gl_in 155 (by decide +kernel) (by decide +kernel)
theorem ky_X6_init : Ky yX6_init cX6_init 2 none 1 := ⟨gl_in 158 (by decide +kernel) (by decide +kernel), gl_in 5 (by decide +kernel) (by decide +kernel), by decide +kernel, by decide +kernel, by decide +kernel⟩
theorem in_X6i : Cond.instanceMethod yX6_init ∈ GL := gl_in 157 (by decide +kernel) (by decide +kernel)
theorem lk_X11_25 : Cond.methodLink RX11 25 yX6_init ∈ GL := gl_in 156 (by decide +kernel) (by decide +kernel)
theorem ff_X11_2 : FptF 9 2 (.object "SlownessImager$Search") := ⟨RX11, TX11, 9, tyX11, rfl, tyX11_ok, nmX11, rfl, by decide +kernel⟩
theorem kl_X11_32 : Cond.classLink RX11 32 RX9 ∈ GL := gl_in 173 (by decide +kernel) (by decide +kernel)
theorem ini_X9 : Cond.initialized RX9 ∈ GL := gl_in 6 (by decide +kernel) (by decide +kernel)
theorem ins_X9 : Cond.instantiable RX9 9 ∈ GL := gl_in 174 (by decide +kernel) (by decide +kernel)
theorem ky_X9_init : Ky yX9_init cX9_init 4 none 3 := ⟨gl_in 177 (by decide +kernel) (by decide +kernel), gl_in 6 (by decide +kernel) (by decide +kernel), by decide +kernel, by decide +kernel, by decide +kernel⟩
theorem in_X9i : Cond.instanceMethod yX9_init ∈ GL := gl_in 176 (by decide +kernel) (by decide +kernel)
theorem lk_X11_34 : Cond.methodLink RX11 34 yX9_init ∈ GL := gl_in 175 (by decide +kernel) (by decide +kernel)
theorem ff_X11_3 : FptF 9 3 (.object "SlownessImager$Ways") := ⟨RX11, TX11, 9, tyX11, rfl, tyX11_ok, nmX11, rfl, by decide +kernel⟩
theorem kl_X11_41 : Cond.classLink RX11 41 RX4 ∈ GL := gl_in 215 (by decide +kernel) (by decide +kernel)
theorem ini_X4 : Cond.initialized RX4 ∈ GL := gl_in 7 (by decide +kernel) (by decide +kernel)
theorem ins_X4 : Cond.instantiable RX4 2 ∈ GL := gl_in 216 (by decide +kernel) (by decide +kernel)
theorem ky_X4_init : Ky yX4_init cX4_init 3 none 2 := ⟨gl_in 219 (by decide +kernel) (by decide +kernel), gl_in 7 (by decide +kernel) (by decide +kernel), by decide +kernel, by decide +kernel, by decide +kernel⟩
theorem in_X4i : Cond.instanceMethod yX4_init ∈ GL := gl_in 218 (by decide +kernel) (by decide +kernel)
theorem lk_X11_43 : Cond.methodLink RX11 43 yX4_init ∈ GL := gl_in 217 (by decide +kernel) (by decide +kernel)
theorem ff_X11_4 : FptF 9 4 (.object "SlownessImager$Readings") := ⟨RX11, TX11, 9, tyX11, rfl, tyX11_ok, nmX11, rfl, by decide +kernel⟩
theorem kl_X11_50 : Cond.classLink RX11 50 RX1 ∈ GL := gl_in 228 (by decide +kernel) (by decide +kernel)
theorem ini_X1 : Cond.initialized RX1 ∈ GL := gl_in 8 (by decide +kernel) (by decide +kernel)
theorem ins_X1 : Cond.instantiable RX1 7 ∈ GL := gl_in 229 (by decide +kernel) (by decide +kernel)
theorem ky_X1_init : Ky yX1_init cX1_init 6 none 5 := ⟨gl_in 232 (by decide +kernel) (by decide +kernel), gl_in 8 (by decide +kernel) (by decide +kernel), by decide +kernel, by decide +kernel, by decide +kernel⟩
theorem in_X1i : Cond.instanceMethod yX1_init ∈ GL := gl_in 231 (by decide +kernel) (by decide +kernel)
theorem lk_X11_52 : Cond.methodLink RX11 52 yX1_init ∈ GL := gl_in 230 (by decide +kernel) (by decide +kernel)
theorem ff_X11_5 : FptF 9 5 (.object "SlownessImager$Changes") := ⟨RX11, TX11, 9, tyX11, rfl, tyX11_ok, nmX11, rfl, by decide +kernel⟩
theorem kl_X11_59 : Cond.classLink RX11 59 RX8 ∈ GL := gl_in 256 (by decide +kernel) (by decide +kernel)
theorem ini_X8 : Cond.initialized RX8 ∈ GL := gl_in 9 (by decide +kernel) (by decide +kernel)
theorem ins_X8 : Cond.instantiable RX8 5 ∈ GL := gl_in 257 (by decide +kernel) (by decide +kernel)
theorem ky_X8_init : Ky yX8_init cX8_init 4 none 3 := ⟨gl_in 260 (by decide +kernel) (by decide +kernel), gl_in 9 (by decide +kernel) (by decide +kernel), by decide +kernel, by decide +kernel, by decide +kernel⟩
theorem in_X8i : Cond.instanceMethod yX8_init ∈ GL := gl_in 259 (by decide +kernel) (by decide +kernel)
theorem lk_X11_61 : Cond.methodLink RX11 61 yX8_init ∈ GL := gl_in 258 (by decide +kernel) (by decide +kernel)
theorem ff_X11_6 : FptF 9 6 (.object "SlownessImager$Sweeper") := ⟨RX11, TX11, 9, tyX11, rfl, tyX11_ok, nmX11, rfl, by decide +kernel⟩
theorem kl_X11_68 : Cond.classLink RX11 68 RX3 ∈ GL := gl_in 278 (by decide +kernel) (by decide +kernel)
theorem ini_X3 : Cond.initialized RX3 ∈ GL := gl_in 10 (by decide +kernel) (by decide +kernel)
theorem ins_X3 : Cond.instantiable RX3 3 ∈ GL := gl_in 279 (by decide +kernel) (by decide +kernel)
theorem ky_X3_init : Ky yX3_init cX3_init 2 none 0 := ⟨gl_in 282 (by decide +kernel) (by decide +kernel), gl_in 10 (by decide +kernel) (by decide +kernel), by decide +kernel, by decide +kernel, by decide +kernel⟩
theorem in_X3i : Cond.instanceMethod yX3_init ∈ GL := gl_in 281 (by decide +kernel) (by decide +kernel)
theorem lk_X11_70 : Cond.methodLink RX11 70 yX3_init ∈ GL := gl_in 280 (by decide +kernel) (by decide +kernel)
theorem ff_X11_7 : FptF 9 7 (.object "SlownessImager$History") := ⟨RX11, TX11, 9, tyX11, rfl, tyX11_ok, nmX11, rfl, by decide +kernel⟩
theorem kl_X11_75 : Cond.classLink RX11 75 RX5 ∈ GL := gl_in 298 (by decide +kernel) (by decide +kernel)
theorem ini_X5 : Cond.initialized RX5 ∈ GL := gl_in 11 (by decide +kernel) (by decide +kernel)
theorem ins_X5 : Cond.instantiable RX5 7 ∈ GL := gl_in 299 (by decide +kernel) (by decide +kernel)
theorem ky_X5_init : Ky yX5_init cX5_init 1 none 0 := ⟨gl_in 302 (by decide +kernel) (by decide +kernel), gl_in 11 (by decide +kernel) (by decide +kernel), by decide +kernel, by decide +kernel, by decide +kernel⟩
theorem in_X5i : Cond.instanceMethod yX5_init ∈ GL := gl_in 301 (by decide +kernel) (by decide +kernel)
theorem ff_X11_8 : FptF 9 8 (.object "SlownessImager$Script") := ⟨RX11, TX11, 9, tyX11, rfl, tyX11_ok, nmX11, rfl, by decide +kernel⟩
theorem ef_0 (B : Wb) : (.inr (9, [.ref (wA B 1), .ref (wA B 8), .ref (wA B 140), .ref (wA B 143), .ref (wA B 182), .ref (wA B 183), .ref (wA B 186), .ref (wA B 189), .ref (wA B 219)]) : va_E) = fin B σ0 0 := by
  unfold fin
  rw [show shp 0 = (0, 9, [3, 10, 142, 145, 184, 185, 188, 191, 221]) from by decide +kernel]
  rfl
theorem eo_1 (B : Wb) : fin B σ0 1 = .inr (6, fl B (σ0.1 1) (σ0.2 1) [0, 0, 0, 0, 0, 0, 1, 0, 4, 5, 6, 7, 8, 9]) := by
  unfold fin
  rw [show shp 1 = (0, 6, [0, 0, 0, 0, 0, 0, 1, 0, 4, 5, 6, 7, 8, 9]) from by decide +kernel]
  rfl
abbrev rm_i_X11_0 : Room := { frames := 3, cells := 223, slots := 5251, locals := 75 }
set_option maxHeartbeats 400000 in
set_option maxRecDepth 100000 in
theorem i_X11_0 (l : Launch) (B : Wb) (q : Mem) (hf : f_X2_lay 4 4 σ0 = some q) : MetJ l yX11_init cX11_init 1 rm_i_X11_0 B 0 1 (EX B σ0 0 9 [.null, .null, .null, .null, .null, .null, .null, .null, .null]) (fun U => Gst B (AP B 0) U U.heap) 224 (fin B q) [.ref (wA B 0)] 223 5251 := by
  refine metJ_in (by decide +kernel) rfl (Nat.le_of_ble_eq_true rfl) ?_
  intro p e s m below meth c C0 hr hin w hsz hG ls hl
  have hx := C0.1.1
  have hb := C0.1.2.1
  refine lv_aload_n hx hb dX11_init_0 rfl (lv_at hl 0 rfl) ?_
  refine bObj C0 lk_X11_1 oi_i oi_c hl.1 ⟨Nat.le_of_ble_eq_true rfl, Nat.le_of_ble_eq_true rfl⟩ dX11_init_1 ?_
  refine lv_aload_n hx hb dX11_init_4 rfl (lv_at hl 0 rfl) ?_
  refine bNew (ci := 6) (fs := [.int 0, .int 0, .int 0, .int 0, .int 0, .int 0, .long 0, .int 0, .null, .null, .null, .null, .null, .null]) C0 w rfl in_X7 tyX7 tyX7_ok kl_X11_7 ins_X7 ini_X7 (by intro j hj; rcases (show j = 0 ∨ j = 1 ∨ j = 2 ∨ j = 3 ∨ j = 4 ∨ j = 5 ∨ j = 6 ∨ j = 7 ∨ j = 8 ∨ j = 9 ∨ j = 10 ∨ j = 11 ∨ j = 12 ∨ j = 13 by omega) with rfl | rfl | rfl | rfl | rfl | rfl | rfl | rfl | rfl | rfl | rfl | rfl | rfl | rfl <;> rfl) (Nat.le_of_ble_eq_true rfl) (Nat.le_of_ble_eq_true rfl) dX11_init_5 (fun H w => ?_)
  have w : Bx B 0 (1 + 1) (updE (EX B σ0 0 9 [.null, .null, .null, .null, .null, .null, .null, .null, .null]) 1 (.inr (6, [.int 0, .int 0, .int 0, .int 0, .int 0, .int 0, .long 0, .int 0, .null, .null, .null, .null, .null, .null]))) s H _ := w
  refine lv_dup hx hb dX11_init_8 rfl ?_
  refine bCall (As := []) (rest := [.ref (wA B 1), .ref (wA B 0)]) (E2 := fin B σ0) C0 w (by decide) (by decide) ((i_X7_1 l B).cg (EX_at.trans updE_eq.symm)) ky_X7_init ⟨rfl, rfl⟩ rfl in_X7i lk_X11_9 ⟨Nat.le_of_ble_eq_true rfl, Nat.le_of_ble_eq_true rfl⟩ ⟨Nat.le_of_ble_eq_true rfl, Nat.le_of_ble_eq_true rfl⟩ rfl (by rfl) (Nat.le_of_ble_eq_true rfl) hl.1 dX11_init_9 (fun H locs w => ?_)
  rw [EX_sub (by decide)] at w
  have w : Bx B 0 8 (EX B σ0 0 9 [.null, .null, .null, .null, .null, .null, .null, .null, .null]) s H _ := w
  refine bPutF C0 w (by decide) (by decide) EX_at fk_X11_10 ff_X11_0 (by intro C T N h; have h2 : some (RX11, TX11, 9) = some (C, T, N) := h; cases h2; rfl) hin rfl rfl (Nat.le_of_ble_eq_true rfl) dX11_init_12 (fun H locs w => ?_)
  rw [EX_put] at w
  have w : Bx B 0 8 (EX B σ0 0 9 [.ref (wA B 1), .null, .null, .null, .null, .null, .null, .null, .null]) s H _ := w
  refine lv_aload_n hx hb dX11_init_15 rfl (lv_at hl 0 rfl) ?_
  refine bNew (ci := 1) (fs := [.int 0, .null, .null, .null]) C0 w rfl in_X2 tyX2 tyX2_ok kl_X11_16 ins_X2 ini_X2 (by intro j hj; rcases (show j = 0 ∨ j = 1 ∨ j = 2 ∨ j = 3 by omega) with rfl | rfl | rfl | rfl <;> rfl) (Nat.le_of_ble_eq_true rfl) (Nat.le_of_ble_eq_true rfl) dX11_init_16 (fun H w => ?_)
  have w : Bx B 0 (8 + 1) (updE (EX B σ0 0 9 [.ref (wA B 1), .null, .null, .null, .null, .null, .null, .null, .null]) 8 (.inr (1, [.int 0, .null, .null, .null]))) s H _ := w
  refine lv_dup hx hb dX11_init_19 rfl ?_
  refine bCallN (host := RX11) (As := []) (rest := [.ref (wA B 8), .ref (wA B 0)]) (E2 := fin B σ0) C0 w (by decide) (by decide) ((i_X2_8 l B).cg (EX_at.trans updE_eq.symm)) ky_X2_init ⟨rfl, rfl⟩ rfl in_X2i (by decide +kernel) ⟨Nat.le_of_ble_eq_true rfl, Nat.le_of_ble_eq_true rfl⟩ ⟨Nat.le_of_ble_eq_true rfl, Nat.le_of_ble_eq_true rfl⟩ rfl (by rfl) (Nat.le_of_ble_eq_true rfl) hl.1 dX11_init_20 (fun H locs w => ?_)
  rw [EX_sub (by decide)] at w
  have w : Bx B 0 140 (EX B σ0 0 9 [.ref (wA B 1), .null, .null, .null, .null, .null, .null, .null, .null]) s H _ := w
  refine bPutF C0 w (by decide) (by decide) EX_at fk_X11_19 ff_X11_1 (by intro C T N h; have h2 : some (RX11, TX11, 9) = some (C, T, N) := h; cases h2; rfl) hin rfl rfl (Nat.le_of_ble_eq_true rfl) dX11_init_23 (fun H locs w => ?_)
  rw [EX_put] at w
  have w : Bx B 0 140 (EX B σ0 0 9 [.ref (wA B 1), .ref (wA B 8), .null, .null, .null, .null, .null, .null, .null]) s H _ := w
  refine lv_aload_n hx hb dX11_init_26 rfl (lv_at hl 0 rfl) ?_
  refine bNew (ci := 5) (fs := [.null, .null, .null, .int 0]) C0 w rfl in_X6 tyX6 tyX6_ok kl_X11_23 ins_X6 ini_X6 (by intro j hj; rcases (show j = 0 ∨ j = 1 ∨ j = 2 ∨ j = 3 by omega) with rfl | rfl | rfl | rfl <;> rfl) (Nat.le_of_ble_eq_true rfl) (Nat.le_of_ble_eq_true rfl) dX11_init_27 (fun H w => ?_)
  have w : Bx B 0 (140 + 1) (updE (EX B σ0 0 9 [.ref (wA B 1), .ref (wA B 8), .null, .null, .null, .null, .null, .null, .null]) 140 (.inr (5, [.null, .null, .null, .int 0]))) s H _ := w
  refine lv_dup hx hb dX11_init_30 rfl ?_
  refine lv_aload_n hx hb dX11_init_31 rfl (lv_at hl 0 rfl) ?_
  refine bGet (v := .ref (wA B 8)) C0 w (by decide) (by decide) ((updE_ne (by decide)).trans EX_at) fk_X11_19 rfl dX11_init_32 ?_
  refine bCall (As := [.ref (wA B 8)]) (rest := [.ref (wA B 140), .ref (wA B 0)]) (E2 := fin B σ0) C0 w (by decide) (by decide) ((i_X6_140 l B).cg (EX_at.trans updE_eq.symm)) ky_X6_init ⟨rfl, rfl⟩ rfl in_X6i lk_X11_25 ⟨Nat.le_of_ble_eq_true rfl, Nat.le_of_ble_eq_true rfl⟩ ⟨Nat.le_of_ble_eq_true rfl, Nat.le_of_ble_eq_true rfl⟩ rfl (by rfl) (Nat.le_of_ble_eq_true rfl) hl.1 dX11_init_35 (fun H locs w => ?_)
  rw [EX_sub (by decide)] at w
  have w : Bx B 0 143 (EX B σ0 0 9 [.ref (wA B 1), .ref (wA B 8), .null, .null, .null, .null, .null, .null, .null]) s H _ := w
  refine bPutF C0 w (by decide) (by decide) EX_at fk_X11_28 ff_X11_2 (by intro C T N h; have h2 : some (RX11, TX11, 9) = some (C, T, N) := h; cases h2; rfl) hin rfl rfl (Nat.le_of_ble_eq_true rfl) dX11_init_38 (fun H locs w => ?_)
  rw [EX_put] at w
  have w : Bx B 0 143 (EX B σ0 0 9 [.ref (wA B 1), .ref (wA B 8), .ref (wA B 140), .null, .null, .null, .null, .null, .null]) s H _ := w
  refine lv_aload_n hx hb dX11_init_41 rfl (lv_at hl 0 rfl) ?_
  refine bNew (ci := 8) (fs := [.null, .null, .null, .null, .null, .null, .null, .null, .null]) C0 w rfl in_X9 tyX9 tyX9_ok kl_X11_32 ins_X9 ini_X9 (by intro j hj; rcases (show j = 0 ∨ j = 1 ∨ j = 2 ∨ j = 3 ∨ j = 4 ∨ j = 5 ∨ j = 6 ∨ j = 7 ∨ j = 8 by omega) with rfl | rfl | rfl | rfl | rfl | rfl | rfl | rfl | rfl <;> rfl) (Nat.le_of_ble_eq_true rfl) (Nat.le_of_ble_eq_true rfl) dX11_init_42 (fun H w => ?_)
  have w : Bx B 0 (143 + 1) (updE (EX B σ0 0 9 [.ref (wA B 1), .ref (wA B 8), .ref (wA B 140), .null, .null, .null, .null, .null, .null]) 143 (.inr (8, [.null, .null, .null, .null, .null, .null, .null, .null, .null]))) s H _ := w
  refine lv_dup hx hb dX11_init_45 rfl ?_
  refine lv_aload_n hx hb dX11_init_46 rfl (lv_at hl 0 rfl) ?_
  refine bGet (v := .ref (wA B 1)) C0 w (by decide) (by decide) ((updE_ne (by decide)).trans EX_at) fk_X11_10 rfl dX11_init_47 ?_
  refine lv_aload_n hx hb dX11_init_50 rfl (lv_at hl 0 rfl) ?_
  refine bGet (v := .ref (wA B 8)) C0 w (by decide) (by decide) ((updE_ne (by decide)).trans EX_at) fk_X11_19 rfl dX11_init_51 ?_
  refine lv_aload_n hx hb dX11_init_54 rfl (lv_at hl 0 rfl) ?_
  refine bGet (v := .ref (wA B 140)) C0 w (by decide) (by decide) ((updE_ne (by decide)).trans EX_at) fk_X11_28 rfl dX11_init_55 ?_
  refine bCall (As := [.ref (wA B 1), .ref (wA B 8), .ref (wA B 140)]) (rest := [.ref (wA B 143), .ref (wA B 0)]) (E2 := fin B σ0) C0 w (by decide) (by decide) ((i_X9_143 l B).cg (EX_at.trans updE_eq.symm)) ky_X9_init ⟨rfl, rfl⟩ rfl in_X9i lk_X11_34 ⟨Nat.le_of_ble_eq_true rfl, Nat.le_of_ble_eq_true rfl⟩ ⟨Nat.le_of_ble_eq_true rfl, Nat.le_of_ble_eq_true rfl⟩ rfl (by rfl) (Nat.le_of_ble_eq_true rfl) hl.1 dX11_init_58 (fun H locs w => ?_)
  rw [EX_sub (by decide)] at w
  have w : Bx B 0 182 (EX B σ0 0 9 [.ref (wA B 1), .ref (wA B 8), .ref (wA B 140), .null, .null, .null, .null, .null, .null]) s H _ := w
  refine bPutF C0 w (by decide) (by decide) EX_at fk_X11_37 ff_X11_3 (by intro C T N h; have h2 : some (RX11, TX11, 9) = some (C, T, N) := h; cases h2; rfl) hin rfl rfl (Nat.le_of_ble_eq_true rfl) dX11_init_61 (fun H locs w => ?_)
  rw [EX_put] at w
  have w : Bx B 0 182 (EX B σ0 0 9 [.ref (wA B 1), .ref (wA B 8), .ref (wA B 140), .ref (wA B 143), .null, .null, .null, .null, .null]) s H _ := w
  refine lv_aload_n hx hb dX11_init_64 rfl (lv_at hl 0 rfl) ?_
  refine bNew (ci := 3) (fs := [.null, .null]) C0 w rfl in_X4 tyX4 tyX4_ok kl_X11_41 ins_X4 ini_X4 (by intro j hj; rcases (show j = 0 ∨ j = 1 by omega) with rfl | rfl <;> rfl) (Nat.le_of_ble_eq_true rfl) (Nat.le_of_ble_eq_true rfl) dX11_init_65 (fun H w => ?_)
  have w : Bx B 0 (182 + 1) (updE (EX B σ0 0 9 [.ref (wA B 1), .ref (wA B 8), .ref (wA B 140), .ref (wA B 143), .null, .null, .null, .null, .null]) 182 (.inr (3, [.null, .null]))) s H _ := w
  refine lv_dup hx hb dX11_init_68 rfl ?_
  refine lv_aload_n hx hb dX11_init_69 rfl (lv_at hl 0 rfl) ?_
  refine bGet (v := .ref (wA B 1)) C0 w (by decide) (by decide) ((updE_ne (by decide)).trans EX_at) fk_X11_10 rfl dX11_init_70 ?_
  refine lv_aload_n hx hb dX11_init_73 rfl (lv_at hl 0 rfl) ?_
  refine bGet (v := .ref (wA B 143)) C0 w (by decide) (by decide) ((updE_ne (by decide)).trans EX_at) fk_X11_37 rfl dX11_init_74 ?_
  refine bCall (As := [.ref (wA B 1), .ref (wA B 143)]) (rest := [.ref (wA B 182), .ref (wA B 0)]) (E2 := fin B σ0) C0 w (by decide) (by decide) ((i_X4_182 l B).cg (EX_at.trans updE_eq.symm)) ky_X4_init ⟨rfl, rfl⟩ rfl in_X4i lk_X11_43 ⟨Nat.le_of_ble_eq_true rfl, Nat.le_of_ble_eq_true rfl⟩ ⟨Nat.le_of_ble_eq_true rfl, Nat.le_of_ble_eq_true rfl⟩ rfl (by rfl) (Nat.le_of_ble_eq_true rfl) hl.1 dX11_init_77 (fun H locs w => ?_)
  rw [EX_sub (by decide)] at w
  have w : Bx B 0 183 (EX B σ0 0 9 [.ref (wA B 1), .ref (wA B 8), .ref (wA B 140), .ref (wA B 143), .null, .null, .null, .null, .null]) s H _ := w
  refine bPutF C0 w (by decide) (by decide) EX_at fk_X11_46 ff_X11_4 (by intro C T N h; have h2 : some (RX11, TX11, 9) = some (C, T, N) := h; cases h2; rfl) hin rfl rfl (Nat.le_of_ble_eq_true rfl) dX11_init_80 (fun H locs w => ?_)
  rw [EX_put] at w
  have w : Bx B 0 183 (EX B σ0 0 9 [.ref (wA B 1), .ref (wA B 8), .ref (wA B 140), .ref (wA B 143), .ref (wA B 182), .null, .null, .null, .null]) s H _ := w
  refine lv_aload_n hx hb dX11_init_83 rfl (lv_at hl 0 rfl) ?_
  refine bNew (ci := 0) (fs := [.null, .null, .null, .null, .null, .null, .null]) C0 w rfl in_X1 tyX1 tyX1_ok kl_X11_50 ins_X1 ini_X1 (by intro j hj; rcases (show j = 0 ∨ j = 1 ∨ j = 2 ∨ j = 3 ∨ j = 4 ∨ j = 5 ∨ j = 6 by omega) with rfl | rfl | rfl | rfl | rfl | rfl | rfl <;> rfl) (Nat.le_of_ble_eq_true rfl) (Nat.le_of_ble_eq_true rfl) dX11_init_84 (fun H w => ?_)
  have w : Bx B 0 (183 + 1) (updE (EX B σ0 0 9 [.ref (wA B 1), .ref (wA B 8), .ref (wA B 140), .ref (wA B 143), .ref (wA B 182), .null, .null, .null, .null]) 183 (.inr (0, [.null, .null, .null, .null, .null, .null, .null]))) s H _ := w
  refine lv_dup hx hb dX11_init_87 rfl ?_
  refine lv_aload_n hx hb dX11_init_88 rfl (lv_at hl 0 rfl) ?_
  refine bGet (v := .ref (wA B 1)) C0 w (by decide) (by decide) ((updE_ne (by decide)).trans EX_at) fk_X11_10 rfl dX11_init_89 ?_
  refine lv_aload_n hx hb dX11_init_92 rfl (lv_at hl 0 rfl) ?_
  refine bGet (v := .ref (wA B 8)) C0 w (by decide) (by decide) ((updE_ne (by decide)).trans EX_at) fk_X11_19 rfl dX11_init_93 ?_
  refine lv_aload_n hx hb dX11_init_96 rfl (lv_at hl 0 rfl) ?_
  refine bGet (v := .ref (wA B 140)) C0 w (by decide) (by decide) ((updE_ne (by decide)).trans EX_at) fk_X11_28 rfl dX11_init_97 ?_
  refine lv_aload_n hx hb dX11_init_100 rfl (lv_at hl 0 rfl) ?_
  refine bGet (v := .ref (wA B 143)) C0 w (by decide) (by decide) ((updE_ne (by decide)).trans EX_at) fk_X11_37 rfl dX11_init_101 ?_
  refine lv_aload_n hx hb dX11_init_104 rfl (lv_at hl 0 rfl) ?_
  refine bGet (v := .ref (wA B 182)) C0 w (by decide) (by decide) ((updE_ne (by decide)).trans EX_at) fk_X11_46 rfl dX11_init_105 ?_
  refine bCall (As := [.ref (wA B 1), .ref (wA B 8), .ref (wA B 140), .ref (wA B 143), .ref (wA B 182)]) (rest := [.ref (wA B 183), .ref (wA B 0)]) (E2 := fin B σ0) C0 w (by decide) (by decide) ((i_X1_183 l B).cg (EX_at.trans updE_eq.symm)) ky_X1_init ⟨rfl, rfl⟩ rfl in_X1i lk_X11_52 ⟨Nat.le_of_ble_eq_true rfl, Nat.le_of_ble_eq_true rfl⟩ ⟨Nat.le_of_ble_eq_true rfl, Nat.le_of_ble_eq_true rfl⟩ rfl (by rfl) (Nat.le_of_ble_eq_true rfl) hl.1 dX11_init_108 (fun H locs w => ?_)
  rw [EX_sub (by decide)] at w
  have w : Bx B 0 186 (EX B σ0 0 9 [.ref (wA B 1), .ref (wA B 8), .ref (wA B 140), .ref (wA B 143), .ref (wA B 182), .null, .null, .null, .null]) s H _ := w
  refine bPutF C0 w (by decide) (by decide) EX_at fk_X11_55 ff_X11_5 (by intro C T N h; have h2 : some (RX11, TX11, 9) = some (C, T, N) := h; cases h2; rfl) hin rfl rfl (Nat.le_of_ble_eq_true rfl) dX11_init_111 (fun H locs w => ?_)
  rw [EX_put] at w
  have w : Bx B 0 186 (EX B σ0 0 9 [.ref (wA B 1), .ref (wA B 8), .ref (wA B 140), .ref (wA B 143), .ref (wA B 182), .ref (wA B 183), .null, .null, .null]) s H _ := w
  refine lv_aload_n hx hb dX11_init_114 rfl (lv_at hl 0 rfl) ?_
  refine bNew (ci := 7) (fs := [.null, .null, .null, .null, .null]) C0 w rfl in_X8 tyX8 tyX8_ok kl_X11_59 ins_X8 ini_X8 (by intro j hj; rcases (show j = 0 ∨ j = 1 ∨ j = 2 ∨ j = 3 ∨ j = 4 by omega) with rfl | rfl | rfl | rfl | rfl <;> rfl) (Nat.le_of_ble_eq_true rfl) (Nat.le_of_ble_eq_true rfl) dX11_init_115 (fun H w => ?_)
  have w : Bx B 0 (186 + 1) (updE (EX B σ0 0 9 [.ref (wA B 1), .ref (wA B 8), .ref (wA B 140), .ref (wA B 143), .ref (wA B 182), .ref (wA B 183), .null, .null, .null]) 186 (.inr (7, [.null, .null, .null, .null, .null]))) s H _ := w
  refine lv_dup hx hb dX11_init_118 rfl ?_
  refine lv_aload_n hx hb dX11_init_119 rfl (lv_at hl 0 rfl) ?_
  refine bGet (v := .ref (wA B 1)) C0 w (by decide) (by decide) ((updE_ne (by decide)).trans EX_at) fk_X11_10 rfl dX11_init_120 ?_
  refine lv_aload_n hx hb dX11_init_123 rfl (lv_at hl 0 rfl) ?_
  refine bGet (v := .ref (wA B 143)) C0 w (by decide) (by decide) ((updE_ne (by decide)).trans EX_at) fk_X11_37 rfl dX11_init_124 ?_
  refine lv_aload_n hx hb dX11_init_127 rfl (lv_at hl 0 rfl) ?_
  refine bGet (v := .ref (wA B 183)) C0 w (by decide) (by decide) ((updE_ne (by decide)).trans EX_at) fk_X11_55 rfl dX11_init_128 ?_
  refine bCall (As := [.ref (wA B 1), .ref (wA B 143), .ref (wA B 183)]) (rest := [.ref (wA B 186), .ref (wA B 0)]) (E2 := fin B σ0) C0 w (by decide) (by decide) ((i_X8_186 l B).cg (EX_at.trans updE_eq.symm)) ky_X8_init ⟨rfl, rfl⟩ rfl in_X8i lk_X11_61 ⟨Nat.le_of_ble_eq_true rfl, Nat.le_of_ble_eq_true rfl⟩ ⟨Nat.le_of_ble_eq_true rfl, Nat.le_of_ble_eq_true rfl⟩ rfl (by rfl) (Nat.le_of_ble_eq_true rfl) hl.1 dX11_init_131 (fun H locs w => ?_)
  rw [EX_sub (by decide)] at w
  have w : Bx B 0 189 (EX B σ0 0 9 [.ref (wA B 1), .ref (wA B 8), .ref (wA B 140), .ref (wA B 143), .ref (wA B 182), .ref (wA B 183), .null, .null, .null]) s H _ := w
  refine bPutF C0 w (by decide) (by decide) EX_at fk_X11_64 ff_X11_6 (by intro C T N h; have h2 : some (RX11, TX11, 9) = some (C, T, N) := h; cases h2; rfl) hin rfl rfl (Nat.le_of_ble_eq_true rfl) dX11_init_134 (fun H locs w => ?_)
  rw [EX_put] at w
  have w : Bx B 0 189 (EX B σ0 0 9 [.ref (wA B 1), .ref (wA B 8), .ref (wA B 140), .ref (wA B 143), .ref (wA B 182), .ref (wA B 183), .ref (wA B 186), .null, .null]) s H _ := w
  refine lv_aload_n hx hb dX11_init_137 rfl (lv_at hl 0 rfl) ?_
  refine bNew (ci := 2) (fs := [.null, .int 0, .int 0]) C0 w rfl in_X3 tyX3 tyX3_ok kl_X11_68 ins_X3 ini_X3 (by intro j hj; rcases (show j = 0 ∨ j = 1 ∨ j = 2 by omega) with rfl | rfl | rfl <;> rfl) (Nat.le_of_ble_eq_true rfl) (Nat.le_of_ble_eq_true rfl) dX11_init_138 (fun H w => ?_)
  have w : Bx B 0 (189 + 1) (updE (EX B σ0 0 9 [.ref (wA B 1), .ref (wA B 8), .ref (wA B 140), .ref (wA B 143), .ref (wA B 182), .ref (wA B 183), .ref (wA B 186), .null, .null]) 189 (.inr (2, [.null, .int 0, .int 0]))) s H _ := w
  refine lv_dup hx hb dX11_init_141 rfl ?_
  refine bCall (As := []) (rest := [.ref (wA B 189), .ref (wA B 0)]) (E2 := fin B σ0) C0 w (by decide) (by decide) ((i_X3_189 l B).cg (EX_at.trans updE_eq.symm)) ky_X3_init ⟨rfl, rfl⟩ rfl in_X3i lk_X11_70 ⟨Nat.le_of_ble_eq_true rfl, Nat.le_of_ble_eq_true rfl⟩ ⟨Nat.le_of_ble_eq_true rfl, Nat.le_of_ble_eq_true rfl⟩ rfl (by rfl) (Nat.le_of_ble_eq_true rfl) hl.1 dX11_init_142 (fun H locs w => ?_)
  rw [EX_sub (by decide)] at w
  have w : Bx B 0 219 (EX B σ0 0 9 [.ref (wA B 1), .ref (wA B 8), .ref (wA B 140), .ref (wA B 143), .ref (wA B 182), .ref (wA B 183), .ref (wA B 186), .null, .null]) s H _ := w
  refine bPutF C0 w (by decide) (by decide) EX_at fk_X11_71 ff_X11_7 (by intro C T N h; have h2 : some (RX11, TX11, 9) = some (C, T, N) := h; cases h2; rfl) hin rfl rfl (Nat.le_of_ble_eq_true rfl) dX11_init_145 (fun H locs w => ?_)
  rw [EX_put] at w
  have w : Bx B 0 219 (EX B σ0 0 9 [.ref (wA B 1), .ref (wA B 8), .ref (wA B 140), .ref (wA B 143), .ref (wA B 182), .ref (wA B 183), .ref (wA B 186), .ref (wA B 189), .null]) s H _ := w
  refine lv_aload_n hx hb dX11_init_148 rfl (lv_at hl 0 rfl) ?_
  refine bNew (ci := 4) (fs := [.null, .int 0, .null, .null, .null, .int 0, .int 0]) C0 w rfl in_X5 tyX5 tyX5_ok kl_X11_75 ins_X5 ini_X5 (by intro j hj; rcases (show j = 0 ∨ j = 1 ∨ j = 2 ∨ j = 3 ∨ j = 4 ∨ j = 5 ∨ j = 6 by omega) with rfl | rfl | rfl | rfl | rfl | rfl | rfl <;> rfl) (Nat.le_of_ble_eq_true rfl) (Nat.le_of_ble_eq_true rfl) dX11_init_149 (fun H w => ?_)
  have w : Bx B 0 (219 + 1) (updE (EX B σ0 0 9 [.ref (wA B 1), .ref (wA B 8), .ref (wA B 140), .ref (wA B 143), .ref (wA B 182), .ref (wA B 183), .ref (wA B 186), .ref (wA B 189), .null]) 219 (.inr (4, [.null, .int 0, .null, .null, .null, .int 0, .int 0]))) s H _ := w
  refine lv_dup hx hb dX11_init_152 rfl ?_
  refine bCallN (host := RX11) (As := []) (rest := [.ref (wA B 219), .ref (wA B 0)]) (E2 := fin B σ0) C0 w (by decide) (by decide) ((i_X5_219 l B).cg (EX_at.trans updE_eq.symm)) ky_X5_init ⟨rfl, rfl⟩ rfl in_X5i (by decide +kernel) ⟨Nat.le_of_ble_eq_true rfl, Nat.le_of_ble_eq_true rfl⟩ ⟨Nat.le_of_ble_eq_true rfl, Nat.le_of_ble_eq_true rfl⟩ rfl (by rfl) (Nat.le_of_ble_eq_true rfl) hl.1 dX11_init_153 (fun H locs w => ?_)
  rw [EX_sub (by decide)] at w
  have w : Bx B 0 224 (EX B σ0 0 9 [.ref (wA B 1), .ref (wA B 8), .ref (wA B 140), .ref (wA B 143), .ref (wA B 182), .ref (wA B 183), .ref (wA B 186), .ref (wA B 189), .null]) s H _ := w
  refine bPutF C0 w (by decide) (by decide) EX_at fk_X11_78 ff_X11_8 (by intro C T N h; have h2 : some (RX11, TX11, 9) = some (C, T, N) := h; cases h2; rfl) hin rfl rfl (Nat.le_of_ble_eq_true rfl) dX11_init_156 (fun H locs w => ?_)
  rw [EX_put] at w
  have w : Bx B 0 224 (EX B σ0 0 9 [.ref (wA B 1), .ref (wA B 8), .ref (wA B 140), .ref (wA B 143), .ref (wA B 182), .ref (wA B 183), .ref (wA B 186), .ref (wA B 189), .ref (wA B 219)]) s H _ := w
  refine lv_aload_n hx hb dX11_init_159 rfl (lv_at hl 0 rfl) ?_
  refine bGet (v := .ref (wA B 8)) C0 w (by decide) (by decide) EX_at fk_X11_19 rfl dX11_init_160 ?_
  refine lv_aload_n hx hb dX11_init_163 rfl (lv_at hl 0 rfl) ?_
  refine bGet (v := .ref (wA B 1)) C0 w (by decide) (by decide) EX_at fk_X11_10 rfl dX11_init_164 ?_
  refine bGet (v := .int 4) C0 w (by decide) (by decide) ((if_neg (by decide)).trans (eo_1 B)) fk_X11_82 rfl dX11_init_167 ?_
  refine lv_aload_n hx hb dX11_init_170 rfl (lv_at hl 0 rfl) ?_
  refine bGet (v := .ref (wA B 1)) C0 w (by decide) (by decide) EX_at fk_X11_10 rfl dX11_init_171 ?_
  refine bGet (v := .int 4) C0 w (by decide) (by decide) ((if_neg (by decide)).trans (eo_1 B)) fk_X11_86 rfl dX11_init_174 ?_
  rw [EX_fin (ef_0 B)] at w
  have hA := w.2.2.1
  have w := bx_s w (by rw [hsz, hA 1, hA 224]; omega) hG
  refine cV_s (As := [.int 4, .int 4]) (rest := []) (k := 8) (ci := 1) (T := TX2) (N := 4) C0 w (m_X2_lay_s l B _ σ0 4 4 q hf) ky_X2_lay kv_X2_lay lk_X11_89 rfl (by decide +kernel) ⟨Nat.le_of_ble_eq_true rfl, Nat.le_of_ble_eq_true rfl⟩ ⟨Nat.le_of_ble_eq_true rfl, Nat.le_of_ble_eq_true rfl⟩ rfl (by rfl) (Nat.le_of_ble_eq_true rfl) hl.1 dX11_init_177 (fun H locs w => ?_) (by decide)
  exact bRet_s C0 hr w hA hsz rfl dX11_init_180
