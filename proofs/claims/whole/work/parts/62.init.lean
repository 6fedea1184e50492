/-! ===== the constructors: the world as they lay it ===== -/
def σ0 : Mem := (fun q j => if q = 1 ∨ q = 191 ∨ q = 198 ∨ q = 205 ∨ q = 212 then (if j = 0 then 4 else if j = 1 then 4 else if j = 2 then 1 else if j = 3 then 100000 else if j = 4 then 1000 else 0) else if q = 2 ∨ q = 3 ∨ q = 192 ∨ q = 193 ∨ q = 199 ∨ q = 200 ∨ q = 206 ∨ q = 207 ∨ q = 213 ∨ q = 214 then 1000 else if q = 221 then -1 else 0, fun _ _ => 0)
theorem s0_z (q : Nat) (h : 3 < q ∧ q < 191) : σ0.1 q = fun _ => 0 := by
  funext j
  show (if q = 1 ∨ q = 191 ∨ q = 198 ∨ q = 205 ∨ q = 212 then _ else if q = 2 ∨ q = 3 ∨ q = 192 ∨ q = 193 ∨ q = 199 ∨ q = 200 ∨ q = 206 ∨ q = 207 ∨ q = 213 ∨ q = 214 then _ else if q = 221 then _ else _) = _
  rw [if_neg (by omega), if_neg (by omega), if_neg (by omega)]
theorem ef_w (B : Wb) : (.inl (wC B 6, 120, .inr (.inr (.inr (.inr (fun _ => none))))) : va_E) = fin B σ0 221 := by
  unfold fin
  rw [show shp 221 = (7, 120, []) from by decide +kernel]
  rfl
theorem oi_i : Cond.instanceMethod objectInit ∈ GL := gl_in 32 (by decide +kernel) (by decide +kernel)
theorem oi_c : Cond.code objectInit ⟨#[0xb1]⟩ 1 none ∈ GL := gl_in 33 (by decide +kernel) (by decide +kernel)
theorem lk_X6_3 : Cond.methodLink RX6 3 objectInit ∈ GL := gl_in 159 (by decide +kernel) (by decide +kernel)
theorem ka_long : Cond.arrayClass .long ∈ GL := gl_in 122 (by decide +kernel) (by decide +kernel)
theorem ff_X6_1 : FptF 5 1 (.array .long) := ⟨RX6, TX6, 4, tyX6, rfl, tyX6_ok, nmX6, rfl, by decide +kernel⟩
theorem ka_int : Cond.arrayClass .int ∈ GL := gl_in 121 (by decide +kernel) (by decide +kernel)
theorem ff_X6_2 : FptF 5 2 (.array .int) := ⟨RX6, TX6, 4, tyX6, rfl, tyX6_ok, nmX6, rfl, by decide +kernel⟩
theorem ff_X6_0 : FptF 5 0 (.object "SlownessImager$Grid") := ⟨RX6, TX6, 4, tyX6, rfl, tyX6_ok, nmX6, rfl, by decide +kernel⟩
theorem lk_X4_3 : Cond.methodLink RX4 3 objectInit ∈ GL := gl_in 220 (by decide +kernel) (by decide +kernel)
theorem ff_X4_0 : FptF 3 0 (.object "SlownessImager$State") := ⟨RX4, TX4, 2, tyX4, rfl, tyX4_ok, nmX4, rfl, by decide +kernel⟩
theorem ff_X4_1 : FptF 3 1 (.object "SlownessImager$Ways") := ⟨RX4, TX4, 2, tyX4, rfl, tyX4_ok, nmX4, rfl, by decide +kernel⟩
theorem lk_X1_3 : Cond.methodLink RX1 3 objectInit ∈ GL := gl_in 233 (by decide +kernel) (by decide +kernel)
theorem ff_X1_5 : FptF 0 5 (.array .int) := ⟨RX1, TX1, 7, tyX1, rfl, tyX1_ok, nmX1, rfl, by decide +kernel⟩
theorem ff_X1_6 : FptF 0 6 (.array .int) := ⟨RX1, TX1, 7, tyX1, rfl, tyX1_ok, nmX1, rfl, by decide +kernel⟩
theorem ff_X1_0 : FptF 0 0 (.object "SlownessImager$State") := ⟨RX1, TX1, 7, tyX1, rfl, tyX1_ok, nmX1, rfl, by decide +kernel⟩
theorem ff_X1_1 : FptF 0 1 (.object "SlownessImager$Grid") := ⟨RX1, TX1, 7, tyX1, rfl, tyX1_ok, nmX1, rfl, by decide +kernel⟩
theorem ff_X1_2 : FptF 0 2 (.object "SlownessImager$Search") := ⟨RX1, TX1, 7, tyX1, rfl, tyX1_ok, nmX1, rfl, by decide +kernel⟩
theorem ff_X1_3 : FptF 0 3 (.object "SlownessImager$Ways") := ⟨RX1, TX1, 7, tyX1, rfl, tyX1_ok, nmX1, rfl, by decide +kernel⟩
theorem ff_X1_4 : FptF 0 4 (.object "SlownessImager$Readings") := ⟨RX1, TX1, 7, tyX1, rfl, tyX1_ok, nmX1, rfl, by decide +kernel⟩
theorem lk_X8_3 : Cond.methodLink RX8 3 objectInit ∈ GL := gl_in 261 (by decide +kernel) (by decide +kernel)
theorem ff_X8_3 : FptF 7 3 (.array .int) := ⟨RX8, TX8, 5, tyX8, rfl, tyX8_ok, nmX8, rfl, by decide +kernel⟩
theorem ff_X8_4 : FptF 7 4 (.array .long) := ⟨RX8, TX8, 5, tyX8, rfl, tyX8_ok, nmX8, rfl, by decide +kernel⟩
theorem ff_X8_0 : FptF 7 0 (.object "SlownessImager$State") := ⟨RX8, TX8, 5, tyX8, rfl, tyX8_ok, nmX8, rfl, by decide +kernel⟩
theorem ff_X8_1 : FptF 7 1 (.object "SlownessImager$Ways") := ⟨RX8, TX8, 5, tyX8, rfl, tyX8_ok, nmX8, rfl, by decide +kernel⟩
theorem ff_X8_2 : FptF 7 2 (.object "SlownessImager$Changes") := ⟨RX8, TX8, 5, tyX8, rfl, tyX8_ok, nmX8, rfl, by decide +kernel⟩
theorem lk_X5_3 : Cond.methodLink RX5 3 objectInit ∈ GL := gl_in 303 (by decide +kernel) (by decide +kernel)
theorem ka_byte : Cond.arrayClass .byte ∈ GL := gl_in 333 (by decide +kernel) (by decide +kernel)
theorem ff_X5_0 : FptF 4 0 (.array .byte) := ⟨RX5, TX5, 7, tyX5, rfl, tyX5_ok, nmX5, rfl, by decide +kernel⟩
theorem kl_X5_15 : Cond.classLink RX5 15 "SlownessImager$Word" ∈ GL := gl_in 304 (by decide +kernel) (by decide +kernel)
theorem ff_X5_2 : FptF 4 2 (.array (.object "SlownessImager$Word")) := ⟨RX5, TX5, 7, tyX5, rfl, tyX5_ok, nmX5, rfl, by decide +kernel⟩
theorem ff_X5_3 : FptF 4 3 (.array .int) := ⟨RX5, TX5, 7, tyX5, rfl, tyX5_ok, nmX5, rfl, by decide +kernel⟩
theorem ff_X5_4 : FptF 4 4 (.array .int) := ⟨RX5, TX5, 7, tyX5, rfl, tyX5_ok, nmX5, rfl, by decide +kernel⟩
theorem lk_X2_3 : Cond.methodLink RX2 3 objectInit ∈ GL := gl_in 129 (by decide +kernel) (by decide +kernel)
theorem ff_X2_1 : FptF 1 1 (.array .int) := ⟨RX2, TX2, 4, tyX2, rfl, tyX2_ok, nmX2, rfl, by decide +kernel⟩
theorem kl_X2_15 : Cond.classLink RX2 15 ("[" ++ (FieldType.array .int).toString) ∈ GL := gl_in 130 (by decide +kernel) (by decide +kernel)
theorem ff_X2_2 : FptF 1 2 (.array (.array .int)) := ⟨RX2, TX2, 4, tyX2, rfl, tyX2_ok, nmX2, rfl, by decide +kernel⟩
theorem ff_X2_3 : FptF 1 3 (.array (.array .int)) := ⟨RX2, TX2, 4, tyX2, rfl, tyX2_ok, nmX2, rfl, by decide +kernel⟩
theorem lk_X9_3 : Cond.methodLink RX9 3 objectInit ∈ GL := gl_in 178 (by decide +kernel) (by decide +kernel)
theorem ka_boolean : Cond.arrayClass .boolean ∈ GL := gl_in 123 (by decide +kernel) (by decide +kernel)
theorem ff_X9_3 : FptF 8 3 (.array .boolean) := ⟨RX9, TX9, 9, tyX9, rfl, tyX9_ok, nmX9, rfl, by decide +kernel⟩
theorem ff_X9_4 : FptF 8 4 (.array .int) := ⟨RX9, TX9, 9, tyX9, rfl, tyX9_ok, nmX9, rfl, by decide +kernel⟩
theorem ff_X9_5 : FptF 8 5 (.array .long) := ⟨RX9, TX9, 9, tyX9, rfl, tyX9_ok, nmX9, rfl, by decide +kernel⟩
theorem ff_X9_6 : FptF 8 6 (.array .int) := ⟨RX9, TX9, 9, tyX9, rfl, tyX9_ok, nmX9, rfl, by decide +kernel⟩
theorem kl_X9_26 : Cond.classLink RX9 26 ("[" ++ (FieldType.array .int).toString) ∈ GL := gl_in 179 (by decide +kernel) (by decide +kernel)
theorem ff_X9_7 : FptF 8 7 (.array (.array .int)) := ⟨RX9, TX9, 9, tyX9, rfl, tyX9_ok, nmX9, rfl, by decide +kernel⟩
theorem ff_X9_8 : FptF 8 8 (.array (.array .int)) := ⟨RX9, TX9, 9, tyX9, rfl, tyX9_ok, nmX9, rfl, by decide +kernel⟩
theorem ff_X9_0 : FptF 8 0 (.object "SlownessImager$State") := ⟨RX9, TX9, 9, tyX9, rfl, tyX9_ok, nmX9, rfl, by decide +kernel⟩
theorem ff_X9_1 : FptF 8 1 (.object "SlownessImager$Grid") := ⟨RX9, TX9, 9, tyX9, rfl, tyX9_ok, nmX9, rfl, by decide +kernel⟩
theorem ff_X9_2 : FptF 8 2 (.object "SlownessImager$Search") := ⟨RX9, TX9, 9, tyX9, rfl, tyX9_ok, nmX9, rfl, by decide +kernel⟩
theorem ef_141 (B : Wb) : (.inl (wC B 1, 64, .inr (.inl (fun _ => 0))) : va_E) = fin B σ0 141 := by
  unfold fin
  rw [show shp 141 = (2, 64, []) from by decide +kernel]
  rfl
theorem ef_142 (B : Wb) : (.inl (wC B 0, 64, .inl (fun _ => 0)) : va_E) = fin B σ0 142 := by
  unfold fin
  rw [show shp 142 = (1, 64, []) from by decide +kernel]
  rfl
theorem ef_140 (B : Wb) : (.inr (5, [.ref (wA B 8), .ref (wA B 141), .ref (wA B 142), .int 0]) : va_E) = fin B σ0 140 := by
  unfold fin
  rw [show shp 140 = (0, 5, [10, 143, 144, 0]) from by decide +kernel]
  rfl
abbrev rm_i_X6_140 : Room := { frames := 1, cells := 2, slots := 128, locals := 12 }
set_option maxHeartbeats 400000 in
set_option maxRecDepth 100000 in
theorem i_X6_140 (l : Launch) (B : Wb) : MetI l yX6_init cX6_init 2 rm_i_X6_140 B 140 141 (EX B σ0 140 5 [.null, .null, .null, .int 0]) 143 (fin B σ0) [.ref (wA B 140), .ref (wA B 8)] 2 128 := by
  refine metI_in (by decide +kernel) rfl (Nat.le_of_ble_eq_true rfl) ?_
  intro p e s m below meth c C0 hr hin w ls hl
  have hx := C0.1.1
  have hb := C0.1.2.1
  refine lv_aload_n hx hb dX6_init_0 rfl (lv_at hl 0 rfl) ?_
  refine bObj C0 lk_X6_3 oi_i oi_c hl.1 ⟨Nat.le_of_ble_eq_true rfl, Nat.le_of_ble_eq_true rfl⟩ dX6_init_1 ?_
  refine lv_aload_n hx hb dX6_init_4 rfl (lv_at hl 0 rfl) ?_
  refine lv_bipush (v := 64) hx hb dX6_init_5 (by decide) ?_
  refine bArr (at_ := .long) (N := 64) (a0 := (64, .inr (.inl (fun _ => 0)))) C0 w ka_long 1 rfl rfl rfl rfl (by decide) rfl (by decide) (Nat.le_of_ble_eq_true rfl) (Nat.le_of_ble_eq_true rfl) dX6_init_7 (fun H w => ?_)
  rw [EX_arr (by decide) (ef_141 B)] at w
  have w : Bx B 140 142 (EX B σ0 140 5 [.null, .null, .null, .int 0]) s H _ := w
  refine bPutF C0 w (by decide) (by decide) EX_at fk_X6_9 ff_X6_1 (by intro C T N h; have h2 : some (RX6, TX6, 4) = some (C, T, N) := h; cases h2; rfl) hin rfl rfl (Nat.le_of_ble_eq_true rfl) dX6_init_9 (fun H locs w => ?_)
  rw [EX_put] at w
  have w : Bx B 140 142 (EX B σ0 140 5 [.null, .ref (wA B 141), .null, .int 0]) s H _ := w
  refine lv_aload_n hx hb dX6_init_12 rfl (lv_at hl 0 rfl) ?_
  refine lv_bipush (v := 64) hx hb dX6_init_13 (by decide) ?_
  refine bArr (at_ := .int) (N := 64) (a0 := (64, .inl (fun _ => 0))) C0 w ka_int 0 rfl rfl rfl rfl (by decide) rfl (by decide) (Nat.le_of_ble_eq_true rfl) (Nat.le_of_ble_eq_true rfl) dX6_init_15 (fun H w => ?_)
  rw [EX_arr (by decide) (ef_142 B)] at w
  have w : Bx B 140 143 (EX B σ0 140 5 [.null, .ref (wA B 141), .null, .int 0]) s H _ := w
  refine bPutF C0 w (by decide) (by decide) EX_at fk_X6_15 ff_X6_2 (by intro C T N h; have h2 : some (RX6, TX6, 4) = some (C, T, N) := h; cases h2; rfl) hin rfl rfl (Nat.le_of_ble_eq_true rfl) dX6_init_17 (fun H locs w => ?_)
  rw [EX_put] at w
  have w : Bx B 140 143 (EX B σ0 140 5 [.null, .ref (wA B 141), .ref (wA B 142), .int 0]) s H _ := w
  refine lv_aload_n hx hb dX6_init_20 rfl (lv_at hl 0 rfl) ?_
  refine lv_aload_n hx hb dX6_init_21 rfl (lv_at hl 1 rfl) ?_
  refine bPutF C0 w (by decide) (by decide) EX_at fk_X6_19 ff_X6_0 (by intro C T N h; have h2 : some (RX6, TX6, 4) = some (C, T, N) := h; cases h2; rfl) hin rfl rfl (Nat.le_of_ble_eq_true rfl) dX6_init_22 (fun H locs w => ?_)
  rw [EX_put] at w
  have w : Bx B 140 143 (EX B σ0 140 5 [.ref (wA B 8), .ref (wA B 141), .ref (wA B 142), .int 0]) s H _ := w
  rw [EX_fin (ef_140 B)] at w
  exact bRet C0 hr w dX6_init_25
theorem ef_182 (B : Wb) : (.inr (3, [.ref (wA B 1), .ref (wA B 143)]) : va_E) = fin B σ0 182 := by
  unfold fin
  rw [show shp 182 = (0, 3, [3, 145]) from by decide +kernel]
  rfl
abbrev rm_i_X4_182 : Room := { frames := 1, cells := 0, slots := 0, locals := 12 }
set_option maxHeartbeats 400000 in
set_option maxRecDepth 100000 in
theorem i_X4_182 (l : Launch) (B : Wb) : MetI l yX4_init cX4_init 3 rm_i_X4_182 B 182 183 (EX B σ0 182 3 [.null, .null]) 183 (fin B σ0) [.ref (wA B 182), .ref (wA B 1), .ref (wA B 143)] 0 0 := by
  refine metI_in (by decide +kernel) rfl (Nat.le_of_ble_eq_true rfl) ?_
  intro p e s m below meth c C0 hr hin w ls hl
  have hx := C0.1.1
  have hb := C0.1.2.1
  refine lv_aload_n hx hb dX4_init_0 rfl (lv_at hl 0 rfl) ?_
  refine bObj C0 lk_X4_3 oi_i oi_c hl.1 ⟨Nat.le_of_ble_eq_true rfl, Nat.le_of_ble_eq_true rfl⟩ dX4_init_1 ?_
  refine lv_aload_n hx hb dX4_init_4 rfl (lv_at hl 0 rfl) ?_
  refine lv_aload_n hx hb dX4_init_5 rfl (lv_at hl 1 rfl) ?_
  refine bPutF C0 w (by decide) (by decide) EX_at fk_X4_9 ff_X4_0 (by intro C T N h; have h2 : some (RX4, TX4, 2) = some (C, T, N) := h; cases h2; rfl) hin rfl rfl (Nat.le_of_ble_eq_true rfl) dX4_init_6 (fun H locs w => ?_)
  rw [EX_put] at w
  have w : Bx B 182 183 (EX B σ0 182 3 [.ref (wA B 1), .null]) s H _ := w
  refine lv_aload_n hx hb dX4_init_9 rfl (lv_at hl 0 rfl) ?_
  refine lv_aload_n hx hb dX4_init_10 rfl (lv_at hl 2 rfl) ?_
  refine bPutF C0 w (by decide) (by decide) EX_at fk_X4_15 ff_X4_1 (by intro C T N h; have h2 : some (RX4, TX4, 2) = some (C, T, N) := h; cases h2; rfl) hin rfl rfl (Nat.le_of_ble_eq_true rfl) dX4_init_11 (fun H locs w => ?_)
  rw [EX_put] at w
  have w : Bx B 182 183 (EX B σ0 182 3 [.ref (wA B 1), .ref (wA B 143)]) s H _ := w
  rw [EX_fin (ef_182 B)] at w
  exact bRet C0 hr w dX4_init_14
theorem ef_184 (B : Wb) : (.inl (wC B 0, 64, .inl (fun _ => 0)) : va_E) = fin B σ0 184 := by
  unfold fin
  rw [show shp 184 = (1, 64, []) from by decide +kernel]
  rfl
theorem ef_185 (B : Wb) : (.inl (wC B 0, 64, .inl (fun _ => 0)) : va_E) = fin B σ0 185 := by
  unfold fin
  rw [show shp 185 = (1, 64, []) from by decide +kernel]
  rfl
theorem ef_183 (B : Wb) : (.inr (0, [.ref (wA B 1), .ref (wA B 8), .ref (wA B 140), .ref (wA B 143), .ref (wA B 182), .ref (wA B 184), .ref (wA B 185)]) : va_E) = fin B σ0 183 := by
  unfold fin
  rw [show shp 183 = (0, 0, [3, 10, 142, 145, 184, 186, 187]) from by decide +kernel]
  rfl
abbrev rm_i_X1_183 : Room := { frames := 1, cells := 2, slots := 128, locals := 12 }
set_option maxHeartbeats 400000 in
set_option maxRecDepth 100000 in
theorem i_X1_183 (l : Launch) (B : Wb) : MetI l yX1_init cX1_init 6 rm_i_X1_183 B 183 184 (EX B σ0 183 0 [.null, .null, .null, .null, .null, .null, .null]) 186 (fin B σ0) [.ref (wA B 183), .ref (wA B 1), .ref (wA B 8), .ref (wA B 140), .ref (wA B 143), .ref (wA B 182)] 2 128 := by
  refine metI_in (by decide +kernel) rfl (Nat.le_of_ble_eq_true rfl) ?_
  intro p e s m below meth c C0 hr hin w ls hl
  have hx := C0.1.1
  have hb := C0.1.2.1
  refine lv_aload_n hx hb dX1_init_0 rfl (lv_at hl 0 rfl) ?_
  refine bObj C0 lk_X1_3 oi_i oi_c hl.1 ⟨Nat.le_of_ble_eq_true rfl, Nat.le_of_ble_eq_true rfl⟩ dX1_init_1 ?_
  refine lv_aload_n hx hb dX1_init_4 rfl (lv_at hl 0 rfl) ?_
  refine lv_bipush (v := 64) hx hb dX1_init_5 (by decide) ?_
  refine bArr (at_ := .int) (N := 64) (a0 := (64, .inl (fun _ => 0))) C0 w ka_int 0 rfl rfl rfl rfl (by decide) rfl (by decide) (Nat.le_of_ble_eq_true rfl) (Nat.le_of_ble_eq_true rfl) dX1_init_7 (fun H w => ?_)
  rw [EX_arr (by decide) (ef_184 B)] at w
  have w : Bx B 183 185 (EX B σ0 183 0 [.null, .null, .null, .null, .null, .null, .null]) s H _ := w
  refine bPutF C0 w (by decide) (by decide) EX_at fk_X1_9 ff_X1_5 (by intro C T N h; have h2 : some (RX1, TX1, 7) = some (C, T, N) := h; cases h2; rfl) hin rfl rfl (Nat.le_of_ble_eq_true rfl) dX1_init_9 (fun H locs w => ?_)
  rw [EX_put] at w
  have w : Bx B 183 185 (EX B σ0 183 0 [.null, .null, .null, .null, .null, .ref (wA B 184), .null]) s H _ := w
  refine lv_aload_n hx hb dX1_init_12 rfl (lv_at hl 0 rfl) ?_
  refine lv_bipush (v := 64) hx hb dX1_init_13 (by decide) ?_
  refine bArr (at_ := .int) (N := 64) (a0 := (64, .inl (fun _ => 0))) C0 w ka_int 0 rfl rfl rfl rfl (by decide) rfl (by decide) (Nat.le_of_ble_eq_true rfl) (Nat.le_of_ble_eq_true rfl) dX1_init_15 (fun H w => ?_)
  rw [EX_arr (by decide) (ef_185 B)] at w
  have w : Bx B 183 186 (EX B σ0 183 0 [.null, .null, .null, .null, .null, .ref (wA B 184), .null]) s H _ := w
  refine bPutF C0 w (by decide) (by decide) EX_at fk_X1_15 ff_X1_6 (by intro C T N h; have h2 : some (RX1, TX1, 7) = some (C, T, N) := h; cases h2; rfl) hin rfl rfl (Nat.le_of_ble_eq_true rfl) dX1_init_17 (fun H locs w => ?_)
  rw [EX_put] at w
  have w : Bx B 183 186 (EX B σ0 183 0 [.null, .null, .null, .null, .null, .ref (wA B 184), .ref (wA B 185)]) s H _ := w
  refine lv_aload_n hx hb dX1_init_20 rfl (lv_at hl 0 rfl) ?_
  refine lv_aload_n hx hb dX1_init_21 rfl (lv_at hl 1 rfl) ?_
  refine bPutF C0 w (by decide) (by decide) EX_at fk_X1_18 ff_X1_0 (by intro C T N h; have h2 : some (RX1, TX1, 7) = some (C, T, N) := h; cases h2; rfl) hin rfl rfl (Nat.le_of_ble_eq_true rfl) dX1_init_22 (fun H locs w => ?_)
  rw [EX_put] at w
  have w : Bx B 183 186 (EX B σ0 183 0 [.ref (wA B 1), .null, .null, .null, .null, .ref (wA B 184), .ref (wA B 185)]) s H _ := w
  refine lv_aload_n hx hb dX1_init_25 rfl (lv_at hl 0 rfl) ?_
  refine lv_aload_n hx hb dX1_init_26 rfl (lv_at hl 2 rfl) ?_
  refine bPutF C0 w (by decide) (by decide) EX_at fk_X1_22 ff_X1_1 (by intro C T N h; have h2 : some (RX1, TX1, 7) = some (C, T, N) := h; cases h2; rfl) hin rfl rfl (Nat.le_of_ble_eq_true rfl) dX1_init_27 (fun H locs w => ?_)
  rw [EX_put] at w
  have w : Bx B 183 186 (EX B σ0 183 0 [.ref (wA B 1), .ref (wA B 8), .null, .null, .null, .ref (wA B 184), .ref (wA B 185)]) s H _ := w
  refine lv_aload_n hx hb dX1_init_30 rfl (lv_at hl 0 rfl) ?_
  refine lv_aload_n hx hb dX1_init_31 rfl (lv_at hl 3 rfl) ?_
  refine bPutF C0 w (by decide) (by decide) EX_at fk_X1_26 ff_X1_2 (by intro C T N h; have h2 : some (RX1, TX1, 7) = some (C, T, N) := h; cases h2; rfl) hin rfl rfl (Nat.le_of_ble_eq_true rfl) dX1_init_32 (fun H locs w => ?_)
  rw [EX_put] at w
  have w : Bx B 183 186 (EX B σ0 183 0 [.ref (wA B 1), .ref (wA B 8), .ref (wA B 140), .null, .null, .ref (wA B 184), .ref (wA B 185)]) s H _ := w
  refine lv_aload_n hx hb dX1_init_35 rfl (lv_at hl 0 rfl) ?_
  refine lv_aload hx hb dX1_init_36 (lv_at hl 4 rfl) ?_
  refine bPutF C0 w (by decide) (by decide) EX_at fk_X1_30 ff_X1_3 (by intro C T N h; have h2 : some (RX1, TX1, 7) = some (C, T, N) := h; cases h2; rfl) hin rfl rfl (Nat.le_of_ble_eq_true rfl) dX1_init_38 (fun H locs w => ?_)
  rw [EX_put] at w
  have w : Bx B 183 186 (EX B σ0 183 0 [.ref (wA B 1), .ref (wA B 8), .ref (wA B 140), .ref (wA B 143), .null, .ref (wA B 184), .ref (wA B 185)]) s H _ := w
  refine lv_aload_n hx hb dX1_init_41 rfl (lv_at hl 0 rfl) ?_
  refine lv_aload hx hb dX1_init_42 (lv_at hl 5 rfl) ?_
  refine bPutF C0 w (by decide) (by decide) EX_at fk_X1_34 ff_X1_4 (by intro C T N h; have h2 : some (RX1, TX1, 7) = some (C, T, N) := h; cases h2; rfl) hin rfl rfl (Nat.le_of_ble_eq_true rfl) dX1_init_44 (fun H locs w => ?_)
  rw [EX_put] at w
  have w : Bx B 183 186 (EX B σ0 183 0 [.ref (wA B 1), .ref (wA B 8), .ref (wA B 140), .ref (wA B 143), .ref (wA B 182), .ref (wA B 184), .ref (wA B 185)]) s H _ := w
  rw [EX_fin (ef_183 B)] at w
  exact bRet C0 hr w dX1_init_47
theorem ef_187 (B : Wb) : (.inl (wC B 0, 16, .inl (fun _ => 0)) : va_E) = fin B σ0 187 := by
  unfold fin
  rw [show shp 187 = (1, 16, []) from by decide +kernel]
  rfl
theorem ef_188 (B : Wb) : (.inl (wC B 1, 16, .inr (.inl (fun _ => 0))) : va_E) = fin B σ0 188 := by
  unfold fin
  rw [show shp 188 = (2, 16, []) from by decide +kernel]
  rfl
theorem ef_186 (B : Wb) : (.inr (7, [.ref (wA B 1), .ref (wA B 143), .ref (wA B 183), .ref (wA B 187), .ref (wA B 188)]) : va_E) = fin B σ0 186 := by
  unfold fin
  rw [show shp 186 = (0, 7, [3, 145, 185, 189, 190]) from by decide +kernel]
  rfl
abbrev rm_i_X8_186 : Room := { frames := 1, cells := 2, slots := 32, locals := 12 }
set_option maxHeartbeats 400000 in
set_option maxRecDepth 100000 in
theorem i_X8_186 (l : Launch) (B : Wb) : MetI l yX8_init cX8_init 4 rm_i_X8_186 B 186 187 (EX B σ0 186 7 [.null, .null, .null, .null, .null]) 189 (fin B σ0) [.ref (wA B 186), .ref (wA B 1), .ref (wA B 143), .ref (wA B 183)] 2 32 := by
  refine metI_in (by decide +kernel) rfl (Nat.le_of_ble_eq_true rfl) ?_
  intro p e s m below meth c C0 hr hin w ls hl
  have hx := C0.1.1
  have hb := C0.1.2.1
  refine lv_aload_n hx hb dX8_init_0 rfl (lv_at hl 0 rfl) ?_
  refine bObj C0 lk_X8_3 oi_i oi_c hl.1 ⟨Nat.le_of_ble_eq_true rfl, Nat.le_of_ble_eq_true rfl⟩ dX8_init_1 ?_
  refine lv_aload_n hx hb dX8_init_4 rfl (lv_at hl 0 rfl) ?_
  refine lv_bipush (v := 16) hx hb dX8_init_5 (by decide) ?_
  refine bArr (at_ := .int) (N := 16) (a0 := (16, .inl (fun _ => 0))) C0 w ka_int 0 rfl rfl rfl rfl (by decide) rfl (by decide) (Nat.le_of_ble_eq_true rfl) (Nat.le_of_ble_eq_true rfl) dX8_init_7 (fun H w => ?_)
  rw [EX_arr (by decide) (ef_187 B)] at w
  have w : Bx B 186 188 (EX B σ0 186 7 [.null, .null, .null, .null, .null]) s H _ := w
  refine bPutF C0 w (by decide) (by decide) EX_at fk_X8_9 ff_X8_3 (by intro C T N h; have h2 : some (RX8, TX8, 5) = some (C, T, N) := h; cases h2; rfl) hin rfl rfl (Nat.le_of_ble_eq_true rfl) dX8_init_9 (fun H locs w => ?_)
  rw [EX_put] at w
  have w : Bx B 186 188 (EX B σ0 186 7 [.null, .null, .null, .ref (wA B 187), .null]) s H _ := w
  refine lv_aload_n hx hb dX8_init_12 rfl (lv_at hl 0 rfl) ?_
  refine lv_bipush (v := 16) hx hb dX8_init_13 (by decide) ?_
  refine bArr (at_ := .long) (N := 16) (a0 := (16, .inr (.inl (fun _ => 0)))) C0 w ka_long 1 rfl rfl rfl rfl (by decide) rfl (by decide) (Nat.le_of_ble_eq_true rfl) (Nat.le_of_ble_eq_true rfl) dX8_init_15 (fun H w => ?_)
  rw [EX_arr (by decide) (ef_188 B)] at w
  have w : Bx B 186 189 (EX B σ0 186 7 [.null, .null, .null, .ref (wA B 187), .null]) s H _ := w
  refine bPutF C0 w (by decide) (by decide) EX_at fk_X8_15 ff_X8_4 (by intro C T N h; have h2 : some (RX8, TX8, 5) = some (C, T, N) := h; cases h2; rfl) hin rfl rfl (Nat.le_of_ble_eq_true rfl) dX8_init_17 (fun H locs w => ?_)
  rw [EX_put] at w
  have w : Bx B 186 189 (EX B σ0 186 7 [.null, .null, .null, .ref (wA B 187), .ref (wA B 188)]) s H _ := w
  refine lv_aload_n hx hb dX8_init_20 rfl (lv_at hl 0 rfl) ?_
  refine lv_aload_n hx hb dX8_init_21 rfl (lv_at hl 1 rfl) ?_
  refine bPutF C0 w (by decide) (by decide) EX_at fk_X8_19 ff_X8_0 (by intro C T N h; have h2 : some (RX8, TX8, 5) = some (C, T, N) := h; cases h2; rfl) hin rfl rfl (Nat.le_of_ble_eq_true rfl) dX8_init_22 (fun H locs w => ?_)
  rw [EX_put] at w
  have w : Bx B 186 189 (EX B σ0 186 7 [.ref (wA B 1), .null, .null, .ref (wA B 187), .ref (wA B 188)]) s H _ := w
  refine lv_aload_n hx hb dX8_init_25 rfl (lv_at hl 0 rfl) ?_
  refine lv_aload_n hx hb dX8_init_26 rfl (lv_at hl 2 rfl) ?_
  refine bPutF C0 w (by decide) (by decide) EX_at fk_X8_23 ff_X8_1 (by intro C T N h; have h2 : some (RX8, TX8, 5) = some (C, T, N) := h; cases h2; rfl) hin rfl rfl (Nat.le_of_ble_eq_true rfl) dX8_init_27 (fun H locs w => ?_)
  rw [EX_put] at w
  have w : Bx B 186 189 (EX B σ0 186 7 [.ref (wA B 1), .ref (wA B 143), .null, .ref (wA B 187), .ref (wA B 188)]) s H _ := w
  refine lv_aload_n hx hb dX8_init_30 rfl (lv_at hl 0 rfl) ?_
  refine lv_aload_n hx hb dX8_init_31 rfl (lv_at hl 3 rfl) ?_
  refine bPutF C0 w (by decide) (by decide) EX_at fk_X8_27 ff_X8_2 (by intro C T N h; have h2 : some (RX8, TX8, 5) = some (C, T, N) := h; cases h2; rfl) hin rfl rfl (Nat.le_of_ble_eq_true rfl) dX8_init_32 (fun H locs w => ?_)
  rw [EX_put] at w
  have w : Bx B 186 189 (EX B σ0 186 7 [.ref (wA B 1), .ref (wA B 143), .ref (wA B 183), .ref (wA B 187), .ref (wA B 188)]) s H _ := w
  rw [EX_fin (ef_186 B)] at w
  exact bRet C0 hr w dX8_init_35
theorem ef_220 (B : Wb) : (.inl (wC B 3, 120, .inl (fun _ => 0)) : va_E) = fin B σ0 220 := by
  unfold fin
  rw [show shp 220 = (4, 120, []) from by decide +kernel]
  rfl
theorem ef_222 (B : Wb) : (.inl (wC B 0, 120, .inl (fun _ => 0)) : va_E) = fin B σ0 222 := by
  unfold fin
  rw [show shp 222 = (1, 120, []) from by decide +kernel]
  rfl
theorem ef_223 (B : Wb) : (.inl (wC B 0, 120, .inl (fun _ => 0)) : va_E) = fin B σ0 223 := by
  unfold fin
  rw [show shp 223 = (1, 120, []) from by decide +kernel]
  rfl
theorem ef_219 (B : Wb) : (.inr (4, [.ref (wA B 220), .int 0, .ref (wA B 221), .ref (wA B 222), .ref (wA B 223), .int 0, .int 0]) : va_E) = fin B σ0 219 := by
  unfold fin
  rw [show shp 219 = (0, 4, [222, 0, 223, 224, 225, 0, 0]) from by decide +kernel]
  rfl
abbrev rm_i_X5_219 : Room := { frames := 1, cells := 4, slots := 480, locals := 12 }
set_option maxHeartbeats 400000 in
set_option maxRecDepth 100000 in
theorem i_X5_219 (l : Launch) (B : Wb) : MetI l yX5_init cX5_init 1 rm_i_X5_219 B 219 220 (EX B σ0 219 4 [.null, .int 0, .null, .null, .null, .int 0, .int 0]) 224 (fin B σ0) [.ref (wA B 219)] 4 480 := by
  refine metI_in (by decide +kernel) rfl (Nat.le_of_ble_eq_true rfl) ?_
  intro p e s m below meth c C0 hr hin w ls hl
  have hx := C0.1.1
  have hb := C0.1.2.1
  refine lv_aload_n hx hb dX5_init_0 rfl (lv_at hl 0 rfl) ?_
  refine bObj C0 lk_X5_3 oi_i oi_c hl.1 ⟨Nat.le_of_ble_eq_true rfl, Nat.le_of_ble_eq_true rfl⟩ dX5_init_1 ?_
  refine lv_aload_n hx hb dX5_init_4 rfl (lv_at hl 0 rfl) ?_
  refine lv_bipush (v := 120) hx hb dX5_init_5 (by decide) ?_
  refine bArr (at_ := .byte) (N := 120) (a0 := (120, .inl (fun _ => 0))) C0 w ka_byte 3 rfl rfl rfl rfl (by decide) rfl (by decide) (Nat.le_of_ble_eq_true rfl) (Nat.le_of_ble_eq_true rfl) dX5_init_7 (fun H w => ?_)
  rw [EX_arr (by decide) (ef_220 B)] at w
  have w : Bx B 219 221 (EX B σ0 219 4 [.null, .int 0, .null, .null, .null, .int 0, .int 0]) s H _ := w
  refine bPutF C0 w (by decide) (by decide) EX_at fk_X5_9 ff_X5_0 (by intro C T N h; have h2 : some (RX5, TX5, 7) = some (C, T, N) := h; cases h2; rfl) hin rfl rfl (Nat.le_of_ble_eq_true rfl) dX5_init_9 (fun H locs w => ?_)
  rw [EX_put] at w
  have w : Bx B 219 221 (EX B σ0 219 4 [.ref (wA B 220), .int 0, .null, .null, .null, .int 0, .int 0]) s H _ := w
  refine lv_aload_n hx hb dX5_init_12 rfl (lv_at hl 0 rfl) ?_
  refine lv_bipush (v := 120) hx hb dX5_init_13 (by decide) ?_
  refine bRef (N := 120) (t0 := 6) C0 w kl_X5_15 w.2.2.2.2.1.2.2.1 rfl (by decide) rfl (by decide) (Nat.le_of_ble_eq_true rfl) (Nat.le_of_ble_eq_true rfl) dX5_init_15 (fun H w => ?_)
  rw [EX_arr (by decide) (ef_w B)] at w
  have w : Bx B 219 222 (EX B σ0 219 4 [.ref (wA B 220), .int 0, .null, .null, .null, .int 0, .int 0]) s H _ := w
  refine bPutF C0 w (by decide) (by decide) EX_at fk_X5_17 ff_X5_2 (by intro C T N h; have h2 : some (RX5, TX5, 7) = some (C, T, N) := h; cases h2; rfl) hin rfl rfl (Nat.le_of_ble_eq_true rfl) dX5_init_18 (fun H locs w => ?_)
  rw [EX_put] at w
  have w : Bx B 219 222 (EX B σ0 219 4 [.ref (wA B 220), .int 0, .ref (wA B 221), .null, .null, .int 0, .int 0]) s H _ := w
  refine lv_aload_n hx hb dX5_init_21 rfl (lv_at hl 0 rfl) ?_
  refine lv_bipush (v := 120) hx hb dX5_init_22 (by decide) ?_
  refine bArr (at_ := .int) (N := 120) (a0 := (120, .inl (fun _ => 0))) C0 w ka_int 0 rfl rfl rfl rfl (by decide) rfl (by decide) (Nat.le_of_ble_eq_true rfl) (Nat.le_of_ble_eq_true rfl) dX5_init_24 (fun H w => ?_)
  rw [EX_arr (by decide) (ef_222 B)] at w
  have w : Bx B 219 223 (EX B σ0 219 4 [.ref (wA B 220), .int 0, .ref (wA B 221), .null, .null, .int 0, .int 0]) s H _ := w
  refine bPutF C0 w (by decide) (by decide) EX_at fk_X5_21 ff_X5_3 (by intro C T N h; have h2 : some (RX5, TX5, 7) = some (C, T, N) := h; cases h2; rfl) hin rfl rfl (Nat.le_of_ble_eq_true rfl) dX5_init_26 (fun H locs w => ?_)
  rw [EX_put] at w
  have w : Bx B 219 223 (EX B σ0 219 4 [.ref (wA B 220), .int 0, .ref (wA B 221), .ref (wA B 222), .null, .int 0, .int 0]) s H _ := w
  refine lv_aload_n hx hb dX5_init_29 rfl (lv_at hl 0 rfl) ?_
  refine lv_bipush (v := 120) hx hb dX5_init_30 (by decide) ?_
  refine bArr (at_ := .int) (N := 120) (a0 := (120, .inl (fun _ => 0))) C0 w ka_int 0 rfl rfl rfl rfl (by decide) rfl (by decide) (Nat.le_of_ble_eq_true rfl) (Nat.le_of_ble_eq_true rfl) dX5_init_32 (fun H w => ?_)
  rw [EX_arr (by decide) (ef_223 B)] at w
  have w : Bx B 219 224 (EX B σ0 219 4 [.ref (wA B 220), .int 0, .ref (wA B 221), .ref (wA B 222), .null, .int 0, .int 0]) s H _ := w
  refine bPutF C0 w (by decide) (by decide) EX_at fk_X5_25 ff_X5_4 (by intro C T N h; have h2 : some (RX5, TX5, 7) = some (C, T, N) := h; cases h2; rfl) hin rfl rfl (Nat.le_of_ble_eq_true rfl) dX5_init_34 (fun H locs w => ?_)
  rw [EX_put] at w
  have w : Bx B 219 224 (EX B σ0 219 4 [.ref (wA B 220), .int 0, .ref (wA B 221), .ref (wA B 222), .ref (wA B 223), .int 0, .int 0]) s H _ := w
  rw [EX_fin (ef_219 B)] at w
  exact bRet C0 hr w dX5_init_37
theorem ef_9 (B : Wb) : (.inl (wC B 0, 64, .inl (fun _ => 0)) : va_E) = fin B σ0 9 := by
  unfold fin
  rw [show shp 9 = (1, 64, []) from by decide +kernel]
  rfl
theorem es_10 (B : Wb) : (.inl (wC B 4, 64, .inr (.inr (.inr (.inr (fun r => some (wA B (10 + 1 + r))))))) : va_E) = fin B σ0 10 := by
  unfold fin
  rw [show shp 10 = (5, 64, [11, 1]) from by decide +kernel]
  show _ = (.inl (wC B 4, 64, .inr (.inr (.inr (.inr (fun j => some (wA B (11 + 1 * j))))))) : va_E)
  simp only [Nat.one_mul]
theorem er_10 (B : Wb) : ∀ j, 10 < j → j < 75 → (.inl (wC B 0, 8, .inl (fun _ => 0)) : va_E) = fin B σ0 j := by
  intro j h1 h2
  have hs : ∀ j, j < 64 → shp (11 + j) = (1, 8, []) := by decide +kernel
  have e := hs (j - 11) (by omega)
  rw [show 11 + (j - 11) = j by omega] at e
  unfold fin
  rw [e]
  show _ = (.inl (wC B 0, 8, .inl (σ0.1 j)) : va_E)
  rw [s0_z j (by omega)]
theorem em_10 (B : Wb) (b ci : Nat) (fs : List Value) (hb : b < 10) : ∀ q, b ≤ q → q < 10 + (1 + 64) → (if q < 10 then EX B σ0 b ci fs q else if q = 10 then (.inl (wC B 4, 64, .inr (.inr (.inr (.inr (fun r => some (wA B (10 + 1 + r))))))) : va_E) else .inl (wC B 0, 8, .inl (fun _ => 0))) = EX B σ0 b ci fs q := by
  intro q h1 h2
  by_cases h : q < 10
  · rw [if_pos h]
  · rw [if_neg h]
    have hne : q ≠ b := by omega
    by_cases hq : q = 10
    · subst hq
      rw [if_pos rfl, es_10 B]
      unfold EX
      rw [if_neg hne]
    · rw [if_neg hq, er_10 B q (by omega) (by omega)]
      unfold EX
      rw [if_neg hne]
theorem es_75 (B : Wb) : (.inl (wC B 4, 64, .inr (.inr (.inr (.inr (fun r => some (wA B (75 + 1 + r))))))) : va_E) = fin B σ0 75 := by
  unfold fin
  rw [show shp 75 = (5, 64, [76, 1]) from by decide +kernel]
  show _ = (.inl (wC B 4, 64, .inr (.inr (.inr (.inr (fun j => some (wA B (76 + 1 * j))))))) : va_E)
  simp only [Nat.one_mul]
theorem er_75 (B : Wb) : ∀ j, 75 < j → j < 140 → (.inl (wC B 0, 8, .inl (fun _ => 0)) : va_E) = fin B σ0 j := by
  intro j h1 h2
  have hs : ∀ j, j < 64 → shp (76 + j) = (1, 8, []) := by decide +kernel
  have e := hs (j - 76) (by omega)
  rw [show 76 + (j - 76) = j by omega] at e
  unfold fin
  rw [e]
  show _ = (.inl (wC B 0, 8, .inl (σ0.1 j)) : va_E)
  rw [s0_z j (by omega)]
theorem em_75 (B : Wb) (b ci : Nat) (fs : List Value) (hb : b < 75) : ∀ q, b ≤ q → q < 75 + (1 + 64) → (if q < 75 then EX B σ0 b ci fs q else if q = 75 then (.inl (wC B 4, 64, .inr (.inr (.inr (.inr (fun r => some (wA B (75 + 1 + r))))))) : va_E) else .inl (wC B 0, 8, .inl (fun _ => 0))) = EX B σ0 b ci fs q := by
  intro q h1 h2
  by_cases h : q < 75
  · rw [if_pos h]
  · rw [if_neg h]
    have hne : q ≠ b := by omega
    by_cases hq : q = 75
    · subst hq
      rw [if_pos rfl, es_75 B]
      unfold EX
      rw [if_neg hne]
    · rw [if_neg hq, er_75 B q (by omega) (by omega)]
      unfold EX
      rw [if_neg hne]
theorem ef_8 (B : Wb) : (.inr (1, [.int 0, .ref (wA B 9), .ref (wA B 10), .ref (wA B 75)]) : va_E) = fin B σ0 8 := by
  unfold fin
  rw [show shp 8 = (0, 1, [0, 11, 12, 77]) from by decide +kernel]
  rfl
abbrev rm_i_X2_8 : Room := { frames := 1, cells := 131, slots := 1216, locals := 12 }
set_option maxHeartbeats 400000 in
set_option maxRecDepth 100000 in
theorem i_X2_8 (l : Launch) (B : Wb) : MetI l yX2_init cX2_init 1 rm_i_X2_8 B 8 9 (EX B σ0 8 1 [.int 0, .null, .null, .null]) 140 (fin B σ0) [.ref (wA B 8)] 131 1216 := by
  refine metI_in (by decide +kernel) rfl (Nat.le_of_ble_eq_true rfl) ?_
  intro p e s m below meth c C0 hr hin w ls hl
  have hx := C0.1.1
  have hb := C0.1.2.1
  refine lv_aload_n hx hb dX2_init_0 rfl (lv_at hl 0 rfl) ?_
  refine bObj C0 lk_X2_3 oi_i oi_c hl.1 ⟨Nat.le_of_ble_eq_true rfl, Nat.le_of_ble_eq_true rfl⟩ dX2_init_1 ?_
  refine lv_aload_n hx hb dX2_init_4 rfl (lv_at hl 0 rfl) ?_
  refine lv_bipush (v := 64) hx hb dX2_init_5 (by decide) ?_
  refine bArr (at_ := .int) (N := 64) (a0 := (64, .inl (fun _ => 0))) C0 w ka_int 0 rfl rfl rfl rfl (by decide) rfl (by decide) (Nat.le_of_ble_eq_true rfl) (Nat.le_of_ble_eq_true rfl) dX2_init_7 (fun H w => ?_)
  rw [EX_arr (by decide) (ef_9 B)] at w
  have w : Bx B 8 10 (EX B σ0 8 1 [.int 0, .null, .null, .null]) s H _ := w
  refine bPutF C0 w (by decide) (by decide) EX_at fk_X2_9 ff_X2_1 (by intro C T N h; have h2 : some (RX2, TX2, 4) = some (C, T, N) := h; cases h2; rfl) hin rfl rfl (Nat.le_of_ble_eq_true rfl) dX2_init_9 (fun H locs w => ?_)
  rw [EX_put] at w
  have w : Bx B 8 10 (EX B σ0 8 1 [.int 0, .ref (wA B 9), .null, .null]) s H _ := w
  refine lv_aload_n hx hb dX2_init_12 rfl (lv_at hl 0 rfl) ?_
  refine lv_bipush (v := 64) hx hb dX2_init_13 (by decide) ?_
  refine lv_bipush (v := 8) hx hb dX2_init_15 (by decide) ?_
  refine bMul (N := 64) (M := 8) C0 w kl_X2_15 ka_int (by decide) (by decide) rfl rfl (by decide) (by decide) (by decide) (Nat.le_of_ble_eq_true rfl) (Nat.le_of_ble_eq_true rfl) dX2_init_17 (fun H w => ?_)
  have w := w.congr (E' := EX B σ0 8 1 [.int 0, .ref (wA B 9), .null, .null]) (em_10 B 8 1 [.int 0, .ref (wA B 9), .null, .null] (by decide))
  have w : Bx B 8 75 (EX B σ0 8 1 [.int 0, .ref (wA B 9), .null, .null]) s H _ := w
  refine bPutF C0 w (by decide) (by decide) EX_at fk_X2_17 ff_X2_2 (by intro C T N h; have h2 : some (RX2, TX2, 4) = some (C, T, N) := h; cases h2; rfl) hin rfl rfl (Nat.le_of_ble_eq_true rfl) dX2_init_21 (fun H locs w => ?_)
  rw [EX_put] at w
  have w : Bx B 8 75 (EX B σ0 8 1 [.int 0, .ref (wA B 9), .ref (wA B 10), .null]) s H _ := w
  refine lv_aload_n hx hb dX2_init_24 rfl (lv_at hl 0 rfl) ?_
  refine lv_bipush (v := 64) hx hb dX2_init_25 (by decide) ?_
  refine lv_bipush (v := 8) hx hb dX2_init_27 (by decide) ?_
  refine bMul (N := 64) (M := 8) C0 w kl_X2_15 ka_int (by decide) (by decide) rfl rfl (by decide) (by decide) (by decide) (Nat.le_of_ble_eq_true rfl) (Nat.le_of_ble_eq_true rfl) dX2_init_29 (fun H w => ?_)
  have w := w.congr (E' := EX B σ0 8 1 [.int 0, .ref (wA B 9), .ref (wA B 10), .null]) (em_75 B 8 1 [.int 0, .ref (wA B 9), .ref (wA B 10), .null] (by decide))
  have w : Bx B 8 140 (EX B σ0 8 1 [.int 0, .ref (wA B 9), .ref (wA B 10), .null]) s H _ := w
  refine bPutF C0 w (by decide) (by decide) EX_at fk_X2_20 ff_X2_3 (by intro C T N h; have h2 : some (RX2, TX2, 4) = some (C, T, N) := h; cases h2; rfl) hin rfl rfl (Nat.le_of_ble_eq_true rfl) dX2_init_33 (fun H locs w => ?_)
  rw [EX_put] at w
  have w : Bx B 8 140 (EX B σ0 8 1 [.int 0, .ref (wA B 9), .ref (wA B 10), .ref (wA B 75)]) s H _ := w
  rw [EX_fin (ef_8 B)] at w
  exact bRet C0 hr w dX2_init_36
theorem ef_144 (B : Wb) : (.inl (wC B 2, 16, .inl (fun _ => 0)) : va_E) = fin B σ0 144 := by
  unfold fin
  rw [show shp 144 = (3, 16, []) from by decide +kernel]
  rfl
theorem ef_145 (B : Wb) : (.inl (wC B 0, 64, .inl (fun _ => 0)) : va_E) = fin B σ0 145 := by
  unfold fin
  rw [show shp 145 = (1, 64, []) from by decide +kernel]
  rfl
theorem ef_146 (B : Wb) : (.inl (wC B 1, 16, .inr (.inl (fun _ => 0))) : va_E) = fin B σ0 146 := by
  unfold fin
  rw [show shp 146 = (2, 16, []) from by decide +kernel]
  rfl
theorem ef_147 (B : Wb) : (.inl (wC B 0, 16, .inl (fun _ => 0)) : va_E) = fin B σ0 147 := by
  unfold fin
  rw [show shp 147 = (1, 16, []) from by decide +kernel]
  rfl
theorem es_148 (B : Wb) : (.inl (wC B 4, 16, .inr (.inr (.inr (.inr (fun r => some (wA B (148 + 1 + r))))))) : va_E) = fin B σ0 148 := by
  unfold fin
  rw [show shp 148 = (5, 16, [149, 1]) from by decide +kernel]
  show _ = (.inl (wC B 4, 16, .inr (.inr (.inr (.inr (fun j => some (wA B (149 + 1 * j))))))) : va_E)
  simp only [Nat.one_mul]
theorem er_148 (B : Wb) : ∀ j, 148 < j → j < 165 → (.inl (wC B 0, 64, .inl (fun _ => 0)) : va_E) = fin B σ0 j := by
  intro j h1 h2
  have hs : ∀ j, j < 16 → shp (149 + j) = (1, 64, []) := by decide +kernel
  have e := hs (j - 149) (by omega)
  rw [show 149 + (j - 149) = j by omega] at e
  unfold fin
  rw [e]
  show _ = (.inl (wC B 0, 64, .inl (σ0.1 j)) : va_E)
  rw [s0_z j (by omega)]
theorem em_148 (B : Wb) (b ci : Nat) (fs : List Value) (hb : b < 148) : ∀ q, b ≤ q → q < 148 + (1 + 16) → (if q < 148 then EX B σ0 b ci fs q else if q = 148 then (.inl (wC B 4, 16, .inr (.inr (.inr (.inr (fun r => some (wA B (148 + 1 + r))))))) : va_E) else .inl (wC B 0, 64, .inl (fun _ => 0))) = EX B σ0 b ci fs q := by
  intro q h1 h2
  by_cases h : q < 148
  · rw [if_pos h]
  · rw [if_neg h]
    have hne : q ≠ b := by omega
    by_cases hq : q = 148
    · subst hq
      rw [if_pos rfl, es_148 B]
      unfold EX
      rw [if_neg hne]
    · rw [if_neg hq, er_148 B q (by omega) (by omega)]
      unfold EX
      rw [if_neg hne]
theorem es_165 (B : Wb) : (.inl (wC B 4, 16, .inr (.inr (.inr (.inr (fun r => some (wA B (165 + 1 + r))))))) : va_E) = fin B σ0 165 := by
  unfold fin
  rw [show shp 165 = (5, 16, [166, 1]) from by decide +kernel]
  show _ = (.inl (wC B 4, 16, .inr (.inr (.inr (.inr (fun j => some (wA B (166 + 1 * j))))))) : va_E)
  simp only [Nat.one_mul]
theorem er_165 (B : Wb) : ∀ j, 165 < j → j < 182 → (.inl (wC B 0, 64, .inl (fun _ => 0)) : va_E) = fin B σ0 j := by
  intro j h1 h2
  have hs : ∀ j, j < 16 → shp (166 + j) = (1, 64, []) := by decide +kernel
  have e := hs (j - 166) (by omega)
  rw [show 166 + (j - 166) = j by omega] at e
  unfold fin
  rw [e]
  show _ = (.inl (wC B 0, 64, .inl (σ0.1 j)) : va_E)
  rw [s0_z j (by omega)]
theorem em_165 (B : Wb) (b ci : Nat) (fs : List Value) (hb : b < 165) : ∀ q, b ≤ q → q < 165 + (1 + 16) → (if q < 165 then EX B σ0 b ci fs q else if q = 165 then (.inl (wC B 4, 16, .inr (.inr (.inr (.inr (fun r => some (wA B (165 + 1 + r))))))) : va_E) else .inl (wC B 0, 64, .inl (fun _ => 0))) = EX B σ0 b ci fs q := by
  intro q h1 h2
  by_cases h : q < 165
  · rw [if_pos h]
  · rw [if_neg h]
    have hne : q ≠ b := by omega
    by_cases hq : q = 165
    · subst hq
      rw [if_pos rfl, es_165 B]
      unfold EX
      rw [if_neg hne]
    · rw [if_neg hq, er_165 B q (by omega) (by omega)]
      unfold EX
      rw [if_neg hne]
theorem ef_143 (B : Wb) : (.inr (8, [.ref (wA B 1), .ref (wA B 8), .ref (wA B 140), .ref (wA B 144), .ref (wA B 145), .ref (wA B 146), .ref (wA B 147), .ref (wA B 148), .ref (wA B 165)]) : va_E) = fin B σ0 143 := by
  unfold fin
  rw [show shp 143 = (0, 8, [3, 10, 142, 146, 147, 148, 149, 150, 167]) from by decide +kernel]
  rfl
abbrev rm_i_X9_143 : Room := { frames := 1, cells := 38, slots := 2192, locals := 12 }
set_option maxHeartbeats 400000 in
set_option maxRecDepth 100000 in
theorem i_X9_143 (l : Launch) (B : Wb) : MetI l yX9_init cX9_init 4 rm_i_X9_143 B 143 144 (EX B σ0 143 8 [.null, .null, .null, .null, .null, .null, .null, .null, .null]) 182 (fin B σ0) [.ref (wA B 143), .ref (wA B 1), .ref (wA B 8), .ref (wA B 140)] 38 2192 := by
  refine metI_in (by decide +kernel) rfl (Nat.le_of_ble_eq_true rfl) ?_
  intro p e s m below meth c C0 hr hin w ls hl
  have hx := C0.1.1
  have hb := C0.1.2.1
  refine lv_aload_n hx hb dX9_init_0 rfl (lv_at hl 0 rfl) ?_
  refine bObj C0 lk_X9_3 oi_i oi_c hl.1 ⟨Nat.le_of_ble_eq_true rfl, Nat.le_of_ble_eq_true rfl⟩ dX9_init_1 ?_
  refine lv_aload_n hx hb dX9_init_4 rfl (lv_at hl 0 rfl) ?_
  refine lv_bipush (v := 16) hx hb dX9_init_5 (by decide) ?_
  refine bArr (at_ := .boolean) (N := 16) (a0 := (16, .inl (fun _ => 0))) C0 w ka_boolean 2 rfl rfl rfl rfl (by decide) rfl (by decide) (Nat.le_of_ble_eq_true rfl) (Nat.le_of_ble_eq_true rfl) dX9_init_7 (fun H w => ?_)
  rw [EX_arr (by decide) (ef_144 B)] at w
  have w : Bx B 143 145 (EX B σ0 143 8 [.null, .null, .null, .null, .null, .null, .null, .null, .null]) s H _ := w
  refine bPutF C0 w (by decide) (by decide) EX_at fk_X9_9 ff_X9_3 (by intro C T N h; have h2 : some (RX9, TX9, 9) = some (C, T, N) := h; cases h2; rfl) hin rfl rfl (Nat.le_of_ble_eq_true rfl) dX9_init_9 (fun H locs w => ?_)
  rw [EX_put] at w
  have w : Bx B 143 145 (EX B σ0 143 8 [.null, .null, .null, .ref (wA B 144), .null, .null, .null, .null, .null]) s H _ := w
  refine lv_aload_n hx hb dX9_init_12 rfl (lv_at hl 0 rfl) ?_
  refine lv_bipush (v := 64) hx hb dX9_init_13 (by decide) ?_
  refine bArr (at_ := .int) (N := 64) (a0 := (64, .inl (fun _ => 0))) C0 w ka_int 0 rfl rfl rfl rfl (by decide) rfl (by decide) (Nat.le_of_ble_eq_true rfl) (Nat.le_of_ble_eq_true rfl) dX9_init_15 (fun H w => ?_)
  rw [EX_arr (by decide) (ef_145 B)] at w
  have w : Bx B 143 146 (EX B σ0 143 8 [.null, .null, .null, .ref (wA B 144), .null, .null, .null, .null, .null]) s H _ := w
  refine bPutF C0 w (by decide) (by decide) EX_at fk_X9_15 ff_X9_4 (by intro C T N h; have h2 : some (RX9, TX9, 9) = some (C, T, N) := h; cases h2; rfl) hin rfl rfl (Nat.le_of_ble_eq_true rfl) dX9_init_17 (fun H locs w => ?_)
  rw [EX_put] at w
  have w : Bx B 143 146 (EX B σ0 143 8 [.null, .null, .null, .ref (wA B 144), .ref (wA B 145), .null, .null, .null, .null]) s H _ := w
  refine lv_aload_n hx hb dX9_init_20 rfl (lv_at hl 0 rfl) ?_
  refine lv_bipush (v := 16) hx hb dX9_init_21 (by decide) ?_
  refine bArr (at_ := .long) (N := 16) (a0 := (16, .inr (.inl (fun _ => 0)))) C0 w ka_long 1 rfl rfl rfl rfl (by decide) rfl (by decide) (Nat.le_of_ble_eq_true rfl) (Nat.le_of_ble_eq_true rfl) dX9_init_23 (fun H w => ?_)
  rw [EX_arr (by decide) (ef_146 B)] at w
  have w : Bx B 143 147 (EX B σ0 143 8 [.null, .null, .null, .ref (wA B 144), .ref (wA B 145), .null, .null, .null, .null]) s H _ := w
  refine bPutF C0 w (by decide) (by decide) EX_at fk_X9_19 ff_X9_5 (by intro C T N h; have h2 : some (RX9, TX9, 9) = some (C, T, N) := h; cases h2; rfl) hin rfl rfl (Nat.le_of_ble_eq_true rfl) dX9_init_25 (fun H locs w => ?_)
  rw [EX_put] at w
  have w : Bx B 143 147 (EX B σ0 143 8 [.null, .null, .null, .ref (wA B 144), .ref (wA B 145), .ref (wA B 146), .null, .null, .null]) s H _ := w
  refine lv_aload_n hx hb dX9_init_28 rfl (lv_at hl 0 rfl) ?_
  refine lv_bipush (v := 16) hx hb dX9_init_29 (by decide) ?_
  refine bArr (at_ := .int) (N := 16) (a0 := (16, .inl (fun _ => 0))) C0 w ka_int 0 rfl rfl rfl rfl (by decide) rfl (by decide) (Nat.le_of_ble_eq_true rfl) (Nat.le_of_ble_eq_true rfl) dX9_init_31 (fun H w => ?_)
  rw [EX_arr (by decide) (ef_147 B)] at w
  have w : Bx B 143 148 (EX B σ0 143 8 [.null, .null, .null, .ref (wA B 144), .ref (wA B 145), .ref (wA B 146), .null, .null, .null]) s H _ := w
  refine bPutF C0 w (by decide) (by decide) EX_at fk_X9_23 ff_X9_6 (by intro C T N h; have h2 : some (RX9, TX9, 9) = some (C, T, N) := h; cases h2; rfl) hin rfl rfl (Nat.le_of_ble_eq_true rfl) dX9_init_33 (fun H locs w => ?_)
  rw [EX_put] at w
  have w : Bx B 143 148 (EX B σ0 143 8 [.null, .null, .null, .ref (wA B 144), .ref (wA B 145), .ref (wA B 146), .ref (wA B 147), .null, .null]) s H _ := w
  refine lv_aload_n hx hb dX9_init_36 rfl (lv_at hl 0 rfl) ?_
  refine lv_bipush (v := 16) hx hb dX9_init_37 (by decide) ?_
  refine lv_bipush (v := 64) hx hb dX9_init_39 (by decide) ?_
  refine bMul (N := 16) (M := 64) C0 w kl_X9_26 ka_int (by decide) (by decide) rfl rfl (by decide) (by decide) (by decide) (Nat.le_of_ble_eq_true rfl) (Nat.le_of_ble_eq_true rfl) dX9_init_41 (fun H w => ?_)
  have w := w.congr (E' := EX B σ0 143 8 [.null, .null, .null, .ref (wA B 144), .ref (wA B 145), .ref (wA B 146), .ref (wA B 147), .null, .null]) (em_148 B 143 8 [.null, .null, .null, .ref (wA B 144), .ref (wA B 145), .ref (wA B 146), .ref (wA B 147), .null, .null] (by decide))
  have w : Bx B 143 165 (EX B σ0 143 8 [.null, .null, .null, .ref (wA B 144), .ref (wA B 145), .ref (wA B 146), .ref (wA B 147), .null, .null]) s H _ := w
  refine bPutF C0 w (by decide) (by decide) EX_at fk_X9_28 ff_X9_7 (by intro C T N h; have h2 : some (RX9, TX9, 9) = some (C, T, N) := h; cases h2; rfl) hin rfl rfl (Nat.le_of_ble_eq_true rfl) dX9_init_45 (fun H locs w => ?_)
  rw [EX_put] at w
  have w : Bx B 143 165 (EX B σ0 143 8 [.null, .null, .null, .ref (wA B 144), .ref (wA B 145), .ref (wA B 146), .ref (wA B 147), .ref (wA B 148), .null]) s H _ := w
  refine lv_aload_n hx hb dX9_init_48 rfl (lv_at hl 0 rfl) ?_
  refine lv_bipush (v := 16) hx hb dX9_init_49 (by decide) ?_
  refine lv_bipush (v := 64) hx hb dX9_init_51 (by decide) ?_
  refine bMul (N := 16) (M := 64) C0 w kl_X9_26 ka_int (by decide) (by decide) rfl rfl (by decide) (by decide) (by decide) (Nat.le_of_ble_eq_true rfl) (Nat.le_of_ble_eq_true rfl) dX9_init_53 (fun H w => ?_)
  have w := w.congr (E' := EX B σ0 143 8 [.null, .null, .null, .ref (wA B 144), .ref (wA B 145), .ref (wA B 146), .ref (wA B 147), .ref (wA B 148), .null]) (em_165 B 143 8 [.null, .null, .null, .ref (wA B 144), .ref (wA B 145), .ref (wA B 146), .ref (wA B 147), .ref (wA B 148), .null] (by decide))
  have w : Bx B 143 182 (EX B σ0 143 8 [.null, .null, .null, .ref (wA B 144), .ref (wA B 145), .ref (wA B 146), .ref (wA B 147), .ref (wA B 148), .null]) s H _ := w
  refine bPutF C0 w (by decide) (by decide) EX_at fk_X9_31 ff_X9_8 (by intro C T N h; have h2 : some (RX9, TX9, 9) = some (C, T, N) := h; cases h2; rfl) hin rfl rfl (Nat.le_of_ble_eq_true rfl) dX9_init_57 (fun H locs w => ?_)
  rw [EX_put] at w
  have w : Bx B 143 182 (EX B σ0 143 8 [.null, .null, .null, .ref (wA B 144), .ref (wA B 145), .ref (wA B 146), .ref (wA B 147), .ref (wA B 148), .ref (wA B 165)]) s H _ := w
  refine lv_aload_n hx hb dX9_init_60 rfl (lv_at hl 0 rfl) ?_
  refine lv_aload_n hx hb dX9_init_61 rfl (lv_at hl 1 rfl) ?_
  refine bPutF C0 w (by decide) (by decide) EX_at fk_X9_34 ff_X9_0 (by intro C T N h; have h2 : some (RX9, TX9, 9) = some (C, T, N) := h; cases h2; rfl) hin rfl rfl (Nat.le_of_ble_eq_true rfl) dX9_init_62 (fun H locs w => ?_)
  rw [EX_put] at w
  have w : Bx B 143 182 (EX B σ0 143 8 [.ref (wA B 1), .null, .null, .ref (wA B 144), .ref (wA B 145), .ref (wA B 146), .ref (wA B 147), .ref (wA B 148), .ref (wA B 165)]) s H _ := w
  refine lv_aload_n hx hb dX9_init_65 rfl (lv_at hl 0 rfl) ?_
  refine lv_aload_n hx hb dX9_init_66 rfl (lv_at hl 2 rfl) ?_
  refine bPutF C0 w (by decide) (by decide) EX_at fk_X9_38 ff_X9_1 (by intro C T N h; have h2 : some (RX9, TX9, 9) = some (C, T, N) := h; cases h2; rfl) hin rfl rfl (Nat.le_of_ble_eq_true rfl) dX9_init_67 (fun H locs w => ?_)
  rw [EX_put] at w
  have w : Bx B 143 182 (EX B σ0 143 8 [.ref (wA B 1), .ref (wA B 8), .null, .ref (wA B 144), .ref (wA B 145), .ref (wA B 146), .ref (wA B 147), .ref (wA B 148), .ref (wA B 165)]) s H _ := w
  refine lv_aload_n hx hb dX9_init_70 rfl (lv_at hl 0 rfl) ?_
  refine lv_aload_n hx hb dX9_init_71 rfl (lv_at hl 3 rfl) ?_
  refine bPutF C0 w (by decide) (by decide) EX_at fk_X9_42 ff_X9_2 (by intro C T N h; have h2 : some (RX9, TX9, 9) = some (C, T, N) := h; cases h2; rfl) hin rfl rfl (Nat.le_of_ble_eq_true rfl) dX9_init_72 (fun H locs w => ?_)
  rw [EX_put] at w
  have w : Bx B 143 182 (EX B σ0 143 8 [.ref (wA B 1), .ref (wA B 8), .ref (wA B 140), .ref (wA B 144), .ref (wA B 145), .ref (wA B 146), .ref (wA B 147), .ref (wA B 148), .ref (wA B 165)]) s H _ := w
  rw [EX_fin (ef_143 B)] at w
  exact bRet C0 hr w dX9_init_75
