/-! ===== the constructor of State ===== -/
def sz (b : Nat) : Mem := repI (repI σ0 (b + 1) (fun _ => 0)) (b + 2) (fun _ => 0)
def sf (b : Nat) : Mem := repI (repI (sz b) (b + 1) (fun _ => 1000)) (b + 2) (fun _ => 1000)
theorem EX_fill {B : Wb} {σ : Mem} {b ci k N : Nat} {fs : List Value} {f : Nat → Int32} (hk : k ≠ b) (hs : shp k = (1, N, [])) : updE (EX B σ b ci fs) k (.inl (wC B 0, N, .inl f)) = EX B (repI σ k f) b ci fs := by
  funext j
  unfold updE EX
  by_cases h : j = k
  · rw [if_pos h, if_neg (by omega), h]
    unfold fin
    rw [hs]
    simp [mk, repI]
  · rw [if_neg h]
    by_cases h2 : j = b
    · rw [if_pos h2, if_pos h2]
    · rw [if_neg h2, if_neg h2]
      unfold fin
      simp [repI, h]
theorem lk_X7_3 : Cond.methodLink RX7 3 objectInit ∈ GL := gl_in 39 (by decide +kernel) (by decide +kernel)
theorem kc_X7_21 : Cond.constant RX7 21 (100000) ∈ GL := gl_in 40 (by decide +kernel) (by decide +kernel)
theorem ff_X7_8 : FptF 6 8 (.array .int) := ⟨RX7, TX7, 14, tyX7, rfl, tyX7_ok, nmX7, rfl, by decide +kernel⟩
theorem ff_X7_9 : FptF 6 9 (.array .int) := ⟨RX7, TX7, 14, tyX7, rfl, tyX7_ok, nmX7, rfl, by decide +kernel⟩
theorem ff_X7_10 : FptF 6 10 (.array .int) := ⟨RX7, TX7, 14, tyX7, rfl, tyX7_ok, nmX7, rfl, by decide +kernel⟩
theorem ff_X7_11 : FptF 6 11 (.array .int) := ⟨RX7, TX7, 14, tyX7, rfl, tyX7_ok, nmX7, rfl, by decide +kernel⟩
theorem ff_X7_12 : FptF 6 12 (.array .long) := ⟨RX7, TX7, 14, tyX7, rfl, tyX7_ok, nmX7, rfl, by decide +kernel⟩
theorem ff_X7_13 : FptF 6 13 (.array .boolean) := ⟨RX7, TX7, 14, tyX7, rfl, tyX7_ok, nmX7, rfl, by decide +kernel⟩
theorem e7_2_z (B : Wb) : (.inl (wC B 0, 64, .inl (fun _ => 0)) : va_E) = fin B (sz 1) 2 := by
  unfold fin
  rw [show shp 2 = (1, 64, []) from by decide +kernel]
  rfl
theorem e7_3_z (B : Wb) : (.inl (wC B 0, 64, .inl (fun _ => 0)) : va_E) = fin B (sz 1) 3 := by
  unfold fin
  rw [show shp 3 = (1, 64, []) from by decide +kernel]
  rfl
theorem e7_4_z (B : Wb) : (.inl (wC B 0, 16, .inl (fun _ => 0)) : va_E) = fin B (sz 1) 4 := by
  unfold fin
  rw [show shp 4 = (1, 16, []) from by decide +kernel]
  rfl
theorem e7_5_z (B : Wb) : (.inl (wC B 0, 16, .inl (fun _ => 0)) : va_E) = fin B (sz 1) 5 := by
  unfold fin
  rw [show shp 5 = (1, 16, []) from by decide +kernel]
  rfl
theorem e7_6_z (B : Wb) : (.inl (wC B 1, 16, .inr (.inl (fun _ => 0))) : va_E) = fin B (sz 1) 6 := by
  unfold fin
  rw [show shp 6 = (2, 16, []) from by decide +kernel]
  rfl
theorem e7_7_z (B : Wb) : (.inl (wC B 2, 16, .inl (fun _ => 0)) : va_E) = fin B (sz 1) 7 := by
  unfold fin
  rw [show shp 7 = (3, 16, []) from by decide +kernel]
  rfl
theorem e7_3_y (B : Wb) : (.inl (wC B 0, 64, .inl (fun _ => 0)) : va_E) = fin B (repI (sz 1) 2 (fun _ => 1000)) 3 := by
  unfold fin
  rw [show shp 3 = (1, 64, []) from by decide +kernel]
  rfl
theorem e7_1_f (B : Wb) : (.inr (6, [.int 4, .int 4, .int 1, .int 100000, .int 1000, .int 0, .long 0, .int 0, .ref (wA B 2), .ref (wA B 3), .ref (wA B 4), .ref (wA B 5), .ref (wA B 6), .ref (wA B 7)]) : va_E) = fin B (repI (repI (sz 1) 2 (fun _ => 1000)) 3 (fun _ => 1000)) 1 := by
  unfold fin
  rw [show shp 1 = (0, 6, [0, 0, 0, 0, 0, 0, 1, 0, 4, 5, 6, 7, 8, 9]) from by decide +kernel]
  rfl
abbrev rm_i_X7_1 : Room := { frames := 1, cells := 6, slots := 192, locals := 23 }
set_option maxHeartbeats 400000 in
set_option maxRecDepth 100000 in
theorem i_X7_1 (l : Launch) (B : Wb) : MetI l yX7_init cX7_init 1 rm_i_X7_1 B 1 2 (EX B σ0 1 6 [.int 0, .int 0, .int 0, .int 0, .int 0, .int 0, .long 0, .int 0, .null, .null, .null, .null, .null, .null]) 8 (fin B σ0) [.ref (wA B 1)] 6 192 := by
  refine metI_in (by decide +kernel) rfl (Nat.le_of_ble_eq_true rfl) ?_
  intro p e s m below meth c C0 hr hin w ls hl
  have hx := C0.1.1
  have hb := C0.1.2.1
  have w := w.congr (E' := EX B (sz 1) 1 6 [.int 0, .int 0, .int 0, .int 0, .int 0, .int 0, .long 0, .int 0, .null, .null, .null, .null, .null, .null]) (by intro k h1 h2; rw [show k = 1 by omega]; exact EX_at.trans EX_at.symm)
  refine lv_aload_n hx hb dX7_init_0 rfl (lv_at hl 0 rfl) ?_
  refine bObj C0 lk_X7_3 oi_i oi_c hl.1 ⟨Nat.le_of_ble_eq_true rfl, Nat.le_of_ble_eq_true rfl⟩ dX7_init_1 ?_
  refine lv_aload_n hx hb dX7_init_4 rfl (lv_at hl 0 rfl) ?_
  refine lv_iconst (v := 4) hx hb dX7_init_5 (by decide) ?_
  refine bPut C0 w (by decide) (by decide) EX_at fk_X7_9 fp_X7_0 rfl rfl (Nat.le_of_ble_eq_true rfl) dX7_init_6 (fun H locs w => ?_)
  rw [EX_put] at w
  have w : Bx B 1 2 (EX B (sz 1) 1 6 [.int 4, .int 0, .int 0, .int 0, .int 0, .int 0, .long 0, .int 0, .null, .null, .null, .null, .null, .null]) s H _ := w
  refine lv_aload_n hx hb dX7_init_9 rfl (lv_at hl 0 rfl) ?_
  refine lv_iconst (v := 4) hx hb dX7_init_10 (by decide) ?_
  refine bPut C0 w (by decide) (by decide) EX_at fk_X7_15 fp_X7_1 rfl rfl (Nat.le_of_ble_eq_true rfl) dX7_init_11 (fun H locs w => ?_)
  rw [EX_put] at w
  have w : Bx B 1 2 (EX B (sz 1) 1 6 [.int 4, .int 4, .int 0, .int 0, .int 0, .int 0, .long 0, .int 0, .null, .null, .null, .null, .null, .null]) s H _ := w
  refine lv_aload_n hx hb dX7_init_14 rfl (lv_at hl 0 rfl) ?_
  refine lv_iconst (v := 1) hx hb dX7_init_15 (by decide) ?_
  refine bPut C0 w (by decide) (by decide) EX_at fk_X7_18 fp_X7_2 rfl rfl (Nat.le_of_ble_eq_true rfl) dX7_init_16 (fun H locs w => ?_)
  rw [EX_put] at w
  have w : Bx B 1 2 (EX B (sz 1) 1 6 [.int 4, .int 4, .int 1, .int 0, .int 0, .int 0, .long 0, .int 0, .null, .null, .null, .null, .null, .null]) s H _ := w
  refine lv_aload_n hx hb dX7_init_19 rfl (lv_at hl 0 rfl) ?_
  refine kIn C0 100000 kc_X7_21 dX7_init_20 ?_
  refine bPut C0 w (by decide) (by decide) EX_at fk_X7_22 fp_X7_3 rfl rfl (Nat.le_of_ble_eq_true rfl) dX7_init_22 (fun H locs w => ?_)
  rw [EX_put] at w
  have w : Bx B 1 2 (EX B (sz 1) 1 6 [.int 4, .int 4, .int 1, .int 100000, .int 0, .int 0, .long 0, .int 0, .null, .null, .null, .null, .null, .null]) s H _ := w
  refine lv_aload_n hx hb dX7_init_25 rfl (lv_at hl 0 rfl) ?_
  refine lv_sipush (v := 1000) hx hb dX7_init_26 (by decide) ?_
  refine bPut C0 w (by decide) (by decide) EX_at fk_X7_25 fp_X7_4 rfl rfl (Nat.le_of_ble_eq_true rfl) dX7_init_29 (fun H locs w => ?_)
  rw [EX_put] at w
  have w : Bx B 1 2 (EX B (sz 1) 1 6 [.int 4, .int 4, .int 1, .int 100000, .int 1000, .int 0, .long 0, .int 0, .null, .null, .null, .null, .null, .null]) s H _ := w
  refine lv_aload_n hx hb dX7_init_32 rfl (lv_at hl 0 rfl) ?_
  refine lv_iconst (v := 0) hx hb dX7_init_33 (by decide) ?_
  refine bPut C0 w (by decide) (by decide) EX_at fk_X7_28 fp_X7_5 rfl rfl (Nat.le_of_ble_eq_true rfl) dX7_init_34 (fun H locs w => ?_)
  rw [EX_put] at w
  have w : Bx B 1 2 (EX B (sz 1) 1 6 [.int 4, .int 4, .int 1, .int 100000, .int 1000, .int 0, .long 0, .int 0, .null, .null, .null, .null, .null, .null]) s H _ := w
  refine lv_aload_n hx hb dX7_init_37 rfl (lv_at hl 0 rfl) ?_
  refine lv_bipush (v := 64) hx hb dX7_init_38 (by decide) ?_
  refine bArr (at_ := .int) (N := 64) (a0 := (64, .inl (fun _ => 0))) C0 w ka_int 0 rfl rfl rfl rfl (by decide) rfl (by decide) (Nat.le_of_ble_eq_true rfl) (Nat.le_of_ble_eq_true rfl) dX7_init_40 (fun H w => ?_)
  rw [EX_arr (by decide) (e7_2_z B)] at w
  have w : Bx B 1 3 (EX B (sz 1) 1 6 [.int 4, .int 4, .int 1, .int 100000, .int 1000, .int 0, .long 0, .int 0, .null, .null, .null, .null, .null, .null]) s H _ := w
  refine bPutF C0 w (by decide) (by decide) EX_at fk_X7_31 ff_X7_8 (by intro C T N h; have h2 : some (RX7, TX7, 14) = some (C, T, N) := h; cases h2; rfl) hin rfl rfl (Nat.le_of_ble_eq_true rfl) dX7_init_42 (fun H locs w => ?_)
  rw [EX_put] at w
  have w : Bx B 1 3 (EX B (sz 1) 1 6 [.int 4, .int 4, .int 1, .int 100000, .int 1000, .int 0, .long 0, .int 0, .ref (wA B 2), .null, .null, .null, .null, .null]) s H _ := w
  refine lv_aload_n hx hb dX7_init_45 rfl (lv_at hl 0 rfl) ?_
  refine lv_bipush (v := 64) hx hb dX7_init_46 (by decide) ?_
  refine bArr (at_ := .int) (N := 64) (a0 := (64, .inl (fun _ => 0))) C0 w ka_int 0 rfl rfl rfl rfl (by decide) rfl (by decide) (Nat.le_of_ble_eq_true rfl) (Nat.le_of_ble_eq_true rfl) dX7_init_48 (fun H w => ?_)
  rw [EX_arr (by decide) (e7_3_z B)] at w
  have w : Bx B 1 4 (EX B (sz 1) 1 6 [.int 4, .int 4, .int 1, .int 100000, .int 1000, .int 0, .long 0, .int 0, .ref (wA B 2), .null, .null, .null, .null, .null]) s H _ := w
  refine bPutF C0 w (by decide) (by decide) EX_at fk_X7_35 ff_X7_9 (by intro C T N h; have h2 : some (RX7, TX7, 14) = some (C, T, N) := h; cases h2; rfl) hin rfl rfl (Nat.le_of_ble_eq_true rfl) dX7_init_50 (fun H locs w => ?_)
  rw [EX_put] at w
  have w : Bx B 1 4 (EX B (sz 1) 1 6 [.int 4, .int 4, .int 1, .int 100000, .int 1000, .int 0, .long 0, .int 0, .ref (wA B 2), .ref (wA B 3), .null, .null, .null, .null]) s H _ := w
  refine lv_aload_n hx hb dX7_init_53 rfl (lv_at hl 0 rfl) ?_
  refine lv_bipush (v := 16) hx hb dX7_init_54 (by decide) ?_
  refine bArr (at_ := .int) (N := 16) (a0 := (16, .inl (fun _ => 0))) C0 w ka_int 0 rfl rfl rfl rfl (by decide) rfl (by decide) (Nat.le_of_ble_eq_true rfl) (Nat.le_of_ble_eq_true rfl) dX7_init_56 (fun H w => ?_)
  rw [EX_arr (by decide) (e7_4_z B)] at w
  have w : Bx B 1 5 (EX B (sz 1) 1 6 [.int 4, .int 4, .int 1, .int 100000, .int 1000, .int 0, .long 0, .int 0, .ref (wA B 2), .ref (wA B 3), .null, .null, .null, .null]) s H _ := w
  refine bPutF C0 w (by decide) (by decide) EX_at fk_X7_38 ff_X7_10 (by intro C T N h; have h2 : some (RX7, TX7, 14) = some (C, T, N) := h; cases h2; rfl) hin rfl rfl (Nat.le_of_ble_eq_true rfl) dX7_init_58 (fun H locs w => ?_)
  rw [EX_put] at w
  have w : Bx B 1 5 (EX B (sz 1) 1 6 [.int 4, .int 4, .int 1, .int 100000, .int 1000, .int 0, .long 0, .int 0, .ref (wA B 2), .ref (wA B 3), .ref (wA B 4), .null, .null, .null]) s H _ := w
  refine lv_aload_n hx hb dX7_init_61 rfl (lv_at hl 0 rfl) ?_
  refine lv_bipush (v := 16) hx hb dX7_init_62 (by decide) ?_
  refine bArr (at_ := .int) (N := 16) (a0 := (16, .inl (fun _ => 0))) C0 w ka_int 0 rfl rfl rfl rfl (by decide) rfl (by decide) (Nat.le_of_ble_eq_true rfl) (Nat.le_of_ble_eq_true rfl) dX7_init_64 (fun H w => ?_)
  rw [EX_arr (by decide) (e7_5_z B)] at w
  have w : Bx B 1 6 (EX B (sz 1) 1 6 [.int 4, .int 4, .int 1, .int 100000, .int 1000, .int 0, .long 0, .int 0, .ref (wA B 2), .ref (wA B 3), .ref (wA B 4), .null, .null, .null]) s H _ := w
  refine bPutF C0 w (by decide) (by decide) EX_at fk_X7_41 ff_X7_11 (by intro C T N h; have h2 : some (RX7, TX7, 14) = some (C, T, N) := h; cases h2; rfl) hin rfl rfl (Nat.le_of_ble_eq_true rfl) dX7_init_66 (fun H locs w => ?_)
  rw [EX_put] at w
  have w : Bx B 1 6 (EX B (sz 1) 1 6 [.int 4, .int 4, .int 1, .int 100000, .int 1000, .int 0, .long 0, .int 0, .ref (wA B 2), .ref (wA B 3), .ref (wA B 4), .ref (wA B 5), .null, .null]) s H _ := w
  refine lv_aload_n hx hb dX7_init_69 rfl (lv_at hl 0 rfl) ?_
  refine lv_bipush (v := 16) hx hb dX7_init_70 (by decide) ?_
  refine bArr (at_ := .long) (N := 16) (a0 := (16, .inr (.inl (fun _ => 0)))) C0 w ka_long 1 rfl rfl rfl rfl (by decide) rfl (by decide) (Nat.le_of_ble_eq_true rfl) (Nat.le_of_ble_eq_true rfl) dX7_init_72 (fun H w => ?_)
  rw [EX_arr (by decide) (e7_6_z B)] at w
  have w : Bx B 1 7 (EX B (sz 1) 1 6 [.int 4, .int 4, .int 1, .int 100000, .int 1000, .int 0, .long 0, .int 0, .ref (wA B 2), .ref (wA B 3), .ref (wA B 4), .ref (wA B 5), .null, .null]) s H _ := w
  refine bPutF C0 w (by decide) (by decide) EX_at fk_X7_44 ff_X7_12 (by intro C T N h; have h2 : some (RX7, TX7, 14) = some (C, T, N) := h; cases h2; rfl) hin rfl rfl (Nat.le_of_ble_eq_true rfl) dX7_init_74 (fun H locs w => ?_)
  rw [EX_put] at w
  have w : Bx B 1 7 (EX B (sz 1) 1 6 [.int 4, .int 4, .int 1, .int 100000, .int 1000, .int 0, .long 0, .int 0, .ref (wA B 2), .ref (wA B 3), .ref (wA B 4), .ref (wA B 5), .ref (wA B 6), .null]) s H _ := w
  refine lv_aload_n hx hb dX7_init_77 rfl (lv_at hl 0 rfl) ?_
  refine lv_bipush (v := 16) hx hb dX7_init_78 (by decide) ?_
  refine bArr (at_ := .boolean) (N := 16) (a0 := (16, .inl (fun _ => 0))) C0 w ka_boolean 2 rfl rfl rfl rfl (by decide) rfl (by decide) (Nat.le_of_ble_eq_true rfl) (Nat.le_of_ble_eq_true rfl) dX7_init_80 (fun H w => ?_)
  rw [EX_arr (by decide) (e7_7_z B)] at w
  have w : Bx B 1 8 (EX B (sz 1) 1 6 [.int 4, .int 4, .int 1, .int 100000, .int 1000, .int 0, .long 0, .int 0, .ref (wA B 2), .ref (wA B 3), .ref (wA B 4), .ref (wA B 5), .ref (wA B 6), .null]) s H _ := w
  refine bPutF C0 w (by decide) (by decide) EX_at fk_X7_48 ff_X7_13 (by intro C T N h; have h2 : some (RX7, TX7, 14) = some (C, T, N) := h; cases h2; rfl) hin rfl rfl (Nat.le_of_ble_eq_true rfl) dX7_init_82 (fun H locs w => ?_)
  rw [EX_put] at w
  have w : Bx B 1 8 (EX B (sz 1) 1 6 [.int 4, .int 4, .int 1, .int 100000, .int 1000, .int 0, .long 0, .int 0, .ref (wA B 2), .ref (wA B 3), .ref (wA B 4), .ref (wA B 5), .ref (wA B 6), .ref (wA B 7)]) s H _ := w
  refine lv_aload_n hx hb dX7_init_85 rfl (lv_at hl 0 rfl) ?_
  refine bGet (v := .ref (wA B 2)) C0 w (by decide) (by decide) EX_at fk_X7_31 rfl dX7_init_86 ?_
  refine lv_sipush (v := 1000) hx hb dX7_init_89 (by decide) ?_
  refine bFill C0 w (k := 2) (by decide) (by decide) (by decide) ((if_neg (by decide)).trans (e7_2_z B).symm) ky_J7_fill_53178 ks_J7_fill_53178 lk_X7_52 ⟨Nat.le_of_ble_eq_true rfl, Nat.le_of_ble_eq_true rfl⟩ ⟨Nat.le_of_ble_eq_true rfl, Nat.le_of_ble_eq_true rfl⟩ (Nat.le_of_ble_eq_true rfl) hl.1 dX7_init_92 (fun H locs w => ?_)
  rw [EX_fill (by decide) (by decide +kernel)] at w
  have w : Bx B 1 8 (EX B (repI (sz 1) 2 (fun _ => 1000)) 1 6 [.int 4, .int 4, .int 1, .int 100000, .int 1000, .int 0, .long 0, .int 0, .ref (wA B 2), .ref (wA B 3), .ref (wA B 4), .ref (wA B 5), .ref (wA B 6), .ref (wA B 7)]) s H _ := w
  refine lv_aload_n hx hb dX7_init_95 rfl (lv_at hl 0 rfl) ?_
  refine bGet (v := .ref (wA B 3)) C0 w (by decide) (by decide) EX_at fk_X7_35 rfl dX7_init_96 ?_
  refine lv_sipush (v := 1000) hx hb dX7_init_99 (by decide) ?_
  refine bFill C0 w (k := 3) (by decide) (by decide) (by decide) ((if_neg (by decide)).trans (e7_3_y B).symm) ky_J7_fill_53178 ks_J7_fill_53178 lk_X7_52 ⟨Nat.le_of_ble_eq_true rfl, Nat.le_of_ble_eq_true rfl⟩ ⟨Nat.le_of_ble_eq_true rfl, Nat.le_of_ble_eq_true rfl⟩ (Nat.le_of_ble_eq_true rfl) hl.1 dX7_init_102 (fun H locs w => ?_)
  rw [EX_fill (by decide) (by decide +kernel)] at w
  have w : Bx B 1 8 (EX B (repI (repI (sz 1) 2 (fun _ => 1000)) 3 (fun _ => 1000)) 1 6 [.int 4, .int 4, .int 1, .int 100000, .int 1000, .int 0, .long 0, .int 0, .ref (wA B 2), .ref (wA B 3), .ref (wA B 4), .ref (wA B 5), .ref (wA B 6), .ref (wA B 7)]) s H _ := w
  rw [EX_fin (e7_1_f B)] at w
  have w := w.congr (E' := fin B σ0) (by intro k h1 h2; rcases (show k = 1 ∨ k = 2 ∨ k = 3 ∨ k = 4 ∨ k = 5 ∨ k = 6 ∨ k = 7 by omega) with rfl | rfl | rfl | rfl | rfl | rfl | rfl <;> rfl)
  exact bRet C0 hr w dX7_init_105
theorem e7_192_z (B : Wb) : (.inl (wC B 0, 64, .inl (fun _ => 0)) : va_E) = fin B (sz 191) 192 := by
  unfold fin
  rw [show shp 192 = (1, 64, []) from by decide +kernel]
  rfl
theorem e7_193_z (B : Wb) : (.inl (wC B 0, 64, .inl (fun _ => 0)) : va_E) = fin B (sz 191) 193 := by
  unfold fin
  rw [show shp 193 = (1, 64, []) from by decide +kernel]
  rfl
theorem e7_194_z (B : Wb) : (.inl (wC B 0, 16, .inl (fun _ => 0)) : va_E) = fin B (sz 191) 194 := by
  unfold fin
  rw [show shp 194 = (1, 16, []) from by decide +kernel]
  rfl
theorem e7_195_z (B : Wb) : (.inl (wC B 0, 16, .inl (fun _ => 0)) : va_E) = fin B (sz 191) 195 := by
  unfold fin
  rw [show shp 195 = (1, 16, []) from by decide +kernel]
  rfl
theorem e7_196_z (B : Wb) : (.inl (wC B 1, 16, .inr (.inl (fun _ => 0))) : va_E) = fin B (sz 191) 196 := by
  unfold fin
  rw [show shp 196 = (2, 16, []) from by decide +kernel]
  rfl
theorem e7_197_z (B : Wb) : (.inl (wC B 2, 16, .inl (fun _ => 0)) : va_E) = fin B (sz 191) 197 := by
  unfold fin
  rw [show shp 197 = (3, 16, []) from by decide +kernel]
  rfl
theorem e7_193_y (B : Wb) : (.inl (wC B 0, 64, .inl (fun _ => 0)) : va_E) = fin B (repI (sz 191) 192 (fun _ => 1000)) 193 := by
  unfold fin
  rw [show shp 193 = (1, 64, []) from by decide +kernel]
  rfl
theorem e7_191_f (B : Wb) : (.inr (6, [.int 4, .int 4, .int 1, .int 100000, .int 1000, .int 0, .long 0, .int 0, .ref (wA B 192), .ref (wA B 193), .ref (wA B 194), .ref (wA B 195), .ref (wA B 196), .ref (wA B 197)]) : va_E) = fin B (repI (repI (sz 191) 192 (fun _ => 1000)) 193 (fun _ => 1000)) 191 := by
  unfold fin
  rw [show shp 191 = (0, 6, [0, 0, 0, 0, 0, 0, 1, 0, 194, 195, 196, 197, 198, 199]) from by decide +kernel]
  rfl
abbrev rm_i_X7_191 : Room := { frames := 1, cells := 6, slots := 192, locals := 23 }
set_option maxHeartbeats 400000 in
set_option maxRecDepth 100000 in
theorem i_X7_191 (l : Launch) (B : Wb) : MetI l yX7_init cX7_init 1 rm_i_X7_191 B 191 192 (EX B σ0 191 6 [.int 0, .int 0, .int 0, .int 0, .int 0, .int 0, .long 0, .int 0, .null, .null, .null, .null, .null, .null]) 198 (fin B σ0) [.ref (wA B 191)] 6 192 := by
  refine metI_in (by decide +kernel) rfl (Nat.le_of_ble_eq_true rfl) ?_
  intro p e s m below meth c C0 hr hin w ls hl
  have hx := C0.1.1
  have hb := C0.1.2.1
  have w := w.congr (E' := EX B (sz 191) 191 6 [.int 0, .int 0, .int 0, .int 0, .int 0, .int 0, .long 0, .int 0, .null, .null, .null, .null, .null, .null]) (by intro k h1 h2; rw [show k = 191 by omega]; exact EX_at.trans EX_at.symm)
  refine lv_aload_n hx hb dX7_init_0 rfl (lv_at hl 0 rfl) ?_
  refine bObj C0 lk_X7_3 oi_i oi_c hl.1 ⟨Nat.le_of_ble_eq_true rfl, Nat.le_of_ble_eq_true rfl⟩ dX7_init_1 ?_
  refine lv_aload_n hx hb dX7_init_4 rfl (lv_at hl 0 rfl) ?_
  refine lv_iconst (v := 4) hx hb dX7_init_5 (by decide) ?_
  refine bPut C0 w (by decide) (by decide) EX_at fk_X7_9 fp_X7_0 rfl rfl (Nat.le_of_ble_eq_true rfl) dX7_init_6 (fun H locs w => ?_)
  rw [EX_put] at w
  have w : Bx B 191 192 (EX B (sz 191) 191 6 [.int 4, .int 0, .int 0, .int 0, .int 0, .int 0, .long 0, .int 0, .null, .null, .null, .null, .null, .null]) s H _ := w
  refine lv_aload_n hx hb dX7_init_9 rfl (lv_at hl 0 rfl) ?_
  refine lv_iconst (v := 4) hx hb dX7_init_10 (by decide) ?_
  refine bPut C0 w (by decide) (by decide) EX_at fk_X7_15 fp_X7_1 rfl rfl (Nat.le_of_ble_eq_true rfl) dX7_init_11 (fun H locs w => ?_)
  rw [EX_put] at w
  have w : Bx B 191 192 (EX B (sz 191) 191 6 [.int 4, .int 4, .int 0, .int 0, .int 0, .int 0, .long 0, .int 0, .null, .null, .null, .null, .null, .null]) s H _ := w
  refine lv_aload_n hx hb dX7_init_14 rfl (lv_at hl 0 rfl) ?_
  refine lv_iconst (v := 1) hx hb dX7_init_15 (by decide) ?_
  refine bPut C0 w (by decide) (by decide) EX_at fk_X7_18 fp_X7_2 rfl rfl (Nat.le_of_ble_eq_true rfl) dX7_init_16 (fun H locs w => ?_)
  rw [EX_put] at w
  have w : Bx B 191 192 (EX B (sz 191) 191 6 [.int 4, .int 4, .int 1, .int 0, .int 0, .int 0, .long 0, .int 0, .null, .null, .null, .null, .null, .null]) s H _ := w
  refine lv_aload_n hx hb dX7_init_19 rfl (lv_at hl 0 rfl) ?_
  refine kIn C0 100000 kc_X7_21 dX7_init_20 ?_
  refine bPut C0 w (by decide) (by decide) EX_at fk_X7_22 fp_X7_3 rfl rfl (Nat.le_of_ble_eq_true rfl) dX7_init_22 (fun H locs w => ?_)
  rw [EX_put] at w
  have w : Bx B 191 192 (EX B (sz 191) 191 6 [.int 4, .int 4, .int 1, .int 100000, .int 0, .int 0, .long 0, .int 0, .null, .null, .null, .null, .null, .null]) s H _ := w
  refine lv_aload_n hx hb dX7_init_25 rfl (lv_at hl 0 rfl) ?_
  refine lv_sipush (v := 1000) hx hb dX7_init_26 (by decide) ?_
  refine bPut C0 w (by decide) (by decide) EX_at fk_X7_25 fp_X7_4 rfl rfl (Nat.le_of_ble_eq_true rfl) dX7_init_29 (fun H locs w => ?_)
  rw [EX_put] at w
  have w : Bx B 191 192 (EX B (sz 191) 191 6 [.int 4, .int 4, .int 1, .int 100000, .int 1000, .int 0, .long 0, .int 0, .null, .null, .null, .null, .null, .null]) s H _ := w
  refine lv_aload_n hx hb dX7_init_32 rfl (lv_at hl 0 rfl) ?_
  refine lv_iconst (v := 0) hx hb dX7_init_33 (by decide) ?_
  refine bPut C0 w (by decide) (by decide) EX_at fk_X7_28 fp_X7_5 rfl rfl (Nat.le_of_ble_eq_true rfl) dX7_init_34 (fun H locs w => ?_)
  rw [EX_put] at w
  have w : Bx B 191 192 (EX B (sz 191) 191 6 [.int 4, .int 4, .int 1, .int 100000, .int 1000, .int 0, .long 0, .int 0, .null, .null, .null, .null, .null, .null]) s H _ := w
  refine lv_aload_n hx hb dX7_init_37 rfl (lv_at hl 0 rfl) ?_
  refine lv_bipush (v := 64) hx hb dX7_init_38 (by decide) ?_
  refine bArr (at_ := .int) (N := 64) (a0 := (64, .inl (fun _ => 0))) C0 w ka_int 0 rfl rfl rfl rfl (by decide) rfl (by decide) (Nat.le_of_ble_eq_true rfl) (Nat.le_of_ble_eq_true rfl) dX7_init_40 (fun H w => ?_)
  rw [EX_arr (by decide) (e7_192_z B)] at w
  have w : Bx B 191 193 (EX B (sz 191) 191 6 [.int 4, .int 4, .int 1, .int 100000, .int 1000, .int 0, .long 0, .int 0, .null, .null, .null, .null, .null, .null]) s H _ := w
  refine bPutF C0 w (by decide) (by decide) EX_at fk_X7_31 ff_X7_8 (by intro C T N h; have h2 : some (RX7, TX7, 14) = some (C, T, N) := h; cases h2; rfl) hin rfl rfl (Nat.le_of_ble_eq_true rfl) dX7_init_42 (fun H locs w => ?_)
  rw [EX_put] at w
  have w : Bx B 191 193 (EX B (sz 191) 191 6 [.int 4, .int 4, .int 1, .int 100000, .int 1000, .int 0, .long 0, .int 0, .ref (wA B 192), .null, .null, .null, .null, .null]) s H _ := w
  refine lv_aload_n hx hb dX7_init_45 rfl (lv_at hl 0 rfl) ?_
  refine lv_bipush (v := 64) hx hb dX7_init_46 (by decide) ?_
  refine bArr (at_ := .int) (N := 64) (a0 := (64, .inl (fun _ => 0))) C0 w ka_int 0 rfl rfl rfl rfl (by decide) rfl (by decide) (Nat.le_of_ble_eq_true rfl) (Nat.le_of_ble_eq_true rfl) dX7_init_48 (fun H w => ?_)
  rw [EX_arr (by decide) (e7_193_z B)] at w
  have w : Bx B 191 194 (EX B (sz 191) 191 6 [.int 4, .int 4, .int 1, .int 100000, .int 1000, .int 0, .long 0, .int 0, .ref (wA B 192), .null, .null, .null, .null, .null]) s H _ := w
  refine bPutF C0 w (by decide) (by decide) EX_at fk_X7_35 ff_X7_9 (by intro C T N h; have h2 : some (RX7, TX7, 14) = some (C, T, N) := h; cases h2; rfl) hin rfl rfl (Nat.le_of_ble_eq_true rfl) dX7_init_50 (fun H locs w => ?_)
  rw [EX_put] at w
  have w : Bx B 191 194 (EX B (sz 191) 191 6 [.int 4, .int 4, .int 1, .int 100000, .int 1000, .int 0, .long 0, .int 0, .ref (wA B 192), .ref (wA B 193), .null, .null, .null, .null]) s H _ := w
  refine lv_aload_n hx hb dX7_init_53 rfl (lv_at hl 0 rfl) ?_
  refine lv_bipush (v := 16) hx hb dX7_init_54 (by decide) ?_
  refine bArr (at_ := .int) (N := 16) (a0 := (16, .inl (fun _ => 0))) C0 w ka_int 0 rfl rfl rfl rfl (by decide) rfl (by decide) (Nat.le_of_ble_eq_true rfl) (Nat.le_of_ble_eq_true rfl) dX7_init_56 (fun H w => ?_)
  rw [EX_arr (by decide) (e7_194_z B)] at w
  have w : Bx B 191 195 (EX B (sz 191) 191 6 [.int 4, .int 4, .int 1, .int 100000, .int 1000, .int 0, .long 0, .int 0, .ref (wA B 192), .ref (wA B 193), .null, .null, .null, .null]) s H _ := w
  refine bPutF C0 w (by decide) (by decide) EX_at fk_X7_38 ff_X7_10 (by intro C T N h; have h2 : some (RX7, TX7, 14) = some (C, T, N) := h; cases h2; rfl) hin rfl rfl (Nat.le_of_ble_eq_true rfl) dX7_init_58 (fun H locs w => ?_)
  rw [EX_put] at w
  have w : Bx B 191 195 (EX B (sz 191) 191 6 [.int 4, .int 4, .int 1, .int 100000, .int 1000, .int 0, .long 0, .int 0, .ref (wA B 192), .ref (wA B 193), .ref (wA B 194), .null, .null, .null]) s H _ := w
  refine lv_aload_n hx hb dX7_init_61 rfl (lv_at hl 0 rfl) ?_
  refine lv_bipush (v := 16) hx hb dX7_init_62 (by decide) ?_
  refine bArr (at_ := .int) (N := 16) (a0 := (16, .inl (fun _ => 0))) C0 w ka_int 0 rfl rfl rfl rfl (by decide) rfl (by decide) (Nat.le_of_ble_eq_true rfl) (Nat.le_of_ble_eq_true rfl) dX7_init_64 (fun H w => ?_)
  rw [EX_arr (by decide) (e7_195_z B)] at w
  have w : Bx B 191 196 (EX B (sz 191) 191 6 [.int 4, .int 4, .int 1, .int 100000, .int 1000, .int 0, .long 0, .int 0, .ref (wA B 192), .ref (wA B 193), .ref (wA B 194), .null, .null, .null]) s H _ := w
  refine bPutF C0 w (by decide) (by decide) EX_at fk_X7_41 ff_X7_11 (by intro C T N h; have h2 : some (RX7, TX7, 14) = some (C, T, N) := h; cases h2; rfl) hin rfl rfl (Nat.le_of_ble_eq_true rfl) dX7_init_66 (fun H locs w => ?_)
  rw [EX_put] at w
  have w : Bx B 191 196 (EX B (sz 191) 191 6 [.int 4, .int 4, .int 1, .int 100000, .int 1000, .int 0, .long 0, .int 0, .ref (wA B 192), .ref (wA B 193), .ref (wA B 194), .ref (wA B 195), .null, .null]) s H _ := w
  refine lv_aload_n hx hb dX7_init_69 rfl (lv_at hl 0 rfl) ?_
  refine lv_bipush (v := 16) hx hb dX7_init_70 (by decide) ?_
  refine bArr (at_ := .long) (N := 16) (a0 := (16, .inr (.inl (fun _ => 0)))) C0 w ka_long 1 rfl rfl rfl rfl (by decide) rfl (by decide) (Nat.le_of_ble_eq_true rfl) (Nat.le_of_ble_eq_true rfl) dX7_init_72 (fun H w => ?_)
  rw [EX_arr (by decide) (e7_196_z B)] at w
  have w : Bx B 191 197 (EX B (sz 191) 191 6 [.int 4, .int 4, .int 1, .int 100000, .int 1000, .int 0, .long 0, .int 0, .ref (wA B 192), .ref (wA B 193), .ref (wA B 194), .ref (wA B 195), .null, .null]) s H _ := w
  refine bPutF C0 w (by decide) (by decide) EX_at fk_X7_44 ff_X7_12 (by intro C T N h; have h2 : some (RX7, TX7, 14) = some (C, T, N) := h; cases h2; rfl) hin rfl rfl (Nat.le_of_ble_eq_true rfl) dX7_init_74 (fun H locs w => ?_)
  rw [EX_put] at w
  have w : Bx B 191 197 (EX B (sz 191) 191 6 [.int 4, .int 4, .int 1, .int 100000, .int 1000, .int 0, .long 0, .int 0, .ref (wA B 192), .ref (wA B 193), .ref (wA B 194), .ref (wA B 195), .ref (wA B 196), .null]) s H _ := w
  refine lv_aload_n hx hb dX7_init_77 rfl (lv_at hl 0 rfl) ?_
  refine lv_bipush (v := 16) hx hb dX7_init_78 (by decide) ?_
  refine bArr (at_ := .boolean) (N := 16) (a0 := (16, .inl (fun _ => 0))) C0 w ka_boolean 2 rfl rfl rfl rfl (by decide) rfl (by decide) (Nat.le_of_ble_eq_true rfl) (Nat.le_of_ble_eq_true rfl) dX7_init_80 (fun H w => ?_)
  rw [EX_arr (by decide) (e7_197_z B)] at w
  have w : Bx B 191 198 (EX B (sz 191) 191 6 [.int 4, .int 4, .int 1, .int 100000, .int 1000, .int 0, .long 0, .int 0, .ref (wA B 192), .ref (wA B 193), .ref (wA B 194), .ref (wA B 195), .ref (wA B 196), .null]) s H _ := w
  refine bPutF C0 w (by decide) (by decide) EX_at fk_X7_48 ff_X7_13 (by intro C T N h; have h2 : some (RX7, TX7, 14) = some (C, T, N) := h; cases h2; rfl) hin rfl rfl (Nat.le_of_ble_eq_true rfl) dX7_init_82 (fun H locs w => ?_)
  rw [EX_put] at w
  have w : Bx B 191 198 (EX B (sz 191) 191 6 [.int 4, .int 4, .int 1, .int 100000, .int 1000, .int 0, .long 0, .int 0, .ref (wA B 192), .ref (wA B 193), .ref (wA B 194), .ref (wA B 195), .ref (wA B 196), .ref (wA B 197)]) s H _ := w
  refine lv_aload_n hx hb dX7_init_85 rfl (lv_at hl 0 rfl) ?_
  refine bGet (v := .ref (wA B 192)) C0 w (by decide) (by decide) EX_at fk_X7_31 rfl dX7_init_86 ?_
  refine lv_sipush (v := 1000) hx hb dX7_init_89 (by decide) ?_
  refine bFill C0 w (k := 192) (by decide) (by decide) (by decide) ((if_neg (by decide)).trans (e7_192_z B).symm) ky_J7_fill_53178 ks_J7_fill_53178 lk_X7_52 ⟨Nat.le_of_ble_eq_true rfl, Nat.le_of_ble_eq_true rfl⟩ ⟨Nat.le_of_ble_eq_true rfl, Nat.le_of_ble_eq_true rfl⟩ (Nat.le_of_ble_eq_true rfl) hl.1 dX7_init_92 (fun H locs w => ?_)
  rw [EX_fill (by decide) (by decide +kernel)] at w
  have w : Bx B 191 198 (EX B (repI (sz 191) 192 (fun _ => 1000)) 191 6 [.int 4, .int 4, .int 1, .int 100000, .int 1000, .int 0, .long 0, .int 0, .ref (wA B 192), .ref (wA B 193), .ref (wA B 194), .ref (wA B 195), .ref (wA B 196), .ref (wA B 197)]) s H _ := w
  refine lv_aload_n hx hb dX7_init_95 rfl (lv_at hl 0 rfl) ?_
  refine bGet (v := .ref (wA B 193)) C0 w (by decide) (by decide) EX_at fk_X7_35 rfl dX7_init_96 ?_
  refine lv_sipush (v := 1000) hx hb dX7_init_99 (by decide) ?_
  refine bFill C0 w (k := 193) (by decide) (by decide) (by decide) ((if_neg (by decide)).trans (e7_193_y B).symm) ky_J7_fill_53178 ks_J7_fill_53178 lk_X7_52 ⟨Nat.le_of_ble_eq_true rfl, Nat.le_of_ble_eq_true rfl⟩ ⟨Nat.le_of_ble_eq_true rfl, Nat.le_of_ble_eq_true rfl⟩ (Nat.le_of_ble_eq_true rfl) hl.1 dX7_init_102 (fun H locs w => ?_)
  rw [EX_fill (by decide) (by decide +kernel)] at w
  have w : Bx B 191 198 (EX B (repI (repI (sz 191) 192 (fun _ => 1000)) 193 (fun _ => 1000)) 191 6 [.int 4, .int 4, .int 1, .int 100000, .int 1000, .int 0, .long 0, .int 0, .ref (wA B 192), .ref (wA B 193), .ref (wA B 194), .ref (wA B 195), .ref (wA B 196), .ref (wA B 197)]) s H _ := w
  rw [EX_fin (e7_191_f B)] at w
  have w := w.congr (E' := fin B σ0) (by intro k h1 h2; rcases (show k = 191 ∨ k = 192 ∨ k = 193 ∨ k = 194 ∨ k = 195 ∨ k = 196 ∨ k = 197 by omega) with rfl | rfl | rfl | rfl | rfl | rfl | rfl <;> rfl)
  exact bRet C0 hr w dX7_init_105
theorem e7_199_z (B : Wb) : (.inl (wC B 0, 64, .inl (fun _ => 0)) : va_E) = fin B (sz 198) 199 := by
  unfold fin
  rw [show shp 199 = (1, 64, []) from by decide +kernel]
  rfl
theorem e7_200_z (B : Wb) : (.inl (wC B 0, 64, .inl (fun _ => 0)) : va_E) = fin B (sz 198) 200 := by
  unfold fin
  rw [show shp 200 = (1, 64, []) from by decide +kernel]
  rfl
theorem e7_201_z (B : Wb) : (.inl (wC B 0, 16, .inl (fun _ => 0)) : va_E) = fin B (sz 198) 201 := by
  unfold fin
  rw [show shp 201 = (1, 16, []) from by decide +kernel]
  rfl
theorem e7_202_z (B : Wb) : (.inl (wC B 0, 16, .inl (fun _ => 0)) : va_E) = fin B (sz 198) 202 := by
  unfold fin
  rw [show shp 202 = (1, 16, []) from by decide +kernel]
  rfl
theorem e7_203_z (B : Wb) : (.inl (wC B 1, 16, .inr (.inl (fun _ => 0))) : va_E) = fin B (sz 198) 203 := by
  unfold fin
  rw [show shp 203 = (2, 16, []) from by decide +kernel]
  rfl
theorem e7_204_z (B : Wb) : (.inl (wC B 2, 16, .inl (fun _ => 0)) : va_E) = fin B (sz 198) 204 := by
  unfold fin
  rw [show shp 204 = (3, 16, []) from by decide +kernel]
  rfl
theorem e7_200_y (B : Wb) : (.inl (wC B 0, 64, .inl (fun _ => 0)) : va_E) = fin B (repI (sz 198) 199 (fun _ => 1000)) 200 := by
  unfold fin
  rw [show shp 200 = (1, 64, []) from by decide +kernel]
  rfl
theorem e7_198_f (B : Wb) : (.inr (6, [.int 4, .int 4, .int 1, .int 100000, .int 1000, .int 0, .long 0, .int 0, .ref (wA B 199), .ref (wA B 200), .ref (wA B 201), .ref (wA B 202), .ref (wA B 203), .ref (wA B 204)]) : va_E) = fin B (repI (repI (sz 198) 199 (fun _ => 1000)) 200 (fun _ => 1000)) 198 := by
  unfold fin
  rw [show shp 198 = (0, 6, [0, 0, 0, 0, 0, 0, 1, 0, 201, 202, 203, 204, 205, 206]) from by decide +kernel]
  rfl
abbrev rm_i_X7_198 : Room := { frames := 1, cells := 6, slots := 192, locals := 23 }
set_option maxHeartbeats 400000 in
set_option maxRecDepth 100000 in
theorem i_X7_198 (l : Launch) (B : Wb) : MetI l yX7_init cX7_init 1 rm_i_X7_198 B 198 199 (EX B σ0 198 6 [.int 0, .int 0, .int 0, .int 0, .int 0, .int 0, .long 0, .int 0, .null, .null, .null, .null, .null, .null]) 205 (fin B σ0) [.ref (wA B 198)] 6 192 := by
  refine metI_in (by decide +kernel) rfl (Nat.le_of_ble_eq_true rfl) ?_
  intro p e s m below meth c C0 hr hin w ls hl
  have hx := C0.1.1
  have hb := C0.1.2.1
  have w := w.congr (E' := EX B (sz 198) 198 6 [.int 0, .int 0, .int 0, .int 0, .int 0, .int 0, .long 0, .int 0, .null, .null, .null, .null, .null, .null]) (by intro k h1 h2; rw [show k = 198 by omega]; exact EX_at.trans EX_at.symm)
  refine lv_aload_n hx hb dX7_init_0 rfl (lv_at hl 0 rfl) ?_
  refine bObj C0 lk_X7_3 oi_i oi_c hl.1 ⟨Nat.le_of_ble_eq_true rfl, Nat.le_of_ble_eq_true rfl⟩ dX7_init_1 ?_
  refine lv_aload_n hx hb dX7_init_4 rfl (lv_at hl 0 rfl) ?_
  refine lv_iconst (v := 4) hx hb dX7_init_5 (by decide) ?_
  refine bPut C0 w (by decide) (by decide) EX_at fk_X7_9 fp_X7_0 rfl rfl (Nat.le_of_ble_eq_true rfl) dX7_init_6 (fun H locs w => ?_)
  rw [EX_put] at w
  have w : Bx B 198 199 (EX B (sz 198) 198 6 [.int 4, .int 0, .int 0, .int 0, .int 0, .int 0, .long 0, .int 0, .null, .null, .null, .null, .null, .null]) s H _ := w
  refine lv_aload_n hx hb dX7_init_9 rfl (lv_at hl 0 rfl) ?_
  refine lv_iconst (v := 4) hx hb dX7_init_10 (by decide) ?_
  refine bPut C0 w (by decide) (by decide) EX_at fk_X7_15 fp_X7_1 rfl rfl (Nat.le_of_ble_eq_true rfl) dX7_init_11 (fun H locs w => ?_)
  rw [EX_put] at w
  have w : Bx B 198 199 (EX B (sz 198) 198 6 [.int 4, .int 4, .int 0, .int 0, .int 0, .int 0, .long 0, .int 0, .null, .null, .null, .null, .null, .null]) s H _ := w
  refine lv_aload_n hx hb dX7_init_14 rfl (lv_at hl 0 rfl) ?_
  refine lv_iconst (v := 1) hx hb dX7_init_15 (by decide) ?_
  refine bPut C0 w (by decide) (by decide) EX_at fk_X7_18 fp_X7_2 rfl rfl (Nat.le_of_ble_eq_true rfl) dX7_init_16 (fun H locs w => ?_)
  rw [EX_put] at w
  have w : Bx B 198 199 (EX B (sz 198) 198 6 [.int 4, .int 4, .int 1, .int 0, .int 0, .int 0, .long 0, .int 0, .null, .null, .null, .null, .null, .null]) s H _ := w
  refine lv_aload_n hx hb dX7_init_19 rfl (lv_at hl 0 rfl) ?_
  refine kIn C0 100000 kc_X7_21 dX7_init_20 ?_
  refine bPut C0 w (by decide) (by decide) EX_at fk_X7_22 fp_X7_3 rfl rfl (Nat.le_of_ble_eq_true rfl) dX7_init_22 (fun H locs w => ?_)
  rw [EX_put] at w
  have w : Bx B 198 199 (EX B (sz 198) 198 6 [.int 4, .int 4, .int 1, .int 100000, .int 0, .int 0, .long 0, .int 0, .null, .null, .null, .null, .null, .null]) s H _ := w
  refine lv_aload_n hx hb dX7_init_25 rfl (lv_at hl 0 rfl) ?_
  refine lv_sipush (v := 1000) hx hb dX7_init_26 (by decide) ?_
  refine bPut C0 w (by decide) (by decide) EX_at fk_X7_25 fp_X7_4 rfl rfl (Nat.le_of_ble_eq_true rfl) dX7_init_29 (fun H locs w => ?_)
  rw [EX_put] at w
  have w : Bx B 198 199 (EX B (sz 198) 198 6 [.int 4, .int 4, .int 1, .int 100000, .int 1000, .int 0, .long 0, .int 0, .null, .null, .null, .null, .null, .null]) s H _ := w
  refine lv_aload_n hx hb dX7_init_32 rfl (lv_at hl 0 rfl) ?_
  refine lv_iconst (v := 0) hx hb dX7_init_33 (by decide) ?_
  refine bPut C0 w (by decide) (by decide) EX_at fk_X7_28 fp_X7_5 rfl rfl (Nat.le_of_ble_eq_true rfl) dX7_init_34 (fun H locs w => ?_)
  rw [EX_put] at w
  have w : Bx B 198 199 (EX B (sz 198) 198 6 [.int 4, .int 4, .int 1, .int 100000, .int 1000, .int 0, .long 0, .int 0, .null, .null, .null, .null, .null, .null]) s H _ := w
  refine lv_aload_n hx hb dX7_init_37 rfl (lv_at hl 0 rfl) ?_
  refine lv_bipush (v := 64) hx hb dX7_init_38 (by decide) ?_
  refine bArr (at_ := .int) (N := 64) (a0 := (64, .inl (fun _ => 0))) C0 w ka_int 0 rfl rfl rfl rfl (by decide) rfl (by decide) (Nat.le_of_ble_eq_true rfl) (Nat.le_of_ble_eq_true rfl) dX7_init_40 (fun H w => ?_)
  rw [EX_arr (by decide) (e7_199_z B)] at w
  have w : Bx B 198 200 (EX B (sz 198) 198 6 [.int 4, .int 4, .int 1, .int 100000, .int 1000, .int 0, .long 0, .int 0, .null, .null, .null, .null, .null, .null]) s H _ := w
  refine bPutF C0 w (by decide) (by decide) EX_at fk_X7_31 ff_X7_8 (by intro C T N h; have h2 : some (RX7, TX7, 14) = some (C, T, N) := h; cases h2; rfl) hin rfl rfl (Nat.le_of_ble_eq_true rfl) dX7_init_42 (fun H locs w => ?_)
  rw [EX_put] at w
  have w : Bx B 198 200 (EX B (sz 198) 198 6 [.int 4, .int 4, .int 1, .int 100000, .int 1000, .int 0, .long 0, .int 0, .ref (wA B 199), .null, .null, .null, .null, .null]) s H _ := w
  refine lv_aload_n hx hb dX7_init_45 rfl (lv_at hl 0 rfl) ?_
  refine lv_bipush (v := 64) hx hb dX7_init_46 (by decide) ?_
  refine bArr (at_ := .int) (N := 64) (a0 := (64, .inl (fun _ => 0))) C0 w ka_int 0 rfl rfl rfl rfl (by decide) rfl (by decide) (Nat.le_of_ble_eq_true rfl) (Nat.le_of_ble_eq_true rfl) dX7_init_48 (fun H w => ?_)
  rw [EX_arr (by decide) (e7_200_z B)] at w
  have w : Bx B 198 201 (EX B (sz 198) 198 6 [.int 4, .int 4, .int 1, .int 100000, .int 1000, .int 0, .long 0, .int 0, .ref (wA B 199), .null, .null, .null, .null, .null]) s H _ := w
  refine bPutF C0 w (by decide) (by decide) EX_at fk_X7_35 ff_X7_9 (by intro C T N h; have h2 : some (RX7, TX7, 14) = some (C, T, N) := h; cases h2; rfl) hin rfl rfl (Nat.le_of_ble_eq_true rfl) dX7_init_50 (fun H locs w => ?_)
  rw [EX_put] at w
  have w : Bx B 198 201 (EX B (sz 198) 198 6 [.int 4, .int 4, .int 1, .int 100000, .int 1000, .int 0, .long 0, .int 0, .ref (wA B 199), .ref (wA B 200), .null, .null, .null, .null]) s H _ := w
  refine lv_aload_n hx hb dX7_init_53 rfl (lv_at hl 0 rfl) ?_
  refine lv_bipush (v := 16) hx hb dX7_init_54 (by decide) ?_
  refine bArr (at_ := .int) (N := 16) (a0 := (16, .inl (fun _ => 0))) C0 w ka_int 0 rfl rfl rfl rfl (by decide) rfl (by decide) (Nat.le_of_ble_eq_true rfl) (Nat.le_of_ble_eq_true rfl) dX7_init_56 (fun H w => ?_)
  rw [EX_arr (by decide) (e7_201_z B)] at w
  have w : Bx B 198 202 (EX B (sz 198) 198 6 [.int 4, .int 4, .int 1, .int 100000, .int 1000, .int 0, .long 0, .int 0, .ref (wA B 199), .ref (wA B 200), .null, .null, .null, .null]) s H _ := w
  refine bPutF C0 w (by decide) (by decide) EX_at fk_X7_38 ff_X7_10 (by intro C T N h; have h2 : some (RX7, TX7, 14) = some (C, T, N) := h; cases h2; rfl) hin rfl rfl (Nat.le_of_ble_eq_true rfl) dX7_init_58 (fun H locs w => ?_)
  rw [EX_put] at w
  have w : Bx B 198 202 (EX B (sz 198) 198 6 [.int 4, .int 4, .int 1, .int 100000, .int 1000, .int 0, .long 0, .int 0, .ref (wA B 199), .ref (wA B 200), .ref (wA B 201), .null, .null, .null]) s H _ := w
  refine lv_aload_n hx hb dX7_init_61 rfl (lv_at hl 0 rfl) ?_
  refine lv_bipush (v := 16) hx hb dX7_init_62 (by decide) ?_
  refine bArr (at_ := .int) (N := 16) (a0 := (16, .inl (fun _ => 0))) C0 w ka_int 0 rfl rfl rfl rfl (by decide) rfl (by decide) (Nat.le_of_ble_eq_true rfl) (Nat.le_of_ble_eq_true rfl) dX7_init_64 (fun H w => ?_)
  rw [EX_arr (by decide) (e7_202_z B)] at w
  have w : Bx B 198 203 (EX B (sz 198) 198 6 [.int 4, .int 4, .int 1, .int 100000, .int 1000, .int 0, .long 0, .int 0, .ref (wA B 199), .ref (wA B 200), .ref (wA B 201), .null, .null, .null]) s H _ := w
  refine bPutF C0 w (by decide) (by decide) EX_at fk_X7_41 ff_X7_11 (by intro C T N h; have h2 : some (RX7, TX7, 14) = some (C, T, N) := h; cases h2; rfl) hin rfl rfl (Nat.le_of_ble_eq_true rfl) dX7_init_66 (fun H locs w => ?_)
  rw [EX_put] at w
  have w : Bx B 198 203 (EX B (sz 198) 198 6 [.int 4, .int 4, .int 1, .int 100000, .int 1000, .int 0, .long 0, .int 0, .ref (wA B 199), .ref (wA B 200), .ref (wA B 201), .ref (wA B 202), .null, .null]) s H _ := w
  refine lv_aload_n hx hb dX7_init_69 rfl (lv_at hl 0 rfl) ?_
  refine lv_bipush (v := 16) hx hb dX7_init_70 (by decide) ?_
  refine bArr (at_ := .long) (N := 16) (a0 := (16, .inr (.inl (fun _ => 0)))) C0 w ka_long 1 rfl rfl rfl rfl (by decide) rfl (by decide) (Nat.le_of_ble_eq_true rfl) (Nat.le_of_ble_eq_true rfl) dX7_init_72 (fun H w => ?_)
  rw [EX_arr (by decide) (e7_203_z B)] at w
  have w : Bx B 198 204 (EX B (sz 198) 198 6 [.int 4, .int 4, .int 1, .int 100000, .int 1000, .int 0, .long 0, .int 0, .ref (wA B 199), .ref (wA B 200), .ref (wA B 201), .ref (wA B 202), .null, .null]) s H _ := w
  refine bPutF C0 w (by decide) (by decide) EX_at fk_X7_44 ff_X7_12 (by intro C T N h; have h2 : some (RX7, TX7, 14) = some (C, T, N) := h; cases h2; rfl) hin rfl rfl (Nat.le_of_ble_eq_true rfl) dX7_init_74 (fun H locs w => ?_)
  rw [EX_put] at w
  have w : Bx B 198 204 (EX B (sz 198) 198 6 [.int 4, .int 4, .int 1, .int 100000, .int 1000, .int 0, .long 0, .int 0, .ref (wA B 199), .ref (wA B 200), .ref (wA B 201), .ref (wA B 202), .ref (wA B 203), .null]) s H _ := w
  refine lv_aload_n hx hb dX7_init_77 rfl (lv_at hl 0 rfl) ?_
  refine lv_bipush (v := 16) hx hb dX7_init_78 (by decide) ?_
  refine bArr (at_ := .boolean) (N := 16) (a0 := (16, .inl (fun _ => 0))) C0 w ka_boolean 2 rfl rfl rfl rfl (by decide) rfl (by decide) (Nat.le_of_ble_eq_true rfl) (Nat.le_of_ble_eq_true rfl) dX7_init_80 (fun H w => ?_)
  rw [EX_arr (by decide) (e7_204_z B)] at w
  have w : Bx B 198 205 (EX B (sz 198) 198 6 [.int 4, .int 4, .int 1, .int 100000, .int 1000, .int 0, .long 0, .int 0, .ref (wA B 199), .ref (wA B 200), .ref (wA B 201), .ref (wA B 202), .ref (wA B 203), .null]) s H _ := w
  refine bPutF C0 w (by decide) (by decide) EX_at fk_X7_48 ff_X7_13 (by intro C T N h; have h2 : some (RX7, TX7, 14) = some (C, T, N) := h; cases h2; rfl) hin rfl rfl (Nat.le_of_ble_eq_true rfl) dX7_init_82 (fun H locs w => ?_)
  rw [EX_put] at w
  have w : Bx B 198 205 (EX B (sz 198) 198 6 [.int 4, .int 4, .int 1, .int 100000, .int 1000, .int 0, .long 0, .int 0, .ref (wA B 199), .ref (wA B 200), .ref (wA B 201), .ref (wA B 202), .ref (wA B 203), .ref (wA B 204)]) s H _ := w
  refine lv_aload_n hx hb dX7_init_85 rfl (lv_at hl 0 rfl) ?_
  refine bGet (v := .ref (wA B 199)) C0 w (by decide) (by decide) EX_at fk_X7_31 rfl dX7_init_86 ?_
  refine lv_sipush (v := 1000) hx hb dX7_init_89 (by decide) ?_
  refine bFill C0 w (k := 199) (by decide) (by decide) (by decide) ((if_neg (by decide)).trans (e7_199_z B).symm) ky_J7_fill_53178 ks_J7_fill_53178 lk_X7_52 ⟨Nat.le_of_ble_eq_true rfl, Nat.le_of_ble_eq_true rfl⟩ ⟨Nat.le_of_ble_eq_true rfl, Nat.le_of_ble_eq_true rfl⟩ (Nat.le_of_ble_eq_true rfl) hl.1 dX7_init_92 (fun H locs w => ?_)
  rw [EX_fill (by decide) (by decide +kernel)] at w
  have w : Bx B 198 205 (EX B (repI (sz 198) 199 (fun _ => 1000)) 198 6 [.int 4, .int 4, .int 1, .int 100000, .int 1000, .int 0, .long 0, .int 0, .ref (wA B 199), .ref (wA B 200), .ref (wA B 201), .ref (wA B 202), .ref (wA B 203), .ref (wA B 204)]) s H _ := w
  refine lv_aload_n hx hb dX7_init_95 rfl (lv_at hl 0 rfl) ?_
  refine bGet (v := .ref (wA B 200)) C0 w (by decide) (by decide) EX_at fk_X7_35 rfl dX7_init_96 ?_
  refine lv_sipush (v := 1000) hx hb dX7_init_99 (by decide) ?_
  refine bFill C0 w (k := 200) (by decide) (by decide) (by decide) ((if_neg (by decide)).trans (e7_200_y B).symm) ky_J7_fill_53178 ks_J7_fill_53178 lk_X7_52 ⟨Nat.le_of_ble_eq_true rfl, Nat.le_of_ble_eq_true rfl⟩ ⟨Nat.le_of_ble_eq_true rfl, Nat.le_of_ble_eq_true rfl⟩ (Nat.le_of_ble_eq_true rfl) hl.1 dX7_init_102 (fun H locs w => ?_)
  rw [EX_fill (by decide) (by decide +kernel)] at w
  have w : Bx B 198 205 (EX B (repI (repI (sz 198) 199 (fun _ => 1000)) 200 (fun _ => 1000)) 198 6 [.int 4, .int 4, .int 1, .int 100000, .int 1000, .int 0, .long 0, .int 0, .ref (wA B 199), .ref (wA B 200), .ref (wA B 201), .ref (wA B 202), .ref (wA B 203), .ref (wA B 204)]) s H _ := w
  rw [EX_fin (e7_198_f B)] at w
  have w := w.congr (E' := fin B σ0) (by intro k h1 h2; rcases (show k = 198 ∨ k = 199 ∨ k = 200 ∨ k = 201 ∨ k = 202 ∨ k = 203 ∨ k = 204 by omega) with rfl | rfl | rfl | rfl | rfl | rfl | rfl <;> rfl)
  exact bRet C0 hr w dX7_init_105
theorem e7_206_z (B : Wb) : (.inl (wC B 0, 64, .inl (fun _ => 0)) : va_E) = fin B (sz 205) 206 := by
  unfold fin
  rw [show shp 206 = (1, 64, []) from by decide +kernel]
  rfl
theorem e7_207_z (B : Wb) : (.inl (wC B 0, 64, .inl (fun _ => 0)) : va_E) = fin B (sz 205) 207 := by
  unfold fin
  rw [show shp 207 = (1, 64, []) from by decide +kernel]
  rfl
theorem e7_208_z (B : Wb) : (.inl (wC B 0, 16, .inl (fun _ => 0)) : va_E) = fin B (sz 205) 208 := by
  unfold fin
  rw [show shp 208 = (1, 16, []) from by decide +kernel]
  rfl
theorem e7_209_z (B : Wb) : (.inl (wC B 0, 16, .inl (fun _ => 0)) : va_E) = fin B (sz 205) 209 := by
  unfold fin
  rw [show shp 209 = (1, 16, []) from by decide +kernel]
  rfl
theorem e7_210_z (B : Wb) : (.inl (wC B 1, 16, .inr (.inl (fun _ => 0))) : va_E) = fin B (sz 205) 210 := by
  unfold fin
  rw [show shp 210 = (2, 16, []) from by decide +kernel]
  rfl
theorem e7_211_z (B : Wb) : (.inl (wC B 2, 16, .inl (fun _ => 0)) : va_E) = fin B (sz 205) 211 := by
  unfold fin
  rw [show shp 211 = (3, 16, []) from by decide +kernel]
  rfl
theorem e7_207_y (B : Wb) : (.inl (wC B 0, 64, .inl (fun _ => 0)) : va_E) = fin B (repI (sz 205) 206 (fun _ => 1000)) 207 := by
  unfold fin
  rw [show shp 207 = (1, 64, []) from by decide +kernel]
  rfl
theorem e7_205_f (B : Wb) : (.inr (6, [.int 4, .int 4, .int 1, .int 100000, .int 1000, .int 0, .long 0, .int 0, .ref (wA B 206), .ref (wA B 207), .ref (wA B 208), .ref (wA B 209), .ref (wA B 210), .ref (wA B 211)]) : va_E) = fin B (repI (repI (sz 205) 206 (fun _ => 1000)) 207 (fun _ => 1000)) 205 := by
  unfold fin
  rw [show shp 205 = (0, 6, [0, 0, 0, 0, 0, 0, 1, 0, 208, 209, 210, 211, 212, 213]) from by decide +kernel]
  rfl
abbrev rm_i_X7_205 : Room := { frames := 1, cells := 6, slots := 192, locals := 23 }
set_option maxHeartbeats 400000 in
set_option maxRecDepth 100000 in
theorem i_X7_205 (l : Launch) (B : Wb) : MetI l yX7_init cX7_init 1 rm_i_X7_205 B 205 206 (EX B σ0 205 6 [.int 0, .int 0, .int 0, .int 0, .int 0, .int 0, .long 0, .int 0, .null, .null, .null, .null, .null, .null]) 212 (fin B σ0) [.ref (wA B 205)] 6 192 := by
  refine metI_in (by decide +kernel) rfl (Nat.le_of_ble_eq_true rfl) ?_
  intro p e s m below meth c C0 hr hin w ls hl
  have hx := C0.1.1
  have hb := C0.1.2.1
  have w := w.congr (E' := EX B (sz 205) 205 6 [.int 0, .int 0, .int 0, .int 0, .int 0, .int 0, .long 0, .int 0, .null, .null, .null, .null, .null, .null]) (by intro k h1 h2; rw [show k = 205 by omega]; exact EX_at.trans EX_at.symm)
  refine lv_aload_n hx hb dX7_init_0 rfl (lv_at hl 0 rfl) ?_
  refine bObj C0 lk_X7_3 oi_i oi_c hl.1 ⟨Nat.le_of_ble_eq_true rfl, Nat.le_of_ble_eq_true rfl⟩ dX7_init_1 ?_
  refine lv_aload_n hx hb dX7_init_4 rfl (lv_at hl 0 rfl) ?_
  refine lv_iconst (v := 4) hx hb dX7_init_5 (by decide) ?_
  refine bPut C0 w (by decide) (by decide) EX_at fk_X7_9 fp_X7_0 rfl rfl (Nat.le_of_ble_eq_true rfl) dX7_init_6 (fun H locs w => ?_)
  rw [EX_put] at w
  have w : Bx B 205 206 (EX B (sz 205) 205 6 [.int 4, .int 0, .int 0, .int 0, .int 0, .int 0, .long 0, .int 0, .null, .null, .null, .null, .null, .null]) s H _ := w
  refine lv_aload_n hx hb dX7_init_9 rfl (lv_at hl 0 rfl) ?_
  refine lv_iconst (v := 4) hx hb dX7_init_10 (by decide) ?_
  refine bPut C0 w (by decide) (by decide) EX_at fk_X7_15 fp_X7_1 rfl rfl (Nat.le_of_ble_eq_true rfl) dX7_init_11 (fun H locs w => ?_)
  rw [EX_put] at w
  have w : Bx B 205 206 (EX B (sz 205) 205 6 [.int 4, .int 4, .int 0, .int 0, .int 0, .int 0, .long 0, .int 0, .null, .null, .null, .null, .null, .null]) s H _ := w
  refine lv_aload_n hx hb dX7_init_14 rfl (lv_at hl 0 rfl) ?_
  refine lv_iconst (v := 1) hx hb dX7_init_15 (by decide) ?_
  refine bPut C0 w (by decide) (by decide) EX_at fk_X7_18 fp_X7_2 rfl rfl (Nat.le_of_ble_eq_true rfl) dX7_init_16 (fun H locs w => ?_)
  rw [EX_put] at w
  have w : Bx B 205 206 (EX B (sz 205) 205 6 [.int 4, .int 4, .int 1, .int 0, .int 0, .int 0, .long 0, .int 0, .null, .null, .null, .null, .null, .null]) s H _ := w
  refine lv_aload_n hx hb dX7_init_19 rfl (lv_at hl 0 rfl) ?_
  refine kIn C0 100000 kc_X7_21 dX7_init_20 ?_
  refine bPut C0 w (by decide) (by decide) EX_at fk_X7_22 fp_X7_3 rfl rfl (Nat.le_of_ble_eq_true rfl) dX7_init_22 (fun H locs w => ?_)
  rw [EX_put] at w
  have w : Bx B 205 206 (EX B (sz 205) 205 6 [.int 4, .int 4, .int 1, .int 100000, .int 0, .int 0, .long 0, .int 0, .null, .null, .null, .null, .null, .null]) s H _ := w
  refine lv_aload_n hx hb dX7_init_25 rfl (lv_at hl 0 rfl) ?_
  refine lv_sipush (v := 1000) hx hb dX7_init_26 (by decide) ?_
  refine bPut C0 w (by decide) (by decide) EX_at fk_X7_25 fp_X7_4 rfl rfl (Nat.le_of_ble_eq_true rfl) dX7_init_29 (fun H locs w => ?_)
  rw [EX_put] at w
  have w : Bx B 205 206 (EX B (sz 205) 205 6 [.int 4, .int 4, .int 1, .int 100000, .int 1000, .int 0, .long 0, .int 0, .null, .null, .null, .null, .null, .null]) s H _ := w
  refine lv_aload_n hx hb dX7_init_32 rfl (lv_at hl 0 rfl) ?_
  refine lv_iconst (v := 0) hx hb dX7_init_33 (by decide) ?_
  refine bPut C0 w (by decide) (by decide) EX_at fk_X7_28 fp_X7_5 rfl rfl (Nat.le_of_ble_eq_true rfl) dX7_init_34 (fun H locs w => ?_)
  rw [EX_put] at w
  have w : Bx B 205 206 (EX B (sz 205) 205 6 [.int 4, .int 4, .int 1, .int 100000, .int 1000, .int 0, .long 0, .int 0, .null, .null, .null, .null, .null, .null]) s H _ := w
  refine lv_aload_n hx hb dX7_init_37 rfl (lv_at hl 0 rfl) ?_
  refine lv_bipush (v := 64) hx hb dX7_init_38 (by decide) ?_
  refine bArr (at_ := .int) (N := 64) (a0 := (64, .inl (fun _ => 0))) C0 w ka_int 0 rfl rfl rfl rfl (by decide) rfl (by decide) (Nat.le_of_ble_eq_true rfl) (Nat.le_of_ble_eq_true rfl) dX7_init_40 (fun H w => ?_)
  rw [EX_arr (by decide) (e7_206_z B)] at w
  have w : Bx B 205 207 (EX B (sz 205) 205 6 [.int 4, .int 4, .int 1, .int 100000, .int 1000, .int 0, .long 0, .int 0, .null, .null, .null, .null, .null, .null]) s H _ := w
  refine bPutF C0 w (by decide) (by decide) EX_at fk_X7_31 ff_X7_8 (by intro C T N h; have h2 : some (RX7, TX7, 14) = some (C, T, N) := h; cases h2; rfl) hin rfl rfl (Nat.le_of_ble_eq_true rfl) dX7_init_42 (fun H locs w => ?_)
  rw [EX_put] at w
  have w : Bx B 205 207 (EX B (sz 205) 205 6 [.int 4, .int 4, .int 1, .int 100000, .int 1000, .int 0, .long 0, .int 0, .ref (wA B 206), .null, .null, .null, .null, .null]) s H _ := w
  refine lv_aload_n hx hb dX7_init_45 rfl (lv_at hl 0 rfl) ?_
  refine lv_bipush (v := 64) hx hb dX7_init_46 (by decide) ?_
  refine bArr (at_ := .int) (N := 64) (a0 := (64, .inl (fun _ => 0))) C0 w ka_int 0 rfl rfl rfl rfl (by decide) rfl (by decide) (Nat.le_of_ble_eq_true rfl) (Nat.le_of_ble_eq_true rfl) dX7_init_48 (fun H w => ?_)
  rw [EX_arr (by decide) (e7_207_z B)] at w
  have w : Bx B 205 208 (EX B (sz 205) 205 6 [.int 4, .int 4, .int 1, .int 100000, .int 1000, .int 0, .long 0, .int 0, .ref (wA B 206), .null, .null, .null, .null, .null]) s H _ := w
  refine bPutF C0 w (by decide) (by decide) EX_at fk_X7_35 ff_X7_9 (by intro C T N h; have h2 : some (RX7, TX7, 14) = some (C, T, N) := h; cases h2; rfl) hin rfl rfl (Nat.le_of_ble_eq_true rfl) dX7_init_50 (fun H locs w => ?_)
  rw [EX_put] at w
  have w : Bx B 205 208 (EX B (sz 205) 205 6 [.int 4, .int 4, .int 1, .int 100000, .int 1000, .int 0, .long 0, .int 0, .ref (wA B 206), .ref (wA B 207), .null, .null, .null, .null]) s H _ := w
  refine lv_aload_n hx hb dX7_init_53 rfl (lv_at hl 0 rfl) ?_
  refine lv_bipush (v := 16) hx hb dX7_init_54 (by decide) ?_
  refine bArr (at_ := .int) (N := 16) (a0 := (16, .inl (fun _ => 0))) C0 w ka_int 0 rfl rfl rfl rfl (by decide) rfl (by decide) (Nat.le_of_ble_eq_true rfl) (Nat.le_of_ble_eq_true rfl) dX7_init_56 (fun H w => ?_)
  rw [EX_arr (by decide) (e7_208_z B)] at w
  have w : Bx B 205 209 (EX B (sz 205) 205 6 [.int 4, .int 4, .int 1, .int 100000, .int 1000, .int 0, .long 0, .int 0, .ref (wA B 206), .ref (wA B 207), .null, .null, .null, .null]) s H _ := w
  refine bPutF C0 w (by decide) (by decide) EX_at fk_X7_38 ff_X7_10 (by intro C T N h; have h2 : some (RX7, TX7, 14) = some (C, T, N) := h; cases h2; rfl) hin rfl rfl (Nat.le_of_ble_eq_true rfl) dX7_init_58 (fun H locs w => ?_)
  rw [EX_put] at w
  have w : Bx B 205 209 (EX B (sz 205) 205 6 [.int 4, .int 4, .int 1, .int 100000, .int 1000, .int 0, .long 0, .int 0, .ref (wA B 206), .ref (wA B 207), .ref (wA B 208), .null, .null, .null]) s H _ := w
  refine lv_aload_n hx hb dX7_init_61 rfl (lv_at hl 0 rfl) ?_
  refine lv_bipush (v := 16) hx hb dX7_init_62 (by decide) ?_
  refine bArr (at_ := .int) (N := 16) (a0 := (16, .inl (fun _ => 0))) C0 w ka_int 0 rfl rfl rfl rfl (by decide) rfl (by decide) (Nat.le_of_ble_eq_true rfl) (Nat.le_of_ble_eq_true rfl) dX7_init_64 (fun H w => ?_)
  rw [EX_arr (by decide) (e7_209_z B)] at w
  have w : Bx B 205 210 (EX B (sz 205) 205 6 [.int 4, .int 4, .int 1, .int 100000, .int 1000, .int 0, .long 0, .int 0, .ref (wA B 206), .ref (wA B 207), .ref (wA B 208), .null, .null, .null]) s H _ := w
  refine bPutF C0 w (by decide) (by decide) EX_at fk_X7_41 ff_X7_11 (by intro C T N h; have h2 : some (RX7, TX7, 14) = some (C, T, N) := h; cases h2; rfl) hin rfl rfl (Nat.le_of_ble_eq_true rfl) dX7_init_66 (fun H locs w => ?_)
  rw [EX_put] at w
  have w : Bx B 205 210 (EX B (sz 205) 205 6 [.int 4, .int 4, .int 1, .int 100000, .int 1000, .int 0, .long 0, .int 0, .ref (wA B 206), .ref (wA B 207), .ref (wA B 208), .ref (wA B 209), .null, .null]) s H _ := w
  refine lv_aload_n hx hb dX7_init_69 rfl (lv_at hl 0 rfl) ?_
  refine lv_bipush (v := 16) hx hb dX7_init_70 (by decide) ?_
  refine bArr (at_ := .long) (N := 16) (a0 := (16, .inr (.inl (fun _ => 0)))) C0 w ka_long 1 rfl rfl rfl rfl (by decide) rfl (by decide) (Nat.le_of_ble_eq_true rfl) (Nat.le_of_ble_eq_true rfl) dX7_init_72 (fun H w => ?_)
  rw [EX_arr (by decide) (e7_210_z B)] at w
  have w : Bx B 205 211 (EX B (sz 205) 205 6 [.int 4, .int 4, .int 1, .int 100000, .int 1000, .int 0, .long 0, .int 0, .ref (wA B 206), .ref (wA B 207), .ref (wA B 208), .ref (wA B 209), .null, .null]) s H _ := w
  refine bPutF C0 w (by decide) (by decide) EX_at fk_X7_44 ff_X7_12 (by intro C T N h; have h2 : some (RX7, TX7, 14) = some (C, T, N) := h; cases h2; rfl) hin rfl rfl (Nat.le_of_ble_eq_true rfl) dX7_init_74 (fun H locs w => ?_)
  rw [EX_put] at w
  have w : Bx B 205 211 (EX B (sz 205) 205 6 [.int 4, .int 4, .int 1, .int 100000, .int 1000, .int 0, .long 0, .int 0, .ref (wA B 206), .ref (wA B 207), .ref (wA B 208), .ref (wA B 209), .ref (wA B 210), .null]) s H _ := w
  refine lv_aload_n hx hb dX7_init_77 rfl (lv_at hl 0 rfl) ?_
  refine lv_bipush (v := 16) hx hb dX7_init_78 (by decide) ?_
  refine bArr (at_ := .boolean) (N := 16) (a0 := (16, .inl (fun _ => 0))) C0 w ka_boolean 2 rfl rfl rfl rfl (by decide) rfl (by decide) (Nat.le_of_ble_eq_true rfl) (Nat.le_of_ble_eq_true rfl) dX7_init_80 (fun H w => ?_)
  rw [EX_arr (by decide) (e7_211_z B)] at w
  have w : Bx B 205 212 (EX B (sz 205) 205 6 [.int 4, .int 4, .int 1, .int 100000, .int 1000, .int 0, .long 0, .int 0, .ref (wA B 206), .ref (wA B 207), .ref (wA B 208), .ref (wA B 209), .ref (wA B 210), .null]) s H _ := w
  refine bPutF C0 w (by decide) (by decide) EX_at fk_X7_48 ff_X7_13 (by intro C T N h; have h2 : some (RX7, TX7, 14) = some (C, T, N) := h; cases h2; rfl) hin rfl rfl (Nat.le_of_ble_eq_true rfl) dX7_init_82 (fun H locs w => ?_)
  rw [EX_put] at w
  have w : Bx B 205 212 (EX B (sz 205) 205 6 [.int 4, .int 4, .int 1, .int 100000, .int 1000, .int 0, .long 0, .int 0, .ref (wA B 206), .ref (wA B 207), .ref (wA B 208), .ref (wA B 209), .ref (wA B 210), .ref (wA B 211)]) s H _ := w
  refine lv_aload_n hx hb dX7_init_85 rfl (lv_at hl 0 rfl) ?_
  refine bGet (v := .ref (wA B 206)) C0 w (by decide) (by decide) EX_at fk_X7_31 rfl dX7_init_86 ?_
  refine lv_sipush (v := 1000) hx hb dX7_init_89 (by decide) ?_
  refine bFill C0 w (k := 206) (by decide) (by decide) (by decide) ((if_neg (by decide)).trans (e7_206_z B).symm) ky_J7_fill_53178 ks_J7_fill_53178 lk_X7_52 ⟨Nat.le_of_ble_eq_true rfl, Nat.le_of_ble_eq_true rfl⟩ ⟨Nat.le_of_ble_eq_true rfl, Nat.le_of_ble_eq_true rfl⟩ (Nat.le_of_ble_eq_true rfl) hl.1 dX7_init_92 (fun H locs w => ?_)
  rw [EX_fill (by decide) (by decide +kernel)] at w
  have w : Bx B 205 212 (EX B (repI (sz 205) 206 (fun _ => 1000)) 205 6 [.int 4, .int 4, .int 1, .int 100000, .int 1000, .int 0, .long 0, .int 0, .ref (wA B 206), .ref (wA B 207), .ref (wA B 208), .ref (wA B 209), .ref (wA B 210), .ref (wA B 211)]) s H _ := w
  refine lv_aload_n hx hb dX7_init_95 rfl (lv_at hl 0 rfl) ?_
  refine bGet (v := .ref (wA B 207)) C0 w (by decide) (by decide) EX_at fk_X7_35 rfl dX7_init_96 ?_
  refine lv_sipush (v := 1000) hx hb dX7_init_99 (by decide) ?_
  refine bFill C0 w (k := 207) (by decide) (by decide) (by decide) ((if_neg (by decide)).trans (e7_207_y B).symm) ky_J7_fill_53178 ks_J7_fill_53178 lk_X7_52 ⟨Nat.le_of_ble_eq_true rfl, Nat.le_of_ble_eq_true rfl⟩ ⟨Nat.le_of_ble_eq_true rfl, Nat.le_of_ble_eq_true rfl⟩ (Nat.le_of_ble_eq_true rfl) hl.1 dX7_init_102 (fun H locs w => ?_)
  rw [EX_fill (by decide) (by decide +kernel)] at w
  have w : Bx B 205 212 (EX B (repI (repI (sz 205) 206 (fun _ => 1000)) 207 (fun _ => 1000)) 205 6 [.int 4, .int 4, .int 1, .int 100000, .int 1000, .int 0, .long 0, .int 0, .ref (wA B 206), .ref (wA B 207), .ref (wA B 208), .ref (wA B 209), .ref (wA B 210), .ref (wA B 211)]) s H _ := w
  rw [EX_fin (e7_205_f B)] at w
  have w := w.congr (E' := fin B σ0) (by intro k h1 h2; rcases (show k = 205 ∨ k = 206 ∨ k = 207 ∨ k = 208 ∨ k = 209 ∨ k = 210 ∨ k = 211 by omega) with rfl | rfl | rfl | rfl | rfl | rfl | rfl <;> rfl)
  exact bRet C0 hr w dX7_init_105
theorem e7_213_z (B : Wb) : (.inl (wC B 0, 64, .inl (fun _ => 0)) : va_E) = fin B (sz 212) 213 := by
  unfold fin
  rw [show shp 213 = (1, 64, []) from by decide +kernel]
  rfl
theorem e7_214_z (B : Wb) : (.inl (wC B 0, 64, .inl (fun _ => 0)) : va_E) = fin B (sz 212) 214 := by
  unfold fin
  rw [show shp 214 = (1, 64, []) from by decide +kernel]
  rfl
theorem e7_215_z (B : Wb) : (.inl (wC B 0, 16, .inl (fun _ => 0)) : va_E) = fin B (sz 212) 215 := by
  unfold fin
  rw [show shp 215 = (1, 16, []) from by decide +kernel]
  rfl
theorem e7_216_z (B : Wb) : (.inl (wC B 0, 16, .inl (fun _ => 0)) : va_E) = fin B (sz 212) 216 := by
  unfold fin
  rw [show shp 216 = (1, 16, []) from by decide +kernel]
  rfl
theorem e7_217_z (B : Wb) : (.inl (wC B 1, 16, .inr (.inl (fun _ => 0))) : va_E) = fin B (sz 212) 217 := by
  unfold fin
  rw [show shp 217 = (2, 16, []) from by decide +kernel]
  rfl
theorem e7_218_z (B : Wb) : (.inl (wC B 2, 16, .inl (fun _ => 0)) : va_E) = fin B (sz 212) 218 := by
  unfold fin
  rw [show shp 218 = (3, 16, []) from by decide +kernel]
  rfl
theorem e7_214_y (B : Wb) : (.inl (wC B 0, 64, .inl (fun _ => 0)) : va_E) = fin B (repI (sz 212) 213 (fun _ => 1000)) 214 := by
  unfold fin
  rw [show shp 214 = (1, 64, []) from by decide +kernel]
  rfl
theorem e7_212_f (B : Wb) : (.inr (6, [.int 4, .int 4, .int 1, .int 100000, .int 1000, .int 0, .long 0, .int 0, .ref (wA B 213), .ref (wA B 214), .ref (wA B 215), .ref (wA B 216), .ref (wA B 217), .ref (wA B 218)]) : va_E) = fin B (repI (repI (sz 212) 213 (fun _ => 1000)) 214 (fun _ => 1000)) 212 := by
  unfold fin
  rw [show shp 212 = (0, 6, [0, 0, 0, 0, 0, 0, 1, 0, 215, 216, 217, 218, 219, 220]) from by decide +kernel]
  rfl
abbrev rm_i_X7_212 : Room := { frames := 1, cells := 6, slots := 192, locals := 23 }
set_option maxHeartbeats 400000 in
set_option maxRecDepth 100000 in
theorem i_X7_212 (l : Launch) (B : Wb) : MetI l yX7_init cX7_init 1 rm_i_X7_212 B 212 213 (EX B σ0 212 6 [.int 0, .int 0, .int 0, .int 0, .int 0, .int 0, .long 0, .int 0, .null, .null, .null, .null, .null, .null]) 219 (fin B σ0) [.ref (wA B 212)] 6 192 := by
  refine metI_in (by decide +kernel) rfl (Nat.le_of_ble_eq_true rfl) ?_
  intro p e s m below meth c C0 hr hin w ls hl
  have hx := C0.1.1
  have hb := C0.1.2.1
  have w := w.congr (E' := EX B (sz 212) 212 6 [.int 0, .int 0, .int 0, .int 0, .int 0, .int 0, .long 0, .int 0, .null, .null, .null, .null, .null, .null]) (by intro k h1 h2; rw [show k = 212 by omega]; exact EX_at.trans EX_at.symm)
  refine lv_aload_n hx hb dX7_init_0 rfl (lv_at hl 0 rfl) ?_
  refine bObj C0 lk_X7_3 oi_i oi_c hl.1 ⟨Nat.le_of_ble_eq_true rfl, Nat.le_of_ble_eq_true rfl⟩ dX7_init_1 ?_
  refine lv_aload_n hx hb dX7_init_4 rfl (lv_at hl 0 rfl) ?_
  refine lv_iconst (v := 4) hx hb dX7_init_5 (by decide) ?_
  refine bPut C0 w (by decide) (by decide) EX_at fk_X7_9 fp_X7_0 rfl rfl (Nat.le_of_ble_eq_true rfl) dX7_init_6 (fun H locs w => ?_)
  rw [EX_put] at w
  have w : Bx B 212 213 (EX B (sz 212) 212 6 [.int 4, .int 0, .int 0, .int 0, .int 0, .int 0, .long 0, .int 0, .null, .null, .null, .null, .null, .null]) s H _ := w
  refine lv_aload_n hx hb dX7_init_9 rfl (lv_at hl 0 rfl) ?_
  refine lv_iconst (v := 4) hx hb dX7_init_10 (by decide) ?_
  refine bPut C0 w (by decide) (by decide) EX_at fk_X7_15 fp_X7_1 rfl rfl (Nat.le_of_ble_eq_true rfl) dX7_init_11 (fun H locs w => ?_)
  rw [EX_put] at w
  have w : Bx B 212 213 (EX B (sz 212) 212 6 [.int 4, .int 4, .int 0, .int 0, .int 0, .int 0, .long 0, .int 0, .null, .null, .null, .null, .null, .null]) s H _ := w
  refine lv_aload_n hx hb dX7_init_14 rfl (lv_at hl 0 rfl) ?_
  refine lv_iconst (v := 1) hx hb dX7_init_15 (by decide) ?_
  refine bPut C0 w (by decide) (by decide) EX_at fk_X7_18 fp_X7_2 rfl rfl (Nat.le_of_ble_eq_true rfl) dX7_init_16 (fun H locs w => ?_)
  rw [EX_put] at w
  have w : Bx B 212 213 (EX B (sz 212) 212 6 [.int 4, .int 4, .int 1, .int 0, .int 0, .int 0, .long 0, .int 0, .null, .null, .null, .null, .null, .null]) s H _ := w
  refine lv_aload_n hx hb dX7_init_19 rfl (lv_at hl 0 rfl) ?_
  refine kIn C0 100000 kc_X7_21 dX7_init_20 ?_
  refine bPut C0 w (by decide) (by decide) EX_at fk_X7_22 fp_X7_3 rfl rfl (Nat.le_of_ble_eq_true rfl) dX7_init_22 (fun H locs w => ?_)
  rw [EX_put] at w
  have w : Bx B 212 213 (EX B (sz 212) 212 6 [.int 4, .int 4, .int 1, .int 100000, .int 0, .int 0, .long 0, .int 0, .null, .null, .null, .null, .null, .null]) s H _ := w
  refine lv_aload_n hx hb dX7_init_25 rfl (lv_at hl 0 rfl) ?_
  refine lv_sipush (v := 1000) hx hb dX7_init_26 (by decide) ?_
  refine bPut C0 w (by decide) (by decide) EX_at fk_X7_25 fp_X7_4 rfl rfl (Nat.le_of_ble_eq_true rfl) dX7_init_29 (fun H locs w => ?_)
  rw [EX_put] at w
  have w : Bx B 212 213 (EX B (sz 212) 212 6 [.int 4, .int 4, .int 1, .int 100000, .int 1000, .int 0, .long 0, .int 0, .null, .null, .null, .null, .null, .null]) s H _ := w
  refine lv_aload_n hx hb dX7_init_32 rfl (lv_at hl 0 rfl) ?_
  refine lv_iconst (v := 0) hx hb dX7_init_33 (by decide) ?_
  refine bPut C0 w (by decide) (by decide) EX_at fk_X7_28 fp_X7_5 rfl rfl (Nat.le_of_ble_eq_true rfl) dX7_init_34 (fun H locs w => ?_)
  rw [EX_put] at w
  have w : Bx B 212 213 (EX B (sz 212) 212 6 [.int 4, .int 4, .int 1, .int 100000, .int 1000, .int 0, .long 0, .int 0, .null, .null, .null, .null, .null, .null]) s H _ := w
  refine lv_aload_n hx hb dX7_init_37 rfl (lv_at hl 0 rfl) ?_
  refine lv_bipush (v := 64) hx hb dX7_init_38 (by decide) ?_
  refine bArr (at_ := .int) (N := 64) (a0 := (64, .inl (fun _ => 0))) C0 w ka_int 0 rfl rfl rfl rfl (by decide) rfl (by decide) (Nat.le_of_ble_eq_true rfl) (Nat.le_of_ble_eq_true rfl) dX7_init_40 (fun H w => ?_)
  rw [EX_arr (by decide) (e7_213_z B)] at w
  have w : Bx B 212 214 (EX B (sz 212) 212 6 [.int 4, .int 4, .int 1, .int 100000, .int 1000, .int 0, .long 0, .int 0, .null, .null, .null, .null, .null, .null]) s H _ := w
  refine bPutF C0 w (by decide) (by decide) EX_at fk_X7_31 ff_X7_8 (by intro C T N h; have h2 : some (RX7, TX7, 14) = some (C, T, N) := h; cases h2; rfl) hin rfl rfl (Nat.le_of_ble_eq_true rfl) dX7_init_42 (fun H locs w => ?_)
  rw [EX_put] at w
  have w : Bx B 212 214 (EX B (sz 212) 212 6 [.int 4, .int 4, .int 1, .int 100000, .int 1000, .int 0, .long 0, .int 0, .ref (wA B 213), .null, .null, .null, .null, .null]) s H _ := w
  refine lv_aload_n hx hb dX7_init_45 rfl (lv_at hl 0 rfl) ?_
  refine lv_bipush (v := 64) hx hb dX7_init_46 (by decide) ?_
  refine bArr (at_ := .int) (N := 64) (a0 := (64, .inl (fun _ => 0))) C0 w ka_int 0 rfl rfl rfl rfl (by decide) rfl (by decide) (Nat.le_of_ble_eq_true rfl) (Nat.le_of_ble_eq_true rfl) dX7_init_48 (fun H w => ?_)
  rw [EX_arr (by decide) (e7_214_z B)] at w
  have w : Bx B 212 215 (EX B (sz 212) 212 6 [.int 4, .int 4, .int 1, .int 100000, .int 1000, .int 0, .long 0, .int 0, .ref (wA B 213), .null, .null, .null, .null, .null]) s H _ := w
  refine bPutF C0 w (by decide) (by decide) EX_at fk_X7_35 ff_X7_9 (by intro C T N h; have h2 : some (RX7, TX7, 14) = some (C, T, N) := h; cases h2; rfl) hin rfl rfl (Nat.le_of_ble_eq_true rfl) dX7_init_50 (fun H locs w => ?_)
  rw [EX_put] at w
  have w : Bx B 212 215 (EX B (sz 212) 212 6 [.int 4, .int 4, .int 1, .int 100000, .int 1000, .int 0, .long 0, .int 0, .ref (wA B 213), .ref (wA B 214), .null, .null, .null, .null]) s H _ := w
  refine lv_aload_n hx hb dX7_init_53 rfl (lv_at hl 0 rfl) ?_
  refine lv_bipush (v := 16) hx hb dX7_init_54 (by decide) ?_
  refine bArr (at_ := .int) (N := 16) (a0 := (16, .inl (fun _ => 0))) C0 w ka_int 0 rfl rfl rfl rfl (by decide) rfl (by decide) (Nat.le_of_ble_eq_true rfl) (Nat.le_of_ble_eq_true rfl) dX7_init_56 (fun H w => ?_)
  rw [EX_arr (by decide) (e7_215_z B)] at w
  have w : Bx B 212 216 (EX B (sz 212) 212 6 [.int 4, .int 4, .int 1, .int 100000, .int 1000, .int 0, .long 0, .int 0, .ref (wA B 213), .ref (wA B 214), .null, .null, .null, .null]) s H _ := w
  refine bPutF C0 w (by decide) (by decide) EX_at fk_X7_38 ff_X7_10 (by intro C T N h; have h2 : some (RX7, TX7, 14) = some (C, T, N) := h; cases h2; rfl) hin rfl rfl (Nat.le_of_ble_eq_true rfl) dX7_init_58 (fun H locs w => ?_)
  rw [EX_put] at w
  have w : Bx B 212 216 (EX B (sz 212) 212 6 [.int 4, .int 4, .int 1, .int 100000, .int 1000, .int 0, .long 0, .int 0, .ref (wA B 213), .ref (wA B 214), .ref (wA B 215), .null, .null, .null]) s H _ := w
  refine lv_aload_n hx hb dX7_init_61 rfl (lv_at hl 0 rfl) ?_
  refine lv_bipush (v := 16) hx hb dX7_init_62 (by decide) ?_
  refine bArr (at_ := .int) (N := 16) (a0 := (16, .inl (fun _ => 0))) C0 w ka_int 0 rfl rfl rfl rfl (by decide) rfl (by decide) (Nat.le_of_ble_eq_true rfl) (Nat.le_of_ble_eq_true rfl) dX7_init_64 (fun H w => ?_)
  rw [EX_arr (by decide) (e7_216_z B)] at w
  have w : Bx B 212 217 (EX B (sz 212) 212 6 [.int 4, .int 4, .int 1, .int 100000, .int 1000, .int 0, .long 0, .int 0, .ref (wA B 213), .ref (wA B 214), .ref (wA B 215), .null, .null, .null]) s H _ := w
  refine bPutF C0 w (by decide) (by decide) EX_at fk_X7_41 ff_X7_11 (by intro C T N h; have h2 : some (RX7, TX7, 14) = some (C, T, N) := h; cases h2; rfl) hin rfl rfl (Nat.le_of_ble_eq_true rfl) dX7_init_66 (fun H locs w => ?_)
  rw [EX_put] at w
  have w : Bx B 212 217 (EX B (sz 212) 212 6 [.int 4, .int 4, .int 1, .int 100000, .int 1000, .int 0, .long 0, .int 0, .ref (wA B 213), .ref (wA B 214), .ref (wA B 215), .ref (wA B 216), .null, .null]) s H _ := w
  refine lv_aload_n hx hb dX7_init_69 rfl (lv_at hl 0 rfl) ?_
  refine lv_bipush (v := 16) hx hb dX7_init_70 (by decide) ?_
  refine bArr (at_ := .long) (N := 16) (a0 := (16, .inr (.inl (fun _ => 0)))) C0 w ka_long 1 rfl rfl rfl rfl (by decide) rfl (by decide) (Nat.le_of_ble_eq_true rfl) (Nat.le_of_ble_eq_true rfl) dX7_init_72 (fun H w => ?_)
  rw [EX_arr (by decide) (e7_217_z B)] at w
  have w : Bx B 212 218 (EX B (sz 212) 212 6 [.int 4, .int 4, .int 1, .int 100000, .int 1000, .int 0, .long 0, .int 0, .ref (wA B 213), .ref (wA B 214), .ref (wA B 215), .ref (wA B 216), .null, .null]) s H _ := w
  refine bPutF C0 w (by decide) (by decide) EX_at fk_X7_44 ff_X7_12 (by intro C T N h; have h2 : some (RX7, TX7, 14) = some (C, T, N) := h; cases h2; rfl) hin rfl rfl (Nat.le_of_ble_eq_true rfl) dX7_init_74 (fun H locs w => ?_)
  rw [EX_put] at w
  have w : Bx B 212 218 (EX B (sz 212) 212 6 [.int 4, .int 4, .int 1, .int 100000, .int 1000, .int 0, .long 0, .int 0, .ref (wA B 213), .ref (wA B 214), .ref (wA B 215), .ref (wA B 216), .ref (wA B 217), .null]) s H _ := w
  refine lv_aload_n hx hb dX7_init_77 rfl (lv_at hl 0 rfl) ?_
  refine lv_bipush (v := 16) hx hb dX7_init_78 (by decide) ?_
  refine bArr (at_ := .boolean) (N := 16) (a0 := (16, .inl (fun _ => 0))) C0 w ka_boolean 2 rfl rfl rfl rfl (by decide) rfl (by decide) (Nat.le_of_ble_eq_true rfl) (Nat.le_of_ble_eq_true rfl) dX7_init_80 (fun H w => ?_)
  rw [EX_arr (by decide) (e7_218_z B)] at w
  have w : Bx B 212 219 (EX B (sz 212) 212 6 [.int 4, .int 4, .int 1, .int 100000, .int 1000, .int 0, .long 0, .int 0, .ref (wA B 213), .ref (wA B 214), .ref (wA B 215), .ref (wA B 216), .ref (wA B 217), .null]) s H _ := w
  refine bPutF C0 w (by decide) (by decide) EX_at fk_X7_48 ff_X7_13 (by intro C T N h; have h2 : some (RX7, TX7, 14) = some (C, T, N) := h; cases h2; rfl) hin rfl rfl (Nat.le_of_ble_eq_true rfl) dX7_init_82 (fun H locs w => ?_)
  rw [EX_put] at w
  have w : Bx B 212 219 (EX B (sz 212) 212 6 [.int 4, .int 4, .int 1, .int 100000, .int 1000, .int 0, .long 0, .int 0, .ref (wA B 213), .ref (wA B 214), .ref (wA B 215), .ref (wA B 216), .ref (wA B 217), .ref (wA B 218)]) s H _ := w
  refine lv_aload_n hx hb dX7_init_85 rfl (lv_at hl 0 rfl) ?_
  refine bGet (v := .ref (wA B 213)) C0 w (by decide) (by decide) EX_at fk_X7_31 rfl dX7_init_86 ?_
  refine lv_sipush (v := 1000) hx hb dX7_init_89 (by decide) ?_
  refine bFill C0 w (k := 213) (by decide) (by decide) (by decide) ((if_neg (by decide)).trans (e7_213_z B).symm) ky_J7_fill_53178 ks_J7_fill_53178 lk_X7_52 ⟨Nat.le_of_ble_eq_true rfl, Nat.le_of_ble_eq_true rfl⟩ ⟨Nat.le_of_ble_eq_true rfl, Nat.le_of_ble_eq_true rfl⟩ (Nat.le_of_ble_eq_true rfl) hl.1 dX7_init_92 (fun H locs w => ?_)
  rw [EX_fill (by decide) (by decide +kernel)] at w
  have w : Bx B 212 219 (EX B (repI (sz 212) 213 (fun _ => 1000)) 212 6 [.int 4, .int 4, .int 1, .int 100000, .int 1000, .int 0, .long 0, .int 0, .ref (wA B 213), .ref (wA B 214), .ref (wA B 215), .ref (wA B 216), .ref (wA B 217), .ref (wA B 218)]) s H _ := w
  refine lv_aload_n hx hb dX7_init_95 rfl (lv_at hl 0 rfl) ?_
  refine bGet (v := .ref (wA B 214)) C0 w (by decide) (by decide) EX_at fk_X7_35 rfl dX7_init_96 ?_
  refine lv_sipush (v := 1000) hx hb dX7_init_99 (by decide) ?_
  refine bFill C0 w (k := 214) (by decide) (by decide) (by decide) ((if_neg (by decide)).trans (e7_214_y B).symm) ky_J7_fill_53178 ks_J7_fill_53178 lk_X7_52 ⟨Nat.le_of_ble_eq_true rfl, Nat.le_of_ble_eq_true rfl⟩ ⟨Nat.le_of_ble_eq_true rfl, Nat.le_of_ble_eq_true rfl⟩ (Nat.le_of_ble_eq_true rfl) hl.1 dX7_init_102 (fun H locs w => ?_)
  rw [EX_fill (by decide) (by decide +kernel)] at w
  have w : Bx B 212 219 (EX B (repI (repI (sz 212) 213 (fun _ => 1000)) 214 (fun _ => 1000)) 212 6 [.int 4, .int 4, .int 1, .int 100000, .int 1000, .int 0, .long 0, .int 0, .ref (wA B 213), .ref (wA B 214), .ref (wA B 215), .ref (wA B 216), .ref (wA B 217), .ref (wA B 218)]) s H _ := w
  rw [EX_fin (e7_212_f B)] at w
  have w := w.congr (E' := fin B σ0) (by intro k h1 h2; rcases (show k = 212 ∨ k = 213 ∨ k = 214 ∨ k = 215 ∨ k = 216 ∨ k = 217 ∨ k = 218 by omega) with rfl | rfl | rfl | rfl | rfl | rfl | rfl <;> rfl)
  exact bRet C0 hr w dX7_init_105
