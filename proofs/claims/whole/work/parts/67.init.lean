/-! ===== the constructor of the reference ===== -/
section JOINT
variable {p : Program} {l : Launch} {e : Env} {R : Room} {s : State} {m : MethodId} {args : Array Value} {below : List Frame} {meth : Method} {c : Code} {H : Heap} {locs : List Loc} {cells slots : Nat} {Q : State → Prop}
variable {cc : ByteArray} {nL pc : Nat} {ow : String} {ls : Array Slot} {rest st0 : List Value} {B : Wb} {b n : Nat} {E E' : Nat → va_E}
theorem bRet_t {σ : Mem} (C0 : Cx p s m args meth c cc nL ow) (hr : meth.sig.returnType = none) (w : Wx_t B σ s H locs) (hA : AdB B) (hsz : s.heap.size = wA B 225) (hcl : cells = 14) (d : decode cc pc = .ok (.return_, 1)) : W p l e R s m args below meth c H locs cells slots (MQ below (QI B 0 239 (fin B σ)) args s cells slots (AP B 0)) (F0 m pc ls []) := by
  refine W.sized fun hup => ?_
  have h238 : (wd_t B σ)[238]? = some (wA B 238, mk B (shp 238) (σ.1 238) (σ.2 238)) := wd_get_t (by decide)
  have hlo : wA B 238 < H.size := (w.1 238 _ h238).lt
  have hz : H.size = wA B 239 := by
    rw [hsz, hcl, hA 225] at hup
    rw [hA 238] at hlo
    rw [hA 239]
    omega
  have hsub := own_APt hA (sz := s.heap.size) (by rw [hsz, hA 225]; omega)
  exact W.vret C0.1.1 C0.1.2.1 hr (fun t ht _ => ⟨⟨rfl, by rw [ht, Pl_wdt]; exact w.1, by rw [ht]; exact hz⟩, ⟨by rw [ht]; exact w.2.2.2.1.1, fun q h1 h2 => by rw [ht]; exact w.2.2.2.1.2.1 q h1 (fun z => h2 (hsub q z))⟩⟩) (fun q hq => hsub _ (w.2.2.2.1.2.2 q hq)) d (hlocks := C0.2)
end JOINT
theorem fin_up {B : Wb} {σ : Mem} {k : Nat} (h : σ.1 k = σ0.1 k ∧ σ.2 k = σ0.2 k) : fin B σ0 k = fin B σ k := by
  unfold fin
  rw [h.1, h.2]
theorem lk_X12_1 : Cond.methodLink RX12 1 objectInit ∈ GL := gl_in 1071 (by decide +kernel) (by decide +kernel)
theorem ff_X12_0 : FptF 10 0 (.array .long) := ⟨RX12, TX12, 22, tyX12, rfl, tyX12_ok, nmX12, rfl, by decide +kernel⟩
theorem ff_X12_1 : FptF 10 1 (.array .long) := ⟨RX12, TX12, 22, tyX12, rfl, tyX12_ok, nmX12, rfl, by decide +kernel⟩
theorem ff_X12_3 : FptF 10 3 (.array .int) := ⟨RX12, TX12, 22, tyX12, rfl, tyX12_ok, nmX12, rfl, by decide +kernel⟩
theorem ff_X12_6 : FptF 10 6 (.array .long) := ⟨RX12, TX12, 22, tyX12, rfl, tyX12_ok, nmX12, rfl, by decide +kernel⟩
theorem ff_X12_7 : FptF 10 7 (.array .boolean) := ⟨RX12, TX12, 22, tyX12, rfl, tyX12_ok, nmX12, rfl, by decide +kernel⟩
theorem ff_X12_8 : FptF 10 8 (.array .int) := ⟨RX12, TX12, 22, tyX12, rfl, tyX12_ok, nmX12, rfl, by decide +kernel⟩
theorem ff_X12_10 : FptF 10 10 (.array .int) := ⟨RX12, TX12, 22, tyX12, rfl, tyX12_ok, nmX12, rfl, by decide +kernel⟩
theorem ff_X12_12 : FptF 10 12 (.array .int) := ⟨RX12, TX12, 22, tyX12, rfl, tyX12_ok, nmX12, rfl, by decide +kernel⟩
theorem ff_X12_13 : FptF 10 13 (.array .int) := ⟨RX12, TX12, 22, tyX12, rfl, tyX12_ok, nmX12, rfl, by decide +kernel⟩
theorem ff_X12_14 : FptF 10 14 (.array .int) := ⟨RX12, TX12, 22, tyX12, rfl, tyX12_ok, nmX12, rfl, by decide +kernel⟩
theorem ff_X12_15 : FptF 10 15 (.array .long) := ⟨RX12, TX12, 22, tyX12, rfl, tyX12_ok, nmX12, rfl, by decide +kernel⟩
theorem ff_X12_16 : FptF 10 16 (.array .int) := ⟨RX12, TX12, 22, tyX12, rfl, tyX12_ok, nmX12, rfl, by decide +kernel⟩
theorem ff_X12_17 : FptF 10 17 (.array .long) := ⟨RX12, TX12, 22, tyX12, rfl, tyX12_ok, nmX12, rfl, by decide +kernel⟩
theorem ff_X12_20 : FptF 10 20 (.array .int) := ⟨RX12, TX12, 22, tyX12, rfl, tyX12_ok, nmX12, rfl, by decide +kernel⟩
theorem ef_225 (B : Wb) : (.inl (wC B 1, 200, .inr (.inl (fun _ => 0))) : va_E) = fin B σ0 225 := by
  unfold fin
  rw [show shp 225 = (2, 200, []) from by decide +kernel]
  rfl
theorem ef_226 (B : Wb) : (.inl (wC B 1, 800, .inr (.inl (fun _ => 0))) : va_E) = fin B σ0 226 := by
  unfold fin
  rw [show shp 226 = (2, 800, []) from by decide +kernel]
  rfl
theorem ef_227 (B : Wb) : (.inl (wC B 0, 120, .inl (fun _ => 0)) : va_E) = fin B σ0 227 := by
  unfold fin
  rw [show shp 227 = (1, 120, []) from by decide +kernel]
  rfl
theorem ef_228 (B : Wb) : (.inl (wC B 1, 64, .inr (.inl (fun _ => 0))) : va_E) = fin B σ0 228 := by
  unfold fin
  rw [show shp 228 = (2, 64, []) from by decide +kernel]
  rfl
theorem ef_229 (B : Wb) : (.inl (wC B 2, 64, .inl (fun _ => 0)) : va_E) = fin B σ0 229 := by
  unfold fin
  rw [show shp 229 = (3, 64, []) from by decide +kernel]
  rfl
theorem ef_230 (B : Wb) : (.inl (wC B 0, 64, .inl (fun _ => 0)) : va_E) = fin B σ0 230 := by
  unfold fin
  rw [show shp 230 = (1, 64, []) from by decide +kernel]
  rfl
theorem ef_231 (B : Wb) : (.inl (wC B 0, 64, .inl (fun _ => 0)) : va_E) = fin B σ0 231 := by
  unfold fin
  rw [show shp 231 = (1, 64, []) from by decide +kernel]
  rfl
theorem ef_232 (B : Wb) : (.inl (wC B 0, 64, .inl (fun _ => 0)) : va_E) = fin B σ0 232 := by
  unfold fin
  rw [show shp 232 = (1, 64, []) from by decide +kernel]
  rfl
theorem ef_233 (B : Wb) : (.inl (wC B 0, 64, .inl (fun _ => 0)) : va_E) = fin B σ0 233 := by
  unfold fin
  rw [show shp 233 = (1, 64, []) from by decide +kernel]
  rfl
theorem ef_234 (B : Wb) : (.inl (wC B 0, 16, .inl (fun _ => 0)) : va_E) = fin B σ0 234 := by
  unfold fin
  rw [show shp 234 = (1, 16, []) from by decide +kernel]
  rfl
theorem ef_235 (B : Wb) : (.inl (wC B 1, 16, .inr (.inl (fun _ => 0))) : va_E) = fin B σ0 235 := by
  unfold fin
  rw [show shp 235 = (2, 16, []) from by decide +kernel]
  rfl
theorem ef_236 (B : Wb) : (.inl (wC B 0, 16, .inl (fun _ => 0)) : va_E) = fin B σ0 236 := by
  unfold fin
  rw [show shp 236 = (1, 16, []) from by decide +kernel]
  rfl
theorem ef_237 (B : Wb) : (.inl (wC B 1, 64, .inr (.inl (fun _ => 0))) : va_E) = fin B σ0 237 := by
  unfold fin
  rw [show shp 237 = (2, 64, []) from by decide +kernel]
  rfl
theorem ef_238 (B : Wb) : (.inl (wC B 0, 90, .inl (fun _ => 0)) : va_E) = fin B σ0 238 := by
  unfold fin
  rw [show shp 238 = (1, 90, []) from by decide +kernel]
  rfl
theorem ef_224 (B : Wb) : (.inr (10, [.ref (wA B 225), .ref (wA B 226), .int 0, .ref (wA B 227), .int 0, .int 0, .ref (wA B 228), .ref (wA B 229), .ref (wA B 230), .int 0, .ref (wA B 231), .long 0, .ref (wA B 232), .ref (wA B 233), .ref (wA B 234), .ref (wA B 235), .ref (wA B 236), .ref (wA B 237), .int 0, .int 0, .ref (wA B 238), .long 0]) : va_E) = fin B σ0 224 := by
  unfold fin
  rw [show shp 224 = (0, 10, [227, 228, 0, 229, 0, 0, 230, 231, 232, 0, 233, 1, 234, 235, 236, 237, 238, 239, 0, 0, 240, 1]) from by decide +kernel]
  rfl
/-- the memory after the three numbers that the constructor of the reference sets -/
def sm0 (σ : Mem) : Mem := setL (setL (setL σ 225 ((2 : Int32).toNatClampNeg) 1) 225 ((3 : Int32).toNatClampNeg) 100000) 225 ((4 : Int32).toNatClampNeg) 1000
abbrev rm_i_X12_224 : Room := { frames := 1, cells := 14, slots := 1706, locals := 23 }
set_option maxHeartbeats 400000 in
set_option maxRecDepth 100000 in
theorem i_X12_224 (l : Launch) (B : Wb) (σ q : Mem) (hz : ∀ k, 224 ≤ k → σ.1 k = σ0.1 k ∧ σ.2 k = σ0.2 k) (hf : f_X12_beginAnew 4 4 (sm0 σ) = some q) : MetJ l yX12_init cX12_init 1 rm_i_X12_224 B 0 225 (EX B σ 224 10 [.null, .null, .int 0, .null, .int 0, .int 0, .null, .null, .null, .int 0, .null, .long 0, .null, .null, .null, .null, .null, .null, .int 0, .int 0, .null, .long 0]) (fun U => Gst B (AP B 0) U U.heap) 239 (fin B q) [.ref (wA B 224)] 14 1706 := by
  refine metJ_in (by decide +kernel) rfl (Nat.le_of_ble_eq_true rfl) ?_
  intro p e s m below meth c C0 hr hin w hsz hG ls hl
  have hx := C0.1.1
  have hb := C0.1.2.1
  refine lv_aload_n hx hb dX12_init_0 rfl (lv_at hl 0 rfl) ?_
  refine bObj C0 lk_X12_1 oi_i oi_c hl.1 ⟨Nat.le_of_ble_eq_true rfl, Nat.le_of_ble_eq_true rfl⟩ dX12_init_1 ?_
  refine lv_aload_n hx hb dX12_init_4 rfl (lv_at hl 0 rfl) ?_
  refine lv_sipush (v := 200) hx hb dX12_init_5 (by decide) ?_
  refine bArr (at_ := .long) (N := 200) (a0 := (200, .inr (.inl (fun _ => 0)))) C0 w ka_long 1 rfl rfl rfl rfl (by decide) rfl (by decide) (Nat.le_of_ble_eq_true rfl) (Nat.le_of_ble_eq_true rfl) dX12_init_8 (fun H w => ?_)
  rw [EX_arr (by decide) ((ef_225 B).trans (fin_up (hz 225 (by decide))))] at w
  have w : Bx B 0 226 (EX B σ 224 10 [.null, .null, .int 0, .null, .int 0, .int 0, .null, .null, .null, .int 0, .null, .long 0, .null, .null, .null, .null, .null, .null, .int 0, .int 0, .null, .long 0]) s H _ := w
  refine bPutF C0 w (by decide) (by decide) EX_at fk_X12_7 ff_X12_0 (by intro C T N h; have h2 : some (RX12, TX12, 22) = some (C, T, N) := h; cases h2; rfl) hin rfl rfl (Nat.le_of_ble_eq_true rfl) dX12_init_10 (fun H locs w => ?_)
  rw [EX_put] at w
  have w : Bx B 0 226 (EX B σ 224 10 [.ref (wA B 225), .null, .int 0, .null, .int 0, .int 0, .null, .null, .null, .int 0, .null, .long 0, .null, .null, .null, .null, .null, .null, .int 0, .int 0, .null, .long 0]) s H _ := w
  refine lv_aload_n hx hb dX12_init_13 rfl (lv_at hl 0 rfl) ?_
  refine lv_sipush (v := 800) hx hb dX12_init_14 (by decide) ?_
  refine bArr (at_ := .long) (N := 800) (a0 := (800, .inr (.inl (fun _ => 0)))) C0 w ka_long 1 rfl rfl rfl rfl (by decide) rfl (by decide) (Nat.le_of_ble_eq_true rfl) (Nat.le_of_ble_eq_true rfl) dX12_init_17 (fun H w => ?_)
  rw [EX_arr (by decide) ((ef_226 B).trans (fin_up (hz 226 (by decide))))] at w
  have w : Bx B 0 227 (EX B σ 224 10 [.ref (wA B 225), .null, .int 0, .null, .int 0, .int 0, .null, .null, .null, .int 0, .null, .long 0, .null, .null, .null, .null, .null, .null, .int 0, .int 0, .null, .long 0]) s H _ := w
  refine bPutF C0 w (by decide) (by decide) EX_at fk_X12_13 ff_X12_1 (by intro C T N h; have h2 : some (RX12, TX12, 22) = some (C, T, N) := h; cases h2; rfl) hin rfl rfl (Nat.le_of_ble_eq_true rfl) dX12_init_19 (fun H locs w => ?_)
  rw [EX_put] at w
  have w : Bx B 0 227 (EX B σ 224 10 [.ref (wA B 225), .ref (wA B 226), .int 0, .null, .int 0, .int 0, .null, .null, .null, .int 0, .null, .long 0, .null, .null, .null, .null, .null, .null, .int 0, .int 0, .null, .long 0]) s H _ := w
  refine lv_aload_n hx hb dX12_init_22 rfl (lv_at hl 0 rfl) ?_
  refine lv_bipush (v := 120) hx hb dX12_init_23 (by decide) ?_
  refine bArr (at_ := .int) (N := 120) (a0 := (120, .inl (fun _ => 0))) C0 w ka_int 0 rfl rfl rfl rfl (by decide) rfl (by decide) (Nat.le_of_ble_eq_true rfl) (Nat.le_of_ble_eq_true rfl) dX12_init_25 (fun H w => ?_)
  rw [EX_arr (by decide) ((ef_227 B).trans (fin_up (hz 227 (by decide))))] at w
  have w : Bx B 0 228 (EX B σ 224 10 [.ref (wA B 225), .ref (wA B 226), .int 0, .null, .int 0, .int 0, .null, .null, .null, .int 0, .null, .long 0, .null, .null, .null, .null, .null, .null, .int 0, .int 0, .null, .long 0]) s H _ := w
  refine bPutF C0 w (by decide) (by decide) EX_at fk_X12_16 ff_X12_3 (by intro C T N h; have h2 : some (RX12, TX12, 22) = some (C, T, N) := h; cases h2; rfl) hin rfl rfl (Nat.le_of_ble_eq_true rfl) dX12_init_27 (fun H locs w => ?_)
  rw [EX_put] at w
  have w : Bx B 0 228 (EX B σ 224 10 [.ref (wA B 225), .ref (wA B 226), .int 0, .ref (wA B 227), .int 0, .int 0, .null, .null, .null, .int 0, .null, .long 0, .null, .null, .null, .null, .null, .null, .int 0, .int 0, .null, .long 0]) s H _ := w
  refine lv_aload_n hx hb dX12_init_30 rfl (lv_at hl 0 rfl) ?_
  refine lv_bipush (v := 64) hx hb dX12_init_31 (by decide) ?_
  refine bArr (at_ := .long) (N := 64) (a0 := (64, .inr (.inl (fun _ => 0)))) C0 w ka_long 1 rfl rfl rfl rfl (by decide) rfl (by decide) (Nat.le_of_ble_eq_true rfl) (Nat.le_of_ble_eq_true rfl) dX12_init_33 (fun H w => ?_)
  rw [EX_arr (by decide) ((ef_228 B).trans (fin_up (hz 228 (by decide))))] at w
  have w : Bx B 0 229 (EX B σ 224 10 [.ref (wA B 225), .ref (wA B 226), .int 0, .ref (wA B 227), .int 0, .int 0, .null, .null, .null, .int 0, .null, .long 0, .null, .null, .null, .null, .null, .null, .int 0, .int 0, .null, .long 0]) s H _ := w
  refine bPutF C0 w (by decide) (by decide) EX_at fk_X12_20 ff_X12_6 (by intro C T N h; have h2 : some (RX12, TX12, 22) = some (C, T, N) := h; cases h2; rfl) hin rfl rfl (Nat.le_of_ble_eq_true rfl) dX12_init_35 (fun H locs w => ?_)
  rw [EX_put] at w
  have w : Bx B 0 229 (EX B σ 224 10 [.ref (wA B 225), .ref (wA B 226), .int 0, .ref (wA B 227), .int 0, .int 0, .ref (wA B 228), .null, .null, .int 0, .null, .long 0, .null, .null, .null, .null, .null, .null, .int 0, .int 0, .null, .long 0]) s H _ := w
  refine lv_aload_n hx hb dX12_init_38 rfl (lv_at hl 0 rfl) ?_
  refine lv_bipush (v := 64) hx hb dX12_init_39 (by decide) ?_
  refine bArr (at_ := .boolean) (N := 64) (a0 := (64, .inl (fun _ => 0))) C0 w ka_boolean 2 rfl rfl rfl rfl (by decide) rfl (by decide) (Nat.le_of_ble_eq_true rfl) (Nat.le_of_ble_eq_true rfl) dX12_init_41 (fun H w => ?_)
  rw [EX_arr (by decide) ((ef_229 B).trans (fin_up (hz 229 (by decide))))] at w
  have w : Bx B 0 230 (EX B σ 224 10 [.ref (wA B 225), .ref (wA B 226), .int 0, .ref (wA B 227), .int 0, .int 0, .ref (wA B 228), .null, .null, .int 0, .null, .long 0, .null, .null, .null, .null, .null, .null, .int 0, .int 0, .null, .long 0]) s H _ := w
  refine bPutF C0 w (by decide) (by decide) EX_at fk_X12_23 ff_X12_7 (by intro C T N h; have h2 : some (RX12, TX12, 22) = some (C, T, N) := h; cases h2; rfl) hin rfl rfl (Nat.le_of_ble_eq_true rfl) dX12_init_43 (fun H locs w => ?_)
  rw [EX_put] at w
  have w : Bx B 0 230 (EX B σ 224 10 [.ref (wA B 225), .ref (wA B 226), .int 0, .ref (wA B 227), .int 0, .int 0, .ref (wA B 228), .ref (wA B 229), .null, .int 0, .null, .long 0, .null, .null, .null, .null, .null, .null, .int 0, .int 0, .null, .long 0]) s H _ := w
  refine lv_aload_n hx hb dX12_init_46 rfl (lv_at hl 0 rfl) ?_
  refine lv_bipush (v := 64) hx hb dX12_init_47 (by decide) ?_
  refine bArr (at_ := .int) (N := 64) (a0 := (64, .inl (fun _ => 0))) C0 w ka_int 0 rfl rfl rfl rfl (by decide) rfl (by decide) (Nat.le_of_ble_eq_true rfl) (Nat.le_of_ble_eq_true rfl) dX12_init_49 (fun H w => ?_)
  rw [EX_arr (by decide) ((ef_230 B).trans (fin_up (hz 230 (by decide))))] at w
  have w : Bx B 0 231 (EX B σ 224 10 [.ref (wA B 225), .ref (wA B 226), .int 0, .ref (wA B 227), .int 0, .int 0, .ref (wA B 228), .ref (wA B 229), .null, .int 0, .null, .long 0, .null, .null, .null, .null, .null, .null, .int 0, .int 0, .null, .long 0]) s H _ := w
  refine bPutF C0 w (by decide) (by decide) EX_at fk_X12_27 ff_X12_8 (by intro C T N h; have h2 : some (RX12, TX12, 22) = some (C, T, N) := h; cases h2; rfl) hin rfl rfl (Nat.le_of_ble_eq_true rfl) dX12_init_51 (fun H locs w => ?_)
  rw [EX_put] at w
  have w : Bx B 0 231 (EX B σ 224 10 [.ref (wA B 225), .ref (wA B 226), .int 0, .ref (wA B 227), .int 0, .int 0, .ref (wA B 228), .ref (wA B 229), .ref (wA B 230), .int 0, .null, .long 0, .null, .null, .null, .null, .null, .null, .int 0, .int 0, .null, .long 0]) s H _ := w
  refine lv_aload_n hx hb dX12_init_54 rfl (lv_at hl 0 rfl) ?_
  refine lv_bipush (v := 64) hx hb dX12_init_55 (by decide) ?_
  refine bArr (at_ := .int) (N := 64) (a0 := (64, .inl (fun _ => 0))) C0 w ka_int 0 rfl rfl rfl rfl (by decide) rfl (by decide) (Nat.le_of_ble_eq_true rfl) (Nat.le_of_ble_eq_true rfl) dX12_init_57 (fun H w => ?_)
  rw [EX_arr (by decide) ((ef_231 B).trans (fin_up (hz 231 (by decide))))] at w
  have w : Bx B 0 232 (EX B σ 224 10 [.ref (wA B 225), .ref (wA B 226), .int 0, .ref (wA B 227), .int 0, .int 0, .ref (wA B 228), .ref (wA B 229), .ref (wA B 230), .int 0, .null, .long 0, .null, .null, .null, .null, .null, .null, .int 0, .int 0, .null, .long 0]) s H _ := w
  refine bPutF C0 w (by decide) (by decide) EX_at fk_X12_30 ff_X12_10 (by intro C T N h; have h2 : some (RX12, TX12, 22) = some (C, T, N) := h; cases h2; rfl) hin rfl rfl (Nat.le_of_ble_eq_true rfl) dX12_init_59 (fun H locs w => ?_)
  rw [EX_put] at w
  have w : Bx B 0 232 (EX B σ 224 10 [.ref (wA B 225), .ref (wA B 226), .int 0, .ref (wA B 227), .int 0, .int 0, .ref (wA B 228), .ref (wA B 229), .ref (wA B 230), .int 0, .ref (wA B 231), .long 0, .null, .null, .null, .null, .null, .null, .int 0, .int 0, .null, .long 0]) s H _ := w
  refine lv_aload_n hx hb dX12_init_62 rfl (lv_at hl 0 rfl) ?_
  refine lv_bipush (v := 64) hx hb dX12_init_63 (by decide) ?_
  refine bArr (at_ := .int) (N := 64) (a0 := (64, .inl (fun _ => 0))) C0 w ka_int 0 rfl rfl rfl rfl (by decide) rfl (by decide) (Nat.le_of_ble_eq_true rfl) (Nat.le_of_ble_eq_true rfl) dX12_init_65 (fun H w => ?_)
  rw [EX_arr (by decide) ((ef_232 B).trans (fin_up (hz 232 (by decide))))] at w
  have w : Bx B 0 233 (EX B σ 224 10 [.ref (wA B 225), .ref (wA B 226), .int 0, .ref (wA B 227), .int 0, .int 0, .ref (wA B 228), .ref (wA B 229), .ref (wA B 230), .int 0, .ref (wA B 231), .long 0, .null, .null, .null, .null, .null, .null, .int 0, .int 0, .null, .long 0]) s H _ := w
  refine bPutF C0 w (by decide) (by decide) EX_at fk_X12_33 ff_X12_12 (by intro C T N h; have h2 : some (RX12, TX12, 22) = some (C, T, N) := h; cases h2; rfl) hin rfl rfl (Nat.le_of_ble_eq_true rfl) dX12_init_67 (fun H locs w => ?_)
  rw [EX_put] at w
  have w : Bx B 0 233 (EX B σ 224 10 [.ref (wA B 225), .ref (wA B 226), .int 0, .ref (wA B 227), .int 0, .int 0, .ref (wA B 228), .ref (wA B 229), .ref (wA B 230), .int 0, .ref (wA B 231), .long 0, .ref (wA B 232), .null, .null, .null, .null, .null, .int 0, .int 0, .null, .long 0]) s H _ := w
  refine lv_aload_n hx hb dX12_init_70 rfl (lv_at hl 0 rfl) ?_
  refine lv_bipush (v := 64) hx hb dX12_init_71 (by decide) ?_
  refine bArr (at_ := .int) (N := 64) (a0 := (64, .inl (fun _ => 0))) C0 w ka_int 0 rfl rfl rfl rfl (by decide) rfl (by decide) (Nat.le_of_ble_eq_true rfl) (Nat.le_of_ble_eq_true rfl) dX12_init_73 (fun H w => ?_)
  rw [EX_arr (by decide) ((ef_233 B).trans (fin_up (hz 233 (by decide))))] at w
  have w : Bx B 0 234 (EX B σ 224 10 [.ref (wA B 225), .ref (wA B 226), .int 0, .ref (wA B 227), .int 0, .int 0, .ref (wA B 228), .ref (wA B 229), .ref (wA B 230), .int 0, .ref (wA B 231), .long 0, .ref (wA B 232), .null, .null, .null, .null, .null, .int 0, .int 0, .null, .long 0]) s H _ := w
  refine bPutF C0 w (by decide) (by decide) EX_at fk_X12_36 ff_X12_13 (by intro C T N h; have h2 : some (RX12, TX12, 22) = some (C, T, N) := h; cases h2; rfl) hin rfl rfl (Nat.le_of_ble_eq_true rfl) dX12_init_75 (fun H locs w => ?_)
  rw [EX_put] at w
  have w : Bx B 0 234 (EX B σ 224 10 [.ref (wA B 225), .ref (wA B 226), .int 0, .ref (wA B 227), .int 0, .int 0, .ref (wA B 228), .ref (wA B 229), .ref (wA B 230), .int 0, .ref (wA B 231), .long 0, .ref (wA B 232), .ref (wA B 233), .null, .null, .null, .null, .int 0, .int 0, .null, .long 0]) s H _ := w
  refine lv_aload_n hx hb dX12_init_78 rfl (lv_at hl 0 rfl) ?_
  refine lv_bipush (v := 16) hx hb dX12_init_79 (by decide) ?_
  refine bArr (at_ := .int) (N := 16) (a0 := (16, .inl (fun _ => 0))) C0 w ka_int 0 rfl rfl rfl rfl (by decide) rfl (by decide) (Nat.le_of_ble_eq_true rfl) (Nat.le_of_ble_eq_true rfl) dX12_init_81 (fun H w => ?_)
  rw [EX_arr (by decide) ((ef_234 B).trans (fin_up (hz 234 (by decide))))] at w
  have w : Bx B 0 235 (EX B σ 224 10 [.ref (wA B 225), .ref (wA B 226), .int 0, .ref (wA B 227), .int 0, .int 0, .ref (wA B 228), .ref (wA B 229), .ref (wA B 230), .int 0, .ref (wA B 231), .long 0, .ref (wA B 232), .ref (wA B 233), .null, .null, .null, .null, .int 0, .int 0, .null, .long 0]) s H _ := w
  refine bPutF C0 w (by decide) (by decide) EX_at fk_X12_39 ff_X12_14 (by intro C T N h; have h2 : some (RX12, TX12, 22) = some (C, T, N) := h; cases h2; rfl) hin rfl rfl (Nat.le_of_ble_eq_true rfl) dX12_init_83 (fun H locs w => ?_)
  rw [EX_put] at w
  have w : Bx B 0 235 (EX B σ 224 10 [.ref (wA B 225), .ref (wA B 226), .int 0, .ref (wA B 227), .int 0, .int 0, .ref (wA B 228), .ref (wA B 229), .ref (wA B 230), .int 0, .ref (wA B 231), .long 0, .ref (wA B 232), .ref (wA B 233), .ref (wA B 234), .null, .null, .null, .int 0, .int 0, .null, .long 0]) s H _ := w
  refine lv_aload_n hx hb dX12_init_86 rfl (lv_at hl 0 rfl) ?_
  refine lv_bipush (v := 16) hx hb dX12_init_87 (by decide) ?_
  refine bArr (at_ := .long) (N := 16) (a0 := (16, .inr (.inl (fun _ => 0)))) C0 w ka_long 1 rfl rfl rfl rfl (by decide) rfl (by decide) (Nat.le_of_ble_eq_true rfl) (Nat.le_of_ble_eq_true rfl) dX12_init_89 (fun H w => ?_)
  rw [EX_arr (by decide) ((ef_235 B).trans (fin_up (hz 235 (by decide))))] at w
  have w : Bx B 0 236 (EX B σ 224 10 [.ref (wA B 225), .ref (wA B 226), .int 0, .ref (wA B 227), .int 0, .int 0, .ref (wA B 228), .ref (wA B 229), .ref (wA B 230), .int 0, .ref (wA B 231), .long 0, .ref (wA B 232), .ref (wA B 233), .ref (wA B 234), .null, .null, .null, .int 0, .int 0, .null, .long 0]) s H _ := w
  refine bPutF C0 w (by decide) (by decide) EX_at fk_X12_42 ff_X12_15 (by intro C T N h; have h2 : some (RX12, TX12, 22) = some (C, T, N) := h; cases h2; rfl) hin rfl rfl (Nat.le_of_ble_eq_true rfl) dX12_init_91 (fun H locs w => ?_)
  rw [EX_put] at w
  have w : Bx B 0 236 (EX B σ 224 10 [.ref (wA B 225), .ref (wA B 226), .int 0, .ref (wA B 227), .int 0, .int 0, .ref (wA B 228), .ref (wA B 229), .ref (wA B 230), .int 0, .ref (wA B 231), .long 0, .ref (wA B 232), .ref (wA B 233), .ref (wA B 234), .ref (wA B 235), .null, .null, .int 0, .int 0, .null, .long 0]) s H _ := w
  refine lv_aload_n hx hb dX12_init_94 rfl (lv_at hl 0 rfl) ?_
  refine lv_bipush (v := 16) hx hb dX12_init_95 (by decide) ?_
  refine bArr (at_ := .int) (N := 16) (a0 := (16, .inl (fun _ => 0))) C0 w ka_int 0 rfl rfl rfl rfl (by decide) rfl (by decide) (Nat.le_of_ble_eq_true rfl) (Nat.le_of_ble_eq_true rfl) dX12_init_97 (fun H w => ?_)
  rw [EX_arr (by decide) ((ef_236 B).trans (fin_up (hz 236 (by decide))))] at w
  have w : Bx B 0 237 (EX B σ 224 10 [.ref (wA B 225), .ref (wA B 226), .int 0, .ref (wA B 227), .int 0, .int 0, .ref (wA B 228), .ref (wA B 229), .ref (wA B 230), .int 0, .ref (wA B 231), .long 0, .ref (wA B 232), .ref (wA B 233), .ref (wA B 234), .ref (wA B 235), .null, .null, .int 0, .int 0, .null, .long 0]) s H _ := w
  refine bPutF C0 w (by decide) (by decide) EX_at fk_X12_45 ff_X12_16 (by intro C T N h; have h2 : some (RX12, TX12, 22) = some (C, T, N) := h; cases h2; rfl) hin rfl rfl (Nat.le_of_ble_eq_true rfl) dX12_init_99 (fun H locs w => ?_)
  rw [EX_put] at w
  have w : Bx B 0 237 (EX B σ 224 10 [.ref (wA B 225), .ref (wA B 226), .int 0, .ref (wA B 227), .int 0, .int 0, .ref (wA B 228), .ref (wA B 229), .ref (wA B 230), .int 0, .ref (wA B 231), .long 0, .ref (wA B 232), .ref (wA B 233), .ref (wA B 234), .ref (wA B 235), .ref (wA B 236), .null, .int 0, .int 0, .null, .long 0]) s H _ := w
  refine lv_aload_n hx hb dX12_init_102 rfl (lv_at hl 0 rfl) ?_
  refine lv_bipush (v := 64) hx hb dX12_init_103 (by decide) ?_
  refine bArr (at_ := .long) (N := 64) (a0 := (64, .inr (.inl (fun _ => 0)))) C0 w ka_long 1 rfl rfl rfl rfl (by decide) rfl (by decide) (Nat.le_of_ble_eq_true rfl) (Nat.le_of_ble_eq_true rfl) dX12_init_105 (fun H w => ?_)
  rw [EX_arr (by decide) ((ef_237 B).trans (fin_up (hz 237 (by decide))))] at w
  have w : Bx B 0 238 (EX B σ 224 10 [.ref (wA B 225), .ref (wA B 226), .int 0, .ref (wA B 227), .int 0, .int 0, .ref (wA B 228), .ref (wA B 229), .ref (wA B 230), .int 0, .ref (wA B 231), .long 0, .ref (wA B 232), .ref (wA B 233), .ref (wA B 234), .ref (wA B 235), .ref (wA B 236), .null, .int 0, .int 0, .null, .long 0]) s H _ := w
  refine bPutF C0 w (by decide) (by decide) EX_at fk_X12_48 ff_X12_17 (by intro C T N h; have h2 : some (RX12, TX12, 22) = some (C, T, N) := h; cases h2; rfl) hin rfl rfl (Nat.le_of_ble_eq_true rfl) dX12_init_107 (fun H locs w => ?_)
  rw [EX_put] at w
  have w : Bx B 0 238 (EX B σ 224 10 [.ref (wA B 225), .ref (wA B 226), .int 0, .ref (wA B 227), .int 0, .int 0, .ref (wA B 228), .ref (wA B 229), .ref (wA B 230), .int 0, .ref (wA B 231), .long 0, .ref (wA B 232), .ref (wA B 233), .ref (wA B 234), .ref (wA B 235), .ref (wA B 236), .ref (wA B 237), .int 0, .int 0, .null, .long 0]) s H _ := w
  refine lv_aload_n hx hb dX12_init_110 rfl (lv_at hl 0 rfl) ?_
  refine lv_bipush (v := 90) hx hb dX12_init_111 (by decide) ?_
  refine bArr (at_ := .int) (N := 90) (a0 := (90, .inl (fun _ => 0))) C0 w ka_int 0 rfl rfl rfl rfl (by decide) rfl (by decide) (Nat.le_of_ble_eq_true rfl) (Nat.le_of_ble_eq_true rfl) dX12_init_113 (fun H w => ?_)
  rw [EX_arr (by decide) ((ef_238 B).trans (fin_up (hz 238 (by decide))))] at w
  have w : Bx B 0 239 (EX B σ 224 10 [.ref (wA B 225), .ref (wA B 226), .int 0, .ref (wA B 227), .int 0, .int 0, .ref (wA B 228), .ref (wA B 229), .ref (wA B 230), .int 0, .ref (wA B 231), .long 0, .ref (wA B 232), .ref (wA B 233), .ref (wA B 234), .ref (wA B 235), .ref (wA B 236), .ref (wA B 237), .int 0, .int 0, .null, .long 0]) s H _ := w
  refine bPutF C0 w (by decide) (by decide) EX_at fk_X12_51 ff_X12_20 (by intro C T N h; have h2 : some (RX12, TX12, 22) = some (C, T, N) := h; cases h2; rfl) hin rfl rfl (Nat.le_of_ble_eq_true rfl) dX12_init_115 (fun H locs w => ?_)
  rw [EX_put] at w
  have w : Bx B 0 239 (EX B σ 224 10 [.ref (wA B 225), .ref (wA B 226), .int 0, .ref (wA B 227), .int 0, .int 0, .ref (wA B 228), .ref (wA B 229), .ref (wA B 230), .int 0, .ref (wA B 231), .long 0, .ref (wA B 232), .ref (wA B 233), .ref (wA B 234), .ref (wA B 235), .ref (wA B 236), .ref (wA B 237), .int 0, .int 0, .ref (wA B 238), .long 0]) s H _ := w
  rw [EX_fin ((ef_224 B).trans (fin_up (hz 224 (by decide))))] at w
  have hA := w.2.2.1
  have w := bx_t w (by rw [hsz, hA 225, hA 239]; omega) hG
  refine lv_aload_n hx hb dX12_init_118 rfl (lv_at hl 0 rfl) ?_
  refine gR_t C0 w 225 fk_X12_7 (by decide +kernel) dX12_init_119 ?_ (by decide)
  refine lv_iconst (v := 2) hx hb dX12_init_122 (by decide) ?_
  refine lv_lconst (v := 1) hx hb dX12_init_123 (by decide) ?_
  refine sL_t C0 w (n := 200) (by decide +kernel) (inbE (by decide)) dX12_init_124 (fun H locs w => ?_) (by decide)
  refine lv_aload_n hx hb dX12_init_125 rfl (lv_at hl 0 rfl) ?_
  refine gR_t C0 w 225 fk_X12_7 (by decide +kernel) dX12_init_126 ?_ (by decide)
  refine lv_iconst (v := 3) hx hb dX12_init_129 (by decide) ?_
  refine kLg C0 100000 kc_X12_54 dX12_init_130 ?_
  refine sL_t C0 w (n := 200) (by decide +kernel) (inbE (by decide)) dX12_init_133 (fun H locs w => ?_) (by decide)
  refine lv_aload_n hx hb dX12_init_134 rfl (lv_at hl 0 rfl) ?_
  refine gR_t C0 w 225 fk_X12_7 (by decide +kernel) dX12_init_135 ?_ (by decide)
  refine lv_iconst (v := 4) hx hb dX12_init_138 (by decide) ?_
  refine kLg C0 1000 kc_X12_56 dX12_init_139 ?_
  refine sL_t C0 w (n := 200) (by decide +kernel) (inbE (by decide)) dX12_init_142 (fun H locs w => ?_) (by decide)
  refine lv_aload_n hx hb dX12_init_143 rfl (lv_at hl 0 rfl) ?_
  refine lv_iconst (v := 4) hx hb dX12_init_144 (by decide) ?_
  refine lv_iconst (v := 4) hx hb dX12_init_145 (by decide) ?_
  refine cV_t (As := [.int 4, .int 4]) (rest := []) (k := 224) (ci := 10) (T := TX12) (N := 22) C0 w (m_X12_beginAnew_t l B _ (sm0 σ) 4 4 q hf) ky_X12_beginAnew kv_X12_beginAnew lk_X12_58 rfl (by decide +kernel) ⟨Nat.le_of_ble_eq_true rfl, Nat.le_of_ble_eq_true rfl⟩ ⟨Nat.le_of_ble_eq_true rfl, Nat.le_of_ble_eq_true rfl⟩ rfl (by rfl) (Nat.le_of_ble_eq_true rfl) hl.1 dX12_init_146 (fun H locs w => ?_) (by decide)
  exact bRet_t C0 hr w hA hsz rfl dX12_init_149
