/-! ===== the constructor of History ===== -/
theorem SUB_E {B : Wb} {σ : Mem} {E : Nat → va_E} {k : Nat} {e : va_E} (hE : ∀ j, k ≤ j → E j = fin B σ j) : (fun j => if j < k then updE E k e j else fin B σ j) = E := by
  funext j
  show (if j < k then updE E k e j else fin B σ j) = E j
  by_cases h : j < k
  · rw [if_pos h, updE_ne (by omega)]
  · rw [if_neg h, hE j (by omega)]
theorem Bx.recell {B : Wb} {b n k : Nat} {E : Nat → va_E} {s : State} {H : Heap} {locs : List Loc} {cA : ClassId} {a0 a1 : vp_A} (w : Bx B b n E s H locs) (h1 : b ≤ k) (h2 : k < n) (he : E k = .inl (cA, a0)) (hc : vp_cell cA a0 = vp_cell cA a1) : Bx B b n (updE E k (.inl (cA, a1))) s H locs := by
  have g := w.at h1 h2
  rw [he] at g
  obtain ⟨q1, q2⟩ := w
  refine ⟨fun i q hq => ?_, q2⟩
  obtain ⟨hi, rfl⟩ := Pl_inv hq
  by_cases hk : b + i = k
  · rw [hk, updE_eq]
    show H[wA B k]? = some (vp_cell cA a1)
    rw [← hc]
    exact g
  · rw [updE_ne hk]
    exact q1 _ _ (Pl_get (B := B) (E := E) (b := b) (k := b + i) (by omega) hi)
def sav (B : Wb) (i : Nat) : Nat → Option Nat := fun r => if r < i then some (wA B (191 + 7 * r)) else none
theorem sav_up {B : Wb} {i : Nat} : va_up (sav B i) i (some (wA B (191 + 7 * i))) = sav B (i + 1) := by
  funext r
  unfold va_up sav
  by_cases h : r = i
  · subst h; simp
  · rw [if_neg h]
    by_cases h2 : r < i
    · rw [if_pos h2, if_pos (by omega)]
    · rw [if_neg h2, if_neg (by omega)]
theorem sav_cell (B : Wb) : vp_cell (wC B 5) (4, .inr (.inr (.inr (.inr (sav B 4))))) = vp_cell (wC B 5) (4, .inr (.inr (.inr (.inr (fun j => some (wA B (191 + 7 * j))))))) := by
  rw [vp_cell_q, vp_cell_q]
  exact arrV_congr fun j hj => by unfold sav; rw [if_pos hj]
theorem ef_190 (B : Wb) : (.inl (wC B 5, 4, .inr (.inr (.inr (.inr (fun j => some (wA B (191 + 7 * j))))))) : va_E) = fin B σ0 190 := by
  unfold fin
  rw [show shp 190 = (6, 4, [191, 7]) from by decide +kernel]
  rfl
section ST
variable {p : Program} {l : Launch} {e : Env} {R : Room} {s : State} {m : MethodId} {args : Array Value} {below : List Frame} {meth : Method} {c : Code} {H : Heap} {locs : List Loc} {cells slots : Nat} {Q : State → Prop}
variable {cc : ByteArray} {nL pc : Nat} {ow : String} {ls : Array Slot} {rest st0 : List Value} {B : Wb} {b n : Nat} {E E' : Nat → va_E}
theorem bSt (C0 : Cx p s m args meth c cc nL ow) (w : Bx B b n E s H locs) {k q N : Nat} {f : Nat → Option Nat} {vs : List Value} {i : Int32} (h1 : b ≤ k) (h2 : k < n) (hk : E k = .inl (wC B 5, N, .inr (.inr (.inr (.inr f))))) (q1 : b ≤ q) (q2 : q < n) (hq : E q = .inr (6, vs)) (hin : vp_in i N) (d : decode cc pc = .ok (.aastore, 1))
    (kk : ∀ H locs, Bx B b n (updE E k (.inl (wC B 5, N, .inr (.inr (.inr (.inr (va_up f i.toNatClampNeg (some (wA B q))))))))) s H locs → W p l e R s m args below meth c H locs cells slots Q (F0 m (pc + 1) ls rest)) : W p l e R s m args below meth c H locs cells slots Q (F0 m pc ls (.ref (wA B q) :: .int i :: .ref (wA B k) :: rest)) := by
  have hlt : i.toNatClampNeg < N := Nat.not_le.mp fun q => hin (Or.inr q)
  have h0 : ¬ i < 0 := fun q => hin (Or.inl q)
  have gk := w.at h1 h2
  rw [hk] at gk
  have gq := w.at q1 q2
  rw [hq] at gq
  obtain ⟨r', hr', cellV, g1, g2, g3, -⟩ := gq
  have hcls := (w.2.1.1 6 _ rfl).2
  obtain ⟨kA, comp, k1, k2, k3, -⟩ := (w.2.1.2 5 _ rfl).2
  obtain ⟨kE, hkE, -⟩ := Vm.findClass_spec k3
  obtain ⟨kC, hkC, -⟩ := hcls.2
  have hcomp : comp = B.1.1 6 := Option.some.inj (k3.symm.trans hcls.1)
  refine W.aast C0.1.1 C0.1.2.1 gk (fun q h => by cases h) (fun h => by cases h) k1 k2 rfl hkE ⟨h0, by show _ < (arrV _ _ _).slots.size; rw [arrV_size]; exact hlt⟩ g1 (fun q h => by rw [g3] at h; cases h) (by rw [g2]; exact hkC) (by rw [g2, hcomp]; exact va_asg _ _) rfl rfl d fun H1 e z oq => ?_
  refine kk H1 _ (w.put h1 h2 z oq ?_)
  show H1[wA B k]? = some (vp_cell _ _)
  rw [e]
  rw [vp_cell_q, vp_cell_q, arrV_store]
  congr 2
  funext q
  by_cases hq : q = i.toNatClampNeg
  · subst hq
    simp [updV, va_up, va_rf]
  · simp [updV, va_up, hq]
end ST
theorem lk_X3_3 : Cond.methodLink RX3 3 objectInit ∈ GL := gl_in 283 (by decide +kernel) (by decide +kernel)
theorem kl_X3_9 : Cond.classLink RX3 9 RX7 ∈ GL := gl_in 284 (by decide +kernel) (by decide +kernel)
theorem ff_X3_0 : FptF 2 0 (.array (.object "SlownessImager$State")) := ⟨RX3, TX3, 3, tyX3, rfl, tyX3_ok, nmX3, rfl, by decide +kernel⟩
theorem ky_X7_init : Ky yX7_init cX7_init 1 none 0 := ⟨gl_in 38 (by decide +kernel) (by decide +kernel), gl_in 2 (by decide +kernel) (by decide +kernel), by decide +kernel, by decide +kernel, by decide +kernel⟩
theorem in_X7i : Cond.instanceMethod yX7_init ∈ GL := gl_in 37 (by decide +kernel) (by decide +kernel)
theorem ini_X7 : Cond.initialized RX7 ∈ GL := gl_in 2 (by decide +kernel) (by decide +kernel)
theorem ins_X7 : Cond.instantiable RX7 14 ∈ GL := gl_in 35 (by decide +kernel) (by decide +kernel)
theorem lk_X3_17 : Cond.methodLink RX3 17 yX7_init ∈ GL := gl_in 286 (by decide +kernel) (by decide +kernel)
theorem ef_189 (B : Wb) : (.inr (2, [.ref (wA B 190), .int 0, .int 0]) : va_E) = fin B σ0 189 := by
  unfold fin
  rw [show shp 189 = (0, 2, [192, 0, 0]) from by decide +kernel]
  rfl
theorem eo_191 (B : Wb) : fin B σ0 191 = .inr (6, fl B (σ0.1 191) (σ0.2 191) [0, 0, 0, 0, 0, 0, 1, 0, 194, 195, 196, 197, 198, 199]) := by
  unfold fin
  rw [show shp 191 = (0, 6, [0, 0, 0, 0, 0, 0, 1, 0, 194, 195, 196, 197, 198, 199]) from by decide +kernel]
  rfl
theorem mX7_191 (l : Launch) (B : Wb) (E : Nat → va_E) : MetI l yX7_init cX7_init 1 rm_i_X7_191 B 191 (191 + 1) (updE E 191 (.inr (6, [.int 0, .int 0, .int 0, .int 0, .int 0, .int 0, .long 0, .int 0, .null, .null, .null, .null, .null, .null]))) 198 (fin B σ0) [.ref (wA B 191)] 6 192 := by
  have h := i_X7_191 l B
  unfold MetI Bd at h ⊢
  rw [Pl_congr (E' := updE E 191 (.inr (6, [.int 0, .int 0, .int 0, .int 0, .int 0, .int 0, .long 0, .int 0, .null, .null, .null, .null, .null, .null]))) (fun k h1 h2 => by rw [show k = 191 by omega, updE_eq]; exact EX_at)] at h
  exact h
theorem eo_198 (B : Wb) : fin B σ0 198 = .inr (6, fl B (σ0.1 198) (σ0.2 198) [0, 0, 0, 0, 0, 0, 1, 0, 201, 202, 203, 204, 205, 206]) := by
  unfold fin
  rw [show shp 198 = (0, 6, [0, 0, 0, 0, 0, 0, 1, 0, 201, 202, 203, 204, 205, 206]) from by decide +kernel]
  rfl
theorem mX7_198 (l : Launch) (B : Wb) (E : Nat → va_E) : MetI l yX7_init cX7_init 1 rm_i_X7_198 B 198 (198 + 1) (updE E 198 (.inr (6, [.int 0, .int 0, .int 0, .int 0, .int 0, .int 0, .long 0, .int 0, .null, .null, .null, .null, .null, .null]))) 205 (fin B σ0) [.ref (wA B 198)] 6 192 := by
  have h := i_X7_198 l B
  unfold MetI Bd at h ⊢
  rw [Pl_congr (E' := updE E 198 (.inr (6, [.int 0, .int 0, .int 0, .int 0, .int 0, .int 0, .long 0, .int 0, .null, .null, .null, .null, .null, .null]))) (fun k h1 h2 => by rw [show k = 198 by omega, updE_eq]; exact EX_at)] at h
  exact h
theorem eo_205 (B : Wb) : fin B σ0 205 = .inr (6, fl B (σ0.1 205) (σ0.2 205) [0, 0, 0, 0, 0, 0, 1, 0, 208, 209, 210, 211, 212, 213]) := by
  unfold fin
  rw [show shp 205 = (0, 6, [0, 0, 0, 0, 0, 0, 1, 0, 208, 209, 210, 211, 212, 213]) from by decide +kernel]
  rfl
theorem mX7_205 (l : Launch) (B : Wb) (E : Nat → va_E) : MetI l yX7_init cX7_init 1 rm_i_X7_205 B 205 (205 + 1) (updE E 205 (.inr (6, [.int 0, .int 0, .int 0, .int 0, .int 0, .int 0, .long 0, .int 0, .null, .null, .null, .null, .null, .null]))) 212 (fin B σ0) [.ref (wA B 205)] 6 192 := by
  have h := i_X7_205 l B
  unfold MetI Bd at h ⊢
  rw [Pl_congr (E' := updE E 205 (.inr (6, [.int 0, .int 0, .int 0, .int 0, .int 0, .int 0, .long 0, .int 0, .null, .null, .null, .null, .null, .null]))) (fun k h1 h2 => by rw [show k = 205 by omega, updE_eq]; exact EX_at)] at h
  exact h
theorem eo_212 (B : Wb) : fin B σ0 212 = .inr (6, fl B (σ0.1 212) (σ0.2 212) [0, 0, 0, 0, 0, 0, 1, 0, 215, 216, 217, 218, 219, 220]) := by
  unfold fin
  rw [show shp 212 = (0, 6, [0, 0, 0, 0, 0, 0, 1, 0, 215, 216, 217, 218, 219, 220]) from by decide +kernel]
  rfl
theorem mX7_212 (l : Launch) (B : Wb) (E : Nat → va_E) : MetI l yX7_init cX7_init 1 rm_i_X7_212 B 212 (212 + 1) (updE E 212 (.inr (6, [.int 0, .int 0, .int 0, .int 0, .int 0, .int 0, .long 0, .int 0, .null, .null, .null, .null, .null, .null]))) 219 (fin B σ0) [.ref (wA B 212)] 6 192 := by
  have h := i_X7_212 l B
  unfold MetI Bd at h ⊢
  rw [Pl_congr (E' := updE E 212 (.inr (6, [.int 0, .int 0, .int 0, .int 0, .int 0, .int 0, .long 0, .int 0, .null, .null, .null, .null, .null, .null]))) (fun k h1 h2 => by rw [show k = 212 by omega, updE_eq]; exact EX_at)] at h
  exact h
abbrev rm_i_X3_189 : Room := { frames := 2, cells := 29, slots := 828, locals := 53 }
set_option maxHeartbeats 400000 in
set_option maxRecDepth 100000 in
theorem i_X3_189 (l : Launch) (B : Wb) : MetI l yX3_init cX3_init 2 rm_i_X3_189 B 189 190 (EX B σ0 189 2 [.null, .int 0, .int 0]) 219 (fin B σ0) [.ref (wA B 189)] 29 828 := by
  refine metI_in (by decide +kernel) rfl (Nat.le_of_ble_eq_true rfl) ?_
  intro p e s m below meth c C0 hr hin w ls hl
  have hx := C0.1.1
  have hb := C0.1.2.1
  refine lv_aload_n hx hb dX3_init_0 rfl (lv_at hl 0 rfl) ?_
  refine bObj C0 lk_X3_3 oi_i oi_c hl.1 ⟨Nat.le_of_ble_eq_true rfl, Nat.le_of_ble_eq_true rfl⟩ dX3_init_1 ?_
  refine lv_aload_n hx hb dX3_init_4 rfl (lv_at hl 0 rfl) ?_
  refine lv_iconst (v := 4) hx hb dX3_init_5 (by decide) ?_
  refine bRef (N := 4) (t0 := 5) C0 w kl_X3_9 w.2.2.2.2.1.2.1 rfl (by decide) rfl (by decide) (Nat.le_of_ble_eq_true rfl) (Nat.le_of_ble_eq_true rfl) dX3_init_6 (fun H w => ?_)
  have w : Bx B 189 191 (updE (EX B σ0 189 2 [.null, .int 0, .int 0]) 190 (.inl (wC B 5, 4, .inr (.inr (.inr (.inr (fun _ => none))))))) s H _ := w
  refine bPutF C0 w (by decide) (by decide) ((updE_ne (by decide)).trans EX_at) fk_X3_11 ff_X3_0 (by intro C T N h; have h2 : some (RX3, TX3, 3) = some (C, T, N) := h; cases h2; rfl) hin rfl rfl (Nat.le_of_ble_eq_true rfl) dX3_init_9 (fun H locs w => ?_)
  have w := w.congr (E' := updE (EX B σ0 189 2 [.ref (wA B 190), .int 0, .int 0]) 190 (.inl (wC B 5, 4, .inr (.inr (.inr (.inr (sav B 0))))))) (by intro q h1 h2; rcases (show q = 189 ∨ q = 190 by omega) with rfl | rfl <;> rfl)
  refine lv_iconst (v := 0) hx hb dX3_init_12 (by decide) ?_
  refine lv_istore_n (lv' := [(1, .int 0), (0, .ref (wA B 189))]) hx hb dX3_init_13 rfl hl (by decide) rfl (fun ls hl => ?_)
  refine lv_iload_n hx hb dX3_init_14 rfl (lv_at hl 0 rfl) ?_
  refine lv_iconst (v := 4) hx hb dX3_init_15 (by decide) ?_
  refine lv_icmp_ge (tgt := 38) hx hb dX3_init_16 (by decide) (fun c9 => absurd c9 (by decide)) (fun _ => ?_)
  refine lv_aload_n hx hb dX3_init_19 rfl (lv_at hl 1 rfl) ?_
  refine bGet (v := .ref (wA B 190)) C0 w (by decide) (by decide) ((updE_ne (by decide)).trans EX_at) fk_X3_11 rfl dX3_init_20 ?_
  refine lv_iload_n hx hb dX3_init_23 rfl (lv_at hl 0 rfl) ?_
  refine bNew (ci := 6) (fs := [.int 0, .int 0, .int 0, .int 0, .int 0, .int 0, .long 0, .int 0, .null, .null, .null, .null, .null, .null]) C0 w rfl in_X7 tyX7 tyX7_ok kl_X3_9 ins_X7 ini_X7 (by intro j hj; rcases (show j = 0 ∨ j = 1 ∨ j = 2 ∨ j = 3 ∨ j = 4 ∨ j = 5 ∨ j = 6 ∨ j = 7 ∨ j = 8 ∨ j = 9 ∨ j = 10 ∨ j = 11 ∨ j = 12 ∨ j = 13 by omega) with rfl | rfl | rfl | rfl | rfl | rfl | rfl | rfl | rfl | rfl | rfl | rfl | rfl | rfl <;> rfl) (Nat.le_of_ble_eq_true rfl) (Nat.le_of_ble_eq_true rfl) dX3_init_24 (fun H w => ?_)
  refine lv_dup hx hb dX3_init_27 rfl ?_
  have w : Bx B 189 (191 + 1) (updE (updE (EX B σ0 189 2 [.ref (wA B 190), .int 0, .int 0]) 190 (.inl (wC B 5, 4, .inr (.inr (.inr (.inr (sav B 0))))))) 191 (.inr (6, [.int 0, .int 0, .int 0, .int 0, .int 0, .int 0, .long 0, .int 0, .null, .null, .null, .null, .null, .null]))) s H _ := w
  refine bCall (As := []) (rest := [.ref (wA B 191), .int 0, .ref (wA B 190)]) (E2 := fin B σ0) C0 w (by decide) (by decide) (mX7_191 l B (updE (EX B σ0 189 2 [.ref (wA B 190), .int 0, .int 0]) 190 (.inl (wC B 5, 4, .inr (.inr (.inr (.inr (sav B 0)))))))) ky_X7_init ⟨rfl, rfl⟩ rfl in_X7i lk_X3_17 ⟨Nat.le_of_ble_eq_true rfl, Nat.le_of_ble_eq_true rfl⟩ ⟨Nat.le_of_ble_eq_true rfl, Nat.le_of_ble_eq_true rfl⟩ rfl (by rfl) (Nat.le_of_ble_eq_true rfl) hl.1 dX3_init_28 (fun H locs w => ?_)
  rw [SUB_E (by intro j hj; rw [updE_ne (by omega)]; exact if_neg (by omega))] at w
  have w : Bx B 189 198 (updE (EX B σ0 189 2 [.ref (wA B 190), .int 0, .int 0]) 190 (.inl (wC B 5, 4, .inr (.inr (.inr (.inr (sav B 0))))))) s H locs := w
  refine bSt (N := 4) (f := sav B 0) (vs := fl B (σ0.1 191) (σ0.2 191) [0, 0, 0, 0, 0, 0, 1, 0, 194, 195, 196, 197, 198, 199]) C0 w (by decide) (by decide) updE_eq (by decide) (by decide) (((updE_ne (by decide)).trans (if_neg (by decide))).trans (eo_191 B)) (inbE (by decide)) dX3_init_31 (fun H locs w => ?_)
  have w := w.congr (E' := updE (EX B σ0 189 2 [.ref (wA B 190), .int 0, .int 0]) 190 (.inl (wC B 5, 4, .inr (.inr (.inr (.inr (sav B 1))))))) (by intro q h1 h2; by_cases h : q = 190; (subst h; rw [updE_eq, updE_eq]; exact congrArg (fun z => (.inl (wC B 5, 4, .inr (.inr (.inr (.inr z)))) : va_E)) (sav_up (B := B) (i := 0))); (rw [updE_ne h, updE_ne h, updE_ne h]))
  refine lv_iinc (k := 0) (v := 1) (lv' := [(1, .int 1), (0, .ref (wA B 189))]) hx hb dX3_init_32 hl rfl (by decide) (by decide) rfl (fun ls hl => ?_)
  refine lv_goto (tgt := 14) hx hb dX3_init_35 (by decide) ?_
  refine lv_iload_n hx hb dX3_init_14 rfl (lv_at hl 0 rfl) ?_
  refine lv_iconst (v := 4) hx hb dX3_init_15 (by decide) ?_
  refine lv_icmp_ge (tgt := 38) hx hb dX3_init_16 (by decide) (fun c9 => absurd c9 (by decide)) (fun _ => ?_)
  refine lv_aload_n hx hb dX3_init_19 rfl (lv_at hl 1 rfl) ?_
  refine bGet (v := .ref (wA B 190)) C0 w (by decide) (by decide) ((updE_ne (by decide)).trans EX_at) fk_X3_11 rfl dX3_init_20 ?_
  refine lv_iload_n hx hb dX3_init_23 rfl (lv_at hl 0 rfl) ?_
  refine bNew (ci := 6) (fs := [.int 0, .int 0, .int 0, .int 0, .int 0, .int 0, .long 0, .int 0, .null, .null, .null, .null, .null, .null]) C0 w rfl in_X7 tyX7 tyX7_ok kl_X3_9 ins_X7 ini_X7 (by intro j hj; rcases (show j = 0 ∨ j = 1 ∨ j = 2 ∨ j = 3 ∨ j = 4 ∨ j = 5 ∨ j = 6 ∨ j = 7 ∨ j = 8 ∨ j = 9 ∨ j = 10 ∨ j = 11 ∨ j = 12 ∨ j = 13 by omega) with rfl | rfl | rfl | rfl | rfl | rfl | rfl | rfl | rfl | rfl | rfl | rfl | rfl | rfl <;> rfl) (Nat.le_of_ble_eq_true rfl) (Nat.le_of_ble_eq_true rfl) dX3_init_24 (fun H w => ?_)
  refine lv_dup hx hb dX3_init_27 rfl ?_
  have w : Bx B 189 (198 + 1) (updE (updE (EX B σ0 189 2 [.ref (wA B 190), .int 0, .int 0]) 190 (.inl (wC B 5, 4, .inr (.inr (.inr (.inr (sav B 1))))))) 198 (.inr (6, [.int 0, .int 0, .int 0, .int 0, .int 0, .int 0, .long 0, .int 0, .null, .null, .null, .null, .null, .null]))) s H _ := w
  refine bCall (As := []) (rest := [.ref (wA B 198), .int 1, .ref (wA B 190)]) (E2 := fin B σ0) C0 w (by decide) (by decide) (mX7_198 l B (updE (EX B σ0 189 2 [.ref (wA B 190), .int 0, .int 0]) 190 (.inl (wC B 5, 4, .inr (.inr (.inr (.inr (sav B 1)))))))) ky_X7_init ⟨rfl, rfl⟩ rfl in_X7i lk_X3_17 ⟨Nat.le_of_ble_eq_true rfl, Nat.le_of_ble_eq_true rfl⟩ ⟨Nat.le_of_ble_eq_true rfl, Nat.le_of_ble_eq_true rfl⟩ rfl (by rfl) (Nat.le_of_ble_eq_true rfl) hl.1 dX3_init_28 (fun H locs w => ?_)
  rw [SUB_E (by intro j hj; rw [updE_ne (by omega)]; exact if_neg (by omega))] at w
  have w : Bx B 189 205 (updE (EX B σ0 189 2 [.ref (wA B 190), .int 0, .int 0]) 190 (.inl (wC B 5, 4, .inr (.inr (.inr (.inr (sav B 1))))))) s H locs := w
  refine bSt (N := 4) (f := sav B 1) (vs := fl B (σ0.1 198) (σ0.2 198) [0, 0, 0, 0, 0, 0, 1, 0, 201, 202, 203, 204, 205, 206]) C0 w (by decide) (by decide) updE_eq (by decide) (by decide) (((updE_ne (by decide)).trans (if_neg (by decide))).trans (eo_198 B)) (inbE (by decide)) dX3_init_31 (fun H locs w => ?_)
  have w := w.congr (E' := updE (EX B σ0 189 2 [.ref (wA B 190), .int 0, .int 0]) 190 (.inl (wC B 5, 4, .inr (.inr (.inr (.inr (sav B 2))))))) (by intro q h1 h2; by_cases h : q = 190; (subst h; rw [updE_eq, updE_eq]; exact congrArg (fun z => (.inl (wC B 5, 4, .inr (.inr (.inr (.inr z)))) : va_E)) (sav_up (B := B) (i := 1))); (rw [updE_ne h, updE_ne h, updE_ne h]))
  refine lv_iinc (k := 0) (v := 2) (lv' := [(1, .int 2), (0, .ref (wA B 189))]) hx hb dX3_init_32 hl rfl (by decide) (by decide) rfl (fun ls hl => ?_)
  refine lv_goto (tgt := 14) hx hb dX3_init_35 (by decide) ?_
  refine lv_iload_n hx hb dX3_init_14 rfl (lv_at hl 0 rfl) ?_
  refine lv_iconst (v := 4) hx hb dX3_init_15 (by decide) ?_
  refine lv_icmp_ge (tgt := 38) hx hb dX3_init_16 (by decide) (fun c9 => absurd c9 (by decide)) (fun _ => ?_)
  refine lv_aload_n hx hb dX3_init_19 rfl (lv_at hl 1 rfl) ?_
  refine bGet (v := .ref (wA B 190)) C0 w (by decide) (by decide) ((updE_ne (by decide)).trans EX_at) fk_X3_11 rfl dX3_init_20 ?_
  refine lv_iload_n hx hb dX3_init_23 rfl (lv_at hl 0 rfl) ?_
  refine bNew (ci := 6) (fs := [.int 0, .int 0, .int 0, .int 0, .int 0, .int 0, .long 0, .int 0, .null, .null, .null, .null, .null, .null]) C0 w rfl in_X7 tyX7 tyX7_ok kl_X3_9 ins_X7 ini_X7 (by intro j hj; rcases (show j = 0 ∨ j = 1 ∨ j = 2 ∨ j = 3 ∨ j = 4 ∨ j = 5 ∨ j = 6 ∨ j = 7 ∨ j = 8 ∨ j = 9 ∨ j = 10 ∨ j = 11 ∨ j = 12 ∨ j = 13 by omega) with rfl | rfl | rfl | rfl | rfl | rfl | rfl | rfl | rfl | rfl | rfl | rfl | rfl | rfl <;> rfl) (Nat.le_of_ble_eq_true rfl) (Nat.le_of_ble_eq_true rfl) dX3_init_24 (fun H w => ?_)
  refine lv_dup hx hb dX3_init_27 rfl ?_
  have w : Bx B 189 (205 + 1) (updE (updE (EX B σ0 189 2 [.ref (wA B 190), .int 0, .int 0]) 190 (.inl (wC B 5, 4, .inr (.inr (.inr (.inr (sav B 2))))))) 205 (.inr (6, [.int 0, .int 0, .int 0, .int 0, .int 0, .int 0, .long 0, .int 0, .null, .null, .null, .null, .null, .null]))) s H _ := w
  refine bCall (As := []) (rest := [.ref (wA B 205), .int 2, .ref (wA B 190)]) (E2 := fin B σ0) C0 w (by decide) (by decide) (mX7_205 l B (updE (EX B σ0 189 2 [.ref (wA B 190), .int 0, .int 0]) 190 (.inl (wC B 5, 4, .inr (.inr (.inr (.inr (sav B 2)))))))) ky_X7_init ⟨rfl, rfl⟩ rfl in_X7i lk_X3_17 ⟨Nat.le_of_ble_eq_true rfl, Nat.le_of_ble_eq_true rfl⟩ ⟨Nat.le_of_ble_eq_true rfl, Nat.le_of_ble_eq_true rfl⟩ rfl (by rfl) (Nat.le_of_ble_eq_true rfl) hl.1 dX3_init_28 (fun H locs w => ?_)
  rw [SUB_E (by intro j hj; rw [updE_ne (by omega)]; exact if_neg (by omega))] at w
  have w : Bx B 189 212 (updE (EX B σ0 189 2 [.ref (wA B 190), .int 0, .int 0]) 190 (.inl (wC B 5, 4, .inr (.inr (.inr (.inr (sav B 2))))))) s H locs := w
  refine bSt (N := 4) (f := sav B 2) (vs := fl B (σ0.1 205) (σ0.2 205) [0, 0, 0, 0, 0, 0, 1, 0, 208, 209, 210, 211, 212, 213]) C0 w (by decide) (by decide) updE_eq (by decide) (by decide) (((updE_ne (by decide)).trans (if_neg (by decide))).trans (eo_205 B)) (inbE (by decide)) dX3_init_31 (fun H locs w => ?_)
  have w := w.congr (E' := updE (EX B σ0 189 2 [.ref (wA B 190), .int 0, .int 0]) 190 (.inl (wC B 5, 4, .inr (.inr (.inr (.inr (sav B 3))))))) (by intro q h1 h2; by_cases h : q = 190; (subst h; rw [updE_eq, updE_eq]; exact congrArg (fun z => (.inl (wC B 5, 4, .inr (.inr (.inr (.inr z)))) : va_E)) (sav_up (B := B) (i := 2))); (rw [updE_ne h, updE_ne h, updE_ne h]))
  refine lv_iinc (k := 0) (v := 3) (lv' := [(1, .int 3), (0, .ref (wA B 189))]) hx hb dX3_init_32 hl rfl (by decide) (by decide) rfl (fun ls hl => ?_)
  refine lv_goto (tgt := 14) hx hb dX3_init_35 (by decide) ?_
  refine lv_iload_n hx hb dX3_init_14 rfl (lv_at hl 0 rfl) ?_
  refine lv_iconst (v := 4) hx hb dX3_init_15 (by decide) ?_
  refine lv_icmp_ge (tgt := 38) hx hb dX3_init_16 (by decide) (fun c9 => absurd c9 (by decide)) (fun _ => ?_)
  refine lv_aload_n hx hb dX3_init_19 rfl (lv_at hl 1 rfl) ?_
  refine bGet (v := .ref (wA B 190)) C0 w (by decide) (by decide) ((updE_ne (by decide)).trans EX_at) fk_X3_11 rfl dX3_init_20 ?_
  refine lv_iload_n hx hb dX3_init_23 rfl (lv_at hl 0 rfl) ?_
  refine bNew (ci := 6) (fs := [.int 0, .int 0, .int 0, .int 0, .int 0, .int 0, .long 0, .int 0, .null, .null, .null, .null, .null, .null]) C0 w rfl in_X7 tyX7 tyX7_ok kl_X3_9 ins_X7 ini_X7 (by intro j hj; rcases (show j = 0 ∨ j = 1 ∨ j = 2 ∨ j = 3 ∨ j = 4 ∨ j = 5 ∨ j = 6 ∨ j = 7 ∨ j = 8 ∨ j = 9 ∨ j = 10 ∨ j = 11 ∨ j = 12 ∨ j = 13 by omega) with rfl | rfl | rfl | rfl | rfl | rfl | rfl | rfl | rfl | rfl | rfl | rfl | rfl | rfl <;> rfl) (Nat.le_of_ble_eq_true rfl) (Nat.le_of_ble_eq_true rfl) dX3_init_24 (fun H w => ?_)
  refine lv_dup hx hb dX3_init_27 rfl ?_
  have w : Bx B 189 (212 + 1) (updE (updE (EX B σ0 189 2 [.ref (wA B 190), .int 0, .int 0]) 190 (.inl (wC B 5, 4, .inr (.inr (.inr (.inr (sav B 3))))))) 212 (.inr (6, [.int 0, .int 0, .int 0, .int 0, .int 0, .int 0, .long 0, .int 0, .null, .null, .null, .null, .null, .null]))) s H _ := w
  refine bCall (As := []) (rest := [.ref (wA B 212), .int 3, .ref (wA B 190)]) (E2 := fin B σ0) C0 w (by decide) (by decide) (mX7_212 l B (updE (EX B σ0 189 2 [.ref (wA B 190), .int 0, .int 0]) 190 (.inl (wC B 5, 4, .inr (.inr (.inr (.inr (sav B 3)))))))) ky_X7_init ⟨rfl, rfl⟩ rfl in_X7i lk_X3_17 ⟨Nat.le_of_ble_eq_true rfl, Nat.le_of_ble_eq_true rfl⟩ ⟨Nat.le_of_ble_eq_true rfl, Nat.le_of_ble_eq_true rfl⟩ rfl (by rfl) (Nat.le_of_ble_eq_true rfl) hl.1 dX3_init_28 (fun H locs w => ?_)
  rw [SUB_E (by intro j hj; rw [updE_ne (by omega)]; exact if_neg (by omega))] at w
  have w : Bx B 189 219 (updE (EX B σ0 189 2 [.ref (wA B 190), .int 0, .int 0]) 190 (.inl (wC B 5, 4, .inr (.inr (.inr (.inr (sav B 3))))))) s H locs := w
  refine bSt (N := 4) (f := sav B 3) (vs := fl B (σ0.1 212) (σ0.2 212) [0, 0, 0, 0, 0, 0, 1, 0, 215, 216, 217, 218, 219, 220]) C0 w (by decide) (by decide) updE_eq (by decide) (by decide) (((updE_ne (by decide)).trans (if_neg (by decide))).trans (eo_212 B)) (inbE (by decide)) dX3_init_31 (fun H locs w => ?_)
  have w := w.congr (E' := updE (EX B σ0 189 2 [.ref (wA B 190), .int 0, .int 0]) 190 (.inl (wC B 5, 4, .inr (.inr (.inr (.inr (sav B 4))))))) (by intro q h1 h2; by_cases h : q = 190; (subst h; rw [updE_eq, updE_eq]; exact congrArg (fun z => (.inl (wC B 5, 4, .inr (.inr (.inr (.inr z)))) : va_E)) (sav_up (B := B) (i := 3))); (rw [updE_ne h, updE_ne h, updE_ne h]))
  refine lv_iinc (k := 0) (v := 4) (lv' := [(1, .int 4), (0, .ref (wA B 189))]) hx hb dX3_init_32 hl rfl (by decide) (by decide) rfl (fun ls hl => ?_)
  refine lv_goto (tgt := 14) hx hb dX3_init_35 (by decide) ?_
  refine lv_iload_n hx hb dX3_init_14 rfl (lv_at hl 0 rfl) ?_
  refine lv_iconst (v := 4) hx hb dX3_init_15 (by decide) ?_
  refine lv_icmp_ge (tgt := 38) hx hb dX3_init_16 (by decide) (fun _ => ?_) (fun c9 => absurd (by decide) c9)
  have w := w.recell (k := 190) (by decide) (by decide) updE_eq (sav_cell B)
  have w := w.congr (E' := fin B σ0) (by intro q h1 h2; by_cases h : q = 190; (subst h; rw [updE_eq]; exact ef_190 B); (rw [updE_ne h, updE_ne h, EX_fin (ef_189 B)]))
  exact bRet C0 hr w dX3_init_38
