def f_X12_fit (x1 : Int32) (σ : Mem) : Option (Int64 × Mem) :=
  bd (f_X12_in x1.toInt64 0 4 σ) (fun q1 =>
  if q1 = 0 then (
    if ((setI σ 224 5 1).1 224 5) = 0 then (
      bd (f_X12_fitOf x1 (setI σ 224 5 1)) (fun q5 =>
      some ((q5.1, q5.2))))
    else (
      some ((0, setI σ 224 5 1))))
  else (
    if ((setI σ 224 5 0).1 224 5) = 0 then (
      bd (f_X12_fitOf x1 (setI σ 224 5 0)) (fun q8 =>
      some ((q8.1, q8.2))))
    else (
      some ((0, setI σ 224 5 0)))))
abbrev rm_X12_fit : Room := { frames := 7, cells := 0, slots := 0, locals := 172 }
set_option maxHeartbeats 4000000 in
set_option maxRecDepth 100000 in
theorem m_X12_fit (l : Launch) (B : Wb) (sz : Nat) (σ : Mem) (x1 : Int32) (q : Int64 × Mem) (hf : f_X12_fit x1 σ = some q) : MetC l yX12_fit cX12_fit 2 (some .long) rm_X12_fit B sz σ q.2 [.ref (wA B 224), .int x1] (some (.long q.1)) := by
  refine met_in (by decide +kernel) (Nat.le_of_ble_eq_true rfl) ?_
  intro p e s m below meth c C0 hr w hsz ls hl
  have hx := C0.1.1
  have hb := C0.1.2.1
  unfold f_X12_fit at hf
  refine lv_aload_n hx hb dX12_fit_0 rfl (lv_at hl 0 rfl) ?_
  refine lv_iload_n hx hb dX12_fit_1 rfl (lv_at hl 1 rfl) ?_
  refine lv_i2l hx hb dX12_fit_2 rfl ?_
  refine lv_lconst (v := 0) hx hb dX12_fit_3 (by decide) ?_
  refine kLg C0 4 kc_X12_242 dX12_fit_4 ?_
  obtain ⟨q1, h2, hf⟩ := bdE hf
  refine cS (As := [.long x1.toInt64, .long 0, .long 4]) (rest := [.ref (wA B 224)]) C0 w (m_X12_in l B _ σ x1.toInt64 0 4 q1 h2) ky_X12_in ks_X12_in lk_X12_79 ⟨Nat.le_of_ble_eq_true rfl, Nat.le_of_ble_eq_true rfl⟩ ⟨Nat.le_of_ble_eq_true rfl, Nat.le_of_ble_eq_true rfl⟩ rfl (by rfl) (Nat.le_of_ble_eq_true rfl) hl.1 dX12_fit_7 (fun H locs w => ?_)
  refine lv_if_eq (tgt := 17) hx hb dX12_fit_10 (by decide) (fun c3 => ?_) (fun c3 => ?_)
  · rw [if_pos c3] at hf
    refine lv_iconst (v := 1) hx hb dX12_fit_17 (by decide) ?_
    refine pI C0 w fk_X12_62 fp_X12_5 (by decide +kernel) dX12_fit_18 (fun H locs w => ?_)
    refine lv_aload_n hx hb dX12_fit_21 rfl (lv_at hl 0 rfl) ?_
    refine gI C0 w fk_X12_62 (by decide +kernel) dX12_fit_22 ?_
    refine lv_if_eq (tgt := 32) hx hb dX12_fit_25 (by decide) (fun c4 => ?_) (fun c4 => ?_)
    · rw [if_pos c4] at hf
      refine lv_aload_n hx hb dX12_fit_32 rfl (lv_at hl 0 rfl) ?_
      refine lv_iload_n hx hb dX12_fit_33 rfl (lv_at hl 1 rfl) ?_
      obtain ⟨q5, h6, hf⟩ := bdE hf
      refine cV (As := [.int x1]) (rest := []) (k := 224) (ci := 10) (T := TX12) (N := 22) C0 w (m_X12_fitOf l B _ (setI σ 224 5 1) x1 q5 h6) ky_X12_fitOf kv_X12_fitOf lk_X12_250 rfl (by decide +kernel) ⟨Nat.le_of_ble_eq_true rfl, Nat.le_of_ble_eq_true rfl⟩ ⟨Nat.le_of_ble_eq_true rfl, Nat.le_of_ble_eq_true rfl⟩ rfl (by rfl) (Nat.le_of_ble_eq_true rfl) hl.1 dX12_fit_34 (fun H locs w => ?_)
      obtain rfl := Option.some.inj hf
      exact eL C0 hr w dX12_fit_37
    · rw [if_neg c4] at hf
      refine lv_lconst (v := 0) hx hb dX12_fit_28 (by decide) ?_
      refine lv_goto (tgt := 37) hx hb dX12_fit_29 (by decide) ?_
      obtain rfl := Option.some.inj hf
      exact eL C0 hr w dX12_fit_37
  · rw [if_neg c3] at hf
    refine lv_iconst (v := 0) hx hb dX12_fit_13 (by decide) ?_
    refine lv_goto (tgt := 18) hx hb dX12_fit_14 (by decide) ?_
    refine pI C0 w fk_X12_62 fp_X12_5 (by decide +kernel) dX12_fit_18 (fun H locs w => ?_)
    refine lv_aload_n hx hb dX12_fit_21 rfl (lv_at hl 0 rfl) ?_
    refine gI C0 w fk_X12_62 (by decide +kernel) dX12_fit_22 ?_
    refine lv_if_eq (tgt := 32) hx hb dX12_fit_25 (by decide) (fun c7 => ?_) (fun c7 => ?_)
    · rw [if_pos c7] at hf
      refine lv_aload_n hx hb dX12_fit_32 rfl (lv_at hl 0 rfl) ?_
      refine lv_iload_n hx hb dX12_fit_33 rfl (lv_at hl 1 rfl) ?_
      obtain ⟨q8, h9, hf⟩ := bdE hf
      refine cV (As := [.int x1]) (rest := []) (k := 224) (ci := 10) (T := TX12) (N := 22) C0 w (m_X12_fitOf l B _ (setI σ 224 5 0) x1 q8 h9) ky_X12_fitOf kv_X12_fitOf lk_X12_250 rfl (by decide +kernel) ⟨Nat.le_of_ble_eq_true rfl, Nat.le_of_ble_eq_true rfl⟩ ⟨Nat.le_of_ble_eq_true rfl, Nat.le_of_ble_eq_true rfl⟩ rfl (by rfl) (Nat.le_of_ble_eq_true rfl) hl.1 dX12_fit_34 (fun H locs w => ?_)
      obtain rfl := Option.some.inj hf
      exact eL C0 hr w dX12_fit_37
    · rw [if_neg c7] at hf
      refine lv_lconst (v := 0) hx hb dX12_fit_28 (by decide) ?_
      refine lv_goto (tgt := 37) hx hb dX12_fit_29 (by decide) ?_
      obtain rfl := Option.some.inj hf
      exact eL C0 hr w dX12_fit_37
def f_X12_whatIf (x1 : Int32) (x2 : Int32) (x3 : Int32) (σ : Mem) : Option (Int64 × Mem) :=
  bd (f_X12_isRay x1 σ) (fun q1 =>
  if q1 = 0 then (
    if ((setI σ 224 5 1).1 224 5) = 0 then (
      bd (f_X12_timeOf x1 (setI σ 224 5 1)) (fun q5 =>
      gd (inb (8 + x2) 200) (
      gd (inb (8 + x2) 200) (
      bd (f_X12_timeOf x1 (setL q5.2 225 ((8 + x2).toNatClampNeg) x3.toInt64)) (fun q9 =>
      gd (inb (8 + x2) 200) (
      some ((q9.1 - q5.1, setL q9.2 225 ((8 + x2).toNatClampNeg) (q5.2.2 225 (8 + x2).toNatClampNeg)))))))))
    else (
      some ((0, setI σ 224 5 1))))
  else (
    bd (f_X12_isCell x2 σ) (fun q12 =>
    if q12 = 0 then (
      if ((setI σ 224 5 1).1 224 5) = 0 then (
        bd (f_X12_timeOf x1 (setI σ 224 5 1)) (fun q35 =>
        gd (inb (8 + x2) 200) (
        gd (inb (8 + x2) 200) (
        bd (f_X12_timeOf x1 (setL q35.2 225 ((8 + x2).toNatClampNeg) x3.toInt64)) (fun q39 =>
        gd (inb (8 + x2) 200) (
        some ((q39.1 - q35.1, setL q39.2 225 ((8 + x2).toNatClampNeg) (q35.2.2 225 (8 + x2).toNatClampNeg)))))))))
      else (
        some ((0, setI σ 224 5 1))))
    else (
      bd (f_X12_isSlowness x3 σ) (fun q15 =>
      if q15 = 0 then (
        if ((setI σ 224 5 2).1 224 5) = 0 then (
          bd (f_X12_timeOf x1 (setI σ 224 5 2)) (fun q19 =>
          gd (inb (8 + x2) 200) (
          gd (inb (8 + x2) 200) (
          bd (f_X12_timeOf x1 (setL q19.2 225 ((8 + x2).toNatClampNeg) x3.toInt64)) (fun q23 =>
          gd (inb (8 + x2) 200) (
          some ((q23.1 - q19.1, setL q23.2 225 ((8 + x2).toNatClampNeg) (q19.2.2 225 (8 + x2).toNatClampNeg)))))))))
        else (
          some ((0, setI σ 224 5 2))))
      else (
        if ((setI σ 224 5 0).1 224 5) = 0 then (
          bd (f_X12_timeOf x1 (setI σ 224 5 0)) (fun q27 =>
          gd (inb (8 + x2) 200) (
          gd (inb (8 + x2) 200) (
          bd (f_X12_timeOf x1 (setL q27.2 225 ((8 + x2).toNatClampNeg) x3.toInt64)) (fun q31 =>
          gd (inb (8 + x2) 200) (
          some ((q31.1 - q27.1, setL q31.2 225 ((8 + x2).toNatClampNeg) (q27.2.2 225 (8 + x2).toNatClampNeg)))))))))
        else (
          some ((0, setI σ 224 5 0)))))))))
abbrev rm_X12_whatIf : Room := { frames := 5, cells := 0, slots := 0, locals := 121 }
set_option maxHeartbeats 4000000 in
set_option maxRecDepth 100000 in
theorem m_X12_whatIf (l : Launch) (B : Wb) (sz : Nat) (σ : Mem) (x1 : Int32) (x2 : Int32) (x3 : Int32) (q : Int64 × Mem) (hf : f_X12_whatIf x1 x2 x3 σ = some q) : MetC l yX12_whatIf cX12_whatIf 10 (some .long) rm_X12_whatIf B sz σ q.2 [.ref (wA B 224), .int x1, .int x2, .int x3] (some (.long q.1)) := by
  refine met_in (by decide +kernel) (Nat.le_of_ble_eq_true rfl) ?_
  intro p e s m below meth c C0 hr w hsz ls hl
  have hx := C0.1.1
  have hb := C0.1.2.1
  unfold f_X12_whatIf at hf
  refine lv_aload_n hx hb dX12_whatIf_0 rfl (lv_at hl 0 rfl) ?_
  refine lv_aload_n hx hb dX12_whatIf_1 rfl (lv_at hl 0 rfl) ?_
  refine lv_iload_n hx hb dX12_whatIf_2 rfl (lv_at hl 1 rfl) ?_
  obtain ⟨q1, h2, hf⟩ := bdE hf
  refine cV (As := [.int x1]) (rest := [.ref (wA B 224)]) (k := 224) (ci := 10) (T := TX12) (N := 22) C0 w (m_X12_isRay l B _ σ x1 q1 h2) ky_X12_isRay kv_X12_isRay lk_X12_171 rfl (by decide +kernel) ⟨Nat.le_of_ble_eq_true rfl, Nat.le_of_ble_eq_true rfl⟩ ⟨Nat.le_of_ble_eq_true rfl, Nat.le_of_ble_eq_true rfl⟩ rfl (by rfl) (Nat.le_of_ble_eq_true rfl) hl.1 dX12_whatIf_3 (fun H locs w => ?_)
  refine lv_if_eq (tgt := 17) hx hb dX12_whatIf_6 (by decide) (fun c3 => ?_) (fun c3 => ?_)
  · rw [if_pos c3] at hf
    refine lv_iconst (v := 1) hx hb dX12_whatIf_17 (by decide) ?_
    refine lv_goto (tgt := 33) hx hb dX12_whatIf_18 (by decide) ?_
    refine pI C0 w fk_X12_62 fp_X12_5 (by decide +kernel) dX12_whatIf_33 (fun H locs w => ?_)
    refine lv_aload_n hx hb dX12_whatIf_36 rfl (lv_at hl 0 rfl) ?_
    refine gI C0 w fk_X12_62 (by decide +kernel) dX12_whatIf_37 ?_
    refine lv_if_eq (tgt := 45) hx hb dX12_whatIf_40 (by decide) (fun c4 => ?_) (fun c4 => ?_)
    · rw [if_pos c4] at hf
      refine lv_aload_n hx hb dX12_whatIf_45 rfl (lv_at hl 0 rfl) ?_
      refine lv_iload_n hx hb dX12_whatIf_46 rfl (lv_at hl 1 rfl) ?_
      obtain ⟨q5, h6, hf⟩ := bdE hf
      refine cV (As := [.int x1]) (rest := []) (k := 224) (ci := 10) (T := TX12) (N := 22) C0 w (m_X12_timeOf l B _ (setI σ 224 5 1) x1 q5 h6) ky_X12_timeOf kv_X12_timeOf lk_X12_121 rfl (by decide +kernel) ⟨Nat.le_of_ble_eq_true rfl, Nat.le_of_ble_eq_true rfl⟩ ⟨Nat.le_of_ble_eq_true rfl, Nat.le_of_ble_eq_true rfl⟩ rfl (by rfl) (Nat.le_of_ble_eq_true rfl) hl.1 dX12_whatIf_47 (fun H locs w => ?_)
      refine lv_lstore (lv' := [(4, .long q5.1), (0, .ref (wA B 224)), (1, .int x1), (2, .int x2), (3, .int x3)]) hx hb dX12_whatIf_50 hl (by decide) rfl (fun ls hl => ?_)
      refine lv_aload_n hx hb dX12_whatIf_52 rfl (lv_at hl 1 rfl) ?_
      refine gR C0 w 225 fk_X12_7 (by decide +kernel) dX12_whatIf_53 ?_
      refine lv_bipush (v := 8) hx hb dX12_whatIf_56 (by decide) ?_
      refine lv_iload_n hx hb dX12_whatIf_58 rfl (lv_at hl 3 rfl) ?_
      refine lv_iadd hx hb dX12_whatIf_59 ?_
      obtain ⟨g7, hf⟩ := gdE hf
      refine aL C0 w (n := 200) (by decide +kernel) (inbE g7) dX12_whatIf_60 ?_
      refine lv_lstore (lv' := [(6, .long (q5.2.2 225 (8 + x2).toNatClampNeg)), (4, .long q5.1), (0, .ref (wA B 224)), (1, .int x1), (2, .int x2), (3, .int x3)]) hx hb dX12_whatIf_61 hl (by decide) rfl (fun ls hl => ?_)
      refine lv_aload_n hx hb dX12_whatIf_63 rfl (lv_at hl 2 rfl) ?_
      refine gR C0 w 225 fk_X12_7 (by decide +kernel) dX12_whatIf_64 ?_
      refine lv_bipush (v := 8) hx hb dX12_whatIf_67 (by decide) ?_
      refine lv_iload_n hx hb dX12_whatIf_69 rfl (lv_at hl 4 rfl) ?_
      refine lv_iadd hx hb dX12_whatIf_70 ?_
      refine lv_iload_n hx hb dX12_whatIf_71 rfl (lv_at hl 5 rfl) ?_
      refine lv_i2l hx hb dX12_whatIf_72 rfl ?_
      obtain ⟨g8, hf⟩ := gdE hf
      refine sL C0 w (n := 200) (by decide +kernel) (inbE g8) dX12_whatIf_73 (fun H locs w => ?_)
      refine lv_aload_n hx hb dX12_whatIf_74 rfl (lv_at hl 2 rfl) ?_
      refine lv_iload_n hx hb dX12_whatIf_75 rfl (lv_at hl 3 rfl) ?_
      obtain ⟨q9, h10, hf⟩ := bdE hf
      refine cV (As := [.int x1]) (rest := []) (k := 224) (ci := 10) (T := TX12) (N := 22) C0 w (m_X12_timeOf l B _ (setL q5.2 225 ((8 + x2).toNatClampNeg) x3.toInt64) x1 q9 h10) ky_X12_timeOf kv_X12_timeOf lk_X12_121 rfl (by decide +kernel) ⟨Nat.le_of_ble_eq_true rfl, Nat.le_of_ble_eq_true rfl⟩ ⟨Nat.le_of_ble_eq_true rfl, Nat.le_of_ble_eq_true rfl⟩ rfl (by rfl) (Nat.le_of_ble_eq_true rfl) hl.1 dX12_whatIf_76 (fun H locs w => ?_)
      refine lv_lstore (lv' := [(8, .long q9.1), (6, .long (q5.2.2 225 (8 + x2).toNatClampNeg)), (4, .long q5.1), (0, .ref (wA B 224)), (1, .int x1), (2, .int x2), (3, .int x3)]) hx hb dX12_whatIf_79 hl (by decide) rfl (fun ls hl => ?_)
      refine lv_aload_n hx hb dX12_whatIf_81 rfl (lv_at hl 3 rfl) ?_
      refine gR C0 w 225 fk_X12_7 (by decide +kernel) dX12_whatIf_82 ?_
      refine lv_bipush (v := 8) hx hb dX12_whatIf_85 (by decide) ?_
      refine lv_iload_n hx hb dX12_whatIf_87 rfl (lv_at hl 5 rfl) ?_
      refine lv_iadd hx hb dX12_whatIf_88 ?_
      refine lv_lload hx hb dX12_whatIf_89 (lv_at hl 1 rfl) ?_
      obtain ⟨g11, hf⟩ := gdE hf
      refine sL C0 w (n := 200) (by decide +kernel) (inbE g11) dX12_whatIf_91 (fun H locs w => ?_)
      refine lv_lload hx hb dX12_whatIf_92 (lv_at hl 0 rfl) ?_
      refine lv_lload hx hb dX12_whatIf_94 (lv_at hl 2 rfl) ?_
      refine lv_lsub hx hb dX12_whatIf_96 ?_
      obtain rfl := Option.some.inj hf
      exact eL C0 hr w dX12_whatIf_97
    · rw [if_neg c4] at hf
      refine lv_lconst (v := 0) hx hb dX12_whatIf_43 (by decide) ?_
      obtain rfl := Option.some.inj hf
      exact eL C0 hr w dX12_whatIf_44
  · rw [if_neg c3] at hf
    refine lv_aload_n hx hb dX12_whatIf_9 rfl (lv_at hl 0 rfl) ?_
    refine lv_iload_n hx hb dX12_whatIf_10 rfl (lv_at hl 2 rfl) ?_
    obtain ⟨q12, h13, hf⟩ := bdE hf
    refine cV (As := [.int x2]) (rest := [.ref (wA B 224)]) (k := 224) (ci := 10) (T := TX12) (N := 22) C0 w (m_X12_isCell l B _ σ x2 q12 h13) ky_X12_isCell kv_X12_isCell lk_X12_134 rfl (by decide +kernel) ⟨Nat.le_of_ble_eq_true rfl, Nat.le_of_ble_eq_true rfl⟩ ⟨Nat.le_of_ble_eq_true rfl, Nat.le_of_ble_eq_true rfl⟩ rfl (by rfl) (Nat.le_of_ble_eq_true rfl) hl.1 dX12_whatIf_11 (fun H locs w => ?_)
    refine lv_if_ne (tgt := 21) hx hb dX12_whatIf_14 (by decide) (fun c14 => ?_) (fun c14 => ?_)
    · rw [if_neg c14] at hf
      refine lv_iload_n hx hb dX12_whatIf_21 rfl (lv_at hl 3 rfl) ?_
      obtain ⟨q15, h16, hf⟩ := bdE hf
      refine cS (As := [.int x3]) (rest := [.ref (wA B 224)]) C0 w (m_X12_isSlowness l B _ σ x3 q15 h16) ky_X12_isSlowness ks_X12_isSlowness lk_X12_137 ⟨Nat.le_of_ble_eq_true rfl, Nat.le_of_ble_eq_true rfl⟩ ⟨Nat.le_of_ble_eq_true rfl, Nat.le_of_ble_eq_true rfl⟩ rfl (by rfl) (Nat.le_of_ble_eq_true rfl) hl.1 dX12_whatIf_22 (fun H locs w => ?_)
      refine lv_if_eq (tgt := 32) hx hb dX12_whatIf_25 (by decide) (fun c17 => ?_) (fun c17 => ?_)
      · rw [if_pos c17] at hf
        refine lv_iconst (v := 2) hx hb dX12_whatIf_32 (by decide) ?_
        refine pI C0 w fk_X12_62 fp_X12_5 (by decide +kernel) dX12_whatIf_33 (fun H locs w => ?_)
        refine lv_aload_n hx hb dX12_whatIf_36 rfl (lv_at hl 0 rfl) ?_
        refine gI C0 w fk_X12_62 (by decide +kernel) dX12_whatIf_37 ?_
        refine lv_if_eq (tgt := 45) hx hb dX12_whatIf_40 (by decide) (fun c18 => ?_) (fun c18 => ?_)
        · rw [if_pos c18] at hf
          refine lv_aload_n hx hb dX12_whatIf_45 rfl (lv_at hl 0 rfl) ?_
          refine lv_iload_n hx hb dX12_whatIf_46 rfl (lv_at hl 1 rfl) ?_
          obtain ⟨q19, h20, hf⟩ := bdE hf
          refine cV (As := [.int x1]) (rest := []) (k := 224) (ci := 10) (T := TX12) (N := 22) C0 w (m_X12_timeOf l B _ (setI σ 224 5 2) x1 q19 h20) ky_X12_timeOf kv_X12_timeOf lk_X12_121 rfl (by decide +kernel) ⟨Nat.le_of_ble_eq_true rfl, Nat.le_of_ble_eq_true rfl⟩ ⟨Nat.le_of_ble_eq_true rfl, Nat.le_of_ble_eq_true rfl⟩ rfl (by rfl) (Nat.le_of_ble_eq_true rfl) hl.1 dX12_whatIf_47 (fun H locs w => ?_)
          refine lv_lstore (lv' := [(4, .long q19.1), (0, .ref (wA B 224)), (1, .int x1), (2, .int x2), (3, .int x3)]) hx hb dX12_whatIf_50 hl (by decide) rfl (fun ls hl => ?_)
          refine lv_aload_n hx hb dX12_whatIf_52 rfl (lv_at hl 1 rfl) ?_
          refine gR C0 w 225 fk_X12_7 (by decide +kernel) dX12_whatIf_53 ?_
          refine lv_bipush (v := 8) hx hb dX12_whatIf_56 (by decide) ?_
          refine lv_iload_n hx hb dX12_whatIf_58 rfl (lv_at hl 3 rfl) ?_
          refine lv_iadd hx hb dX12_whatIf_59 ?_
          obtain ⟨g21, hf⟩ := gdE hf
          refine aL C0 w (n := 200) (by decide +kernel) (inbE g21) dX12_whatIf_60 ?_
          refine lv_lstore (lv' := [(6, .long (q19.2.2 225 (8 + x2).toNatClampNeg)), (4, .long q19.1), (0, .ref (wA B 224)), (1, .int x1), (2, .int x2), (3, .int x3)]) hx hb dX12_whatIf_61 hl (by decide) rfl (fun ls hl => ?_)
          refine lv_aload_n hx hb dX12_whatIf_63 rfl (lv_at hl 2 rfl) ?_
          refine gR C0 w 225 fk_X12_7 (by decide +kernel) dX12_whatIf_64 ?_
          refine lv_bipush (v := 8) hx hb dX12_whatIf_67 (by decide) ?_
          refine lv_iload_n hx hb dX12_whatIf_69 rfl (lv_at hl 4 rfl) ?_
          refine lv_iadd hx hb dX12_whatIf_70 ?_
          refine lv_iload_n hx hb dX12_whatIf_71 rfl (lv_at hl 5 rfl) ?_
          refine lv_i2l hx hb dX12_whatIf_72 rfl ?_
          obtain ⟨g22, hf⟩ := gdE hf
          refine sL C0 w (n := 200) (by decide +kernel) (inbE g22) dX12_whatIf_73 (fun H locs w => ?_)
          refine lv_aload_n hx hb dX12_whatIf_74 rfl (lv_at hl 2 rfl) ?_
          refine lv_iload_n hx hb dX12_whatIf_75 rfl (lv_at hl 3 rfl) ?_
          obtain ⟨q23, h24, hf⟩ := bdE hf
          refine cV (As := [.int x1]) (rest := []) (k := 224) (ci := 10) (T := TX12) (N := 22) C0 w (m_X12_timeOf l B _ (setL q19.2 225 ((8 + x2).toNatClampNeg) x3.toInt64) x1 q23 h24) ky_X12_timeOf kv_X12_timeOf lk_X12_121 rfl (by decide +kernel) ⟨Nat.le_of_ble_eq_true rfl, Nat.le_of_ble_eq_true rfl⟩ ⟨Nat.le_of_ble_eq_true rfl, Nat.le_of_ble_eq_true rfl⟩ rfl (by rfl) (Nat.le_of_ble_eq_true rfl) hl.1 dX12_whatIf_76 (fun H locs w => ?_)
          refine lv_lstore (lv' := [(8, .long q23.1), (6, .long (q19.2.2 225 (8 + x2).toNatClampNeg)), (4, .long q19.1), (0, .ref (wA B 224)), (1, .int x1), (2, .int x2), (3, .int x3)]) hx hb dX12_whatIf_79 hl (by decide) rfl (fun ls hl => ?_)
          refine lv_aload_n hx hb dX12_whatIf_81 rfl (lv_at hl 3 rfl) ?_
          refine gR C0 w 225 fk_X12_7 (by decide +kernel) dX12_whatIf_82 ?_
          refine lv_bipush (v := 8) hx hb dX12_whatIf_85 (by decide) ?_
          refine lv_iload_n hx hb dX12_whatIf_87 rfl (lv_at hl 5 rfl) ?_
          refine lv_iadd hx hb dX12_whatIf_88 ?_
          refine lv_lload hx hb dX12_whatIf_89 (lv_at hl 1 rfl) ?_
          obtain ⟨g25, hf⟩ := gdE hf
          refine sL C0 w (n := 200) (by decide +kernel) (inbE g25) dX12_whatIf_91 (fun H locs w => ?_)
          refine lv_lload hx hb dX12_whatIf_92 (lv_at hl 0 rfl) ?_
          refine lv_lload hx hb dX12_whatIf_94 (lv_at hl 2 rfl) ?_
          refine lv_lsub hx hb dX12_whatIf_96 ?_
          obtain rfl := Option.some.inj hf
          exact eL C0 hr w dX12_whatIf_97
        · rw [if_neg c18] at hf
          refine lv_lconst (v := 0) hx hb dX12_whatIf_43 (by decide) ?_
          obtain rfl := Option.some.inj hf
          exact eL C0 hr w dX12_whatIf_44
      · rw [if_neg c17] at hf
        refine lv_iconst (v := 0) hx hb dX12_whatIf_28 (by decide) ?_
        refine lv_goto (tgt := 33) hx hb dX12_whatIf_29 (by decide) ?_
        refine pI C0 w fk_X12_62 fp_X12_5 (by decide +kernel) dX12_whatIf_33 (fun H locs w => ?_)
        refine lv_aload_n hx hb dX12_whatIf_36 rfl (lv_at hl 0 rfl) ?_
        refine gI C0 w fk_X12_62 (by decide +kernel) dX12_whatIf_37 ?_
        refine lv_if_eq (tgt := 45) hx hb dX12_whatIf_40 (by decide) (fun c26 => ?_) (fun c26 => ?_)
        · rw [if_pos c26] at hf
          refine lv_aload_n hx hb dX12_whatIf_45 rfl (lv_at hl 0 rfl) ?_
          refine lv_iload_n hx hb dX12_whatIf_46 rfl (lv_at hl 1 rfl) ?_
          obtain ⟨q27, h28, hf⟩ := bdE hf
          refine cV (As := [.int x1]) (rest := []) (k := 224) (ci := 10) (T := TX12) (N := 22) C0 w (m_X12_timeOf l B _ (setI σ 224 5 0) x1 q27 h28) ky_X12_timeOf kv_X12_timeOf lk_X12_121 rfl (by decide +kernel) ⟨Nat.le_of_ble_eq_true rfl, Nat.le_of_ble_eq_true rfl⟩ ⟨Nat.le_of_ble_eq_true rfl, Nat.le_of_ble_eq_true rfl⟩ rfl (by rfl) (Nat.le_of_ble_eq_true rfl) hl.1 dX12_whatIf_47 (fun H locs w => ?_)
          refine lv_lstore (lv' := [(4, .long q27.1), (0, .ref (wA B 224)), (1, .int x1), (2, .int x2), (3, .int x3)]) hx hb dX12_whatIf_50 hl (by decide) rfl (fun ls hl => ?_)
          refine lv_aload_n hx hb dX12_whatIf_52 rfl (lv_at hl 1 rfl) ?_
          refine gR C0 w 225 fk_X12_7 (by decide +kernel) dX12_whatIf_53 ?_
          refine lv_bipush (v := 8) hx hb dX12_whatIf_56 (by decide) ?_
          refine lv_iload_n hx hb dX12_whatIf_58 rfl (lv_at hl 3 rfl) ?_
          refine lv_iadd hx hb dX12_whatIf_59 ?_
          obtain ⟨g29, hf⟩ := gdE hf
          refine aL C0 w (n := 200) (by decide +kernel) (inbE g29) dX12_whatIf_60 ?_
          refine lv_lstore (lv' := [(6, .long (q27.2.2 225 (8 + x2).toNatClampNeg)), (4, .long q27.1), (0, .ref (wA B 224)), (1, .int x1), (2, .int x2), (3, .int x3)]) hx hb dX12_whatIf_61 hl (by decide) rfl (fun ls hl => ?_)
          refine lv_aload_n hx hb dX12_whatIf_63 rfl (lv_at hl 2 rfl) ?_
          refine gR C0 w 225 fk_X12_7 (by decide +kernel) dX12_whatIf_64 ?_
          refine lv_bipush (v := 8) hx hb dX12_whatIf_67 (by decide) ?_
          refine lv_iload_n hx hb dX12_whatIf_69 rfl (lv_at hl 4 rfl) ?_
          refine lv_iadd hx hb dX12_whatIf_70 ?_
          refine lv_iload_n hx hb dX12_whatIf_71 rfl (lv_at hl 5 rfl) ?_
          refine lv_i2l hx hb dX12_whatIf_72 rfl ?_
          obtain ⟨g30, hf⟩ := gdE hf
          refine sL C0 w (n := 200) (by decide +kernel) (inbE g30) dX12_whatIf_73 (fun H locs w => ?_)
          refine lv_aload_n hx hb dX12_whatIf_74 rfl (lv_at hl 2 rfl) ?_
          refine lv_iload_n hx hb dX12_whatIf_75 rfl (lv_at hl 3 rfl) ?_
          obtain ⟨q31, h32, hf⟩ := bdE hf
          refine cV (As := [.int x1]) (rest := []) (k := 224) (ci := 10) (T := TX12) (N := 22) C0 w (m_X12_timeOf l B _ (setL q27.2 225 ((8 + x2).toNatClampNeg) x3.toInt64) x1 q31 h32) ky_X12_timeOf kv_X12_timeOf lk_X12_121 rfl (by decide +kernel) ⟨Nat.le_of_ble_eq_true rfl, Nat.le_of_ble_eq_true rfl⟩ ⟨Nat.le_of_ble_eq_true rfl, Nat.le_of_ble_eq_true rfl⟩ rfl (by rfl) (Nat.le_of_ble_eq_true rfl) hl.1 dX12_whatIf_76 (fun H locs w => ?_)
          refine lv_lstore (lv' := [(8, .long q31.1), (6, .long (q27.2.2 225 (8 + x2).toNatClampNeg)), (4, .long q27.1), (0, .ref (wA B 224)), (1, .int x1), (2, .int x2), (3, .int x3)]) hx hb dX12_whatIf_79 hl (by decide) rfl (fun ls hl => ?_)
          refine lv_aload_n hx hb dX12_whatIf_81 rfl (lv_at hl 3 rfl) ?_
          refine gR C0 w 225 fk_X12_7 (by decide +kernel) dX12_whatIf_82 ?_
          refine lv_bipush (v := 8) hx hb dX12_whatIf_85 (by decide) ?_
          refine lv_iload_n hx hb dX12_whatIf_87 rfl (lv_at hl 5 rfl) ?_
          refine lv_iadd hx hb dX12_whatIf_88 ?_
          refine lv_lload hx hb dX12_whatIf_89 (lv_at hl 1 rfl) ?_
          obtain ⟨g33, hf⟩ := gdE hf
          refine sL C0 w (n := 200) (by decide +kernel) (inbE g33) dX12_whatIf_91 (fun H locs w => ?_)
          refine lv_lload hx hb dX12_whatIf_92 (lv_at hl 0 rfl) ?_
          refine lv_lload hx hb dX12_whatIf_94 (lv_at hl 2 rfl) ?_
          refine lv_lsub hx hb dX12_whatIf_96 ?_
          obtain rfl := Option.some.inj hf
          exact eL C0 hr w dX12_whatIf_97
        · rw [if_neg c26] at hf
          refine lv_lconst (v := 0) hx hb dX12_whatIf_43 (by decide) ?_
          obtain rfl := Option.some.inj hf
          exact eL C0 hr w dX12_whatIf_44
    · rw [if_pos c14] at hf
      refine lv_iconst (v := 1) hx hb dX12_whatIf_17 (by decide) ?_
      refine lv_goto (tgt := 33) hx hb dX12_whatIf_18 (by decide) ?_
      refine pI C0 w fk_X12_62 fp_X12_5 (by decide +kernel) dX12_whatIf_33 (fun H locs w => ?_)
      refine lv_aload_n hx hb dX12_whatIf_36 rfl (lv_at hl 0 rfl) ?_
      refine gI C0 w fk_X12_62 (by decide +kernel) dX12_whatIf_37 ?_
      refine lv_if_eq (tgt := 45) hx hb dX12_whatIf_40 (by decide) (fun c34 => ?_) (fun c34 => ?_)
      · rw [if_pos c34] at hf
        refine lv_aload_n hx hb dX12_whatIf_45 rfl (lv_at hl 0 rfl) ?_
        refine lv_iload_n hx hb dX12_whatIf_46 rfl (lv_at hl 1 rfl) ?_
        obtain ⟨q35, h36, hf⟩ := bdE hf
        refine cV (As := [.int x1]) (rest := []) (k := 224) (ci := 10) (T := TX12) (N := 22) C0 w (m_X12_timeOf l B _ (setI σ 224 5 1) x1 q35 h36) ky_X12_timeOf kv_X12_timeOf lk_X12_121 rfl (by decide +kernel) ⟨Nat.le_of_ble_eq_true rfl, Nat.le_of_ble_eq_true rfl⟩ ⟨Nat.le_of_ble_eq_true rfl, Nat.le_of_ble_eq_true rfl⟩ rfl (by rfl) (Nat.le_of_ble_eq_true rfl) hl.1 dX12_whatIf_47 (fun H locs w => ?_)
        refine lv_lstore (lv' := [(4, .long q35.1), (0, .ref (wA B 224)), (1, .int x1), (2, .int x2), (3, .int x3)]) hx hb dX12_whatIf_50 hl (by decide) rfl (fun ls hl => ?_)
        refine lv_aload_n hx hb dX12_whatIf_52 rfl (lv_at hl 1 rfl) ?_
        refine gR C0 w 225 fk_X12_7 (by decide +kernel) dX12_whatIf_53 ?_
        refine lv_bipush (v := 8) hx hb dX12_whatIf_56 (by decide) ?_
        refine lv_iload_n hx hb dX12_whatIf_58 rfl (lv_at hl 3 rfl) ?_
        refine lv_iadd hx hb dX12_whatIf_59 ?_
        obtain ⟨g37, hf⟩ := gdE hf
        refine aL C0 w (n := 200) (by decide +kernel) (inbE g37) dX12_whatIf_60 ?_
        refine lv_lstore (lv' := [(6, .long (q35.2.2 225 (8 + x2).toNatClampNeg)), (4, .long q35.1), (0, .ref (wA B 224)), (1, .int x1), (2, .int x2), (3, .int x3)]) hx hb dX12_whatIf_61 hl (by decide) rfl (fun ls hl => ?_)
        refine lv_aload_n hx hb dX12_whatIf_63 rfl (lv_at hl 2 rfl) ?_
        refine gR C0 w 225 fk_X12_7 (by decide +kernel) dX12_whatIf_64 ?_
        refine lv_bipush (v := 8) hx hb dX12_whatIf_67 (by decide) ?_
        refine lv_iload_n hx hb dX12_whatIf_69 rfl (lv_at hl 4 rfl) ?_
        refine lv_iadd hx hb dX12_whatIf_70 ?_
        refine lv_iload_n hx hb dX12_whatIf_71 rfl (lv_at hl 5 rfl) ?_
        refine lv_i2l hx hb dX12_whatIf_72 rfl ?_
        obtain ⟨g38, hf⟩ := gdE hf
        refine sL C0 w (n := 200) (by decide +kernel) (inbE g38) dX12_whatIf_73 (fun H locs w => ?_)
        refine lv_aload_n hx hb dX12_whatIf_74 rfl (lv_at hl 2 rfl) ?_
        refine lv_iload_n hx hb dX12_whatIf_75 rfl (lv_at hl 3 rfl) ?_
        obtain ⟨q39, h40, hf⟩ := bdE hf
        refine cV (As := [.int x1]) (rest := []) (k := 224) (ci := 10) (T := TX12) (N := 22) C0 w (m_X12_timeOf l B _ (setL q35.2 225 ((8 + x2).toNatClampNeg) x3.toInt64) x1 q39 h40) ky_X12_timeOf kv_X12_timeOf lk_X12_121 rfl (by decide +kernel) ⟨Nat.le_of_ble_eq_true rfl, Nat.le_of_ble_eq_true rfl⟩ ⟨Nat.le_of_ble_eq_true rfl, Nat.le_of_ble_eq_true rfl⟩ rfl (by rfl) (Nat.le_of_ble_eq_true rfl) hl.1 dX12_whatIf_76 (fun H locs w => ?_)
        refine lv_lstore (lv' := [(8, .long q39.1), (6, .long (q35.2.2 225 (8 + x2).toNatClampNeg)), (4, .long q35.1), (0, .ref (wA B 224)), (1, .int x1), (2, .int x2), (3, .int x3)]) hx hb dX12_whatIf_79 hl (by decide) rfl (fun ls hl => ?_)
        refine lv_aload_n hx hb dX12_whatIf_81 rfl (lv_at hl 3 rfl) ?_
        refine gR C0 w 225 fk_X12_7 (by decide +kernel) dX12_whatIf_82 ?_
        refine lv_bipush (v := 8) hx hb dX12_whatIf_85 (by decide) ?_
        refine lv_iload_n hx hb dX12_whatIf_87 rfl (lv_at hl 5 rfl) ?_
        refine lv_iadd hx hb dX12_whatIf_88 ?_
        refine lv_lload hx hb dX12_whatIf_89 (lv_at hl 1 rfl) ?_
        obtain ⟨g41, hf⟩ := gdE hf
        refine sL C0 w (n := 200) (by decide +kernel) (inbE g41) dX12_whatIf_91 (fun H locs w => ?_)
        refine lv_lload hx hb dX12_whatIf_92 (lv_at hl 0 rfl) ?_
        refine lv_lload hx hb dX12_whatIf_94 (lv_at hl 2 rfl) ?_
        refine lv_lsub hx hb dX12_whatIf_96 ?_
        obtain rfl := Option.some.inj hf
        exact eL C0 hr w dX12_whatIf_97
      · rw [if_neg c34] at hf
        refine lv_lconst (v := 0) hx hb dX12_whatIf_43 (by decide) ?_
        obtain rfl := Option.some.inj hf
        exact eL C0 hr w dX12_whatIf_44
def f_X12_type (x1 : Int32) (σ : Mem) : Option (Int32 × Mem) :=
  bd (f_X12_in x1.toInt64 0 127 σ) (fun q1 =>
  if q1 = 0 then (
    if ((setI σ 224 5 1).1 224 5) = 0 then (
      gd (inb ((setI σ 224 5 1).1 224 4) 120) (
      bd (some (setI (setI (setI σ 224 5 1) 227 (((setI σ 224 5 1).1 224 4).toNatClampNeg) x1) 224 4 (((setI (setI σ 224 5 1) 227 (((setI σ 224 5 1).1 224 4).toNatClampNeg) x1).1 224 4) + 1))) (fun q15 =>
      some ((q15.1 224 4, q15)))))
    else (
      some ((0, setI σ 224 5 1))))
  else (
    if (σ.1 224 4) = 120 then (
      if ((setI σ 224 5 2).1 224 5) = 0 then (
        gd (inb ((setI σ 224 5 2).1 224 4) 120) (
        bd (some (setI (setI (setI σ 224 5 2) 227 (((setI σ 224 5 2).1 224 4).toNatClampNeg) x1) 224 4 (((setI (setI σ 224 5 2) 227 (((setI σ 224 5 2).1 224 4).toNatClampNeg) x1).1 224 4) + 1))) (fun q11 =>
        some ((q11.1 224 4, q11)))))
      else (
        some ((0, setI σ 224 5 2))))
    else (
      if ((setI σ 224 5 0).1 224 5) = 0 then (
        gd (inb ((setI σ 224 5 0).1 224 4) 120) (
        bd (some (setI (setI (setI σ 224 5 0) 227 (((setI σ 224 5 0).1 224 4).toNatClampNeg) x1) 224 4 (((setI (setI σ 224 5 0) 227 (((setI σ 224 5 0).1 224 4).toNatClampNeg) x1).1 224 4) + 1))) (fun q7 =>
        some ((q7.1 224 4, q7)))))
      else (
        some ((0, setI σ 224 5 0))))))
abbrev rm_X12_type : Room := { frames := 1, cells := 0, slots := 0, locals := 25 }
set_option maxHeartbeats 4000000 in
set_option maxRecDepth 100000 in
theorem m_X12_type (l : Launch) (B : Wb) (sz : Nat) (σ : Mem) (x1 : Int32) (q : Int32 × Mem) (hf : f_X12_type x1 σ = some q) : MetC l yX12_type cX12_type 2 (some .int) rm_X12_type B sz σ q.2 [.ref (wA B 224), .int x1] (some (.int q.1)) := by
  refine met_in (by decide +kernel) (Nat.le_of_ble_eq_true rfl) ?_
  intro p e s m below meth c C0 hr w hsz ls hl
  have hx := C0.1.1
  have hb := C0.1.2.1
  unfold f_X12_type at hf
  refine lv_aload_n hx hb dX12_type_0 rfl (lv_at hl 0 rfl) ?_
  refine lv_iload_n hx hb dX12_type_1 rfl (lv_at hl 1 rfl) ?_
  refine lv_i2l hx hb dX12_type_2 rfl ?_
  refine lv_lconst (v := 0) hx hb dX12_type_3 (by decide) ?_
  refine kLg C0 127 kc_X12_253 dX12_type_4 ?_
  obtain ⟨q1, h2, hf⟩ := bdE hf
  refine cS (As := [.long x1.toInt64, .long 0, .long 127]) (rest := [.ref (wA B 224)]) C0 w (m_X12_in l B _ σ x1.toInt64 0 127 q1 h2) ky_X12_in ks_X12_in lk_X12_79 ⟨Nat.le_of_ble_eq_true rfl, Nat.le_of_ble_eq_true rfl⟩ ⟨Nat.le_of_ble_eq_true rfl, Nat.le_of_ble_eq_true rfl⟩ rfl (by rfl) (Nat.le_of_ble_eq_true rfl) hl.1 dX12_type_7 (fun H locs w => ?_)
  refine lv_if_ne (tgt := 17) hx hb dX12_type_10 (by decide) (fun c3 => ?_) (fun c3 => ?_)
  · rw [if_neg c3] at hf
    refine lv_aload_n hx hb dX12_type_17 rfl (lv_at hl 0 rfl) ?_
    refine gI C0 w fk_X12_255 (by decide +kernel) dX12_type_18 ?_
    refine lv_bipush (v := 120) hx hb dX12_type_21 (by decide) ?_
    refine lv_icmp_ne (tgt := 30) hx hb dX12_type_23 (by decide) (fun c4 => ?_) (fun c4 => ?_)
    · rw [if_neg c4] at hf
      refine lv_iconst (v := 0) hx hb dX12_type_30 (by decide) ?_
      refine pI C0 w fk_X12_62 fp_X12_5 (by decide +kernel) dX12_type_31 (fun H locs w => ?_)
      refine lv_aload_n hx hb dX12_type_34 rfl (lv_at hl 0 rfl) ?_
      refine gI C0 w fk_X12_62 (by decide +kernel) dX12_type_35 ?_
      refine lv_if_eq (tgt := 43) hx hb dX12_type_38 (by decide) (fun c5 => ?_) (fun c5 => ?_)
      · rw [if_pos c5] at hf
        refine lv_aload_n hx hb dX12_type_43 rfl (lv_at hl 0 rfl) ?_
        refine gR C0 w 227 fk_X12_16 (by decide +kernel) dX12_type_44 ?_
        refine lv_aload_n hx hb dX12_type_47 rfl (lv_at hl 0 rfl) ?_
        refine gI C0 w fk_X12_255 (by decide +kernel) dX12_type_48 ?_
        refine lv_iload_n hx hb dX12_type_51 rfl (lv_at hl 1 rfl) ?_
        obtain ⟨g6, hf⟩ := gdE hf
        refine sI C0 w (n := 120) (by decide +kernel) (inbE g6) dX12_type_52 (fun H locs w => ?_)
        refine lv_aload_n hx hb dX12_type_53 rfl (lv_at hl 0 rfl) ?_
        refine lv_dup hx hb dX12_type_54 rfl ?_
        refine gI C0 w fk_X12_255 (by decide +kernel) dX12_type_55 ?_
        refine lv_iconst (v := 1) hx hb dX12_type_58 (by decide) ?_
        refine lv_iadd hx hb dX12_type_59 ?_
        refine pI C0 w fk_X12_255 fp_X12_4 (by decide +kernel) dX12_type_60 (fun H locs w => ?_)
        obtain ⟨q7, h8, hf⟩ := bdE hf
        have w : Wx B q7 s H locs := by rw [← Option.some.inj h8]; exact w
        refine lv_aload_n hx hb dX12_type_63 rfl (lv_at hl 0 rfl) ?_
        refine gI C0 w fk_X12_255 (by decide +kernel) dX12_type_64 ?_
        obtain rfl := Option.some.inj hf
        exact eI C0 hr w rfl dX12_type_67
      · rw [if_neg c5] at hf
        refine lv_iconst (v := 0) hx hb dX12_type_41 (by decide) ?_
        obtain rfl := Option.some.inj hf
        exact eI C0 hr w rfl dX12_type_42
    · rw [if_pos c4] at hf
      refine lv_iconst (v := 2) hx hb dX12_type_26 (by decide) ?_
      refine lv_goto (tgt := 31) hx hb dX12_type_27 (by decide) ?_
      refine pI C0 w fk_X12_62 fp_X12_5 (by decide +kernel) dX12_type_31 (fun H locs w => ?_)
      refine lv_aload_n hx hb dX12_type_34 rfl (lv_at hl 0 rfl) ?_
      refine gI C0 w fk_X12_62 (by decide +kernel) dX12_type_35 ?_
      refine lv_if_eq (tgt := 43) hx hb dX12_type_38 (by decide) (fun c9 => ?_) (fun c9 => ?_)
      · rw [if_pos c9] at hf
        refine lv_aload_n hx hb dX12_type_43 rfl (lv_at hl 0 rfl) ?_
        refine gR C0 w 227 fk_X12_16 (by decide +kernel) dX12_type_44 ?_
        refine lv_aload_n hx hb dX12_type_47 rfl (lv_at hl 0 rfl) ?_
        refine gI C0 w fk_X12_255 (by decide +kernel) dX12_type_48 ?_
        refine lv_iload_n hx hb dX12_type_51 rfl (lv_at hl 1 rfl) ?_
        obtain ⟨g10, hf⟩ := gdE hf
        refine sI C0 w (n := 120) (by decide +kernel) (inbE g10) dX12_type_52 (fun H locs w => ?_)
        refine lv_aload_n hx hb dX12_type_53 rfl (lv_at hl 0 rfl) ?_
        refine lv_dup hx hb dX12_type_54 rfl ?_
        refine gI C0 w fk_X12_255 (by decide +kernel) dX12_type_55 ?_
        refine lv_iconst (v := 1) hx hb dX12_type_58 (by decide) ?_
        refine lv_iadd hx hb dX12_type_59 ?_
        refine pI C0 w fk_X12_255 fp_X12_4 (by decide +kernel) dX12_type_60 (fun H locs w => ?_)
        obtain ⟨q11, h12, hf⟩ := bdE hf
        have w : Wx B q11 s H locs := by rw [← Option.some.inj h12]; exact w
        refine lv_aload_n hx hb dX12_type_63 rfl (lv_at hl 0 rfl) ?_
        refine gI C0 w fk_X12_255 (by decide +kernel) dX12_type_64 ?_
        obtain rfl := Option.some.inj hf
        exact eI C0 hr w rfl dX12_type_67
      · rw [if_neg c9] at hf
        refine lv_iconst (v := 0) hx hb dX12_type_41 (by decide) ?_
        obtain rfl := Option.some.inj hf
        exact eI C0 hr w rfl dX12_type_42
  · rw [if_pos c3] at hf
    refine lv_iconst (v := 1) hx hb dX12_type_13 (by decide) ?_
    refine lv_goto (tgt := 31) hx hb dX12_type_14 (by decide) ?_
    refine pI C0 w fk_X12_62 fp_X12_5 (by decide +kernel) dX12_type_31 (fun H locs w => ?_)
    refine lv_aload_n hx hb dX12_type_34 rfl (lv_at hl 0 rfl) ?_
    refine gI C0 w fk_X12_62 (by decide +kernel) dX12_type_35 ?_
    refine lv_if_eq (tgt := 43) hx hb dX12_type_38 (by decide) (fun c13 => ?_) (fun c13 => ?_)
    · rw [if_pos c13] at hf
      refine lv_aload_n hx hb dX12_type_43 rfl (lv_at hl 0 rfl) ?_
      refine gR C0 w 227 fk_X12_16 (by decide +kernel) dX12_type_44 ?_
      refine lv_aload_n hx hb dX12_type_47 rfl (lv_at hl 0 rfl) ?_
      refine gI C0 w fk_X12_255 (by decide +kernel) dX12_type_48 ?_
      refine lv_iload_n hx hb dX12_type_51 rfl (lv_at hl 1 rfl) ?_
      obtain ⟨g14, hf⟩ := gdE hf
      refine sI C0 w (n := 120) (by decide +kernel) (inbE g14) dX12_type_52 (fun H locs w => ?_)
      refine lv_aload_n hx hb dX12_type_53 rfl (lv_at hl 0 rfl) ?_
      refine lv_dup hx hb dX12_type_54 rfl ?_
      refine gI C0 w fk_X12_255 (by decide +kernel) dX12_type_55 ?_
      refine lv_iconst (v := 1) hx hb dX12_type_58 (by decide) ?_
      refine lv_iadd hx hb dX12_type_59 ?_
      refine pI C0 w fk_X12_255 fp_X12_4 (by decide +kernel) dX12_type_60 (fun H locs w => ?_)
      obtain ⟨q15, h16, hf⟩ := bdE hf
      have w : Wx B q15 s H locs := by rw [← Option.some.inj h16]; exact w
      refine lv_aload_n hx hb dX12_type_63 rfl (lv_at hl 0 rfl) ?_
      refine gI C0 w fk_X12_255 (by decide +kernel) dX12_type_64 ?_
      obtain rfl := Option.some.inj hf
      exact eI C0 hr w rfl dX12_type_67
    · rw [if_neg c13] at hf
      refine lv_iconst (v := 0) hx hb dX12_type_41 (by decide) ?_
      obtain rfl := Option.some.inj hf
      exact eI C0 hr w rfl dX12_type_42
def f_X12_clearScript (σ : Mem) : Option (Int32 × Mem) :=
  some (((setI σ 224 5 0).1 224 4, setI (setI σ 224 5 0) 224 4 0))
abbrev rm_X12_clearScript : Room := { frames := 0, cells := 0, slots := 0, locals := 0 }
set_option maxHeartbeats 4000000 in
set_option maxRecDepth 100000 in
theorem m_X12_clearScript (l : Launch) (B : Wb) (sz : Nat) (σ : Mem) (q : Int32 × Mem) (hf : f_X12_clearScript σ = some q) : MetC l yX12_clearScript cX12_clearScript 2 (some .int) rm_X12_clearScript B sz σ q.2 [.ref (wA B 224)] (some (.int q.1)) := by
  refine met_in (by decide +kernel) (Nat.le_of_ble_eq_true rfl) ?_
  intro p e s m below meth c C0 hr w hsz ls hl
  have hx := C0.1.1
  have hb := C0.1.2.1
  unfold f_X12_clearScript at hf
  refine lv_aload_n hx hb dX12_clearScript_0 rfl (lv_at hl 0 rfl) ?_
  refine lv_iconst (v := 0) hx hb dX12_clearScript_1 (by decide) ?_
  refine pI C0 w fk_X12_62 fp_X12_5 (by decide +kernel) dX12_clearScript_2 (fun H locs w => ?_)
  refine lv_aload_n hx hb dX12_clearScript_5 rfl (lv_at hl 0 rfl) ?_
  refine gI C0 w fk_X12_255 (by decide +kernel) dX12_clearScript_6 ?_
  refine lv_istore_n (lv' := [(1, .int ((setI σ 224 5 0).1 224 4)), (0, .ref (wA B 224))]) hx hb dX12_clearScript_9 rfl hl (by decide) rfl (fun ls hl => ?_)
  refine lv_aload_n hx hb dX12_clearScript_10 rfl (lv_at hl 1 rfl) ?_
  refine lv_iconst (v := 0) hx hb dX12_clearScript_11 (by decide) ?_
  refine pI C0 w fk_X12_255 fp_X12_4 (by decide +kernel) dX12_clearScript_12 (fun H locs w => ?_)
  refine lv_iload_n hx hb dX12_clearScript_15 rfl (lv_at hl 0 rfl) ?_
  obtain rfl := Option.some.inj hf
  exact eI C0 hr w rfl dX12_clearScript_16
def f_X12_here (σ : Mem) : Option (Int32) :=
  if (σ.1 224 4) ≤ (σ.1 224 18) then (
    some ((-1 : Int32)))
  else (
    gd (inb (σ.1 224 18) 120) (
    some (σ.1 227 (σ.1 224 18).toNatClampNeg)))
abbrev rm_X12_here : Room := { frames := 0, cells := 0, slots := 0, locals := 0 }
set_option maxHeartbeats 4000000 in
set_option maxRecDepth 100000 in
theorem m_X12_here (l : Launch) (B : Wb) (sz : Nat) (σ : Mem) (q : Int32) (hf : f_X12_here σ = some q) : MetC l yX12_here cX12_here 1 (some .int) rm_X12_here B sz σ σ [.ref (wA B 224)] (some (.int q)) := by
  refine met_in (by decide +kernel) (Nat.le_of_ble_eq_true rfl) ?_
  intro p e s m below meth c C0 hr w hsz ls hl
  have hx := C0.1.1
  have hb := C0.1.2.1
  unfold f_X12_here at hf
  refine lv_aload_n hx hb dX12_here_0 rfl (lv_at hl 0 rfl) ?_
  refine gI C0 w fk_X12_258 (by decide +kernel) dX12_here_1 ?_
  refine lv_aload_n hx hb dX12_here_4 rfl (lv_at hl 0 rfl) ?_
  refine gI C0 w fk_X12_255 (by decide +kernel) dX12_here_5 ?_
  refine lv_icmp_ge (tgt := 23) hx hb dX12_here_8 (by decide) (fun c1 => ?_) (fun c1 => ?_)
  · rw [if_pos c1] at hf
    refine lv_iconst (v := (-1)) hx hb dX12_here_23 (by decide) ?_
    obtain rfl := Option.some.inj hf
    exact eI C0 hr w rfl dX12_here_24
  · rw [if_neg c1] at hf
    refine lv_aload_n hx hb dX12_here_11 rfl (lv_at hl 0 rfl) ?_
    refine gR C0 w 227 fk_X12_16 (by decide +kernel) dX12_here_12 ?_
    refine lv_aload_n hx hb dX12_here_15 rfl (lv_at hl 0 rfl) ?_
    refine gI C0 w fk_X12_258 (by decide +kernel) dX12_here_16 ?_
    obtain ⟨g2, hf⟩ := gdE hf
    refine aI C0 w (n := 120) (by decide +kernel) (inbE g2) dX12_here_19 ?_
    refine lv_goto (tgt := 24) hx hb dX12_here_20 (by decide) ?_
    obtain rfl := Option.some.inj hf
    exact eI C0 hr w rfl dX12_here_24
def f_X12_spaces_5 (x1 : Int32) : Nat → Mem → Option (Mem)
  | 0, _ => none
  | n + 1, σ =>
    bd (f_X12_here σ) (fun q1 =>
    if q1 = 32 then (
      f_X12_spaces_5 x1 n (setI σ 224 18 ((σ.1 224 18) + 1)))
    else (
      some σ))
def f_X12_spaces (σ : Mem) : Option (Int32 × Mem) :=
  bd (f_X12_spaces_5 (σ.1 224 18) 100000 σ) (fun q1 =>
  if (q1.1 224 18) ≤ (σ.1 224 18) then (
    some ((0, q1)))
  else (
    some ((1, q1))))
abbrev rm_X12_spaces : Room := { frames := 1, cells := 0, slots := 0, locals := 20 }
set_option maxHeartbeats 4000000 in
set_option maxRecDepth 100000 in
theorem lp_X12_spaces_5 {p : Program} {e : Env} {s : State} {m : MethodId} {args : Array Value} {below : List Frame} {meth : Method} {c : Code} {Q : State → Prop} (l : Launch) (B : Wb) (C0 : Cx p s m args meth c cX12_spaces 2 RX12) (x1 : Int32) : ∀ (n : Nat) (σ : Mem) (o : Mem) (H : Heap) (locs : List Loc) (ls : Array Slot), f_X12_spaces_5 x1 n σ = some o → Wx B σ s H locs → lv_has ls 2 [(0, .ref (wA B 224)), (1, .int x1)] → (∀ (H : Heap) (locs : List Loc) (ls : Array Slot), Wx B o s H locs → lv_has ls 2 [(0, .ref (wA B 224)), (1, .int x1)] → W p l e rm_X12_spaces s m args below meth c H locs 0 0 Q (F0 m 27 ls [])) → W p l e rm_X12_spaces s m args below meth c H locs 0 0 Q (F0 m 5 ls []) := by
  have hx := C0.1.1
  have hb := C0.1.2.1
  intro n
  induction n with
  | zero =>
    intro σ o H locs ls hf w hl hK
    cases hf
  | succ n ih =>
    intro σ o H locs ls hf w hl hK
    rw [f_X12_spaces_5] at hf
    refine lv_aload_n hx hb dX12_spaces_5 rfl (lv_at hl 0 rfl) ?_
    obtain ⟨q1, h2, hf⟩ := bdE hf
    refine cV (As := []) (rest := []) (k := 224) (ci := 10) (T := TX12) (N := 22) C0 w (m_X12_here l B _ σ q1 h2) ky_X12_here kv_X12_here lk_X12_261 rfl (by decide +kernel) ⟨Nat.le_of_ble_eq_true rfl, Nat.le_of_ble_eq_true rfl⟩ ⟨Nat.le_of_ble_eq_true rfl, Nat.le_of_ble_eq_true rfl⟩ rfl (by rfl) (Nat.le_of_ble_eq_true rfl) hl.1 dX12_spaces_6 (fun H locs w => ?_)
    refine lv_bipush (v := 32) hx hb dX12_spaces_9 (by decide) ?_
    refine lv_icmp_ne (tgt := 27) hx hb dX12_spaces_11 (by decide) (fun c3 => ?_) (fun c3 => ?_)
    · rw [if_neg c3] at hf
      obtain rfl := Option.some.inj hf
      exact hK _ _ _ w (lv_sub hl [0, 1] rfl)
    · rw [if_pos c3] at hf
      refine lv_aload_n hx hb dX12_spaces_14 rfl (lv_at hl 0 rfl) ?_
      refine lv_dup hx hb dX12_spaces_15 rfl ?_
      refine gI C0 w fk_X12_258 (by decide +kernel) dX12_spaces_16 ?_
      refine lv_iconst (v := 1) hx hb dX12_spaces_19 (by decide) ?_
      refine lv_iadd hx hb dX12_spaces_20 ?_
      refine pI C0 w fk_X12_258 fp_X12_18 (by decide +kernel) dX12_spaces_21 (fun H locs w => ?_)
      refine lv_goto (tgt := 5) hx hb dX12_spaces_24 (by decide) ?_
      exact ih (setI σ 224 18 ((σ.1 224 18) + 1)) _ _ _ _ hf w (lv_sub hl [0, 1] rfl) hK
set_option maxHeartbeats 4000000 in
set_option maxRecDepth 100000 in
theorem m_X12_spaces (l : Launch) (B : Wb) (sz : Nat) (σ : Mem) (q : Int32 × Mem) (hf : f_X12_spaces σ = some q) : MetC l yX12_spaces cX12_spaces 2 (some .boolean) rm_X12_spaces B sz σ q.2 [.ref (wA B 224)] (some (.int q.1)) := by
  refine met_in (by decide +kernel) (Nat.le_of_ble_eq_true rfl) ?_
  intro p e s m below meth c C0 hr w hsz ls hl
  have hx := C0.1.1
  have hb := C0.1.2.1
  unfold f_X12_spaces at hf
  refine lv_aload_n hx hb dX12_spaces_0 rfl (lv_at hl 0 rfl) ?_
  refine gI C0 w fk_X12_258 (by decide +kernel) dX12_spaces_1 ?_
  refine lv_istore_n (lv' := [(1, .int (σ.1 224 18)), (0, .ref (wA B 224))]) hx hb dX12_spaces_4 rfl hl (by decide) rfl (fun ls hl => ?_)
  obtain ⟨q1, h2, hf⟩ := bdE hf
  refine lp_X12_spaces_5 l B C0 (σ.1 224 18) 100000 σ q1 _ _ _ h2 w (lv_sub hl [1, 0] rfl) (fun H locs ls w hl => ?_)
  refine lv_aload_n hx hb dX12_spaces_27 rfl (lv_at hl 0 rfl) ?_
  refine gI C0 w fk_X12_258 (by decide +kernel) dX12_spaces_28 ?_
  refine lv_iload_n hx hb dX12_spaces_31 rfl (lv_at hl 1 rfl) ?_
  refine lv_icmp_le (tgt := 39) hx hb dX12_spaces_32 (by decide) (fun c3 => ?_) (fun c3 => ?_)
  · rw [if_pos c3] at hf
    refine lv_iconst (v := 0) hx hb dX12_spaces_39 (by decide) ?_
    obtain rfl := Option.some.inj hf
    exact eI C0 hr w (bzE (x := 0) (by decide)) dX12_spaces_40
  · rw [if_neg c3] at hf
    refine lv_iconst (v := 1) hx hb dX12_spaces_35 (by decide) ?_
    refine lv_goto (tgt := 40) hx hb dX12_spaces_36 (by decide) ?_
    obtain rfl := Option.some.inj hf
    exact eI C0 hr w (bzE (x := 1) (by decide)) dX12_spaces_40
def f_X12_kindOf (x0 : Int64) (σ : Mem) : Option (Int32) :=
  if x0 = 1880313 then (
    if x0 = 1880313 then (
      some 0)
    else (
      some 1))
  else (
    if x0 = 1931749 then (
      if x0 = 1880313 then (
        some 0)
      else (
        some 1))
    else (
      if x0 = 209286764 then (
        if x0 = 209286764 then (
          some 2)
        else (
          some 3))
      else (
        if x0 = 245152485 then (
          if x0 = 209286764 then (
            some 2)
          else (
            some 3))
        else (
          if x0 = 244872677 then (
            if x0 = 244872677 then (
              some 4)
            else (
              some 5))
          else (
            if x0 = 31121306352 then (
              if x0 = 244872677 then (
                some 4)
              else (
                some 5))
            else (
              if x0 = 3980863994472 then (
                some 6)
              else (
                if x0 = 215643756 then (
                  some 7)
                else (
                  some ((-1 : Int32))))))))))
abbrev rm_X12_kindOf : Room := { frames := 0, cells := 0, slots := 0, locals := 0 }
set_option maxHeartbeats 4000000 in
set_option maxRecDepth 100000 in
theorem m_X12_kindOf (l : Launch) (B : Wb) (sz : Nat) (σ : Mem) (x0 : Int64) (q : Int32) (hf : f_X12_kindOf x0 σ = some q) : MetC l yX12_kindOf cX12_kindOf 2 (some .int) rm_X12_kindOf B sz σ σ [.long x0] (some (.int q)) := by
  refine met_in (by decide +kernel) (Nat.le_of_ble_eq_true rfl) ?_
  intro p e s m below meth c C0 hr w hsz ls hl
  have hx := C0.1.1
  have hb := C0.1.2.1
  unfold f_X12_kindOf at hf
  refine lv_lload_n hx hb dX12_kindOf_0 rfl (lv_at hl 0 rfl) ?_
  refine kLg C0 1880313 kc_X12_264 dX12_kindOf_1 ?_
  refine lc_eq (tgt := 16) C0 dX12_kindOf_4 dX12_kindOf_5 (by decide) (fun c1 => ?_) (fun c1 => ?_)
  · rw [if_pos c1] at hf
    refine lv_lload_n hx hb dX12_kindOf_16 rfl (lv_at hl 0 rfl) ?_
    refine kLg C0 1880313 kc_X12_264 dX12_kindOf_17 ?_
    refine lc_ne (tgt := 28) C0 dX12_kindOf_20 dX12_kindOf_21 (by decide) (fun c2 => ?_) (fun c2 => ?_)
    · rw [if_neg c2] at hf
      refine lv_iconst (v := 1) hx hb dX12_kindOf_28 (by decide) ?_
      obtain rfl := Option.some.inj hf
      exact eI C0 hr w rfl dX12_kindOf_29
    · rw [if_pos c2] at hf
      refine lv_iconst (v := 0) hx hb dX12_kindOf_24 (by decide) ?_
      refine lv_goto (tgt := 29) hx hb dX12_kindOf_25 (by decide) ?_
      obtain rfl := Option.some.inj hf
      exact eI C0 hr w rfl dX12_kindOf_29
  · rw [if_neg c1] at hf
    refine lv_lload_n hx hb dX12_kindOf_8 rfl (lv_at hl 0 rfl) ?_
    refine kLg C0 1931749 kc_X12_266 dX12_kindOf_9 ?_
    refine lc_ne (tgt := 30) C0 dX12_kindOf_12 dX12_kindOf_13 (by decide) (fun c3 => ?_) (fun c3 => ?_)
    · rw [if_neg c3] at hf
      refine lv_lload_n hx hb dX12_kindOf_30 rfl (lv_at hl 0 rfl) ?_
      refine kLg C0 209286764 kc_X12_268 dX12_kindOf_31 ?_
      refine lc_eq (tgt := 46) C0 dX12_kindOf_34 dX12_kindOf_35 (by decide) (fun c4 => ?_) (fun c4 => ?_)
      · rw [if_pos c4] at hf
        refine lv_lload_n hx hb dX12_kindOf_46 rfl (lv_at hl 0 rfl) ?_
        refine kLg C0 209286764 kc_X12_268 dX12_kindOf_47 ?_
        refine lc_ne (tgt := 58) C0 dX12_kindOf_50 dX12_kindOf_51 (by decide) (fun c5 => ?_) (fun c5 => ?_)
        · rw [if_neg c5] at hf
          refine lv_iconst (v := 3) hx hb dX12_kindOf_58 (by decide) ?_
          obtain rfl := Option.some.inj hf
          exact eI C0 hr w rfl dX12_kindOf_59
        · rw [if_pos c5] at hf
          refine lv_iconst (v := 2) hx hb dX12_kindOf_54 (by decide) ?_
          refine lv_goto (tgt := 59) hx hb dX12_kindOf_55 (by decide) ?_
          obtain rfl := Option.some.inj hf
          exact eI C0 hr w rfl dX12_kindOf_59
      · rw [if_neg c4] at hf
        refine lv_lload_n hx hb dX12_kindOf_38 rfl (lv_at hl 0 rfl) ?_
        refine kLg C0 245152485 kc_X12_270 dX12_kindOf_39 ?_
        refine lc_ne (tgt := 60) C0 dX12_kindOf_42 dX12_kindOf_43 (by decide) (fun c6 => ?_) (fun c6 => ?_)
        · rw [if_neg c6] at hf
          refine lv_lload_n hx hb dX12_kindOf_60 rfl (lv_at hl 0 rfl) ?_
          refine kLg C0 244872677 kc_X12_272 dX12_kindOf_61 ?_
          refine lc_eq (tgt := 76) C0 dX12_kindOf_64 dX12_kindOf_65 (by decide) (fun c7 => ?_) (fun c7 => ?_)
          · rw [if_pos c7] at hf
            refine lv_lload_n hx hb dX12_kindOf_76 rfl (lv_at hl 0 rfl) ?_
            refine kLg C0 244872677 kc_X12_272 dX12_kindOf_77 ?_
            refine lc_ne (tgt := 88) C0 dX12_kindOf_80 dX12_kindOf_81 (by decide) (fun c8 => ?_) (fun c8 => ?_)
            · rw [if_neg c8] at hf
              refine lv_iconst (v := 5) hx hb dX12_kindOf_88 (by decide) ?_
              obtain rfl := Option.some.inj hf
              exact eI C0 hr w rfl dX12_kindOf_89
            · rw [if_pos c8] at hf
              refine lv_iconst (v := 4) hx hb dX12_kindOf_84 (by decide) ?_
              refine lv_goto (tgt := 89) hx hb dX12_kindOf_85 (by decide) ?_
              obtain rfl := Option.some.inj hf
              exact eI C0 hr w rfl dX12_kindOf_89
          · rw [if_neg c7] at hf
            refine lv_lload_n hx hb dX12_kindOf_68 rfl (lv_at hl 0 rfl) ?_
            refine kLg C0 31121306352 kc_X12_274 dX12_kindOf_69 ?_
            refine lc_ne (tgt := 90) C0 dX12_kindOf_72 dX12_kindOf_73 (by decide) (fun c9 => ?_) (fun c9 => ?_)
            · rw [if_neg c9] at hf
              refine lv_lload_n hx hb dX12_kindOf_90 rfl (lv_at hl 0 rfl) ?_
              refine kLg C0 3980863994472 kc_X12_276 dX12_kindOf_91 ?_
              refine lc_ne (tgt := 103) C0 dX12_kindOf_94 dX12_kindOf_95 (by decide) (fun c10 => ?_) (fun c10 => ?_)
              · rw [if_neg c10] at hf
                refine lv_lload_n hx hb dX12_kindOf_103 rfl (lv_at hl 0 rfl) ?_
                refine kLg C0 215643756 kc_X12_278 dX12_kindOf_104 ?_
                refine lc_ne (tgt := 116) C0 dX12_kindOf_107 dX12_kindOf_108 (by decide) (fun c11 => ?_) (fun c11 => ?_)
                · rw [if_neg c11] at hf
                  refine lv_iconst (v := (-1)) hx hb dX12_kindOf_116 (by decide) ?_
                  obtain rfl := Option.some.inj hf
                  exact eI C0 hr w rfl dX12_kindOf_117
                · rw [if_pos c11] at hf
                  refine lv_bipush (v := 7) hx hb dX12_kindOf_111 (by decide) ?_
                  refine lv_goto (tgt := 117) hx hb dX12_kindOf_113 (by decide) ?_
                  obtain rfl := Option.some.inj hf
                  exact eI C0 hr w rfl dX12_kindOf_117
              · rw [if_pos c10] at hf
                refine lv_bipush (v := 6) hx hb dX12_kindOf_98 (by decide) ?_
                refine lv_goto (tgt := 117) hx hb dX12_kindOf_100 (by decide) ?_
                obtain rfl := Option.some.inj hf
                exact eI C0 hr w rfl dX12_kindOf_117
            · rw [if_pos c9] at hf
              refine lv_lload_n hx hb dX12_kindOf_76 rfl (lv_at hl 0 rfl) ?_
              refine kLg C0 244872677 kc_X12_272 dX12_kindOf_77 ?_
              refine lc_ne (tgt := 88) C0 dX12_kindOf_80 dX12_kindOf_81 (by decide) (fun c12 => ?_) (fun c12 => ?_)
              · rw [if_neg c12] at hf
                refine lv_iconst (v := 5) hx hb dX12_kindOf_88 (by decide) ?_
                obtain rfl := Option.some.inj hf
                exact eI C0 hr w rfl dX12_kindOf_89
              · rw [if_pos c12] at hf
                refine lv_iconst (v := 4) hx hb dX12_kindOf_84 (by decide) ?_
                refine lv_goto (tgt := 89) hx hb dX12_kindOf_85 (by decide) ?_
                obtain rfl := Option.some.inj hf
                exact eI C0 hr w rfl dX12_kindOf_89
        · rw [if_pos c6] at hf
          refine lv_lload_n hx hb dX12_kindOf_46 rfl (lv_at hl 0 rfl) ?_
          refine kLg C0 209286764 kc_X12_268 dX12_kindOf_47 ?_
          refine lc_ne (tgt := 58) C0 dX12_kindOf_50 dX12_kindOf_51 (by decide) (fun c13 => ?_) (fun c13 => ?_)
          · rw [if_neg c13] at hf
            refine lv_iconst (v := 3) hx hb dX12_kindOf_58 (by decide) ?_
            obtain rfl := Option.some.inj hf
            exact eI C0 hr w rfl dX12_kindOf_59
          · rw [if_pos c13] at hf
            refine lv_iconst (v := 2) hx hb dX12_kindOf_54 (by decide) ?_
            refine lv_goto (tgt := 59) hx hb dX12_kindOf_55 (by decide) ?_
            obtain rfl := Option.some.inj hf
            exact eI C0 hr w rfl dX12_kindOf_59
    · rw [if_pos c3] at hf
      refine lv_lload_n hx hb dX12_kindOf_16 rfl (lv_at hl 0 rfl) ?_
      refine kLg C0 1880313 kc_X12_264 dX12_kindOf_17 ?_
      refine lc_ne (tgt := 28) C0 dX12_kindOf_20 dX12_kindOf_21 (by decide) (fun c14 => ?_) (fun c14 => ?_)
      · rw [if_neg c14] at hf
        refine lv_iconst (v := 1) hx hb dX12_kindOf_28 (by decide) ?_
        obtain rfl := Option.some.inj hf
        exact eI C0 hr w rfl dX12_kindOf_29
      · rw [if_pos c14] at hf
        refine lv_iconst (v := 0) hx hb dX12_kindOf_24 (by decide) ?_
        refine lv_goto (tgt := 29) hx hb dX12_kindOf_25 (by decide) ?_
        obtain rfl := Option.some.inj hf
        exact eI C0 hr w rfl dX12_kindOf_29
def f_X12_readWord_7 (x1 : Int32) (x2 : Int32) : Nat → Int64 → Mem → Option (Int64 × Mem)
  | 0, _, _ => none
  | n + 1, x3, σ =>
    bd (f_X12_here σ) (fun q1 =>
    bd (f_X12_in q1.toInt64 97 122 σ) (fun q3 =>
    if q3 = 0 then (
      some ((x3, σ)))
    else (
      if 6 ≤ ((σ.1 224 18) - x2) then (
        f_X12_readWord_7 x1 x2 n ((-1 : Int64)) (setI σ 224 18 ((σ.1 224 18) + 1)))
      else (
        bd (f_X12_here σ) (fun q7 =>
        f_X12_readWord_7 x1 x2 n ((x3 * 128) + q7.toInt64) (setI σ 224 18 ((σ.1 224 18) + 1)))))))
def f_X12_readWord (x1 : Int32) (σ : Mem) : Option (Int32 × Mem) :=
  bd (f_X12_readWord_7 x1 (σ.1 224 18) 100000 0 σ) (fun q1 =>
  if (q1.2.1 224 18) = (σ.1 224 18) then (
    some ((0, q1.2)))
  else (
    if ((q1.2.1 224 18) - (σ.1 224 18)) ≤ 6 then (
      bd (f_X12_kindOf q1.1 q1.2) (fun q5 =>
      gd (inb x1 90) (
      gd (inb x1 90) (
      if ((setI q1.2 238 x1.toNatClampNeg q5).1 238 x1.toNatClampNeg) = ((-1 : Int32)) then (
        gd (inb x1 90) (
        if ((setI (setI q1.2 238 x1.toNatClampNeg q5) 224 18 (σ.1 224 18)).1 238 x1.toNatClampNeg) = ((-1 : Int32)) then (
          some ((0, setI (setI q1.2 238 x1.toNatClampNeg q5) 224 18 (σ.1 224 18))))
        else (
          some ((1, setI (setI q1.2 238 x1.toNatClampNeg q5) 224 18 (σ.1 224 18))))))
      else (
        gd (inb x1 90) (
        if ((setI (setI q1.2 238 x1.toNatClampNeg q5) 224 18 ((setI q1.2 238 x1.toNatClampNeg q5).1 224 18)).1 238 x1.toNatClampNeg) = ((-1 : Int32)) then (
          some ((0, setI (setI q1.2 238 x1.toNatClampNeg q5) 224 18 ((setI q1.2 238 x1.toNatClampNeg q5).1 224 18))))
        else (
          some ((1, setI (setI q1.2 238 x1.toNatClampNeg q5) 224 18 ((setI q1.2 238 x1.toNatClampNeg q5).1 224 18))))))))))
    else (
      gd (inb x1 90) (
      gd (inb x1 90) (
      if ((setI q1.2 238 x1.toNatClampNeg ((-1 : Int32))).1 238 x1.toNatClampNeg) = ((-1 : Int32)) then (
        gd (inb x1 90) (
        if ((setI (setI q1.2 238 x1.toNatClampNeg ((-1 : Int32))) 224 18 (σ.1 224 18)).1 238 x1.toNatClampNeg) = ((-1 : Int32)) then (
          some ((0, setI (setI q1.2 238 x1.toNatClampNeg ((-1 : Int32))) 224 18 (σ.1 224 18))))
        else (
          some ((1, setI (setI q1.2 238 x1.toNatClampNeg ((-1 : Int32))) 224 18 (σ.1 224 18))))))
      else (
        gd (inb x1 90) (
        if ((setI (setI q1.2 238 x1.toNatClampNeg ((-1 : Int32))) 224 18 ((setI q1.2 238 x1.toNatClampNeg ((-1 : Int32))).1 224 18)).1 238 x1.toNatClampNeg) = ((-1 : Int32)) then (
          some ((0, setI (setI q1.2 238 x1.toNatClampNeg ((-1 : Int32))) 224 18 ((setI q1.2 238 x1.toNatClampNeg ((-1 : Int32))).1 224 18))))
        else (
          some ((1, setI (setI q1.2 238 x1.toNatClampNeg ((-1 : Int32))) 224 18 ((setI q1.2 238 x1.toNatClampNeg ((-1 : Int32))).1 224 18)))))))))))
abbrev rm_X12_readWord : Room := { frames := 1, cells := 0, slots := 0, locals := 25 }
set_option maxHeartbeats 4000000 in
set_option maxRecDepth 100000 in
theorem lp_X12_readWord_7 {p : Program} {e : Env} {s : State} {m : MethodId} {args : Array Value} {below : List Frame} {meth : Method} {c : Code} {Q : State → Prop} (l : Launch) (B : Wb) (C0 : Cx p s m args meth c cX12_readWord 5 RX12) (x1 : Int32) (x2 : Int32) : ∀ (n : Nat) (x3 : Int64) (σ : Mem) (o : Int64 × Mem) (H : Heap) (locs : List Loc) (ls : Array Slot), f_X12_readWord_7 x1 x2 n x3 σ = some o → Wx B σ s H locs → lv_has ls 5 [(0, .ref (wA B 224)), (1, .int x1), (2, .int x2), (3, .long x3)] → (∀ (H : Heap) (locs : List Loc) (ls : Array Slot), Wx B o.2 s H locs → lv_has ls 5 [(0, .ref (wA B 224)), (1, .int x1), (2, .int x2), (3, .long o.1)] → W p l e rm_X12_readWord s m args below meth c H locs 0 0 Q (F0 m 66 ls [])) → W p l e rm_X12_readWord s m args below meth c H locs 0 0 Q (F0 m 7 ls []) := by
  have hx := C0.1.1
  have hb := C0.1.2.1
  intro n
  induction n with
  | zero =>
    intro x3 σ o H locs ls hf w hl hK
    cases hf
  | succ n ih =>
    intro x3 σ o H locs ls hf w hl hK
    rw [f_X12_readWord_7] at hf
    refine lv_aload_n hx hb dX12_readWord_7 rfl (lv_at hl 0 rfl) ?_
    obtain ⟨q1, h2, hf⟩ := bdE hf
    refine cV (As := []) (rest := []) (k := 224) (ci := 10) (T := TX12) (N := 22) C0 w (m_X12_here l B _ σ q1 h2) ky_X12_here kv_X12_here lk_X12_261 rfl (by decide +kernel) ⟨Nat.le_of_ble_eq_true rfl, Nat.le_of_ble_eq_true rfl⟩ ⟨Nat.le_of_ble_eq_true rfl, Nat.le_of_ble_eq_true rfl⟩ rfl (by rfl) (Nat.le_of_ble_eq_true rfl) hl.1 dX12_readWord_8 (fun H locs w => ?_)
    refine lv_i2l hx hb dX12_readWord_11 rfl ?_
    refine kLg C0 97 kc_X12_280 dX12_readWord_12 ?_
    refine kLg C0 122 kc_X12_282 dX12_readWord_15 ?_
    obtain ⟨q3, h4, hf⟩ := bdE hf
    refine cS (As := [.long q1.toInt64, .long 97, .long 122]) (rest := []) C0 w (m_X12_in l B _ σ q1.toInt64 97 122 q3 h4) ky_X12_in ks_X12_in lk_X12_79 ⟨Nat.le_of_ble_eq_true rfl, Nat.le_of_ble_eq_true rfl⟩ ⟨Nat.le_of_ble_eq_true rfl, Nat.le_of_ble_eq_true rfl⟩ rfl (by rfl) (Nat.le_of_ble_eq_true rfl) hl.1 dX12_readWord_18 (fun H locs w => ?_)
    refine lv_if_eq (tgt := 66) hx hb dX12_readWord_21 (by decide) (fun c5 => ?_) (fun c5 => ?_)
    · rw [if_pos c5] at hf
      obtain rfl := Option.some.inj hf
      exact hK _ _ _ w (lv_sub hl [0, 1, 2, 3] rfl)
    · rw [if_neg c5] at hf
      refine lv_aload_n hx hb dX12_readWord_24 rfl (lv_at hl 0 rfl) ?_
      refine gI C0 w fk_X12_258 (by decide +kernel) dX12_readWord_25 ?_
      refine lv_iload_n hx hb dX12_readWord_28 rfl (lv_at hl 2 rfl) ?_
      refine lv_isub hx hb dX12_readWord_29 ?_
      refine lv_bipush (v := 6) hx hb dX12_readWord_30 (by decide) ?_
      refine lv_icmp_ge (tgt := 49) hx hb dX12_readWord_32 (by decide) (fun c6 => ?_) (fun c6 => ?_)
      · rw [if_pos c6] at hf
        refine kLg C0 (-1) kc_X12_87 dX12_readWord_49 ?_
        refine lv_lstore_n (lv' := [(3, .long ((-1 : Int64))), (0, .ref (wA B 224)), (1, .int x1), (2, .int x2)]) hx hb dX12_readWord_52 rfl hl (by decide) rfl (fun ls hl => ?_)
        refine lv_aload_n hx hb dX12_readWord_53 rfl (lv_at hl 1 rfl) ?_
        refine lv_dup hx hb dX12_readWord_54 rfl ?_
        refine gI C0 w fk_X12_258 (by decide +kernel) dX12_readWord_55 ?_
        refine lv_iconst (v := 1) hx hb dX12_readWord_58 (by decide) ?_
        refine lv_iadd hx hb dX12_readWord_59 ?_
        refine pI C0 w fk_X12_258 fp_X12_18 (by decide +kernel) dX12_readWord_60 (fun H locs w => ?_)
        refine lv_goto (tgt := 7) hx hb dX12_readWord_63 (by decide) ?_
        exact ih ((-1 : Int64)) (setI σ 224 18 ((σ.1 224 18) + 1)) _ _ _ _ hf w (lv_sub hl [1, 2, 3, 0] rfl) hK
      · rw [if_neg c6] at hf
        refine lv_lload_n hx hb dX12_readWord_35 rfl (lv_at hl 3 rfl) ?_
        refine kLg C0 128 kc_X12_284 dX12_readWord_36 ?_
        refine lv_lmul hx hb dX12_readWord_39 ?_
        refine lv_aload_n hx hb dX12_readWord_40 rfl (lv_at hl 0 rfl) ?_
        obtain ⟨q7, h8, hf⟩ := bdE hf
        refine cV (As := []) (rest := [.long (x3 * 128)]) (k := 224) (ci := 10) (T := TX12) (N := 22) C0 w (m_X12_here l B _ σ q7 h8) ky_X12_here kv_X12_here lk_X12_261 rfl (by decide +kernel) ⟨Nat.le_of_ble_eq_true rfl, Nat.le_of_ble_eq_true rfl⟩ ⟨Nat.le_of_ble_eq_true rfl, Nat.le_of_ble_eq_true rfl⟩ rfl (by rfl) (Nat.le_of_ble_eq_true rfl) hl.1 dX12_readWord_41 (fun H locs w => ?_)
        refine lv_i2l hx hb dX12_readWord_44 rfl ?_
        refine lv_ladd hx hb dX12_readWord_45 ?_
        refine lv_goto (tgt := 52) hx hb dX12_readWord_46 (by decide) ?_
        refine lv_lstore_n (lv' := [(3, .long ((x3 * 128) + q7.toInt64)), (0, .ref (wA B 224)), (1, .int x1), (2, .int x2)]) hx hb dX12_readWord_52 rfl hl (by decide) rfl (fun ls hl => ?_)
        refine lv_aload_n hx hb dX12_readWord_53 rfl (lv_at hl 1 rfl) ?_
        refine lv_dup hx hb dX12_readWord_54 rfl ?_
        refine gI C0 w fk_X12_258 (by decide +kernel) dX12_readWord_55 ?_
        refine lv_iconst (v := 1) hx hb dX12_readWord_58 (by decide) ?_
        refine lv_iadd hx hb dX12_readWord_59 ?_
        refine pI C0 w fk_X12_258 fp_X12_18 (by decide +kernel) dX12_readWord_60 (fun H locs w => ?_)
        refine lv_goto (tgt := 7) hx hb dX12_readWord_63 (by decide) ?_
        exact ih ((x3 * 128) + q7.toInt64) (setI σ 224 18 ((σ.1 224 18) + 1)) _ _ _ _ hf w (lv_sub hl [1, 2, 3, 0] rfl) hK
set_option maxHeartbeats 4000000 in
set_option maxRecDepth 100000 in
theorem m_X12_readWord (l : Launch) (B : Wb) (sz : Nat) (σ : Mem) (x1 : Int32) (q : Int32 × Mem) (hf : f_X12_readWord x1 σ = some q) : MetC l yX12_readWord cX12_readWord 5 (some .boolean) rm_X12_readWord B sz σ q.2 [.ref (wA B 224), .int x1] (some (.int q.1)) := by
  refine met_in (by decide +kernel) (Nat.le_of_ble_eq_true rfl) ?_
  intro p e s m below meth c C0 hr w hsz ls hl
  have hx := C0.1.1
  have hb := C0.1.2.1
  unfold f_X12_readWord at hf
  refine lv_aload_n hx hb dX12_readWord_0 rfl (lv_at hl 0 rfl) ?_
  refine gI C0 w fk_X12_258 (by decide +kernel) dX12_readWord_1 ?_
  refine lv_istore_n (lv' := [(2, .int (σ.1 224 18)), (0, .ref (wA B 224)), (1, .int x1)]) hx hb dX12_readWord_4 rfl hl (by decide) rfl (fun ls hl => ?_)
  refine lv_lconst (v := 0) hx hb dX12_readWord_5 (by decide) ?_
  refine lv_lstore_n (lv' := [(3, .long 0), (2, .int (σ.1 224 18)), (0, .ref (wA B 224)), (1, .int x1)]) hx hb dX12_readWord_6 rfl hl (by decide) rfl (fun ls hl => ?_)
  obtain ⟨q1, h2, hf⟩ := bdE hf
  refine lp_X12_readWord_7 l B C0 x1 (σ.1 224 18) 100000 0 σ q1 _ _ _ h2 w (lv_sub hl [2, 3, 1, 0] rfl) (fun H locs ls w hl => ?_)
  refine lv_aload_n hx hb dX12_readWord_66 rfl (lv_at hl 0 rfl) ?_
  refine gI C0 w fk_X12_258 (by decide +kernel) dX12_readWord_67 ?_
  refine lv_iload_n hx hb dX12_readWord_70 rfl (lv_at hl 2 rfl) ?_
  refine lv_icmp_ne (tgt := 76) hx hb dX12_readWord_71 (by decide) (fun c3 => ?_) (fun c3 => ?_)
  · rw [if_neg c3] at hf
    refine lv_aload_n hx hb dX12_readWord_76 rfl (lv_at hl 0 rfl) ?_
    refine gR C0 w 238 fk_X12_51 (by decide +kernel) dX12_readWord_77 ?_
    refine lv_iload_n hx hb dX12_readWord_80 rfl (lv_at hl 1 rfl) ?_
    refine lv_aload_n hx hb dX12_readWord_81 rfl (lv_at hl 0 rfl) ?_
    refine gI C0 w fk_X12_258 (by decide +kernel) dX12_readWord_82 ?_
    refine lv_iload_n hx hb dX12_readWord_85 rfl (lv_at hl 2 rfl) ?_
    refine lv_isub hx hb dX12_readWord_86 ?_
    refine lv_bipush (v := 6) hx hb dX12_readWord_87 (by decide) ?_
    refine lv_icmp_le (tgt := 96) hx hb dX12_readWord_89 (by decide) (fun c4 => ?_) (fun c4 => ?_)
    · rw [if_pos c4] at hf
      refine lv_lload_n hx hb dX12_readWord_96 rfl (lv_at hl 3 rfl) ?_
      obtain ⟨q5, h6, hf⟩ := bdE hf
      refine cS (As := [.long q1.1]) (rest := [.int x1, .ref (wA B 238)]) C0 w (m_X12_kindOf l B _ q1.2 q1.1 q5 h6) ky_X12_kindOf ks_X12_kindOf lk_X12_286 ⟨Nat.le_of_ble_eq_true rfl, Nat.le_of_ble_eq_true rfl⟩ ⟨Nat.le_of_ble_eq_true rfl, Nat.le_of_ble_eq_true rfl⟩ rfl (by rfl) (Nat.le_of_ble_eq_true rfl) hl.1 dX12_readWord_97 (fun H locs w => ?_)
      obtain ⟨g7, hf⟩ := gdE hf
      refine sI C0 w (n := 90) (by decide +kernel) (inbE g7) dX12_readWord_100 (fun H locs w => ?_)
      refine lv_aload_n hx hb dX12_readWord_101 rfl (lv_at hl 0 rfl) ?_
      refine lv_aload_n hx hb dX12_readWord_102 rfl (lv_at hl 0 rfl) ?_
      refine gR C0 w 238 fk_X12_51 (by decide +kernel) dX12_readWord_103 ?_
      refine lv_iload_n hx hb dX12_readWord_106 rfl (lv_at hl 1 rfl) ?_
      obtain ⟨g8, hf⟩ := gdE hf
      refine aI C0 w (n := 90) (by decide +kernel) (inbE g8) dX12_readWord_107 ?_
      refine lv_iconst (v := (-1)) hx hb dX12_readWord_108 (by decide) ?_
      refine lv_icmp_ne (tgt := 116) hx hb dX12_readWord_109 (by decide) (fun c9 => ?_) (fun c9 => ?_)
      · rw [if_neg c9] at hf
        refine lv_aload_n hx hb dX12_readWord_116 rfl (lv_at hl 0 rfl) ?_
        refine gI C0 w fk_X12_258 (by decide +kernel) dX12_readWord_117 ?_
        refine pI C0 w fk_X12_258 fp_X12_18 (by decide +kernel) dX12_readWord_120 (fun H locs w => ?_)
        refine lv_aload_n hx hb dX12_readWord_123 rfl (lv_at hl 0 rfl) ?_
        refine gR C0 w 238 fk_X12_51 (by decide +kernel) dX12_readWord_124 ?_
        refine lv_iload_n hx hb dX12_readWord_127 rfl (lv_at hl 1 rfl) ?_
        obtain ⟨g10, hf⟩ := gdE hf
        refine aI C0 w (n := 90) (by decide +kernel) (inbE g10) dX12_readWord_128 ?_
        refine lv_iconst (v := (-1)) hx hb dX12_readWord_129 (by decide) ?_
        refine lv_icmp_eq (tgt := 137) hx hb dX12_readWord_130 (by decide) (fun c11 => ?_) (fun c11 => ?_)
        · rw [if_pos c11] at hf
          refine lv_iconst (v := 0) hx hb dX12_readWord_137 (by decide) ?_
          obtain rfl := Option.some.inj hf
          exact eI C0 hr w (bzE (x := 0) (by decide)) dX12_readWord_138
        · rw [if_neg c11] at hf
          refine lv_iconst (v := 1) hx hb dX12_readWord_133 (by decide) ?_
          refine lv_goto (tgt := 138) hx hb dX12_readWord_134 (by decide) ?_
          obtain rfl := Option.some.inj hf
          exact eI C0 hr w (bzE (x := 1) (by decide)) dX12_readWord_138
      · rw [if_pos c9] at hf
        refine lv_iload_n hx hb dX12_readWord_112 rfl (lv_at hl 2 rfl) ?_
        refine lv_goto (tgt := 120) hx hb dX12_readWord_113 (by decide) ?_
        refine pI C0 w fk_X12_258 fp_X12_18 (by decide +kernel) dX12_readWord_120 (fun H locs w => ?_)
        refine lv_aload_n hx hb dX12_readWord_123 rfl (lv_at hl 0 rfl) ?_
        refine gR C0 w 238 fk_X12_51 (by decide +kernel) dX12_readWord_124 ?_
        refine lv_iload_n hx hb dX12_readWord_127 rfl (lv_at hl 1 rfl) ?_
        obtain ⟨g12, hf⟩ := gdE hf
        refine aI C0 w (n := 90) (by decide +kernel) (inbE g12) dX12_readWord_128 ?_
        refine lv_iconst (v := (-1)) hx hb dX12_readWord_129 (by decide) ?_
        refine lv_icmp_eq (tgt := 137) hx hb dX12_readWord_130 (by decide) (fun c13 => ?_) (fun c13 => ?_)
        · rw [if_pos c13] at hf
          refine lv_iconst (v := 0) hx hb dX12_readWord_137 (by decide) ?_
          obtain rfl := Option.some.inj hf
          exact eI C0 hr w (bzE (x := 0) (by decide)) dX12_readWord_138
        · rw [if_neg c13] at hf
          refine lv_iconst (v := 1) hx hb dX12_readWord_133 (by decide) ?_
          refine lv_goto (tgt := 138) hx hb dX12_readWord_134 (by decide) ?_
          obtain rfl := Option.some.inj hf
          exact eI C0 hr w (bzE (x := 1) (by decide)) dX12_readWord_138
    · rw [if_neg c4] at hf
      refine lv_iconst (v := (-1)) hx hb dX12_readWord_92 (by decide) ?_
      refine lv_goto (tgt := 100) hx hb dX12_readWord_93 (by decide) ?_
      obtain ⟨g14, hf⟩ := gdE hf
      refine sI C0 w (n := 90) (by decide +kernel) (inbE g14) dX12_readWord_100 (fun H locs w => ?_)
      refine lv_aload_n hx hb dX12_readWord_101 rfl (lv_at hl 0 rfl) ?_
      refine lv_aload_n hx hb dX12_readWord_102 rfl (lv_at hl 0 rfl) ?_
      refine gR C0 w 238 fk_X12_51 (by decide +kernel) dX12_readWord_103 ?_
      refine lv_iload_n hx hb dX12_readWord_106 rfl (lv_at hl 1 rfl) ?_
      obtain ⟨g15, hf⟩ := gdE hf
      refine aI C0 w (n := 90) (by decide +kernel) (inbE g15) dX12_readWord_107 ?_
      refine lv_iconst (v := (-1)) hx hb dX12_readWord_108 (by decide) ?_
      refine lv_icmp_ne (tgt := 116) hx hb dX12_readWord_109 (by decide) (fun c16 => ?_) (fun c16 => ?_)
      · rw [if_neg c16] at hf
        refine lv_aload_n hx hb dX12_readWord_116 rfl (lv_at hl 0 rfl) ?_
        refine gI C0 w fk_X12_258 (by decide +kernel) dX12_readWord_117 ?_
        refine pI C0 w fk_X12_258 fp_X12_18 (by decide +kernel) dX12_readWord_120 (fun H locs w => ?_)
        refine lv_aload_n hx hb dX12_readWord_123 rfl (lv_at hl 0 rfl) ?_
        refine gR C0 w 238 fk_X12_51 (by decide +kernel) dX12_readWord_124 ?_
        refine lv_iload_n hx hb dX12_readWord_127 rfl (lv_at hl 1 rfl) ?_
        obtain ⟨g17, hf⟩ := gdE hf
        refine aI C0 w (n := 90) (by decide +kernel) (inbE g17) dX12_readWord_128 ?_
        refine lv_iconst (v := (-1)) hx hb dX12_readWord_129 (by decide) ?_
        refine lv_icmp_eq (tgt := 137) hx hb dX12_readWord_130 (by decide) (fun c18 => ?_) (fun c18 => ?_)
        · rw [if_pos c18] at hf
          refine lv_iconst (v := 0) hx hb dX12_readWord_137 (by decide) ?_
          obtain rfl := Option.some.inj hf
          exact eI C0 hr w (bzE (x := 0) (by decide)) dX12_readWord_138
        · rw [if_neg c18] at hf
          refine lv_iconst (v := 1) hx hb dX12_readWord_133 (by decide) ?_
          refine lv_goto (tgt := 138) hx hb dX12_readWord_134 (by decide) ?_
          obtain rfl := Option.some.inj hf
          exact eI C0 hr w (bzE (x := 1) (by decide)) dX12_readWord_138
      · rw [if_pos c16] at hf
        refine lv_iload_n hx hb dX12_readWord_112 rfl (lv_at hl 2 rfl) ?_
        refine lv_goto (tgt := 120) hx hb dX12_readWord_113 (by decide) ?_
        refine pI C0 w fk_X12_258 fp_X12_18 (by decide +kernel) dX12_readWord_120 (fun H locs w => ?_)
        refine lv_aload_n hx hb dX12_readWord_123 rfl (lv_at hl 0 rfl) ?_
        refine gR C0 w 238 fk_X12_51 (by decide +kernel) dX12_readWord_124 ?_
        refine lv_iload_n hx hb dX12_readWord_127 rfl (lv_at hl 1 rfl) ?_
        obtain ⟨g19, hf⟩ := gdE hf
        refine aI C0 w (n := 90) (by decide +kernel) (inbE g19) dX12_readWord_128 ?_
        refine lv_iconst (v := (-1)) hx hb dX12_readWord_129 (by decide) ?_
        refine lv_icmp_eq (tgt := 137) hx hb dX12_readWord_130 (by decide) (fun c20 => ?_) (fun c20 => ?_)
        · rw [if_pos c20] at hf
          refine lv_iconst (v := 0) hx hb dX12_readWord_137 (by decide) ?_
          obtain rfl := Option.some.inj hf
          exact eI C0 hr w (bzE (x := 0) (by decide)) dX12_readWord_138
        · rw [if_neg c20] at hf
          refine lv_iconst (v := 1) hx hb dX12_readWord_133 (by decide) ?_
          refine lv_goto (tgt := 138) hx hb dX12_readWord_134 (by decide) ?_
          obtain rfl := Option.some.inj hf
          exact eI C0 hr w (bzE (x := 1) (by decide)) dX12_readWord_138
  · rw [if_pos c3] at hf
    refine lv_iconst (v := 0) hx hb dX12_readWord_74 (by decide) ?_
    obtain rfl := Option.some.inj hf
    exact eI C0 hr w (bzE (x := 0) (by decide)) dX12_readWord_75
def f_X12_readNumber_16 (x1 : Int32) (x2 : Int32) : Nat → Int32 → Mem → Option (Int32 × Mem)
  | 0, _, _ => none
  | n + 1, x3, σ =>
    if (x2 + 6) ≤ (σ.1 224 18) then (
      some ((x3, σ)))
    else (
      bd (f_X12_here σ) (fun q2 =>
      bd (f_X12_in q2.toInt64 48 57 σ) (fun q4 =>
      if q4 = 0 then (
        some ((x3, σ)))
      else (
        bd (f_X12_here σ) (fun q7 =>
        f_X12_readNumber_16 x1 x2 n (((10 * x3) + q7) - 48) (setI σ 224 18 ((σ.1 224 18) + 1)))))))
def f_X12_readNumber (x1 : Int32) (σ : Mem) : Option (Int32 × Mem) :=
  bd (f_X12_spaces σ) (fun q1 =>
  if q1.1 = 0 then (
    some ((0, q1.2)))
  else (
    bd (f_X12_readNumber_16 x1 (q1.2.1 224 18) 100000 0 q1.2) (fun q4 =>
    gd (inb x1 90) (
    if ((setI q4.2 238 x1.toNatClampNeg q4.1).1 224 18) ≤ (q1.2.1 224 18) then (
      some ((0, setI q4.2 238 x1.toNatClampNeg q4.1)))
    else (
      bd (f_X12_here (setI q4.2 238 x1.toNatClampNeg q4.1)) (fun q8 =>
      bd (f_X12_in q8.toInt64 48 57 (setI q4.2 238 x1.toNatClampNeg q4.1)) (fun q10 =>
      if q10 = 0 then (
        some ((1, setI q4.2 238 x1.toNatClampNeg q4.1)))
      else (
        some ((0, setI q4.2 238 x1.toNatClampNeg q4.1))))))))))
abbrev rm_X12_readNumber : Room := { frames := 2, cells := 0, slots := 0, locals := 41 }
set_option maxHeartbeats 4000000 in
set_option maxRecDepth 100000 in
theorem lp_X12_readNumber_16 {p : Program} {e : Env} {s : State} {m : MethodId} {args : Array Value} {below : List Frame} {meth : Method} {c : Code} {Q : State → Prop} (l : Launch) (B : Wb) (C0 : Cx p s m args meth c cX12_readNumber 4 RX12) (x1 : Int32) (x2 : Int32) : ∀ (n : Nat) (x3 : Int32) (σ : Mem) (o : Int32 × Mem) (H : Heap) (locs : List Loc) (ls : Array Slot), f_X12_readNumber_16 x1 x2 n x3 σ = some o → Wx B σ s H locs → lv_has ls 4 [(0, .ref (wA B 224)), (1, .int x1), (2, .int x2), (3, .int x3)] → (∀ (H : Heap) (locs : List Loc) (ls : Array Slot), Wx B o.2 s H locs → lv_has ls 4 [(0, .ref (wA B 224)), (1, .int x1), (2, .int x2), (3, .int o.1)] → W p l e rm_X12_readNumber s m args below meth c H locs 0 0 Q (F0 m 70 ls [])) → W p l e rm_X12_readNumber s m args below meth c H locs 0 0 Q (F0 m 16 ls []) := by
  have hx := C0.1.1
  have hb := C0.1.2.1
  intro n
  induction n with
  | zero =>
    intro x3 σ o H locs ls hf w hl hK
    cases hf
  | succ n ih =>
    intro x3 σ o H locs ls hf w hl hK
    rw [f_X12_readNumber_16] at hf
    refine lv_aload_n hx hb dX12_readNumber_16 rfl (lv_at hl 0 rfl) ?_
    refine gI C0 w fk_X12_258 (by decide +kernel) dX12_readNumber_17 ?_
    refine lv_iload_n hx hb dX12_readNumber_20 rfl (lv_at hl 2 rfl) ?_
    refine lv_bipush (v := 6) hx hb dX12_readNumber_21 (by decide) ?_
    refine lv_iadd hx hb dX12_readNumber_23 ?_
    refine lv_icmp_ge (tgt := 70) hx hb dX12_readNumber_24 (by decide) (fun c1 => ?_) (fun c1 => ?_)
    · rw [if_pos c1] at hf
      obtain rfl := Option.some.inj hf
      exact hK _ _ _ w (lv_sub hl [0, 1, 2, 3] rfl)
    · rw [if_neg c1] at hf
      refine lv_aload_n hx hb dX12_readNumber_27 rfl (lv_at hl 0 rfl) ?_
      obtain ⟨q2, h3, hf⟩ := bdE hf
      refine cV (As := []) (rest := []) (k := 224) (ci := 10) (T := TX12) (N := 22) C0 w (m_X12_here l B _ σ q2 h3) ky_X12_here kv_X12_here lk_X12_261 rfl (by decide +kernel) ⟨Nat.le_of_ble_eq_true rfl, Nat.le_of_ble_eq_true rfl⟩ ⟨Nat.le_of_ble_eq_true rfl, Nat.le_of_ble_eq_true rfl⟩ rfl (by rfl) (Nat.le_of_ble_eq_true rfl) hl.1 dX12_readNumber_28 (fun H locs w => ?_)
      refine lv_i2l hx hb dX12_readNumber_31 rfl ?_
      refine kLg C0 48 kc_X12_294 dX12_readNumber_32 ?_
      refine kLg C0 57 kc_X12_296 dX12_readNumber_35 ?_
      obtain ⟨q4, h5, hf⟩ := bdE hf
      refine cS (As := [.long q2.toInt64, .long 48, .long 57]) (rest := []) C0 w (m_X12_in l B _ σ q2.toInt64 48 57 q4 h5) ky_X12_in ks_X12_in lk_X12_79 ⟨Nat.le_of_ble_eq_true rfl, Nat.le_of_ble_eq_true rfl⟩ ⟨Nat.le_of_ble_eq_true rfl, Nat.le_of_ble_eq_true rfl⟩ rfl (by rfl) (Nat.le_of_ble_eq_true rfl) hl.1 dX12_readNumber_38 (fun H locs w => ?_)
      refine lv_if_eq (tgt := 70) hx hb dX12_readNumber_41 (by decide) (fun c6 => ?_) (fun c6 => ?_)
      · rw [if_pos c6] at hf
        obtain rfl := Option.some.inj hf
        exact hK _ _ _ w (lv_sub hl [0, 1, 2, 3] rfl)
      · rw [if_neg c6] at hf
        refine lv_bipush (v := 10) hx hb dX12_readNumber_44 (by decide) ?_
        refine lv_iload_n hx hb dX12_readNumber_46 rfl (lv_at hl 3 rfl) ?_
        refine lv_imul hx hb dX12_readNumber_47 ?_
        refine lv_aload_n hx hb dX12_readNumber_48 rfl (lv_at hl 0 rfl) ?_
        obtain ⟨q7, h8, hf⟩ := bdE hf
        refine cV (As := []) (rest := [.int (10 * x3)]) (k := 224) (ci := 10) (T := TX12) (N := 22) C0 w (m_X12_here l B _ σ q7 h8) ky_X12_here kv_X12_here lk_X12_261 rfl (by decide +kernel) ⟨Nat.le_of_ble_eq_true rfl, Nat.le_of_ble_eq_true rfl⟩ ⟨Nat.le_of_ble_eq_true rfl, Nat.le_of_ble_eq_true rfl⟩ rfl (by rfl) (Nat.le_of_ble_eq_true rfl) hl.1 dX12_readNumber_49 (fun H locs w => ?_)
        refine lv_iadd hx hb dX12_readNumber_52 ?_
        refine lv_bipush (v := 48) hx hb dX12_readNumber_53 (by decide) ?_
        refine lv_isub hx hb dX12_readNumber_55 ?_
        refine lv_istore_n (lv' := [(3, .int (((10 * x3) + q7) - 48)), (0, .ref (wA B 224)), (1, .int x1), (2, .int x2)]) hx hb dX12_readNumber_56 rfl hl (by decide) rfl (fun ls hl => ?_)
        refine lv_aload_n hx hb dX12_readNumber_57 rfl (lv_at hl 1 rfl) ?_
        refine lv_dup hx hb dX12_readNumber_58 rfl ?_
        refine gI C0 w fk_X12_258 (by decide +kernel) dX12_readNumber_59 ?_
        refine lv_iconst (v := 1) hx hb dX12_readNumber_62 (by decide) ?_
        refine lv_iadd hx hb dX12_readNumber_63 ?_
        refine pI C0 w fk_X12_258 fp_X12_18 (by decide +kernel) dX12_readNumber_64 (fun H locs w => ?_)
        refine lv_goto (tgt := 16) hx hb dX12_readNumber_67 (by decide) ?_
        exact ih (((10 * x3) + q7) - 48) (setI σ 224 18 ((σ.1 224 18) + 1)) _ _ _ _ hf w (lv_sub hl [1, 2, 3, 0] rfl) hK
set_option maxHeartbeats 4000000 in
set_option maxRecDepth 100000 in
theorem m_X12_readNumber (l : Launch) (B : Wb) (sz : Nat) (σ : Mem) (x1 : Int32) (q : Int32 × Mem) (hf : f_X12_readNumber x1 σ = some q) : MetC l yX12_readNumber cX12_readNumber 4 (some .boolean) rm_X12_readNumber B sz σ q.2 [.ref (wA B 224), .int x1] (some (.int q.1)) := by
  refine met_in (by decide +kernel) (Nat.le_of_ble_eq_true rfl) ?_
  intro p e s m below meth c C0 hr w hsz ls hl
  have hx := C0.1.1
  have hb := C0.1.2.1
  unfold f_X12_readNumber at hf
  refine lv_aload_n hx hb dX12_readNumber_0 rfl (lv_at hl 0 rfl) ?_
  obtain ⟨q1, h2, hf⟩ := bdE hf
  refine cV (As := []) (rest := []) (k := 224) (ci := 10) (T := TX12) (N := 22) C0 w (m_X12_spaces l B _ σ q1 h2) ky_X12_spaces kv_X12_spaces lk_X12_290 rfl (by decide +kernel) ⟨Nat.le_of_ble_eq_true rfl, Nat.le_of_ble_eq_true rfl⟩ ⟨Nat.le_of_ble_eq_true rfl, Nat.le_of_ble_eq_true rfl⟩ rfl (by rfl) (Nat.le_of_ble_eq_true rfl) hl.1 dX12_readNumber_1 (fun H locs w => ?_)
  refine lv_if_ne (tgt := 9) hx hb dX12_readNumber_4 (by decide) (fun c3 => ?_) (fun c3 => ?_)
  · rw [if_neg c3] at hf
    refine lv_aload_n hx hb dX12_readNumber_9 rfl (lv_at hl 0 rfl) ?_
    refine gI C0 w fk_X12_258 (by decide +kernel) dX12_readNumber_10 ?_
    refine lv_istore_n (lv' := [(2, .int (q1.2.1 224 18)), (0, .ref (wA B 224)), (1, .int x1)]) hx hb dX12_readNumber_13 rfl hl (by decide) rfl (fun ls hl => ?_)
    refine lv_iconst (v := 0) hx hb dX12_readNumber_14 (by decide) ?_
    refine lv_istore_n (lv' := [(3, .int 0), (2, .int (q1.2.1 224 18)), (0, .ref (wA B 224)), (1, .int x1)]) hx hb dX12_readNumber_15 rfl hl (by decide) rfl (fun ls hl => ?_)
    obtain ⟨q4, h5, hf⟩ := bdE hf
    refine lp_X12_readNumber_16 l B C0 x1 (q1.2.1 224 18) 100000 0 q1.2 q4 _ _ _ h5 w (lv_sub hl [2, 3, 1, 0] rfl) (fun H locs ls w hl => ?_)
    refine lv_aload_n hx hb dX12_readNumber_70 rfl (lv_at hl 0 rfl) ?_
    refine gR C0 w 238 fk_X12_51 (by decide +kernel) dX12_readNumber_71 ?_
    refine lv_iload_n hx hb dX12_readNumber_74 rfl (lv_at hl 1 rfl) ?_
    refine lv_iload_n hx hb dX12_readNumber_75 rfl (lv_at hl 3 rfl) ?_
    obtain ⟨g6, hf⟩ := gdE hf
    refine sI C0 w (n := 90) (by decide +kernel) (inbE g6) dX12_readNumber_76 (fun H locs w => ?_)
    refine lv_aload_n hx hb dX12_readNumber_77 rfl (lv_at hl 0 rfl) ?_
    refine gI C0 w fk_X12_258 (by decide +kernel) dX12_readNumber_78 ?_
    refine lv_iload_n hx hb dX12_readNumber_81 rfl (lv_at hl 2 rfl) ?_
    refine lv_icmp_le (tgt := 106) hx hb dX12_readNumber_82 (by decide) (fun c7 => ?_) (fun c7 => ?_)
    · rw [if_pos c7] at hf
      refine lv_iconst (v := 0) hx hb dX12_readNumber_106 (by decide) ?_
      obtain rfl := Option.some.inj hf
      exact eI C0 hr w (bzE (x := 0) (by decide)) dX12_readNumber_107
    · rw [if_neg c7] at hf
      refine lv_aload_n hx hb dX12_readNumber_85 rfl (lv_at hl 0 rfl) ?_
      obtain ⟨q8, h9, hf⟩ := bdE hf
      refine cV (As := []) (rest := []) (k := 224) (ci := 10) (T := TX12) (N := 22) C0 w (m_X12_here l B _ (setI q4.2 238 x1.toNatClampNeg q4.1) q8 h9) ky_X12_here kv_X12_here lk_X12_261 rfl (by decide +kernel) ⟨Nat.le_of_ble_eq_true rfl, Nat.le_of_ble_eq_true rfl⟩ ⟨Nat.le_of_ble_eq_true rfl, Nat.le_of_ble_eq_true rfl⟩ rfl (by rfl) (Nat.le_of_ble_eq_true rfl) hl.1 dX12_readNumber_86 (fun H locs w => ?_)
      refine lv_i2l hx hb dX12_readNumber_89 rfl ?_
      refine kLg C0 48 kc_X12_294 dX12_readNumber_90 ?_
      refine kLg C0 57 kc_X12_296 dX12_readNumber_93 ?_
      obtain ⟨q10, h11, hf⟩ := bdE hf
      refine cS (As := [.long q8.toInt64, .long 48, .long 57]) (rest := []) C0 w (m_X12_in l B _ (setI q4.2 238 x1.toNatClampNeg q4.1) q8.toInt64 48 57 q10 h11) ky_X12_in ks_X12_in lk_X12_79 ⟨Nat.le_of_ble_eq_true rfl, Nat.le_of_ble_eq_true rfl⟩ ⟨Nat.le_of_ble_eq_true rfl, Nat.le_of_ble_eq_true rfl⟩ rfl (by rfl) (Nat.le_of_ble_eq_true rfl) hl.1 dX12_readNumber_96 (fun H locs w => ?_)
      refine lv_if_ne (tgt := 106) hx hb dX12_readNumber_99 (by decide) (fun c12 => ?_) (fun c12 => ?_)
      · rw [if_neg c12] at hf
        refine lv_iconst (v := 0) hx hb dX12_readNumber_106 (by decide) ?_
        obtain rfl := Option.some.inj hf
        exact eI C0 hr w (bzE (x := 0) (by decide)) dX12_readNumber_107
      · rw [if_pos c12] at hf
        refine lv_iconst (v := 1) hx hb dX12_readNumber_102 (by decide) ?_
        refine lv_goto (tgt := 107) hx hb dX12_readNumber_103 (by decide) ?_
        obtain rfl := Option.some.inj hf
        exact eI C0 hr w (bzE (x := 1) (by decide)) dX12_readNumber_107
  · rw [if_pos c3] at hf
    refine lv_iconst (v := 0) hx hb dX12_readNumber_7 (by decide) ?_
    obtain rfl := Option.some.inj hf
    exact eI C0 hr w (bzE (x := 0) (by decide)) dX12_readNumber_8
def f_X12_readCommand_50 (x1 : Int32) (x2 : Int32) : Nat → Int32 → Mem → Option ((Int32 × Mem) ⊕ (Mem))
  | 0, _, _ => none
  | n + 1, x3, σ =>
    if x2 ≤ x3 then (
      some (.inr σ))
    else (
      bd (f_X12_readNumber ((x1 + 1) + x3) σ) (fun q2 =>
      if q2.1 = 0 then (
        some (.inl ((0, q2.2))))
      else (
        f_X12_readCommand_50 x1 x2 n (x3 + 1) q2.2)))
def f_X12_readCommand (σ : Mem) : Option (Int32 × Mem) :=
  bd (f_X12_readWord (3 * (σ.1 224 19)) σ) (fun q1 =>
  if q1.1 = 0 then (
    some ((0, q1.2)))
  else (
    gd (inb (3 * (σ.1 224 19)) 90) (
    if 3 < (q1.2.1 238 (3 * (σ.1 224 19)).toNatClampNeg) then (
      gd (inb (3 * (σ.1 224 19)) 90) (
      if (q1.2.1 238 (3 * (σ.1 224 19)).toNatClampNeg) = 7 then (
        bd (f_X12_readCommand_50 (3 * (σ.1 224 19)) 0 100000 0 q1.2) (fun q16 =>
        sm q16 (fun q18 =>
        bd (f_X12_spaces q18) (fun q19 =>
        bd (f_X12_here q19.2) (fun q21 =>
        if q21 = 59 then (
          some ((1, setI (setI q19.2 224 18 ((q19.2.1 224 18) + 1)) 224 19 (((setI q19.2 224 18 ((q19.2.1 224 18) + 1)).1 224 19) + 1))))
        else (
          some ((0, q19.2))))))))
      else (
        bd (f_X12_readCommand_50 (3 * (σ.1 224 19)) 1 100000 0 q1.2) (fun q8 =>
        sm q8 (fun q10 =>
        bd (f_X12_spaces q10) (fun q11 =>
        bd (f_X12_here q11.2) (fun q13 =>
        if q13 = 59 then (
          some ((1, setI (setI q11.2 224 18 ((q11.2.1 224 18) + 1)) 224 19 (((setI q11.2 224 18 ((q11.2.1 224 18) + 1)).1 224 19) + 1))))
        else (
          some ((0, q11.2))))))))))
    else (
      bd (f_X12_readCommand_50 (3 * (σ.1 224 19)) 2 100000 0 q1.2) (fun q24 =>
      sm q24 (fun q26 =>
      bd (f_X12_spaces q26) (fun q27 =>
      bd (f_X12_here q27.2) (fun q29 =>
      if q29 = 59 then (
        some ((1, setI (setI q27.2 224 18 ((q27.2.1 224 18) + 1)) 224 19 (((setI q27.2 224 18 ((q27.2.1 224 18) + 1)).1 224 19) + 1))))
      else (
        some ((0, q27.2)))))))))))
abbrev rm_X12_readCommand : Room := { frames := 3, cells := 0, slots := 0, locals := 64 }
set_option maxHeartbeats 4000000 in
set_option maxRecDepth 100000 in
theorem lp_X12_readCommand_50 {p : Program} {e : Env} {s : State} {m : MethodId} {args : Array Value} {below : List Frame} {meth : Method} {c : Code} {Q : State → Prop} (l : Launch) (B : Wb) (C0 : Cx p s m args meth c cX12_readCommand 4 RX12) (hr : meth.sig.returnType = (some .boolean)) (x1 : Int32) (x2 : Int32) : ∀ (n : Nat) (x3 : Int32) (σ : Mem) (o : (Int32 × Mem) ⊕ (Mem)) (H : Heap) (locs : List Loc) (ls : Array Slot), f_X12_readCommand_50 x1 x2 n x3 σ = some o → Wx B σ s H locs → lv_has ls 4 [(0, .ref (wA B 224)), (1, .int x1), (2, .int x2), (3, .int x3)] → (∀ r9, o = .inl r9 → Q = MQ below (Qo B r9.2 (some (.int r9.1)) (own B s.heap.size)) args s 0 0 (own B s.heap.size)) → (∀ (o9 : Mem) (_ : o = .inr o9) (H : Heap) (locs : List Loc) (ls : Array Slot), Wx B o9 s H locs → lv_has ls 4 [(0, .ref (wA B 224))] → W p l e rm_X12_readCommand s m args below meth c H locs 0 0 Q (F0 m 75 ls [])) → W p l e rm_X12_readCommand s m args below meth c H locs 0 0 Q (F0 m 50 ls []) := by
  have hx := C0.1.1
  have hb := C0.1.2.1
  intro n
  induction n with
  | zero =>
    intro x3 σ o H locs ls hf w hl hR hK
    cases hf
  | succ n ih =>
    intro x3 σ o H locs ls hf w hl hR hK
    rw [f_X12_readCommand_50] at hf
    refine lv_iload_n hx hb dX12_readCommand_50 rfl (lv_at hl 3 rfl) ?_
    refine lv_iload_n hx hb dX12_readCommand_51 rfl (lv_at hl 2 rfl) ?_
    refine lv_icmp_ge (tgt := 75) hx hb dX12_readCommand_52 (by decide) (fun c1 => ?_) (fun c1 => ?_)
    · rw [if_pos c1] at hf
      obtain rfl := Option.some.inj hf
      exact hK _ rfl _ _ _ w (lv_sub hl [0] rfl)
    · rw [if_neg c1] at hf
      refine lv_aload_n hx hb dX12_readCommand_55 rfl (lv_at hl 0 rfl) ?_
      refine lv_iload_n hx hb dX12_readCommand_56 rfl (lv_at hl 1 rfl) ?_
      refine lv_iconst (v := 1) hx hb dX12_readCommand_57 (by decide) ?_
      refine lv_iadd hx hb dX12_readCommand_58 ?_
      refine lv_iload_n hx hb dX12_readCommand_59 rfl (lv_at hl 3 rfl) ?_
      refine lv_iadd hx hb dX12_readCommand_60 ?_
      obtain ⟨q2, h3, hf⟩ := bdE hf
      refine cV (As := [.int ((x1 + 1) + x3)]) (rest := []) (k := 224) (ci := 10) (T := TX12) (N := 22) C0 w (m_X12_readNumber l B _ σ ((x1 + 1) + x3) q2 h3) ky_X12_readNumber kv_X12_readNumber lk_X12_304 rfl (by decide +kernel) ⟨Nat.le_of_ble_eq_true rfl, Nat.le_of_ble_eq_true rfl⟩ ⟨Nat.le_of_ble_eq_true rfl, Nat.le_of_ble_eq_true rfl⟩ rfl (by rfl) (Nat.le_of_ble_eq_true rfl) hl.1 dX12_readCommand_61 (fun H locs w => ?_)
      refine lv_if_ne (tgt := 69) hx hb dX12_readCommand_64 (by decide) (fun c4 => ?_) (fun c4 => ?_)
      · rw [if_neg c4] at hf
        refine lv_iinc (k := 3) (v := x3 + 1) (lv' := [(3, .int (x3 + 1)), (0, .ref (wA B 224)), (1, .int x1), (2, .int x2)]) hx hb dX12_readCommand_69 hl rfl (by rfl) (by decide) rfl (fun ls hl => ?_)
        refine lv_goto (tgt := 50) hx hb dX12_readCommand_72 (by decide) ?_
        exact ih (x3 + 1) q2.2 _ _ _ _ hf w (lv_sub hl [1, 2, 3, 0] rfl) hR hK
      · rw [if_pos c4] at hf
        refine lv_iconst (v := 0) hx hb dX12_readCommand_67 (by decide) ?_
        obtain rfl := Option.some.inj hf
        rw [hR _ rfl]
        exact eI C0 hr w (bzE (x := 0) (by decide)) dX12_readCommand_68
set_option maxHeartbeats 4000000 in
set_option maxRecDepth 100000 in
theorem m_X12_readCommand (l : Launch) (B : Wb) (sz : Nat) (σ : Mem) (q : Int32 × Mem) (hf : f_X12_readCommand σ = some q) : MetC l yX12_readCommand cX12_readCommand 4 (some .boolean) rm_X12_readCommand B sz σ q.2 [.ref (wA B 224)] (some (.int q.1)) := by
  refine met_in (by decide +kernel) (Nat.le_of_ble_eq_true rfl) ?_
  intro p e s m below meth c C0 hr w hsz ls hl
  have hx := C0.1.1
  have hb := C0.1.2.1
  unfold f_X12_readCommand at hf
  refine lv_iconst (v := 3) hx hb dX12_readCommand_0 (by decide) ?_
  refine lv_aload_n hx hb dX12_readCommand_1 rfl (lv_at hl 0 rfl) ?_
  refine gI C0 w fk_X12_298 (by decide +kernel) dX12_readCommand_2 ?_
  refine lv_imul hx hb dX12_readCommand_5 ?_
  refine lv_istore_n (lv' := [(1, .int (3 * (σ.1 224 19))), (0, .ref (wA B 224))]) hx hb dX12_readCommand_6 rfl hl (by decide) rfl (fun ls hl => ?_)
  refine lv_aload_n hx hb dX12_readCommand_7 rfl (lv_at hl 1 rfl) ?_
  refine lv_iload_n hx hb dX12_readCommand_8 rfl (lv_at hl 0 rfl) ?_
  obtain ⟨q1, h2, hf⟩ := bdE hf
  refine cV (As := [.int (3 * (σ.1 224 19))]) (rest := []) (k := 224) (ci := 10) (T := TX12) (N := 22) C0 w (m_X12_readWord l B _ σ (3 * (σ.1 224 19)) q1 h2) ky_X12_readWord kv_X12_readWord lk_X12_301 rfl (by decide +kernel) ⟨Nat.le_of_ble_eq_true rfl, Nat.le_of_ble_eq_true rfl⟩ ⟨Nat.le_of_ble_eq_true rfl, Nat.le_of_ble_eq_true rfl⟩ rfl (by rfl) (Nat.le_of_ble_eq_true rfl) hl.1 dX12_readCommand_9 (fun H locs w => ?_)
  refine lv_if_ne (tgt := 17) hx hb dX12_readCommand_12 (by decide) (fun c3 => ?_) (fun c3 => ?_)
  · rw [if_neg c3] at hf
    refine lv_aload_n hx hb dX12_readCommand_17 rfl (lv_at hl 1 rfl) ?_
    refine gR C0 w 238 fk_X12_51 (by decide +kernel) dX12_readCommand_18 ?_
    refine lv_iload_n hx hb dX12_readCommand_21 rfl (lv_at hl 0 rfl) ?_
    obtain ⟨g4, hf⟩ := gdE hf
    refine aI C0 w (n := 90) (by decide +kernel) (inbE g4) dX12_readCommand_22 ?_
    refine lv_iconst (v := 3) hx hb dX12_readCommand_23 (by decide) ?_
    refine lv_icmp_gt (tgt := 31) hx hb dX12_readCommand_24 (by decide) (fun c5 => ?_) (fun c5 => ?_)
    · rw [if_pos c5] at hf
      refine lv_aload_n hx hb dX12_readCommand_31 rfl (lv_at hl 1 rfl) ?_
      refine gR C0 w 238 fk_X12_51 (by decide +kernel) dX12_readCommand_32 ?_
      refine lv_iload_n hx hb dX12_readCommand_35 rfl (lv_at hl 0 rfl) ?_
      obtain ⟨g6, hf⟩ := gdE hf
      refine aI C0 w (n := 90) (by decide +kernel) (inbE g6) dX12_readCommand_36 ?_
      refine lv_bipush (v := 7) hx hb dX12_readCommand_37 (by decide) ?_
      refine lv_icmp_ne (tgt := 46) hx hb dX12_readCommand_39 (by decide) (fun c7 => ?_) (fun c7 => ?_)
      · rw [if_neg c7] at hf
        refine lv_iconst (v := 1) hx hb dX12_readCommand_46 (by decide) ?_
        refine lv_istore_n (lv' := [(2, .int 1), (1, .int (3 * (σ.1 224 19))), (0, .ref (wA B 224))]) hx hb dX12_readCommand_47 rfl hl (by decide) rfl (fun ls hl => ?_)
        refine lv_iconst (v := 0) hx hb dX12_readCommand_48 (by decide) ?_
        refine lv_istore_n (lv' := [(3, .int 0), (2, .int 1), (1, .int (3 * (σ.1 224 19))), (0, .ref (wA B 224))]) hx hb dX12_readCommand_49 rfl hl (by decide) rfl (fun ls hl => ?_)
        obtain ⟨q8, h9, hf⟩ := bdE hf
        refine lp_X12_readCommand_50 l B C0 hr (3 * (σ.1 224 19)) 1 100000 0 q1.2 q8 _ _ _ h9 w (lv_sub hl [3, 2, 1, 0] rfl) (fun r9 h9 => by subst h9; cases hf; rfl) (fun q10 h9 H locs ls w hl => ?_)
        subst h9
        have hf := smE hf
        refine lv_aload_n hx hb dX12_readCommand_75 rfl (lv_at hl 0 rfl) ?_
        obtain ⟨q11, h12, hf⟩ := bdE hf
        refine cV (As := []) (rest := []) (k := 224) (ci := 10) (T := TX12) (N := 22) C0 w (m_X12_spaces l B _ q10 q11 h12) ky_X12_spaces kv_X12_spaces lk_X12_290 rfl (by decide +kernel) ⟨Nat.le_of_ble_eq_true rfl, Nat.le_of_ble_eq_true rfl⟩ ⟨Nat.le_of_ble_eq_true rfl, Nat.le_of_ble_eq_true rfl⟩ rfl (by rfl) (Nat.le_of_ble_eq_true rfl) hl.1 dX12_readCommand_76 (fun H locs w => ?_)
        refine lv_istore_n (lv' := [(3, .int q11.1), (0, .ref (wA B 224))]) hx hb dX12_readCommand_79 rfl hl (by decide) rfl (fun ls hl => ?_)
        refine lv_aload_n hx hb dX12_readCommand_80 rfl (lv_at hl 1 rfl) ?_
        obtain ⟨q13, h14, hf⟩ := bdE hf
        refine cV (As := []) (rest := []) (k := 224) (ci := 10) (T := TX12) (N := 22) C0 w (m_X12_here l B _ q11.2 q13 h14) ky_X12_here kv_X12_here lk_X12_261 rfl (by decide +kernel) ⟨Nat.le_of_ble_eq_true rfl, Nat.le_of_ble_eq_true rfl⟩ ⟨Nat.le_of_ble_eq_true rfl, Nat.le_of_ble_eq_true rfl⟩ rfl (by rfl) (Nat.le_of_ble_eq_true rfl) hl.1 dX12_readCommand_81 (fun H locs w => ?_)
        refine lv_bipush (v := 59) hx hb dX12_readCommand_84 (by decide) ?_
        refine lv_icmp_eq (tgt := 91) hx hb dX12_readCommand_86 (by decide) (fun c15 => ?_) (fun c15 => ?_)
        · rw [if_pos c15] at hf
          refine lv_aload_n hx hb dX12_readCommand_91 rfl (lv_at hl 1 rfl) ?_
          refine lv_dup hx hb dX12_readCommand_92 rfl ?_
          refine gI C0 w fk_X12_258 (by decide +kernel) dX12_readCommand_93 ?_
          refine lv_iconst (v := 1) hx hb dX12_readCommand_96 (by decide) ?_
          refine lv_iadd hx hb dX12_readCommand_97 ?_
          refine pI C0 w fk_X12_258 fp_X12_18 (by decide +kernel) dX12_readCommand_98 (fun H locs w => ?_)
          refine lv_aload_n hx hb dX12_readCommand_101 rfl (lv_at hl 1 rfl) ?_
          refine lv_dup hx hb dX12_readCommand_102 rfl ?_
          refine gI C0 w fk_X12_298 (by decide +kernel) dX12_readCommand_103 ?_
          refine lv_iconst (v := 1) hx hb dX12_readCommand_106 (by decide) ?_
          refine lv_iadd hx hb dX12_readCommand_107 ?_
          refine pI C0 w fk_X12_298 fp_X12_19 (by decide +kernel) dX12_readCommand_108 (fun H locs w => ?_)
          refine lv_iconst (v := 1) hx hb dX12_readCommand_111 (by decide) ?_
          obtain rfl := Option.some.inj hf
          exact eI C0 hr w (bzE (x := 1) (by decide)) dX12_readCommand_112
        · rw [if_neg c15] at hf
          refine lv_iconst (v := 0) hx hb dX12_readCommand_89 (by decide) ?_
          obtain rfl := Option.some.inj hf
          exact eI C0 hr w (bzE (x := 0) (by decide)) dX12_readCommand_90
      · rw [if_pos c7] at hf
        refine lv_iconst (v := 0) hx hb dX12_readCommand_42 (by decide) ?_
        refine lv_goto (tgt := 47) hx hb dX12_readCommand_43 (by decide) ?_
        refine lv_istore_n (lv' := [(2, .int 0), (1, .int (3 * (σ.1 224 19))), (0, .ref (wA B 224))]) hx hb dX12_readCommand_47 rfl hl (by decide) rfl (fun ls hl => ?_)
        refine lv_iconst (v := 0) hx hb dX12_readCommand_48 (by decide) ?_
        refine lv_istore_n (lv' := [(3, .int 0), (2, .int 0), (1, .int (3 * (σ.1 224 19))), (0, .ref (wA B 224))]) hx hb dX12_readCommand_49 rfl hl (by decide) rfl (fun ls hl => ?_)
        obtain ⟨q16, h17, hf⟩ := bdE hf
        refine lp_X12_readCommand_50 l B C0 hr (3 * (σ.1 224 19)) 0 100000 0 q1.2 q16 _ _ _ h17 w (lv_sub hl [3, 2, 1, 0] rfl) (fun r9 h9 => by subst h9; cases hf; rfl) (fun q18 h9 H locs ls w hl => ?_)
        subst h9
        have hf := smE hf
        refine lv_aload_n hx hb dX12_readCommand_75 rfl (lv_at hl 0 rfl) ?_
        obtain ⟨q19, h20, hf⟩ := bdE hf
        refine cV (As := []) (rest := []) (k := 224) (ci := 10) (T := TX12) (N := 22) C0 w (m_X12_spaces l B _ q18 q19 h20) ky_X12_spaces kv_X12_spaces lk_X12_290 rfl (by decide +kernel) ⟨Nat.le_of_ble_eq_true rfl, Nat.le_of_ble_eq_true rfl⟩ ⟨Nat.le_of_ble_eq_true rfl, Nat.le_of_ble_eq_true rfl⟩ rfl (by rfl) (Nat.le_of_ble_eq_true rfl) hl.1 dX12_readCommand_76 (fun H locs w => ?_)
        refine lv_istore_n (lv' := [(3, .int q19.1), (0, .ref (wA B 224))]) hx hb dX12_readCommand_79 rfl hl (by decide) rfl (fun ls hl => ?_)
        refine lv_aload_n hx hb dX12_readCommand_80 rfl (lv_at hl 1 rfl) ?_
        obtain ⟨q21, h22, hf⟩ := bdE hf
        refine cV (As := []) (rest := []) (k := 224) (ci := 10) (T := TX12) (N := 22) C0 w (m_X12_here l B _ q19.2 q21 h22) ky_X12_here kv_X12_here lk_X12_261 rfl (by decide +kernel) ⟨Nat.le_of_ble_eq_true rfl, Nat.le_of_ble_eq_true rfl⟩ ⟨Nat.le_of_ble_eq_true rfl, Nat.le_of_ble_eq_true rfl⟩ rfl (by rfl) (Nat.le_of_ble_eq_true rfl) hl.1 dX12_readCommand_81 (fun H locs w => ?_)
        refine lv_bipush (v := 59) hx hb dX12_readCommand_84 (by decide) ?_
        refine lv_icmp_eq (tgt := 91) hx hb dX12_readCommand_86 (by decide) (fun c23 => ?_) (fun c23 => ?_)
        · rw [if_pos c23] at hf
          refine lv_aload_n hx hb dX12_readCommand_91 rfl (lv_at hl 1 rfl) ?_
          refine lv_dup hx hb dX12_readCommand_92 rfl ?_
          refine gI C0 w fk_X12_258 (by decide +kernel) dX12_readCommand_93 ?_
          refine lv_iconst (v := 1) hx hb dX12_readCommand_96 (by decide) ?_
          refine lv_iadd hx hb dX12_readCommand_97 ?_
          refine pI C0 w fk_X12_258 fp_X12_18 (by decide +kernel) dX12_readCommand_98 (fun H locs w => ?_)
          refine lv_aload_n hx hb dX12_readCommand_101 rfl (lv_at hl 1 rfl) ?_
          refine lv_dup hx hb dX12_readCommand_102 rfl ?_
          refine gI C0 w fk_X12_298 (by decide +kernel) dX12_readCommand_103 ?_
          refine lv_iconst (v := 1) hx hb dX12_readCommand_106 (by decide) ?_
          refine lv_iadd hx hb dX12_readCommand_107 ?_
          refine pI C0 w fk_X12_298 fp_X12_19 (by decide +kernel) dX12_readCommand_108 (fun H locs w => ?_)
          refine lv_iconst (v := 1) hx hb dX12_readCommand_111 (by decide) ?_
          obtain rfl := Option.some.inj hf
          exact eI C0 hr w (bzE (x := 1) (by decide)) dX12_readCommand_112
        · rw [if_neg c23] at hf
          refine lv_iconst (v := 0) hx hb dX12_readCommand_89 (by decide) ?_
          obtain rfl := Option.some.inj hf
          exact eI C0 hr w (bzE (x := 0) (by decide)) dX12_readCommand_90
    · rw [if_neg c5] at hf
      refine lv_iconst (v := 2) hx hb dX12_readCommand_27 (by decide) ?_
      refine lv_goto (tgt := 47) hx hb dX12_readCommand_28 (by decide) ?_
      refine lv_istore_n (lv' := [(2, .int 2), (1, .int (3 * (σ.1 224 19))), (0, .ref (wA B 224))]) hx hb dX12_readCommand_47 rfl hl (by decide) rfl (fun ls hl => ?_)
      refine lv_iconst (v := 0) hx hb dX12_readCommand_48 (by decide) ?_
      refine lv_istore_n (lv' := [(3, .int 0), (2, .int 2), (1, .int (3 * (σ.1 224 19))), (0, .ref (wA B 224))]) hx hb dX12_readCommand_49 rfl hl (by decide) rfl (fun ls hl => ?_)
      obtain ⟨q24, h25, hf⟩ := bdE hf
      refine lp_X12_readCommand_50 l B C0 hr (3 * (σ.1 224 19)) 2 100000 0 q1.2 q24 _ _ _ h25 w (lv_sub hl [3, 2, 1, 0] rfl) (fun r9 h9 => by subst h9; cases hf; rfl) (fun q26 h9 H locs ls w hl => ?_)
      subst h9
      have hf := smE hf
      refine lv_aload_n hx hb dX12_readCommand_75 rfl (lv_at hl 0 rfl) ?_
      obtain ⟨q27, h28, hf⟩ := bdE hf
      refine cV (As := []) (rest := []) (k := 224) (ci := 10) (T := TX12) (N := 22) C0 w (m_X12_spaces l B _ q26 q27 h28) ky_X12_spaces kv_X12_spaces lk_X12_290 rfl (by decide +kernel) ⟨Nat.le_of_ble_eq_true rfl, Nat.le_of_ble_eq_true rfl⟩ ⟨Nat.le_of_ble_eq_true rfl, Nat.le_of_ble_eq_true rfl⟩ rfl (by rfl) (Nat.le_of_ble_eq_true rfl) hl.1 dX12_readCommand_76 (fun H locs w => ?_)
      refine lv_istore_n (lv' := [(3, .int q27.1), (0, .ref (wA B 224))]) hx hb dX12_readCommand_79 rfl hl (by decide) rfl (fun ls hl => ?_)
      refine lv_aload_n hx hb dX12_readCommand_80 rfl (lv_at hl 1 rfl) ?_
      obtain ⟨q29, h30, hf⟩ := bdE hf
      refine cV (As := []) (rest := []) (k := 224) (ci := 10) (T := TX12) (N := 22) C0 w (m_X12_here l B _ q27.2 q29 h30) ky_X12_here kv_X12_here lk_X12_261 rfl (by decide +kernel) ⟨Nat.le_of_ble_eq_true rfl, Nat.le_of_ble_eq_true rfl⟩ ⟨Nat.le_of_ble_eq_true rfl, Nat.le_of_ble_eq_true rfl⟩ rfl (by rfl) (Nat.le_of_ble_eq_true rfl) hl.1 dX12_readCommand_81 (fun H locs w => ?_)
      refine lv_bipush (v := 59) hx hb dX12_readCommand_84 (by decide) ?_
      refine lv_icmp_eq (tgt := 91) hx hb dX12_readCommand_86 (by decide) (fun c31 => ?_) (fun c31 => ?_)
      · rw [if_pos c31] at hf
        refine lv_aload_n hx hb dX12_readCommand_91 rfl (lv_at hl 1 rfl) ?_
        refine lv_dup hx hb dX12_readCommand_92 rfl ?_
        refine gI C0 w fk_X12_258 (by decide +kernel) dX12_readCommand_93 ?_
        refine lv_iconst (v := 1) hx hb dX12_readCommand_96 (by decide) ?_
        refine lv_iadd hx hb dX12_readCommand_97 ?_
        refine pI C0 w fk_X12_258 fp_X12_18 (by decide +kernel) dX12_readCommand_98 (fun H locs w => ?_)
        refine lv_aload_n hx hb dX12_readCommand_101 rfl (lv_at hl 1 rfl) ?_
        refine lv_dup hx hb dX12_readCommand_102 rfl ?_
        refine gI C0 w fk_X12_298 (by decide +kernel) dX12_readCommand_103 ?_
        refine lv_iconst (v := 1) hx hb dX12_readCommand_106 (by decide) ?_
        refine lv_iadd hx hb dX12_readCommand_107 ?_
        refine pI C0 w fk_X12_298 fp_X12_19 (by decide +kernel) dX12_readCommand_108 (fun H locs w => ?_)
        refine lv_iconst (v := 1) hx hb dX12_readCommand_111 (by decide) ?_
        obtain rfl := Option.some.inj hf
        exact eI C0 hr w (bzE (x := 1) (by decide)) dX12_readCommand_112
      · rw [if_neg c31] at hf
        refine lv_iconst (v := 0) hx hb dX12_readCommand_89 (by decide) ?_
        obtain rfl := Option.some.inj hf
        exact eI C0 hr w (bzE (x := 0) (by decide)) dX12_readCommand_90
  · rw [if_pos c3] at hf
    refine lv_iconst (v := 0) hx hb dX12_readCommand_15 (by decide) ?_
    obtain rfl := Option.some.inj hf
    exact eI C0 hr w (bzE (x := 0) (by decide)) dX12_readCommand_16
def f_X12_readAll_15 : Nat → Mem → Option ((Int32 × Mem) ⊕ (Mem))
  | 0, _ => none
  | n + 1, σ =>
    if (σ.1 224 4) ≤ (σ.1 224 18) then (
      some (.inr σ))
    else (
      bd (f_X12_readCommand σ) (fun q2 =>
      if q2.1 = 0 then (
        some (.inl ((0, q2.2))))
      else (
        bd (f_X12_spaces q2.2) (fun q5 =>
        f_X12_readAll_15 n q5.2))))
def f_X12_readAll (σ : Mem) : Option (Int32 × Mem) :=
  bd (f_X12_spaces (setI (setI σ 224 18 0) 224 19 0)) (fun q1 =>
  bd (f_X12_readAll_15 100000 q1.2) (fun q3 =>
  sm q3 (fun q5 =>
  some ((1, q5)))))
abbrev rm_X12_readAll : Room := { frames := 4, cells := 0, slots := 0, locals := 87 }
set_option maxHeartbeats 4000000 in
set_option maxRecDepth 100000 in
theorem lp_X12_readAll_15 {p : Program} {e : Env} {s : State} {m : MethodId} {args : Array Value} {below : List Frame} {meth : Method} {c : Code} {Q : State → Prop} (l : Launch) (B : Wb) (C0 : Cx p s m args meth c cX12_readAll 2 RX12) (hr : meth.sig.returnType = (some .boolean)) : ∀ (n : Nat) (σ : Mem) (o : (Int32 × Mem) ⊕ (Mem)) (H : Heap) (locs : List Loc) (ls : Array Slot), f_X12_readAll_15 n σ = some o → Wx B σ s H locs → lv_has ls 2 [(0, .ref (wA B 224))] → (∀ r9, o = .inl r9 → Q = MQ below (Qo B r9.2 (some (.int r9.1)) (own B s.heap.size)) args s 0 0 (own B s.heap.size)) → (∀ (o9 : Mem) (_ : o = .inr o9) (H : Heap) (locs : List Loc) (ls : Array Slot), Wx B o9 s H locs → lv_has ls 2 [] → W p l e rm_X12_readAll s m args below meth c H locs 0 0 Q (F0 m 43 ls [])) → W p l e rm_X12_readAll s m args below meth c H locs 0 0 Q (F0 m 15 ls []) := by
  have hx := C0.1.1
  have hb := C0.1.2.1
  intro n
  induction n with
  | zero =>
    intro σ o H locs ls hf w hl hR hK
    cases hf
  | succ n ih =>
    intro σ o H locs ls hf w hl hR hK
    rw [f_X12_readAll_15] at hf
    refine lv_aload_n hx hb dX12_readAll_15 rfl (lv_at hl 0 rfl) ?_
    refine gI C0 w fk_X12_258 (by decide +kernel) dX12_readAll_16 ?_
    refine lv_aload_n hx hb dX12_readAll_19 rfl (lv_at hl 0 rfl) ?_
    refine gI C0 w fk_X12_255 (by decide +kernel) dX12_readAll_20 ?_
    refine lv_icmp_ge (tgt := 43) hx hb dX12_readAll_23 (by decide) (fun c1 => ?_) (fun c1 => ?_)
    · rw [if_pos c1] at hf
      obtain rfl := Option.some.inj hf
      exact hK _ rfl _ _ _ w (lv_sub hl [] rfl)
    · rw [if_neg c1] at hf
      refine lv_aload_n hx hb dX12_readAll_26 rfl (lv_at hl 0 rfl) ?_
      obtain ⟨q2, h3, hf⟩ := bdE hf
      refine cV (As := []) (rest := []) (k := 224) (ci := 10) (T := TX12) (N := 22) C0 w (m_X12_readCommand l B _ σ q2 h3) ky_X12_readCommand kv_X12_readCommand lk_X12_307 rfl (by decide +kernel) ⟨Nat.le_of_ble_eq_true rfl, Nat.le_of_ble_eq_true rfl⟩ ⟨Nat.le_of_ble_eq_true rfl, Nat.le_of_ble_eq_true rfl⟩ rfl (by rfl) (Nat.le_of_ble_eq_true rfl) hl.1 dX12_readAll_27 (fun H locs w => ?_)
      refine lv_if_ne (tgt := 35) hx hb dX12_readAll_30 (by decide) (fun c4 => ?_) (fun c4 => ?_)
      · rw [if_neg c4] at hf
        refine lv_aload_n hx hb dX12_readAll_35 rfl (lv_at hl 0 rfl) ?_
        obtain ⟨q5, h6, hf⟩ := bdE hf
        refine cV (As := []) (rest := []) (k := 224) (ci := 10) (T := TX12) (N := 22) C0 w (m_X12_spaces l B _ q2.2 q5 h6) ky_X12_spaces kv_X12_spaces lk_X12_290 rfl (by decide +kernel) ⟨Nat.le_of_ble_eq_true rfl, Nat.le_of_ble_eq_true rfl⟩ ⟨Nat.le_of_ble_eq_true rfl, Nat.le_of_ble_eq_true rfl⟩ rfl (by rfl) (Nat.le_of_ble_eq_true rfl) hl.1 dX12_readAll_36 (fun H locs w => ?_)
        refine lv_istore_n (lv' := [(1, .int q5.1), (0, .ref (wA B 224))]) hx hb dX12_readAll_39 rfl hl (by decide) rfl (fun ls hl => ?_)
        refine lv_goto (tgt := 15) hx hb dX12_readAll_40 (by decide) ?_
        exact ih q5.2 _ _ _ _ hf w (lv_sub hl [1] rfl) hR hK
      · rw [if_pos c4] at hf
        refine lv_iconst (v := 0) hx hb dX12_readAll_33 (by decide) ?_
        obtain rfl := Option.some.inj hf
        rw [hR _ rfl]
        exact eI C0 hr w (bzE (x := 0) (by decide)) dX12_readAll_34
set_option maxHeartbeats 4000000 in
set_option maxRecDepth 100000 in
theorem m_X12_readAll (l : Launch) (B : Wb) (sz : Nat) (σ : Mem) (q : Int32 × Mem) (hf : f_X12_readAll σ = some q) : MetC l yX12_readAll cX12_readAll 2 (some .boolean) rm_X12_readAll B sz σ q.2 [.ref (wA B 224)] (some (.int q.1)) := by
  refine met_in (by decide +kernel) (Nat.le_of_ble_eq_true rfl) ?_
  intro p e s m below meth c C0 hr w hsz ls hl
  have hx := C0.1.1
  have hb := C0.1.2.1
  unfold f_X12_readAll at hf
  refine lv_aload_n hx hb dX12_readAll_0 rfl (lv_at hl 0 rfl) ?_
  refine lv_iconst (v := 0) hx hb dX12_readAll_1 (by decide) ?_
  refine pI C0 w fk_X12_258 fp_X12_18 (by decide +kernel) dX12_readAll_2 (fun H locs w => ?_)
  refine lv_aload_n hx hb dX12_readAll_5 rfl (lv_at hl 0 rfl) ?_
  refine lv_iconst (v := 0) hx hb dX12_readAll_6 (by decide) ?_
  refine pI C0 w fk_X12_298 fp_X12_19 (by decide +kernel) dX12_readAll_7 (fun H locs w => ?_)
  refine lv_aload_n hx hb dX12_readAll_10 rfl (lv_at hl 0 rfl) ?_
  obtain ⟨q1, h2, hf⟩ := bdE hf
  refine cV (As := []) (rest := []) (k := 224) (ci := 10) (T := TX12) (N := 22) C0 w (m_X12_spaces l B _ (setI (setI σ 224 18 0) 224 19 0) q1 h2) ky_X12_spaces kv_X12_spaces lk_X12_290 rfl (by decide +kernel) ⟨Nat.le_of_ble_eq_true rfl, Nat.le_of_ble_eq_true rfl⟩ ⟨Nat.le_of_ble_eq_true rfl, Nat.le_of_ble_eq_true rfl⟩ rfl (by rfl) (Nat.le_of_ble_eq_true rfl) hl.1 dX12_readAll_11 (fun H locs w => ?_)
  refine lv_istore_n (lv' := [(1, .int q1.1), (0, .ref (wA B 224))]) hx hb dX12_readAll_14 rfl hl (by decide) rfl (fun ls hl => ?_)
  obtain ⟨q3, h4, hf⟩ := bdE hf
  refine lp_X12_readAll_15 l B C0 hr 100000 q1.2 q3 _ _ _ h4 w (lv_sub hl [1] rfl) (fun r9 h9 => by subst h9; cases hf; rfl) (fun q5 h9 H locs ls w hl => ?_)
  subst h9
  have hf := smE hf
  refine lv_iconst (v := 1) hx hb dX12_readAll_43 (by decide) ?_
  obtain rfl := Option.some.inj hf
  exact eI C0 hr w (bzE (x := 1) (by decide)) dX12_readAll_44
def f_X12_does (x1 : Int32) (σ : Mem) : Option (Int32 × Mem) :=
  gd (inb (x1 + 1) 90) (
  gd (inb (x1 + 2) 90) (
  gd (inb x1 90) (
  if (σ.1 238 x1.toNatClampNeg) = 0 then (
    bd (f_X12_whyNoRay (σ.1 238 (x1 + 1).toNatClampNeg) (σ.1 238 (x1 + 2).toNatClampNeg) σ) (fun q5 =>
    if ((setI σ 224 5 q5).1 224 5) = 0 then (
      bd (f_X12_adds (σ.1 238 (x1 + 1).toNatClampNeg) (σ.1 238 (x1 + 2).toNatClampNeg) (setI σ 224 5 q5)) (fun q9 =>
      if (q9.2.1 224 5) = 0 then (
        if q9.1 < 0 then (
          some ((0, q9.2)))
        else (
          some ((1, q9.2))))
      else (
        some ((0, q9.2)))))
    else (
      if ((setI σ 224 5 q5).1 224 5) = 0 then (
        some ((1, setI σ 224 5 q5)))
      else (
        some ((0, setI σ 224 5 q5))))))
  else (
  if (σ.1 238 x1.toNatClampNeg) = 1 then (
    bd (f_X12_isRay (σ.1 238 (x1 + 1).toNatClampNeg) σ) (fun q14 =>
    if q14 = 0 then (
      if ((setI σ 224 5 1).1 224 5) = 0 then (
        if (σ.1 238 (x1 + 2).toNatClampNeg) = 0 then (
          bd (f_X12_put (σ.1 238 (x1 + 1).toNatClampNeg) 2 0 (setI σ 224 5 1)) (fun q20 =>
          if (q20.1 224 5) = 0 then (
            some ((1, q20)))
          else (
            some ((0, q20)))))
        else (
          bd (f_X12_put (σ.1 238 (x1 + 1).toNatClampNeg) 2 1 (setI σ 224 5 1)) (fun q23 =>
          if (q23.1 224 5) = 0 then (
            some ((1, q23)))
          else (
            some ((0, q23))))))
      else (
        if ((setI σ 224 5 1).1 224 5) = 0 then (
          some ((1, setI σ 224 5 1)))
        else (
          some ((0, setI σ 224 5 1)))))
    else (
      if ((setI σ 224 5 0).1 224 5) = 0 then (
        if (σ.1 238 (x1 + 2).toNatClampNeg) = 0 then (
          bd (f_X12_put (σ.1 238 (x1 + 1).toNatClampNeg) 2 0 (setI σ 224 5 0)) (fun q29 =>
          if (q29.1 224 5) = 0 then (
            some ((1, q29)))
          else (
            some ((0, q29)))))
        else (
          bd (f_X12_put (σ.1 238 (x1 + 1).toNatClampNeg) 2 1 (setI σ 224 5 0)) (fun q32 =>
          if (q32.1 224 5) = 0 then (
            some ((1, q32)))
          else (
            some ((0, q32))))))
      else (
        if ((setI σ 224 5 0).1 224 5) = 0 then (
          some ((1, setI σ 224 5 0)))
        else (
          some ((0, setI σ 224 5 0)))))))
  else (
  if (σ.1 238 x1.toNatClampNeg) = 2 then (
    gd (inb x1 90) (
    if (σ.1 238 x1.toNatClampNeg) = 2 then (
      bd (f_X12_lay 8 (σ.1 238 (x1 + 1).toNatClampNeg) (σ.1 238 (x1 + 2).toNatClampNeg) σ) (fun q42 =>
      if (q42.2.1 224 5) = 0 then (
        if q42.1 < 0 then (
          some ((0, q42.2)))
        else (
          some ((1, q42.2))))
      else (
        some ((0, q42.2)))))
    else (
      bd (f_X12_lay 72 (σ.1 238 (x1 + 1).toNatClampNeg) (σ.1 238 (x1 + 2).toNatClampNeg) σ) (fun q38 =>
      if (q38.2.1 224 5) = 0 then (
        if q38.1 < 0 then (
          some ((0, q38.2)))
        else (
          some ((1, q38.2))))
      else (
        some ((0, q38.2)))))))
  else (
  if (σ.1 238 x1.toNatClampNeg) = 3 then (
    gd (inb x1 90) (
    if (σ.1 238 x1.toNatClampNeg) = 2 then (
      bd (f_X12_lay 8 (σ.1 238 (x1 + 1).toNatClampNeg) (σ.1 238 (x1 + 2).toNatClampNeg) σ) (fun q53 =>
      if (q53.2.1 224 5) = 0 then (
        if q53.1 < 0 then (
          some ((0, q53.2)))
        else (
          some ((1, q53.2))))
      else (
        some ((0, q53.2)))))
    else (
      bd (f_X12_lay 72 (σ.1 238 (x1 + 1).toNatClampNeg) (σ.1 238 (x1 + 2).toNatClampNeg) σ) (fun q49 =>
      if (q49.2.1 224 5) = 0 then (
        if q49.1 < 0 then (
          some ((0, q49.2)))
        else (
          some ((1, q49.2))))
      else (
        some ((0, q49.2)))))))
  else (
  if (σ.1 238 x1.toNatClampNeg) = 4 then (
    bd (f_X12_isNoise (σ.1 238 (x1 + 1).toNatClampNeg) (σ.1 238 (x1 + 1).toNatClampNeg) σ) (fun q58 =>
    if q58 = 0 then (
      if ((setI σ 224 5 1).1 224 5) = 0 then (
        bd (f_X12_takes (σ.1 238 (x1 + 1).toNatClampNeg) (σ.1 238 (x1 + 1).toNatClampNeg) (setI σ 224 5 1)) (fun q63 =>
        if (q63.2.1 224 5) = 0 then (
          if q63.1 < 0 then (
            some ((0, q63.2)))
          else (
            some ((1, q63.2))))
        else (
          some ((0, q63.2)))))
      else (
        if ((setI σ 224 5 1).1 224 5) = 0 then (
          some ((1, setI σ 224 5 1)))
        else (
          some ((0, setI σ 224 5 1)))))
    else (
      if ((setI σ 224 5 0).1 224 5) = 0 then (
        bd (f_X12_takes (σ.1 238 (x1 + 1).toNatClampNeg) (σ.1 238 (x1 + 1).toNatClampNeg) (setI σ 224 5 0)) (fun q69 =>
        if (q69.2.1 224 5) = 0 then (
          if q69.1 < 0 then (
            some ((0, q69.2)))
          else (
            some ((1, q69.2))))
        else (
          some ((0, q69.2)))))
      else (
        if ((setI σ 224 5 0).1 224 5) = 0 then (
          some ((1, setI σ 224 5 0)))
        else (
          some ((0, setI σ 224 5 0)))))))
  else (
  if (σ.1 238 x1.toNatClampNeg) = 5 then (
    bd (f_X12_in ((σ.1 238 (x1 + 1).toNatClampNeg).toInt64) 1 20 σ) (fun q74 =>
    if q74 = 0 then (
      if ((setI σ 224 5 1).1 224 5) = 0 then (
        bd (f_X12_sweeps (σ.1 238 (x1 + 1).toNatClampNeg) (setI σ 224 5 1)) (fun q79 =>
        if (q79.2.1 224 5) = 0 then (
          if q79.1 < 0 then (
            some ((0, q79.2)))
          else (
            some ((1, q79.2))))
        else (
          some ((0, q79.2)))))
      else (
        if ((setI σ 224 5 1).1 224 5) = 0 then (
          some ((1, setI σ 224 5 1)))
        else (
          some ((0, setI σ 224 5 1)))))
    else (
      if ((setI σ 224 5 0).1 224 5) = 0 then (
        bd (f_X12_sweeps (σ.1 238 (x1 + 1).toNatClampNeg) (setI σ 224 5 0)) (fun q85 =>
        if (q85.2.1 224 5) = 0 then (
          if q85.1 < 0 then (
            some ((0, q85.2)))
          else (
            some ((1, q85.2))))
        else (
          some ((0, q85.2)))))
      else (
        if ((setI σ 224 5 0).1 224 5) = 0 then (
          some ((1, setI σ 224 5 0)))
        else (
          some ((0, setI σ 224 5 0)))))))
  else (
  if (σ.1 238 x1.toNatClampNeg) = 6 then (
    bd (f_X12_in ((σ.1 238 (x1 + 1).toNatClampNeg).toInt64) 1 100 σ) (fun q90 =>
    if q90 = 0 then (
      if ((setI σ 224 5 1).1 224 5) = 0 then (
        bd (f_X12_smooths (σ.1 238 (x1 + 1).toNatClampNeg) (setI σ 224 5 1)) (fun q95 =>
        if (q95.2.1 224 5) = 0 then (
          if q95.1 < 0 then (
            some ((0, q95.2)))
          else (
            some ((1, q95.2))))
        else (
          some ((0, q95.2)))))
      else (
        if ((setI σ 224 5 1).1 224 5) = 0 then (
          some ((1, setI σ 224 5 1)))
        else (
          some ((0, setI σ 224 5 1)))))
    else (
      if ((setI σ 224 5 0).1 224 5) = 0 then (
        bd (f_X12_smooths (σ.1 238 (x1 + 1).toNatClampNeg) (setI σ 224 5 0)) (fun q101 =>
        if (q101.2.1 224 5) = 0 then (
          if q101.1 < 0 then (
            some ((0, q101.2)))
          else (
            some ((1, q101.2))))
        else (
          some ((0, q101.2)))))
      else (
        if ((setI σ 224 5 0).1 224 5) = 0 then (
          some ((1, setI σ 224 5 0)))
        else (
          some ((0, setI σ 224 5 0)))))))
  else (
    bd (f_X12_fills (setI σ 224 5 0)) (fun q105 =>
    if (q105.2.1 224 5) = 0 then (
      if q105.1 < 0 then (
        some ((0, q105.2)))
      else (
        some ((1, q105.2))))
    else (
      some ((0, q105.2))))))))))))))
abbrev rm_X12_does : Room := { frames := 8, cells := 0, slots := 0, locals := 191 }
set_option maxHeartbeats 4000000 in
set_option maxRecDepth 100000 in
theorem m_X12_does (l : Launch) (B : Wb) (sz : Nat) (σ : Mem) (x1 : Int32) (q : Int32 × Mem) (hf : f_X12_does x1 σ = some q) : MetC l yX12_does cX12_does 5 (some .boolean) rm_X12_does B sz σ q.2 [.ref (wA B 224), .int x1] (some (.int q.1)) := by
  refine met_in (by decide +kernel) (Nat.le_of_ble_eq_true rfl) ?_
  intro p e s m below meth c C0 hr w hsz ls hl
  have hx := C0.1.1
  have hb := C0.1.2.1
  unfold f_X12_does at hf
  refine lv_aload_n hx hb dX12_does_0 rfl (lv_at hl 0 rfl) ?_
  refine gR C0 w 238 fk_X12_51 (by decide +kernel) dX12_does_1 ?_
  refine lv_iload_n hx hb dX12_does_4 rfl (lv_at hl 1 rfl) ?_
  refine lv_iconst (v := 1) hx hb dX12_does_5 (by decide) ?_
  refine lv_iadd hx hb dX12_does_6 ?_
  obtain ⟨g1, hf⟩ := gdE hf
  refine aI C0 w (n := 90) (by decide +kernel) (inbE g1) dX12_does_7 ?_
  refine lv_istore_n (lv' := [(2, .int (σ.1 238 (x1 + 1).toNatClampNeg)), (0, .ref (wA B 224)), (1, .int x1)]) hx hb dX12_does_8 rfl hl (by decide) rfl (fun ls hl => ?_)
  refine lv_aload_n hx hb dX12_does_9 rfl (lv_at hl 1 rfl) ?_
  refine gR C0 w 238 fk_X12_51 (by decide +kernel) dX12_does_10 ?_
  refine lv_iload_n hx hb dX12_does_13 rfl (lv_at hl 2 rfl) ?_
  refine lv_iconst (v := 2) hx hb dX12_does_14 (by decide) ?_
  refine lv_iadd hx hb dX12_does_15 ?_
  obtain ⟨g2, hf⟩ := gdE hf
  refine aI C0 w (n := 90) (by decide +kernel) (inbE g2) dX12_does_16 ?_
  refine lv_istore_n (lv' := [(3, .int (σ.1 238 (x1 + 2).toNatClampNeg)), (2, .int (σ.1 238 (x1 + 1).toNatClampNeg)), (0, .ref (wA B 224)), (1, .int x1)]) hx hb dX12_does_17 rfl hl (by decide) rfl (fun ls hl => ?_)
  refine lv_iconst (v := 0) hx hb dX12_does_18 (by decide) ?_
  refine lv_istore (lv' := [(4, .int 0), (3, .int (σ.1 238 (x1 + 2).toNatClampNeg)), (2, .int (σ.1 238 (x1 + 1).toNatClampNeg)), (0, .ref (wA B 224)), (1, .int x1)]) hx hb dX12_does_19 hl (by decide) rfl (fun ls hl => ?_)
  refine lv_aload_n hx hb dX12_does_21 rfl (lv_at hl 3 rfl) ?_
  refine gR C0 w 238 fk_X12_51 (by decide +kernel) dX12_does_22 ?_
  refine lv_iload_n hx hb dX12_does_25 rfl (lv_at hl 4 rfl) ?_
  obtain ⟨g3, hf⟩ := gdE hf
  refine aI C0 w (n := 90) (by decide +kernel) (inbE g3) dX12_does_26 ?_
  by_cases c4 : (σ.1 238 x1.toNatClampNeg) = 0
  · rw [if_pos c4] at hf
    refine lv_tableIn (tgt := 68) hx hb dX12_does_27 (by rw [c4]; decide) (by rw [c4]; decide) (by rw [c4]; rfl) (by decide) ?_
    refine lv_aload_n hx hb dX12_does_68 rfl (lv_at hl 3 rfl) ?_
    refine lv_aload_n hx hb dX12_does_69 rfl (lv_at hl 3 rfl) ?_
    refine lv_iload_n hx hb dX12_does_70 rfl (lv_at hl 2 rfl) ?_
    refine lv_iload_n hx hb dX12_does_71 rfl (lv_at hl 1 rfl) ?_
    obtain ⟨q5, h6, hf⟩ := bdE hf
    refine cV (As := [.int (σ.1 238 (x1 + 1).toNatClampNeg), .int (σ.1 238 (x1 + 2).toNatClampNeg)]) (rest := [.ref (wA B 224)]) (k := 224) (ci := 10) (T := TX12) (N := 22) C0 w (m_X12_whyNoRay l B _ σ (σ.1 238 (x1 + 1).toNatClampNeg) (σ.1 238 (x1 + 2).toNatClampNeg) q5 h6) ky_X12_whyNoRay kv_X12_whyNoRay lk_X12_165 rfl (by decide +kernel) ⟨Nat.le_of_ble_eq_true rfl, Nat.le_of_ble_eq_true rfl⟩ ⟨Nat.le_of_ble_eq_true rfl, Nat.le_of_ble_eq_true rfl⟩ rfl (by rfl) (Nat.le_of_ble_eq_true rfl) hl.1 dX12_does_72 (fun H locs w => ?_)
    refine pI C0 w fk_X12_62 fp_X12_5 (by decide +kernel) dX12_does_75 (fun H locs w => ?_)
    refine lv_aload_n hx hb dX12_does_78 rfl (lv_at hl 3 rfl) ?_
    refine gI C0 w fk_X12_62 (by decide +kernel) dX12_does_79 ?_
    refine lv_if_ne (tgt := 94) hx hb dX12_does_82 (by decide) (fun c7 => ?_) (fun c7 => ?_)
    · rw [if_neg c7] at hf
      refine lv_iconst (v := 0) hx hb dX12_does_94 (by decide) ?_
      refine lv_istore (lv' := [(4, .int 0), (3, .int (σ.1 238 (x1 + 2).toNatClampNeg)), (2, .int (σ.1 238 (x1 + 1).toNatClampNeg)), (0, .ref (wA B 224)), (1, .int x1)]) hx hb dX12_does_95 hl (by decide) rfl (fun ls hl => ?_)
      refine lv_goto (tgt := 304) hx hb dX12_does_97 (by decide) ?_
      refine lv_aload_n hx hb dX12_does_304 rfl (lv_at hl 3 rfl) ?_
      refine gI C0 w fk_X12_62 (by decide +kernel) dX12_does_305 ?_
      refine lv_if_ne (tgt := 320) hx hb dX12_does_308 (by decide) (fun c8 => ?_) (fun c8 => ?_)
      · rw [if_neg c8] at hf
        refine lv_iconst (v := 0) hx hb dX12_does_320 (by decide) ?_
        obtain rfl := Option.some.inj hf
        exact eI C0 hr w (bzE (x := 0) (by decide)) dX12_does_321
      · rw [if_pos c8] at hf
        refine lv_iload hx hb dX12_does_311 (lv_at hl 0 rfl) ?_
        refine lv_if_lt (tgt := 320) hx hb dX12_does_313 (by decide) (fun c9 => absurd c9 (by decide)) (fun _ => ?_)
        refine lv_iconst (v := 1) hx hb dX12_does_316 (by decide) ?_
        refine lv_goto (tgt := 321) hx hb dX12_does_317 (by decide) ?_
        obtain rfl := Option.some.inj hf
        exact eI C0 hr w (bzE (x := 1) (by decide)) dX12_does_321
    · rw [if_pos c7] at hf
      refine lv_aload_n hx hb dX12_does_85 rfl (lv_at hl 3 rfl) ?_
      refine lv_iload_n hx hb dX12_does_86 rfl (lv_at hl 2 rfl) ?_
      refine lv_iload_n hx hb dX12_does_87 rfl (lv_at hl 1 rfl) ?_
      obtain ⟨q9, h10, hf⟩ := bdE hf
      refine cV (As := [.int (σ.1 238 (x1 + 1).toNatClampNeg), .int (σ.1 238 (x1 + 2).toNatClampNeg)]) (rest := []) (k := 224) (ci := 10) (T := TX12) (N := 22) C0 w (m_X12_adds l B _ (setI σ 224 5 q5) (σ.1 238 (x1 + 1).toNatClampNeg) (σ.1 238 (x1 + 2).toNatClampNeg) q9 h10) ky_X12_adds kv_X12_adds lk_X12_168 rfl (by decide +kernel) ⟨Nat.le_of_ble_eq_true rfl, Nat.le_of_ble_eq_true rfl⟩ ⟨Nat.le_of_ble_eq_true rfl, Nat.le_of_ble_eq_true rfl⟩ rfl (by rfl) (Nat.le_of_ble_eq_true rfl) hl.1 dX12_does_88 (fun H locs w => ?_)
      refine lv_goto (tgt := 95) hx hb dX12_does_91 (by decide) ?_
      refine lv_istore (lv' := [(4, .int q9.1), (3, .int (σ.1 238 (x1 + 2).toNatClampNeg)), (2, .int (σ.1 238 (x1 + 1).toNatClampNeg)), (0, .ref (wA B 224)), (1, .int x1)]) hx hb dX12_does_95 hl (by decide) rfl (fun ls hl => ?_)
      refine lv_goto (tgt := 304) hx hb dX12_does_97 (by decide) ?_
      refine lv_aload_n hx hb dX12_does_304 rfl (lv_at hl 3 rfl) ?_
      refine gI C0 w fk_X12_62 (by decide +kernel) dX12_does_305 ?_
      refine lv_if_ne (tgt := 320) hx hb dX12_does_308 (by decide) (fun c11 => ?_) (fun c11 => ?_)
      · rw [if_neg c11] at hf
        refine lv_iconst (v := 0) hx hb dX12_does_320 (by decide) ?_
        obtain rfl := Option.some.inj hf
        exact eI C0 hr w (bzE (x := 0) (by decide)) dX12_does_321
      · rw [if_pos c11] at hf
        refine lv_iload hx hb dX12_does_311 (lv_at hl 0 rfl) ?_
        refine lv_if_lt (tgt := 320) hx hb dX12_does_313 (by decide) (fun c12 => ?_) (fun c12 => ?_)
        · rw [if_pos c12] at hf
          refine lv_iconst (v := 0) hx hb dX12_does_320 (by decide) ?_
          obtain rfl := Option.some.inj hf
          exact eI C0 hr w (bzE (x := 0) (by decide)) dX12_does_321
        · rw [if_neg c12] at hf
          refine lv_iconst (v := 1) hx hb dX12_does_316 (by decide) ?_
          refine lv_goto (tgt := 321) hx hb dX12_does_317 (by decide) ?_
          obtain rfl := Option.some.inj hf
          exact eI C0 hr w (bzE (x := 1) (by decide)) dX12_does_321
  · rw [if_neg c4] at hf
    by_cases c13 : (σ.1 238 x1.toNatClampNeg) = 1
    · rw [if_pos c13] at hf
      refine lv_tableIn (tgt := 100) hx hb dX12_does_27 (by rw [c13]; decide) (by rw [c13]; decide) (by rw [c13]; rfl) (by decide) ?_
      refine lv_aload_n hx hb dX12_does_100 rfl (lv_at hl 3 rfl) ?_
      refine lv_aload_n hx hb dX12_does_101 rfl (lv_at hl 3 rfl) ?_
      refine lv_iload_n hx hb dX12_does_102 rfl (lv_at hl 2 rfl) ?_
      obtain ⟨q14, h15, hf⟩ := bdE hf
      refine cV (As := [.int (σ.1 238 (x1 + 1).toNatClampNeg)]) (rest := [.ref (wA B 224)]) (k := 224) (ci := 10) (T := TX12) (N := 22) C0 w (m_X12_isRay l B _ σ (σ.1 238 (x1 + 1).toNatClampNeg) q14 h15) ky_X12_isRay kv_X12_isRay lk_X12_171 rfl (by decide +kernel) ⟨Nat.le_of_ble_eq_true rfl, Nat.le_of_ble_eq_true rfl⟩ ⟨Nat.le_of_ble_eq_true rfl, Nat.le_of_ble_eq_true rfl⟩ rfl (by rfl) (Nat.le_of_ble_eq_true rfl) hl.1 dX12_does_103 (fun H locs w => ?_)
      refine lv_if_eq (tgt := 113) hx hb dX12_does_106 (by decide) (fun c16 => ?_) (fun c16 => ?_)
      · rw [if_pos c16] at hf
        refine lv_iconst (v := 1) hx hb dX12_does_113 (by decide) ?_
        refine pI C0 w fk_X12_62 fp_X12_5 (by decide +kernel) dX12_does_114 (fun H locs w => ?_)
        refine lv_aload_n hx hb dX12_does_117 rfl (lv_at hl 3 rfl) ?_
        refine gI C0 w fk_X12_62 (by decide +kernel) dX12_does_118 ?_
        refine lv_if_ne (tgt := 304) hx hb dX12_does_121 (by decide) (fun c17 => ?_) (fun c17 => ?_)
        · rw [if_neg c17] at hf
          refine lv_aload_n hx hb dX12_does_304 rfl (lv_at hl 3 rfl) ?_
          refine gI C0 w fk_X12_62 (by decide +kernel) dX12_does_305 ?_
          refine lv_if_ne (tgt := 320) hx hb dX12_does_308 (by decide) (fun c18 => ?_) (fun c18 => ?_)
          · rw [if_neg c18] at hf
            refine lv_iconst (v := 0) hx hb dX12_does_320 (by decide) ?_
            obtain rfl := Option.some.inj hf
            exact eI C0 hr w (bzE (x := 0) (by decide)) dX12_does_321
          · rw [if_pos c18] at hf
            refine lv_iload hx hb dX12_does_311 (lv_at hl 0 rfl) ?_
            refine lv_if_lt (tgt := 320) hx hb dX12_does_313 (by decide) (fun c9 => absurd c9 (by decide)) (fun _ => ?_)
            refine lv_iconst (v := 1) hx hb dX12_does_316 (by decide) ?_
            refine lv_goto (tgt := 321) hx hb dX12_does_317 (by decide) ?_
            obtain rfl := Option.some.inj hf
            exact eI C0 hr w (bzE (x := 1) (by decide)) dX12_does_321
        · rw [if_pos c17] at hf
          refine lv_aload_n hx hb dX12_does_124 rfl (lv_at hl 3 rfl) ?_
          refine lv_iload_n hx hb dX12_does_125 rfl (lv_at hl 2 rfl) ?_
          refine lv_iconst (v := 2) hx hb dX12_does_126 (by decide) ?_
          refine lv_iload_n hx hb dX12_does_127 rfl (lv_at hl 1 rfl) ?_
          refine lv_if_eq (tgt := 135) hx hb dX12_does_128 (by decide) (fun c19 => ?_) (fun c19 => ?_)
          · rw [if_pos c19] at hf
            refine lv_lconst (v := 0) hx hb dX12_does_135 (by decide) ?_
            obtain ⟨q20, h21, hf⟩ := bdE hf
            refine cV (As := [.int (σ.1 238 (x1 + 1).toNatClampNeg), .int 2, .long 0]) (rest := []) (k := 224) (ci := 10) (T := TX12) (N := 22) C0 w (m_X12_put l B _ (setI σ 224 5 1) (σ.1 238 (x1 + 1).toNatClampNeg) 2 0 q20 h21) ky_X12_put kv_X12_put lk_X12_156 rfl (by decide +kernel) ⟨Nat.le_of_ble_eq_true rfl, Nat.le_of_ble_eq_true rfl⟩ ⟨Nat.le_of_ble_eq_true rfl, Nat.le_of_ble_eq_true rfl⟩ rfl (by rfl) (Nat.le_of_ble_eq_true rfl) hl.1 dX12_does_136 (fun H locs w => ?_)
            refine lv_goto (tgt := 304) hx hb dX12_does_139 (by decide) ?_
            refine lv_aload_n hx hb dX12_does_304 rfl (lv_at hl 3 rfl) ?_
            refine gI C0 w fk_X12_62 (by decide +kernel) dX12_does_305 ?_
            refine lv_if_ne (tgt := 320) hx hb dX12_does_308 (by decide) (fun c22 => ?_) (fun c22 => ?_)
            · rw [if_neg c22] at hf
              refine lv_iconst (v := 0) hx hb dX12_does_320 (by decide) ?_
              obtain rfl := Option.some.inj hf
              exact eI C0 hr w (bzE (x := 0) (by decide)) dX12_does_321
            · rw [if_pos c22] at hf
              refine lv_iload hx hb dX12_does_311 (lv_at hl 0 rfl) ?_
              refine lv_if_lt (tgt := 320) hx hb dX12_does_313 (by decide) (fun c9 => absurd c9 (by decide)) (fun _ => ?_)
              refine lv_iconst (v := 1) hx hb dX12_does_316 (by decide) ?_
              refine lv_goto (tgt := 321) hx hb dX12_does_317 (by decide) ?_
              obtain rfl := Option.some.inj hf
              exact eI C0 hr w (bzE (x := 1) (by decide)) dX12_does_321
          · rw [if_neg c19] at hf
            refine lv_lconst (v := 1) hx hb dX12_does_131 (by decide) ?_
            refine lv_goto (tgt := 136) hx hb dX12_does_132 (by decide) ?_
            obtain ⟨q23, h24, hf⟩ := bdE hf
            refine cV (As := [.int (σ.1 238 (x1 + 1).toNatClampNeg), .int 2, .long 1]) (rest := []) (k := 224) (ci := 10) (T := TX12) (N := 22) C0 w (m_X12_put l B _ (setI σ 224 5 1) (σ.1 238 (x1 + 1).toNatClampNeg) 2 1 q23 h24) ky_X12_put kv_X12_put lk_X12_156 rfl (by decide +kernel) ⟨Nat.le_of_ble_eq_true rfl, Nat.le_of_ble_eq_true rfl⟩ ⟨Nat.le_of_ble_eq_true rfl, Nat.le_of_ble_eq_true rfl⟩ rfl (by rfl) (Nat.le_of_ble_eq_true rfl) hl.1 dX12_does_136 (fun H locs w => ?_)
            refine lv_goto (tgt := 304) hx hb dX12_does_139 (by decide) ?_
            refine lv_aload_n hx hb dX12_does_304 rfl (lv_at hl 3 rfl) ?_
            refine gI C0 w fk_X12_62 (by decide +kernel) dX12_does_305 ?_
            refine lv_if_ne (tgt := 320) hx hb dX12_does_308 (by decide) (fun c25 => ?_) (fun c25 => ?_)
            · rw [if_neg c25] at hf
              refine lv_iconst (v := 0) hx hb dX12_does_320 (by decide) ?_
              obtain rfl := Option.some.inj hf
              exact eI C0 hr w (bzE (x := 0) (by decide)) dX12_does_321
            · rw [if_pos c25] at hf
              refine lv_iload hx hb dX12_does_311 (lv_at hl 0 rfl) ?_
              refine lv_if_lt (tgt := 320) hx hb dX12_does_313 (by decide) (fun c9 => absurd c9 (by decide)) (fun _ => ?_)
              refine lv_iconst (v := 1) hx hb dX12_does_316 (by decide) ?_
              refine lv_goto (tgt := 321) hx hb dX12_does_317 (by decide) ?_
              obtain rfl := Option.some.inj hf
              exact eI C0 hr w (bzE (x := 1) (by decide)) dX12_does_321
      · rw [if_neg c16] at hf
        refine lv_iconst (v := 0) hx hb dX12_does_109 (by decide) ?_
        refine lv_goto (tgt := 114) hx hb dX12_does_110 (by decide) ?_
        refine pI C0 w fk_X12_62 fp_X12_5 (by decide +kernel) dX12_does_114 (fun H locs w => ?_)
        refine lv_aload_n hx hb dX12_does_117 rfl (lv_at hl 3 rfl) ?_
        refine gI C0 w fk_X12_62 (by decide +kernel) dX12_does_118 ?_
        refine lv_if_ne (tgt := 304) hx hb dX12_does_121 (by decide) (fun c26 => ?_) (fun c26 => ?_)
        · rw [if_neg c26] at hf
          refine lv_aload_n hx hb dX12_does_304 rfl (lv_at hl 3 rfl) ?_
          refine gI C0 w fk_X12_62 (by decide +kernel) dX12_does_305 ?_
          refine lv_if_ne (tgt := 320) hx hb dX12_does_308 (by decide) (fun c27 => ?_) (fun c27 => ?_)
          · rw [if_neg c27] at hf
            refine lv_iconst (v := 0) hx hb dX12_does_320 (by decide) ?_
            obtain rfl := Option.some.inj hf
            exact eI C0 hr w (bzE (x := 0) (by decide)) dX12_does_321
          · rw [if_pos c27] at hf
            refine lv_iload hx hb dX12_does_311 (lv_at hl 0 rfl) ?_
            refine lv_if_lt (tgt := 320) hx hb dX12_does_313 (by decide) (fun c9 => absurd c9 (by decide)) (fun _ => ?_)
            refine lv_iconst (v := 1) hx hb dX12_does_316 (by decide) ?_
            refine lv_goto (tgt := 321) hx hb dX12_does_317 (by decide) ?_
            obtain rfl := Option.some.inj hf
            exact eI C0 hr w (bzE (x := 1) (by decide)) dX12_does_321
        · rw [if_pos c26] at hf
          refine lv_aload_n hx hb dX12_does_124 rfl (lv_at hl 3 rfl) ?_
          refine lv_iload_n hx hb dX12_does_125 rfl (lv_at hl 2 rfl) ?_
          refine lv_iconst (v := 2) hx hb dX12_does_126 (by decide) ?_
          refine lv_iload_n hx hb dX12_does_127 rfl (lv_at hl 1 rfl) ?_
          refine lv_if_eq (tgt := 135) hx hb dX12_does_128 (by decide) (fun c28 => ?_) (fun c28 => ?_)
          · rw [if_pos c28] at hf
            refine lv_lconst (v := 0) hx hb dX12_does_135 (by decide) ?_
            obtain ⟨q29, h30, hf⟩ := bdE hf
            refine cV (As := [.int (σ.1 238 (x1 + 1).toNatClampNeg), .int 2, .long 0]) (rest := []) (k := 224) (ci := 10) (T := TX12) (N := 22) C0 w (m_X12_put l B _ (setI σ 224 5 0) (σ.1 238 (x1 + 1).toNatClampNeg) 2 0 q29 h30) ky_X12_put kv_X12_put lk_X12_156 rfl (by decide +kernel) ⟨Nat.le_of_ble_eq_true rfl, Nat.le_of_ble_eq_true rfl⟩ ⟨Nat.le_of_ble_eq_true rfl, Nat.le_of_ble_eq_true rfl⟩ rfl (by rfl) (Nat.le_of_ble_eq_true rfl) hl.1 dX12_does_136 (fun H locs w => ?_)
            refine lv_goto (tgt := 304) hx hb dX12_does_139 (by decide) ?_
            refine lv_aload_n hx hb dX12_does_304 rfl (lv_at hl 3 rfl) ?_
            refine gI C0 w fk_X12_62 (by decide +kernel) dX12_does_305 ?_
            refine lv_if_ne (tgt := 320) hx hb dX12_does_308 (by decide) (fun c31 => ?_) (fun c31 => ?_)
            · rw [if_neg c31] at hf
              refine lv_iconst (v := 0) hx hb dX12_does_320 (by decide) ?_
              obtain rfl := Option.some.inj hf
              exact eI C0 hr w (bzE (x := 0) (by decide)) dX12_does_321
            · rw [if_pos c31] at hf
              refine lv_iload hx hb dX12_does_311 (lv_at hl 0 rfl) ?_
              refine lv_if_lt (tgt := 320) hx hb dX12_does_313 (by decide) (fun c9 => absurd c9 (by decide)) (fun _ => ?_)
              refine lv_iconst (v := 1) hx hb dX12_does_316 (by decide) ?_
              refine lv_goto (tgt := 321) hx hb dX12_does_317 (by decide) ?_
              obtain rfl := Option.some.inj hf
              exact eI C0 hr w (bzE (x := 1) (by decide)) dX12_does_321
          · rw [if_neg c28] at hf
            refine lv_lconst (v := 1) hx hb dX12_does_131 (by decide) ?_
            refine lv_goto (tgt := 136) hx hb dX12_does_132 (by decide) ?_
            obtain ⟨q32, h33, hf⟩ := bdE hf
            refine cV (As := [.int (σ.1 238 (x1 + 1).toNatClampNeg), .int 2, .long 1]) (rest := []) (k := 224) (ci := 10) (T := TX12) (N := 22) C0 w (m_X12_put l B _ (setI σ 224 5 0) (σ.1 238 (x1 + 1).toNatClampNeg) 2 1 q32 h33) ky_X12_put kv_X12_put lk_X12_156 rfl (by decide +kernel) ⟨Nat.le_of_ble_eq_true rfl, Nat.le_of_ble_eq_true rfl⟩ ⟨Nat.le_of_ble_eq_true rfl, Nat.le_of_ble_eq_true rfl⟩ rfl (by rfl) (Nat.le_of_ble_eq_true rfl) hl.1 dX12_does_136 (fun H locs w => ?_)
            refine lv_goto (tgt := 304) hx hb dX12_does_139 (by decide) ?_
            refine lv_aload_n hx hb dX12_does_304 rfl (lv_at hl 3 rfl) ?_
            refine gI C0 w fk_X12_62 (by decide +kernel) dX12_does_305 ?_
            refine lv_if_ne (tgt := 320) hx hb dX12_does_308 (by decide) (fun c34 => ?_) (fun c34 => ?_)
            · rw [if_neg c34] at hf
              refine lv_iconst (v := 0) hx hb dX12_does_320 (by decide) ?_
              obtain rfl := Option.some.inj hf
              exact eI C0 hr w (bzE (x := 0) (by decide)) dX12_does_321
            · rw [if_pos c34] at hf
              refine lv_iload hx hb dX12_does_311 (lv_at hl 0 rfl) ?_
              refine lv_if_lt (tgt := 320) hx hb dX12_does_313 (by decide) (fun c9 => absurd c9 (by decide)) (fun _ => ?_)
              refine lv_iconst (v := 1) hx hb dX12_does_316 (by decide) ?_
              refine lv_goto (tgt := 321) hx hb dX12_does_317 (by decide) ?_
              obtain rfl := Option.some.inj hf
              exact eI C0 hr w (bzE (x := 1) (by decide)) dX12_does_321
    · rw [if_neg c13] at hf
      by_cases c35 : (σ.1 238 x1.toNatClampNeg) = 2
      · rw [if_pos c35] at hf
        refine lv_tableIn (tgt := 142) hx hb dX12_does_27 (by rw [c35]; decide) (by rw [c35]; decide) (by rw [c35]; rfl) (by decide) ?_
        refine lv_aload_n hx hb dX12_does_142 rfl (lv_at hl 3 rfl) ?_
        refine lv_aload_n hx hb dX12_does_143 rfl (lv_at hl 3 rfl) ?_
        refine gR C0 w 238 fk_X12_51 (by decide +kernel) dX12_does_144 ?_
        refine lv_iload_n hx hb dX12_does_147 rfl (lv_at hl 4 rfl) ?_
        obtain ⟨g36, hf⟩ := gdE hf
        refine aI C0 w (n := 90) (by decide +kernel) (inbE g36) dX12_does_148 ?_
        refine lv_iconst (v := 2) hx hb dX12_does_149 (by decide) ?_
        refine lv_icmp_ne (tgt := 158) hx hb dX12_does_150 (by decide) (fun c37 => ?_) (fun c37 => ?_)
        · rw [if_neg c37] at hf
          refine lv_bipush (v := 72) hx hb dX12_does_158 (by decide) ?_
          refine lv_iload_n hx hb dX12_does_160 rfl (lv_at hl 2 rfl) ?_
          refine lv_iload_n hx hb dX12_does_161 rfl (lv_at hl 1 rfl) ?_
          obtain ⟨q38, h39, hf⟩ := bdE hf
          refine cV (As := [.int 72, .int (σ.1 238 (x1 + 1).toNatClampNeg), .int (σ.1 238 (x1 + 2).toNatClampNeg)]) (rest := []) (k := 224) (ci := 10) (T := TX12) (N := 22) C0 w (m_X12_lay l B _ σ 72 (σ.1 238 (x1 + 1).toNatClampNeg) (σ.1 238 (x1 + 2).toNatClampNeg) q38 h39) ky_X12_lay kv_X12_lay lk_X12_140 rfl (by decide +kernel) ⟨Nat.le_of_ble_eq_true rfl, Nat.le_of_ble_eq_true rfl⟩ ⟨Nat.le_of_ble_eq_true rfl, Nat.le_of_ble_eq_true rfl⟩ rfl (by rfl) (Nat.le_of_ble_eq_true rfl) hl.1 dX12_does_162 (fun H locs w => ?_)
          refine lv_istore (lv' := [(4, .int q38.1), (3, .int (σ.1 238 (x1 + 2).toNatClampNeg)), (2, .int (σ.1 238 (x1 + 1).toNatClampNeg)), (0, .ref (wA B 224)), (1, .int x1)]) hx hb dX12_does_165 hl (by decide) rfl (fun ls hl => ?_)
          refine lv_goto (tgt := 304) hx hb dX12_does_167 (by decide) ?_
          refine lv_aload_n hx hb dX12_does_304 rfl (lv_at hl 3 rfl) ?_
          refine gI C0 w fk_X12_62 (by decide +kernel) dX12_does_305 ?_
          refine lv_if_ne (tgt := 320) hx hb dX12_does_308 (by decide) (fun c40 => ?_) (fun c40 => ?_)
          · rw [if_neg c40] at hf
            refine lv_iconst (v := 0) hx hb dX12_does_320 (by decide) ?_
            obtain rfl := Option.some.inj hf
            exact eI C0 hr w (bzE (x := 0) (by decide)) dX12_does_321
          · rw [if_pos c40] at hf
            refine lv_iload hx hb dX12_does_311 (lv_at hl 0 rfl) ?_
            refine lv_if_lt (tgt := 320) hx hb dX12_does_313 (by decide) (fun c41 => ?_) (fun c41 => ?_)
            · rw [if_pos c41] at hf
              refine lv_iconst (v := 0) hx hb dX12_does_320 (by decide) ?_
              obtain rfl := Option.some.inj hf
              exact eI C0 hr w (bzE (x := 0) (by decide)) dX12_does_321
            · rw [if_neg c41] at hf
              refine lv_iconst (v := 1) hx hb dX12_does_316 (by decide) ?_
              refine lv_goto (tgt := 321) hx hb dX12_does_317 (by decide) ?_
              obtain rfl := Option.some.inj hf
              exact eI C0 hr w (bzE (x := 1) (by decide)) dX12_does_321
        · rw [if_pos c37] at hf
          refine lv_bipush (v := 8) hx hb dX12_does_153 (by decide) ?_
          refine lv_goto (tgt := 160) hx hb dX12_does_155 (by decide) ?_
          refine lv_iload_n hx hb dX12_does_160 rfl (lv_at hl 2 rfl) ?_
          refine lv_iload_n hx hb dX12_does_161 rfl (lv_at hl 1 rfl) ?_
          obtain ⟨q42, h43, hf⟩ := bdE hf
          refine cV (As := [.int 8, .int (σ.1 238 (x1 + 1).toNatClampNeg), .int (σ.1 238 (x1 + 2).toNatClampNeg)]) (rest := []) (k := 224) (ci := 10) (T := TX12) (N := 22) C0 w (m_X12_lay l B _ σ 8 (σ.1 238 (x1 + 1).toNatClampNeg) (σ.1 238 (x1 + 2).toNatClampNeg) q42 h43) ky_X12_lay kv_X12_lay lk_X12_140 rfl (by decide +kernel) ⟨Nat.le_of_ble_eq_true rfl, Nat.le_of_ble_eq_true rfl⟩ ⟨Nat.le_of_ble_eq_true rfl, Nat.le_of_ble_eq_true rfl⟩ rfl (by rfl) (Nat.le_of_ble_eq_true rfl) hl.1 dX12_does_162 (fun H locs w => ?_)
          refine lv_istore (lv' := [(4, .int q42.1), (3, .int (σ.1 238 (x1 + 2).toNatClampNeg)), (2, .int (σ.1 238 (x1 + 1).toNatClampNeg)), (0, .ref (wA B 224)), (1, .int x1)]) hx hb dX12_does_165 hl (by decide) rfl (fun ls hl => ?_)
          refine lv_goto (tgt := 304) hx hb dX12_does_167 (by decide) ?_
          refine lv_aload_n hx hb dX12_does_304 rfl (lv_at hl 3 rfl) ?_
          refine gI C0 w fk_X12_62 (by decide +kernel) dX12_does_305 ?_
          refine lv_if_ne (tgt := 320) hx hb dX12_does_308 (by decide) (fun c44 => ?_) (fun c44 => ?_)
          · rw [if_neg c44] at hf
            refine lv_iconst (v := 0) hx hb dX12_does_320 (by decide) ?_
            obtain rfl := Option.some.inj hf
            exact eI C0 hr w (bzE (x := 0) (by decide)) dX12_does_321
          · rw [if_pos c44] at hf
            refine lv_iload hx hb dX12_does_311 (lv_at hl 0 rfl) ?_
            refine lv_if_lt (tgt := 320) hx hb dX12_does_313 (by decide) (fun c45 => ?_) (fun c45 => ?_)
            · rw [if_pos c45] at hf
              refine lv_iconst (v := 0) hx hb dX12_does_320 (by decide) ?_
              obtain rfl := Option.some.inj hf
              exact eI C0 hr w (bzE (x := 0) (by decide)) dX12_does_321
            · rw [if_neg c45] at hf
              refine lv_iconst (v := 1) hx hb dX12_does_316 (by decide) ?_
              refine lv_goto (tgt := 321) hx hb dX12_does_317 (by decide) ?_
              obtain rfl := Option.some.inj hf
              exact eI C0 hr w (bzE (x := 1) (by decide)) dX12_does_321
      · rw [if_neg c35] at hf
        by_cases c46 : (σ.1 238 x1.toNatClampNeg) = 3
        · rw [if_pos c46] at hf
          refine lv_tableIn (tgt := 142) hx hb dX12_does_27 (by rw [c46]; decide) (by rw [c46]; decide) (by rw [c46]; rfl) (by decide) ?_
          refine lv_aload_n hx hb dX12_does_142 rfl (lv_at hl 3 rfl) ?_
          refine lv_aload_n hx hb dX12_does_143 rfl (lv_at hl 3 rfl) ?_
          refine gR C0 w 238 fk_X12_51 (by decide +kernel) dX12_does_144 ?_
          refine lv_iload_n hx hb dX12_does_147 rfl (lv_at hl 4 rfl) ?_
          obtain ⟨g47, hf⟩ := gdE hf
          refine aI C0 w (n := 90) (by decide +kernel) (inbE g47) dX12_does_148 ?_
          refine lv_iconst (v := 2) hx hb dX12_does_149 (by decide) ?_
          refine lv_icmp_ne (tgt := 158) hx hb dX12_does_150 (by decide) (fun c48 => ?_) (fun c48 => ?_)
          · rw [if_neg c48] at hf
            refine lv_bipush (v := 72) hx hb dX12_does_158 (by decide) ?_
            refine lv_iload_n hx hb dX12_does_160 rfl (lv_at hl 2 rfl) ?_
            refine lv_iload_n hx hb dX12_does_161 rfl (lv_at hl 1 rfl) ?_
            obtain ⟨q49, h50, hf⟩ := bdE hf
            refine cV (As := [.int 72, .int (σ.1 238 (x1 + 1).toNatClampNeg), .int (σ.1 238 (x1 + 2).toNatClampNeg)]) (rest := []) (k := 224) (ci := 10) (T := TX12) (N := 22) C0 w (m_X12_lay l B _ σ 72 (σ.1 238 (x1 + 1).toNatClampNeg) (σ.1 238 (x1 + 2).toNatClampNeg) q49 h50) ky_X12_lay kv_X12_lay lk_X12_140 rfl (by decide +kernel) ⟨Nat.le_of_ble_eq_true rfl, Nat.le_of_ble_eq_true rfl⟩ ⟨Nat.le_of_ble_eq_true rfl, Nat.le_of_ble_eq_true rfl⟩ rfl (by rfl) (Nat.le_of_ble_eq_true rfl) hl.1 dX12_does_162 (fun H locs w => ?_)
            refine lv_istore (lv' := [(4, .int q49.1), (3, .int (σ.1 238 (x1 + 2).toNatClampNeg)), (2, .int (σ.1 238 (x1 + 1).toNatClampNeg)), (0, .ref (wA B 224)), (1, .int x1)]) hx hb dX12_does_165 hl (by decide) rfl (fun ls hl => ?_)
            refine lv_goto (tgt := 304) hx hb dX12_does_167 (by decide) ?_
            refine lv_aload_n hx hb dX12_does_304 rfl (lv_at hl 3 rfl) ?_
            refine gI C0 w fk_X12_62 (by decide +kernel) dX12_does_305 ?_
            refine lv_if_ne (tgt := 320) hx hb dX12_does_308 (by decide) (fun c51 => ?_) (fun c51 => ?_)
            · rw [if_neg c51] at hf
              refine lv_iconst (v := 0) hx hb dX12_does_320 (by decide) ?_
              obtain rfl := Option.some.inj hf
              exact eI C0 hr w (bzE (x := 0) (by decide)) dX12_does_321
            · rw [if_pos c51] at hf
              refine lv_iload hx hb dX12_does_311 (lv_at hl 0 rfl) ?_
              refine lv_if_lt (tgt := 320) hx hb dX12_does_313 (by decide) (fun c52 => ?_) (fun c52 => ?_)
              · rw [if_pos c52] at hf
                refine lv_iconst (v := 0) hx hb dX12_does_320 (by decide) ?_
                obtain rfl := Option.some.inj hf
                exact eI C0 hr w (bzE (x := 0) (by decide)) dX12_does_321
              · rw [if_neg c52] at hf
                refine lv_iconst (v := 1) hx hb dX12_does_316 (by decide) ?_
                refine lv_goto (tgt := 321) hx hb dX12_does_317 (by decide) ?_
                obtain rfl := Option.some.inj hf
                exact eI C0 hr w (bzE (x := 1) (by decide)) dX12_does_321
          · rw [if_pos c48] at hf
            refine lv_bipush (v := 8) hx hb dX12_does_153 (by decide) ?_
            refine lv_goto (tgt := 160) hx hb dX12_does_155 (by decide) ?_
            refine lv_iload_n hx hb dX12_does_160 rfl (lv_at hl 2 rfl) ?_
            refine lv_iload_n hx hb dX12_does_161 rfl (lv_at hl 1 rfl) ?_
            obtain ⟨q53, h54, hf⟩ := bdE hf
            refine cV (As := [.int 8, .int (σ.1 238 (x1 + 1).toNatClampNeg), .int (σ.1 238 (x1 + 2).toNatClampNeg)]) (rest := []) (k := 224) (ci := 10) (T := TX12) (N := 22) C0 w (m_X12_lay l B _ σ 8 (σ.1 238 (x1 + 1).toNatClampNeg) (σ.1 238 (x1 + 2).toNatClampNeg) q53 h54) ky_X12_lay kv_X12_lay lk_X12_140 rfl (by decide +kernel) ⟨Nat.le_of_ble_eq_true rfl, Nat.le_of_ble_eq_true rfl⟩ ⟨Nat.le_of_ble_eq_true rfl, Nat.le_of_ble_eq_true rfl⟩ rfl (by rfl) (Nat.le_of_ble_eq_true rfl) hl.1 dX12_does_162 (fun H locs w => ?_)
            refine lv_istore (lv' := [(4, .int q53.1), (3, .int (σ.1 238 (x1 + 2).toNatClampNeg)), (2, .int (σ.1 238 (x1 + 1).toNatClampNeg)), (0, .ref (wA B 224)), (1, .int x1)]) hx hb dX12_does_165 hl (by decide) rfl (fun ls hl => ?_)
            refine lv_goto (tgt := 304) hx hb dX12_does_167 (by decide) ?_
            refine lv_aload_n hx hb dX12_does_304 rfl (lv_at hl 3 rfl) ?_
            refine gI C0 w fk_X12_62 (by decide +kernel) dX12_does_305 ?_
            refine lv_if_ne (tgt := 320) hx hb dX12_does_308 (by decide) (fun c55 => ?_) (fun c55 => ?_)
            · rw [if_neg c55] at hf
              refine lv_iconst (v := 0) hx hb dX12_does_320 (by decide) ?_
              obtain rfl := Option.some.inj hf
              exact eI C0 hr w (bzE (x := 0) (by decide)) dX12_does_321
            · rw [if_pos c55] at hf
              refine lv_iload hx hb dX12_does_311 (lv_at hl 0 rfl) ?_
              refine lv_if_lt (tgt := 320) hx hb dX12_does_313 (by decide) (fun c56 => ?_) (fun c56 => ?_)
              · rw [if_pos c56] at hf
                refine lv_iconst (v := 0) hx hb dX12_does_320 (by decide) ?_
                obtain rfl := Option.some.inj hf
                exact eI C0 hr w (bzE (x := 0) (by decide)) dX12_does_321
              · rw [if_neg c56] at hf
                refine lv_iconst (v := 1) hx hb dX12_does_316 (by decide) ?_
                refine lv_goto (tgt := 321) hx hb dX12_does_317 (by decide) ?_
                obtain rfl := Option.some.inj hf
                exact eI C0 hr w (bzE (x := 1) (by decide)) dX12_does_321
        · rw [if_neg c46] at hf
          by_cases c57 : (σ.1 238 x1.toNatClampNeg) = 4
          · rw [if_pos c57] at hf
            refine lv_tableIn (tgt := 170) hx hb dX12_does_27 (by rw [c57]; decide) (by rw [c57]; decide) (by rw [c57]; rfl) (by decide) ?_
            refine lv_aload_n hx hb dX12_does_170 rfl (lv_at hl 3 rfl) ?_
            refine lv_iload_n hx hb dX12_does_171 rfl (lv_at hl 2 rfl) ?_
            refine lv_iload_n hx hb dX12_does_172 rfl (lv_at hl 2 rfl) ?_
            obtain ⟨q58, h59, hf⟩ := bdE hf
            refine cS (As := [.int (σ.1 238 (x1 + 1).toNatClampNeg), .int (σ.1 238 (x1 + 1).toNatClampNeg)]) (rest := [.ref (wA B 224)]) C0 w (m_X12_isNoise l B _ σ (σ.1 238 (x1 + 1).toNatClampNeg) (σ.1 238 (x1 + 1).toNatClampNeg) q58 h59) ky_X12_isNoise ks_X12_isNoise lk_X12_193 ⟨Nat.le_of_ble_eq_true rfl, Nat.le_of_ble_eq_true rfl⟩ ⟨Nat.le_of_ble_eq_true rfl, Nat.le_of_ble_eq_true rfl⟩ rfl (by rfl) (Nat.le_of_ble_eq_true rfl) hl.1 dX12_does_173 (fun H locs w => ?_)
            refine lv_if_eq (tgt := 183) hx hb dX12_does_176 (by decide) (fun c60 => ?_) (fun c60 => ?_)
            · rw [if_pos c60] at hf
              refine lv_iconst (v := 1) hx hb dX12_does_183 (by decide) ?_
              refine pI C0 w fk_X12_62 fp_X12_5 (by decide +kernel) dX12_does_184 (fun H locs w => ?_)
              refine lv_aload_n hx hb dX12_does_187 rfl (lv_at hl 3 rfl) ?_
              refine gI C0 w fk_X12_62 (by decide +kernel) dX12_does_188 ?_
              refine lv_if_ne (tgt := 203) hx hb dX12_does_191 (by decide) (fun c61 => ?_) (fun c61 => ?_)
              · rw [if_neg c61] at hf
                refine lv_iconst (v := 0) hx hb dX12_does_203 (by decide) ?_
                refine lv_istore (lv' := [(4, .int 0), (3, .int (σ.1 238 (x1 + 2).toNatClampNeg)), (2, .int (σ.1 238 (x1 + 1).toNatClampNeg)), (0, .ref (wA B 224)), (1, .int x1)]) hx hb dX12_does_204 hl (by decide) rfl (fun ls hl => ?_)
                refine lv_goto (tgt := 304) hx hb dX12_does_206 (by decide) ?_
                refine lv_aload_n hx hb dX12_does_304 rfl (lv_at hl 3 rfl) ?_
                refine gI C0 w fk_X12_62 (by decide +kernel) dX12_does_305 ?_
                refine lv_if_ne (tgt := 320) hx hb dX12_does_308 (by decide) (fun c62 => ?_) (fun c62 => ?_)
                · rw [if_neg c62] at hf
                  refine lv_iconst (v := 0) hx hb dX12_does_320 (by decide) ?_
                  obtain rfl := Option.some.inj hf
                  exact eI C0 hr w (bzE (x := 0) (by decide)) dX12_does_321
                · rw [if_pos c62] at hf
                  refine lv_iload hx hb dX12_does_311 (lv_at hl 0 rfl) ?_
                  refine lv_if_lt (tgt := 320) hx hb dX12_does_313 (by decide) (fun c9 => absurd c9 (by decide)) (fun _ => ?_)
                  refine lv_iconst (v := 1) hx hb dX12_does_316 (by decide) ?_
                  refine lv_goto (tgt := 321) hx hb dX12_does_317 (by decide) ?_
                  obtain rfl := Option.some.inj hf
                  exact eI C0 hr w (bzE (x := 1) (by decide)) dX12_does_321
              · rw [if_pos c61] at hf
                refine lv_aload_n hx hb dX12_does_194 rfl (lv_at hl 3 rfl) ?_
                refine lv_iload_n hx hb dX12_does_195 rfl (lv_at hl 2 rfl) ?_
                refine lv_iload_n hx hb dX12_does_196 rfl (lv_at hl 2 rfl) ?_
                obtain ⟨q63, h64, hf⟩ := bdE hf
                refine cV (As := [.int (σ.1 238 (x1 + 1).toNatClampNeg), .int (σ.1 238 (x1 + 1).toNatClampNeg)]) (rest := []) (k := 224) (ci := 10) (T := TX12) (N := 22) C0 w (m_X12_takes l B _ (setI σ 224 5 1) (σ.1 238 (x1 + 1).toNatClampNeg) (σ.1 238 (x1 + 1).toNatClampNeg) q63 h64) ky_X12_takes kv_X12_takes lk_X12_197 rfl (by decide +kernel) ⟨Nat.le_of_ble_eq_true rfl, Nat.le_of_ble_eq_true rfl⟩ ⟨Nat.le_of_ble_eq_true rfl, Nat.le_of_ble_eq_true rfl⟩ rfl (by rfl) (Nat.le_of_ble_eq_true rfl) hl.1 dX12_does_197 (fun H locs w => ?_)
                refine lv_goto (tgt := 204) hx hb dX12_does_200 (by decide) ?_
                refine lv_istore (lv' := [(4, .int q63.1), (3, .int (σ.1 238 (x1 + 2).toNatClampNeg)), (2, .int (σ.1 238 (x1 + 1).toNatClampNeg)), (0, .ref (wA B 224)), (1, .int x1)]) hx hb dX12_does_204 hl (by decide) rfl (fun ls hl => ?_)
                refine lv_goto (tgt := 304) hx hb dX12_does_206 (by decide) ?_
                refine lv_aload_n hx hb dX12_does_304 rfl (lv_at hl 3 rfl) ?_
                refine gI C0 w fk_X12_62 (by decide +kernel) dX12_does_305 ?_
                refine lv_if_ne (tgt := 320) hx hb dX12_does_308 (by decide) (fun c65 => ?_) (fun c65 => ?_)
                · rw [if_neg c65] at hf
                  refine lv_iconst (v := 0) hx hb dX12_does_320 (by decide) ?_
                  obtain rfl := Option.some.inj hf
                  exact eI C0 hr w (bzE (x := 0) (by decide)) dX12_does_321
                · rw [if_pos c65] at hf
                  refine lv_iload hx hb dX12_does_311 (lv_at hl 0 rfl) ?_
                  refine lv_if_lt (tgt := 320) hx hb dX12_does_313 (by decide) (fun c66 => ?_) (fun c66 => ?_)
                  · rw [if_pos c66] at hf
                    refine lv_iconst (v := 0) hx hb dX12_does_320 (by decide) ?_
                    obtain rfl := Option.some.inj hf
                    exact eI C0 hr w (bzE (x := 0) (by decide)) dX12_does_321
                  · rw [if_neg c66] at hf
                    refine lv_iconst (v := 1) hx hb dX12_does_316 (by decide) ?_
                    refine lv_goto (tgt := 321) hx hb dX12_does_317 (by decide) ?_
                    obtain rfl := Option.some.inj hf
                    exact eI C0 hr w (bzE (x := 1) (by decide)) dX12_does_321
            · rw [if_neg c60] at hf
              refine lv_iconst (v := 0) hx hb dX12_does_179 (by decide) ?_
              refine lv_goto (tgt := 184) hx hb dX12_does_180 (by decide) ?_
              refine pI C0 w fk_X12_62 fp_X12_5 (by decide +kernel) dX12_does_184 (fun H locs w => ?_)
              refine lv_aload_n hx hb dX12_does_187 rfl (lv_at hl 3 rfl) ?_
              refine gI C0 w fk_X12_62 (by decide +kernel) dX12_does_188 ?_
              refine lv_if_ne (tgt := 203) hx hb dX12_does_191 (by decide) (fun c67 => ?_) (fun c67 => ?_)
              · rw [if_neg c67] at hf
                refine lv_iconst (v := 0) hx hb dX12_does_203 (by decide) ?_
                refine lv_istore (lv' := [(4, .int 0), (3, .int (σ.1 238 (x1 + 2).toNatClampNeg)), (2, .int (σ.1 238 (x1 + 1).toNatClampNeg)), (0, .ref (wA B 224)), (1, .int x1)]) hx hb dX12_does_204 hl (by decide) rfl (fun ls hl => ?_)
                refine lv_goto (tgt := 304) hx hb dX12_does_206 (by decide) ?_
                refine lv_aload_n hx hb dX12_does_304 rfl (lv_at hl 3 rfl) ?_
                refine gI C0 w fk_X12_62 (by decide +kernel) dX12_does_305 ?_
                refine lv_if_ne (tgt := 320) hx hb dX12_does_308 (by decide) (fun c68 => ?_) (fun c68 => ?_)
                · rw [if_neg c68] at hf
                  refine lv_iconst (v := 0) hx hb dX12_does_320 (by decide) ?_
                  obtain rfl := Option.some.inj hf
                  exact eI C0 hr w (bzE (x := 0) (by decide)) dX12_does_321
                · rw [if_pos c68] at hf
                  refine lv_iload hx hb dX12_does_311 (lv_at hl 0 rfl) ?_
                  refine lv_if_lt (tgt := 320) hx hb dX12_does_313 (by decide) (fun c9 => absurd c9 (by decide)) (fun _ => ?_)
                  refine lv_iconst (v := 1) hx hb dX12_does_316 (by decide) ?_
                  refine lv_goto (tgt := 321) hx hb dX12_does_317 (by decide) ?_
                  obtain rfl := Option.some.inj hf
                  exact eI C0 hr w (bzE (x := 1) (by decide)) dX12_does_321
              · rw [if_pos c67] at hf
                refine lv_aload_n hx hb dX12_does_194 rfl (lv_at hl 3 rfl) ?_
                refine lv_iload_n hx hb dX12_does_195 rfl (lv_at hl 2 rfl) ?_
                refine lv_iload_n hx hb dX12_does_196 rfl (lv_at hl 2 rfl) ?_
                obtain ⟨q69, h70, hf⟩ := bdE hf
                refine cV (As := [.int (σ.1 238 (x1 + 1).toNatClampNeg), .int (σ.1 238 (x1 + 1).toNatClampNeg)]) (rest := []) (k := 224) (ci := 10) (T := TX12) (N := 22) C0 w (m_X12_takes l B _ (setI σ 224 5 0) (σ.1 238 (x1 + 1).toNatClampNeg) (σ.1 238 (x1 + 1).toNatClampNeg) q69 h70) ky_X12_takes kv_X12_takes lk_X12_197 rfl (by decide +kernel) ⟨Nat.le_of_ble_eq_true rfl, Nat.le_of_ble_eq_true rfl⟩ ⟨Nat.le_of_ble_eq_true rfl, Nat.le_of_ble_eq_true rfl⟩ rfl (by rfl) (Nat.le_of_ble_eq_true rfl) hl.1 dX12_does_197 (fun H locs w => ?_)
                refine lv_goto (tgt := 204) hx hb dX12_does_200 (by decide) ?_
                refine lv_istore (lv' := [(4, .int q69.1), (3, .int (σ.1 238 (x1 + 2).toNatClampNeg)), (2, .int (σ.1 238 (x1 + 1).toNatClampNeg)), (0, .ref (wA B 224)), (1, .int x1)]) hx hb dX12_does_204 hl (by decide) rfl (fun ls hl => ?_)
                refine lv_goto (tgt := 304) hx hb dX12_does_206 (by decide) ?_
                refine lv_aload_n hx hb dX12_does_304 rfl (lv_at hl 3 rfl) ?_
                refine gI C0 w fk_X12_62 (by decide +kernel) dX12_does_305 ?_
                refine lv_if_ne (tgt := 320) hx hb dX12_does_308 (by decide) (fun c71 => ?_) (fun c71 => ?_)
                · rw [if_neg c71] at hf
                  refine lv_iconst (v := 0) hx hb dX12_does_320 (by decide) ?_
                  obtain rfl := Option.some.inj hf
                  exact eI C0 hr w (bzE (x := 0) (by decide)) dX12_does_321
                · rw [if_pos c71] at hf
                  refine lv_iload hx hb dX12_does_311 (lv_at hl 0 rfl) ?_
                  refine lv_if_lt (tgt := 320) hx hb dX12_does_313 (by decide) (fun c72 => ?_) (fun c72 => ?_)
                  · rw [if_pos c72] at hf
                    refine lv_iconst (v := 0) hx hb dX12_does_320 (by decide) ?_
                    obtain rfl := Option.some.inj hf
                    exact eI C0 hr w (bzE (x := 0) (by decide)) dX12_does_321
                  · rw [if_neg c72] at hf
                    refine lv_iconst (v := 1) hx hb dX12_does_316 (by decide) ?_
                    refine lv_goto (tgt := 321) hx hb dX12_does_317 (by decide) ?_
                    obtain rfl := Option.some.inj hf
                    exact eI C0 hr w (bzE (x := 1) (by decide)) dX12_does_321
          · rw [if_neg c57] at hf
            by_cases c73 : (σ.1 238 x1.toNatClampNeg) = 5
            · rw [if_pos c73] at hf
              refine lv_tableIn (tgt := 209) hx hb dX12_does_27 (by rw [c73]; decide) (by rw [c73]; decide) (by rw [c73]; rfl) (by decide) ?_
              refine lv_aload_n hx hb dX12_does_209 rfl (lv_at hl 3 rfl) ?_
              refine lv_iload_n hx hb dX12_does_210 rfl (lv_at hl 2 rfl) ?_
              refine lv_i2l hx hb dX12_does_211 rfl ?_
              refine lv_lconst (v := 1) hx hb dX12_does_212 (by decide) ?_
              refine kLg C0 20 kc_X12_223 dX12_does_213 ?_
              obtain ⟨q74, h75, hf⟩ := bdE hf
              refine cS (As := [.long ((σ.1 238 (x1 + 1).toNatClampNeg).toInt64), .long 1, .long 20]) (rest := [.ref (wA B 224)]) C0 w (m_X12_in l B _ σ ((σ.1 238 (x1 + 1).toNatClampNeg).toInt64) 1 20 q74 h75) ky_X12_in ks_X12_in lk_X12_79 ⟨Nat.le_of_ble_eq_true rfl, Nat.le_of_ble_eq_true rfl⟩ ⟨Nat.le_of_ble_eq_true rfl, Nat.le_of_ble_eq_true rfl⟩ rfl (by rfl) (Nat.le_of_ble_eq_true rfl) hl.1 dX12_does_216 (fun H locs w => ?_)
              refine lv_if_eq (tgt := 226) hx hb dX12_does_219 (by decide) (fun c76 => ?_) (fun c76 => ?_)
              · rw [if_pos c76] at hf
                refine lv_iconst (v := 1) hx hb dX12_does_226 (by decide) ?_
                refine pI C0 w fk_X12_62 fp_X12_5 (by decide +kernel) dX12_does_227 (fun H locs w => ?_)
                refine lv_aload_n hx hb dX12_does_230 rfl (lv_at hl 3 rfl) ?_
                refine gI C0 w fk_X12_62 (by decide +kernel) dX12_does_231 ?_
                refine lv_if_ne (tgt := 245) hx hb dX12_does_234 (by decide) (fun c77 => ?_) (fun c77 => ?_)
                · rw [if_neg c77] at hf
                  refine lv_iconst (v := 0) hx hb dX12_does_245 (by decide) ?_
                  refine lv_istore (lv' := [(4, .int 0), (3, .int (σ.1 238 (x1 + 2).toNatClampNeg)), (2, .int (σ.1 238 (x1 + 1).toNatClampNeg)), (0, .ref (wA B 224)), (1, .int x1)]) hx hb dX12_does_246 hl (by decide) rfl (fun ls hl => ?_)
                  refine lv_goto (tgt := 304) hx hb dX12_does_248 (by decide) ?_
                  refine lv_aload_n hx hb dX12_does_304 rfl (lv_at hl 3 rfl) ?_
                  refine gI C0 w fk_X12_62 (by decide +kernel) dX12_does_305 ?_
                  refine lv_if_ne (tgt := 320) hx hb dX12_does_308 (by decide) (fun c78 => ?_) (fun c78 => ?_)
                  · rw [if_neg c78] at hf
                    refine lv_iconst (v := 0) hx hb dX12_does_320 (by decide) ?_
                    obtain rfl := Option.some.inj hf
                    exact eI C0 hr w (bzE (x := 0) (by decide)) dX12_does_321
                  · rw [if_pos c78] at hf
                    refine lv_iload hx hb dX12_does_311 (lv_at hl 0 rfl) ?_
                    refine lv_if_lt (tgt := 320) hx hb dX12_does_313 (by decide) (fun c9 => absurd c9 (by decide)) (fun _ => ?_)
                    refine lv_iconst (v := 1) hx hb dX12_does_316 (by decide) ?_
                    refine lv_goto (tgt := 321) hx hb dX12_does_317 (by decide) ?_
                    obtain rfl := Option.some.inj hf
                    exact eI C0 hr w (bzE (x := 1) (by decide)) dX12_does_321
                · rw [if_pos c77] at hf
                  refine lv_aload_n hx hb dX12_does_237 rfl (lv_at hl 3 rfl) ?_
                  refine lv_iload_n hx hb dX12_does_238 rfl (lv_at hl 2 rfl) ?_
                  obtain ⟨q79, h80, hf⟩ := bdE hf
                  refine cV (As := [.int (σ.1 238 (x1 + 1).toNatClampNeg)]) (rest := []) (k := 224) (ci := 10) (T := TX12) (N := 22) C0 w (m_X12_sweeps l B _ (setI σ 224 5 1) (σ.1 238 (x1 + 1).toNatClampNeg) q79 h80) ky_X12_sweeps kv_X12_sweeps lk_X12_225 rfl (by decide +kernel) ⟨Nat.le_of_ble_eq_true rfl, Nat.le_of_ble_eq_true rfl⟩ ⟨Nat.le_of_ble_eq_true rfl, Nat.le_of_ble_eq_true rfl⟩ rfl (by rfl) (Nat.le_of_ble_eq_true rfl) hl.1 dX12_does_239 (fun H locs w => ?_)
                  refine lv_goto (tgt := 246) hx hb dX12_does_242 (by decide) ?_
                  refine lv_istore (lv' := [(4, .int q79.1), (3, .int (σ.1 238 (x1 + 2).toNatClampNeg)), (2, .int (σ.1 238 (x1 + 1).toNatClampNeg)), (0, .ref (wA B 224)), (1, .int x1)]) hx hb dX12_does_246 hl (by decide) rfl (fun ls hl => ?_)
                  refine lv_goto (tgt := 304) hx hb dX12_does_248 (by decide) ?_
                  refine lv_aload_n hx hb dX12_does_304 rfl (lv_at hl 3 rfl) ?_
                  refine gI C0 w fk_X12_62 (by decide +kernel) dX12_does_305 ?_
                  refine lv_if_ne (tgt := 320) hx hb dX12_does_308 (by decide) (fun c81 => ?_) (fun c81 => ?_)
                  · rw [if_neg c81] at hf
                    refine lv_iconst (v := 0) hx hb dX12_does_320 (by decide) ?_
                    obtain rfl := Option.some.inj hf
                    exact eI C0 hr w (bzE (x := 0) (by decide)) dX12_does_321
                  · rw [if_pos c81] at hf
                    refine lv_iload hx hb dX12_does_311 (lv_at hl 0 rfl) ?_
                    refine lv_if_lt (tgt := 320) hx hb dX12_does_313 (by decide) (fun c82 => ?_) (fun c82 => ?_)
                    · rw [if_pos c82] at hf
                      refine lv_iconst (v := 0) hx hb dX12_does_320 (by decide) ?_
                      obtain rfl := Option.some.inj hf
                      exact eI C0 hr w (bzE (x := 0) (by decide)) dX12_does_321
                    · rw [if_neg c82] at hf
                      refine lv_iconst (v := 1) hx hb dX12_does_316 (by decide) ?_
                      refine lv_goto (tgt := 321) hx hb dX12_does_317 (by decide) ?_
                      obtain rfl := Option.some.inj hf
                      exact eI C0 hr w (bzE (x := 1) (by decide)) dX12_does_321
              · rw [if_neg c76] at hf
                refine lv_iconst (v := 0) hx hb dX12_does_222 (by decide) ?_
                refine lv_goto (tgt := 227) hx hb dX12_does_223 (by decide) ?_
                refine pI C0 w fk_X12_62 fp_X12_5 (by decide +kernel) dX12_does_227 (fun H locs w => ?_)
                refine lv_aload_n hx hb dX12_does_230 rfl (lv_at hl 3 rfl) ?_
                refine gI C0 w fk_X12_62 (by decide +kernel) dX12_does_231 ?_
                refine lv_if_ne (tgt := 245) hx hb dX12_does_234 (by decide) (fun c83 => ?_) (fun c83 => ?_)
                · rw [if_neg c83] at hf
                  refine lv_iconst (v := 0) hx hb dX12_does_245 (by decide) ?_
                  refine lv_istore (lv' := [(4, .int 0), (3, .int (σ.1 238 (x1 + 2).toNatClampNeg)), (2, .int (σ.1 238 (x1 + 1).toNatClampNeg)), (0, .ref (wA B 224)), (1, .int x1)]) hx hb dX12_does_246 hl (by decide) rfl (fun ls hl => ?_)
                  refine lv_goto (tgt := 304) hx hb dX12_does_248 (by decide) ?_
                  refine lv_aload_n hx hb dX12_does_304 rfl (lv_at hl 3 rfl) ?_
                  refine gI C0 w fk_X12_62 (by decide +kernel) dX12_does_305 ?_
                  refine lv_if_ne (tgt := 320) hx hb dX12_does_308 (by decide) (fun c84 => ?_) (fun c84 => ?_)
                  · rw [if_neg c84] at hf
                    refine lv_iconst (v := 0) hx hb dX12_does_320 (by decide) ?_
                    obtain rfl := Option.some.inj hf
                    exact eI C0 hr w (bzE (x := 0) (by decide)) dX12_does_321
                  · rw [if_pos c84] at hf
                    refine lv_iload hx hb dX12_does_311 (lv_at hl 0 rfl) ?_
                    refine lv_if_lt (tgt := 320) hx hb dX12_does_313 (by decide) (fun c9 => absurd c9 (by decide)) (fun _ => ?_)
                    refine lv_iconst (v := 1) hx hb dX12_does_316 (by decide) ?_
                    refine lv_goto (tgt := 321) hx hb dX12_does_317 (by decide) ?_
                    obtain rfl := Option.some.inj hf
                    exact eI C0 hr w (bzE (x := 1) (by decide)) dX12_does_321
                · rw [if_pos c83] at hf
                  refine lv_aload_n hx hb dX12_does_237 rfl (lv_at hl 3 rfl) ?_
                  refine lv_iload_n hx hb dX12_does_238 rfl (lv_at hl 2 rfl) ?_
                  obtain ⟨q85, h86, hf⟩ := bdE hf
                  refine cV (As := [.int (σ.1 238 (x1 + 1).toNatClampNeg)]) (rest := []) (k := 224) (ci := 10) (T := TX12) (N := 22) C0 w (m_X12_sweeps l B _ (setI σ 224 5 0) (σ.1 238 (x1 + 1).toNatClampNeg) q85 h86) ky_X12_sweeps kv_X12_sweeps lk_X12_225 rfl (by decide +kernel) ⟨Nat.le_of_ble_eq_true rfl, Nat.le_of_ble_eq_true rfl⟩ ⟨Nat.le_of_ble_eq_true rfl, Nat.le_of_ble_eq_true rfl⟩ rfl (by rfl) (Nat.le_of_ble_eq_true rfl) hl.1 dX12_does_239 (fun H locs w => ?_)
                  refine lv_goto (tgt := 246) hx hb dX12_does_242 (by decide) ?_
                  refine lv_istore (lv' := [(4, .int q85.1), (3, .int (σ.1 238 (x1 + 2).toNatClampNeg)), (2, .int (σ.1 238 (x1 + 1).toNatClampNeg)), (0, .ref (wA B 224)), (1, .int x1)]) hx hb dX12_does_246 hl (by decide) rfl (fun ls hl => ?_)
                  refine lv_goto (tgt := 304) hx hb dX12_does_248 (by decide) ?_
                  refine lv_aload_n hx hb dX12_does_304 rfl (lv_at hl 3 rfl) ?_
                  refine gI C0 w fk_X12_62 (by decide +kernel) dX12_does_305 ?_
                  refine lv_if_ne (tgt := 320) hx hb dX12_does_308 (by decide) (fun c87 => ?_) (fun c87 => ?_)
                  · rw [if_neg c87] at hf
                    refine lv_iconst (v := 0) hx hb dX12_does_320 (by decide) ?_
                    obtain rfl := Option.some.inj hf
                    exact eI C0 hr w (bzE (x := 0) (by decide)) dX12_does_321
                  · rw [if_pos c87] at hf
                    refine lv_iload hx hb dX12_does_311 (lv_at hl 0 rfl) ?_
                    refine lv_if_lt (tgt := 320) hx hb dX12_does_313 (by decide) (fun c88 => ?_) (fun c88 => ?_)
                    · rw [if_pos c88] at hf
                      refine lv_iconst (v := 0) hx hb dX12_does_320 (by decide) ?_
                      obtain rfl := Option.some.inj hf
                      exact eI C0 hr w (bzE (x := 0) (by decide)) dX12_does_321
                    · rw [if_neg c88] at hf
                      refine lv_iconst (v := 1) hx hb dX12_does_316 (by decide) ?_
                      refine lv_goto (tgt := 321) hx hb dX12_does_317 (by decide) ?_
                      obtain rfl := Option.some.inj hf
                      exact eI C0 hr w (bzE (x := 1) (by decide)) dX12_does_321
            · rw [if_neg c73] at hf
              by_cases c89 : (σ.1 238 x1.toNatClampNeg) = 6
              · rw [if_pos c89] at hf
                refine lv_tableIn (tgt := 251) hx hb dX12_does_27 (by rw [c89]; decide) (by rw [c89]; decide) (by rw [c89]; rfl) (by decide) ?_
                refine lv_aload_n hx hb dX12_does_251 rfl (lv_at hl 3 rfl) ?_
                refine lv_iload_n hx hb dX12_does_252 rfl (lv_at hl 2 rfl) ?_
                refine lv_i2l hx hb dX12_does_253 rfl ?_
                refine lv_lconst (v := 1) hx hb dX12_does_254 (by decide) ?_
                refine kLg C0 100 kc_X12_231 dX12_does_255 ?_
                obtain ⟨q90, h91, hf⟩ := bdE hf
                refine cS (As := [.long ((σ.1 238 (x1 + 1).toNatClampNeg).toInt64), .long 1, .long 100]) (rest := [.ref (wA B 224)]) C0 w (m_X12_in l B _ σ ((σ.1 238 (x1 + 1).toNatClampNeg).toInt64) 1 100 q90 h91) ky_X12_in ks_X12_in lk_X12_79 ⟨Nat.le_of_ble_eq_true rfl, Nat.le_of_ble_eq_true rfl⟩ ⟨Nat.le_of_ble_eq_true rfl, Nat.le_of_ble_eq_true rfl⟩ rfl (by rfl) (Nat.le_of_ble_eq_true rfl) hl.1 dX12_does_258 (fun H locs w => ?_)
                refine lv_if_eq (tgt := 268) hx hb dX12_does_261 (by decide) (fun c92 => ?_) (fun c92 => ?_)
                · rw [if_pos c92] at hf
                  refine lv_iconst (v := 1) hx hb dX12_does_268 (by decide) ?_
                  refine pI C0 w fk_X12_62 fp_X12_5 (by decide +kernel) dX12_does_269 (fun H locs w => ?_)
                  refine lv_aload_n hx hb dX12_does_272 rfl (lv_at hl 3 rfl) ?_
                  refine gI C0 w fk_X12_62 (by decide +kernel) dX12_does_273 ?_
                  refine lv_if_ne (tgt := 287) hx hb dX12_does_276 (by decide) (fun c93 => ?_) (fun c93 => ?_)
                  · rw [if_neg c93] at hf
                    refine lv_iconst (v := 0) hx hb dX12_does_287 (by decide) ?_
                    refine lv_istore (lv' := [(4, .int 0), (3, .int (σ.1 238 (x1 + 2).toNatClampNeg)), (2, .int (σ.1 238 (x1 + 1).toNatClampNeg)), (0, .ref (wA B 224)), (1, .int x1)]) hx hb dX12_does_288 hl (by decide) rfl (fun ls hl => ?_)
                    refine lv_goto (tgt := 304) hx hb dX12_does_290 (by decide) ?_
                    refine lv_aload_n hx hb dX12_does_304 rfl (lv_at hl 3 rfl) ?_
                    refine gI C0 w fk_X12_62 (by decide +kernel) dX12_does_305 ?_
                    refine lv_if_ne (tgt := 320) hx hb dX12_does_308 (by decide) (fun c94 => ?_) (fun c94 => ?_)
                    · rw [if_neg c94] at hf
                      refine lv_iconst (v := 0) hx hb dX12_does_320 (by decide) ?_
                      obtain rfl := Option.some.inj hf
                      exact eI C0 hr w (bzE (x := 0) (by decide)) dX12_does_321
                    · rw [if_pos c94] at hf
                      refine lv_iload hx hb dX12_does_311 (lv_at hl 0 rfl) ?_
                      refine lv_if_lt (tgt := 320) hx hb dX12_does_313 (by decide) (fun c9 => absurd c9 (by decide)) (fun _ => ?_)
                      refine lv_iconst (v := 1) hx hb dX12_does_316 (by decide) ?_
                      refine lv_goto (tgt := 321) hx hb dX12_does_317 (by decide) ?_
                      obtain rfl := Option.some.inj hf
                      exact eI C0 hr w (bzE (x := 1) (by decide)) dX12_does_321
                  · rw [if_pos c93] at hf
                    refine lv_aload_n hx hb dX12_does_279 rfl (lv_at hl 3 rfl) ?_
                    refine lv_iload_n hx hb dX12_does_280 rfl (lv_at hl 2 rfl) ?_
                    obtain ⟨q95, h96, hf⟩ := bdE hf
                    refine cV (As := [.int (σ.1 238 (x1 + 1).toNatClampNeg)]) (rest := []) (k := 224) (ci := 10) (T := TX12) (N := 22) C0 w (m_X12_smooths l B _ (setI σ 224 5 1) (σ.1 238 (x1 + 1).toNatClampNeg) q95 h96) ky_X12_smooths kv_X12_smooths lk_X12_233 rfl (by decide +kernel) ⟨Nat.le_of_ble_eq_true rfl, Nat.le_of_ble_eq_true rfl⟩ ⟨Nat.le_of_ble_eq_true rfl, Nat.le_of_ble_eq_true rfl⟩ rfl (by rfl) (Nat.le_of_ble_eq_true rfl) hl.1 dX12_does_281 (fun H locs w => ?_)
                    refine lv_goto (tgt := 288) hx hb dX12_does_284 (by decide) ?_
                    refine lv_istore (lv' := [(4, .int q95.1), (3, .int (σ.1 238 (x1 + 2).toNatClampNeg)), (2, .int (σ.1 238 (x1 + 1).toNatClampNeg)), (0, .ref (wA B 224)), (1, .int x1)]) hx hb dX12_does_288 hl (by decide) rfl (fun ls hl => ?_)
                    refine lv_goto (tgt := 304) hx hb dX12_does_290 (by decide) ?_
                    refine lv_aload_n hx hb dX12_does_304 rfl (lv_at hl 3 rfl) ?_
                    refine gI C0 w fk_X12_62 (by decide +kernel) dX12_does_305 ?_
                    refine lv_if_ne (tgt := 320) hx hb dX12_does_308 (by decide) (fun c97 => ?_) (fun c97 => ?_)
                    · rw [if_neg c97] at hf
                      refine lv_iconst (v := 0) hx hb dX12_does_320 (by decide) ?_
                      obtain rfl := Option.some.inj hf
                      exact eI C0 hr w (bzE (x := 0) (by decide)) dX12_does_321
                    · rw [if_pos c97] at hf
                      refine lv_iload hx hb dX12_does_311 (lv_at hl 0 rfl) ?_
                      refine lv_if_lt (tgt := 320) hx hb dX12_does_313 (by decide) (fun c98 => ?_) (fun c98 => ?_)
                      · rw [if_pos c98] at hf
                        refine lv_iconst (v := 0) hx hb dX12_does_320 (by decide) ?_
                        obtain rfl := Option.some.inj hf
                        exact eI C0 hr w (bzE (x := 0) (by decide)) dX12_does_321
                      · rw [if_neg c98] at hf
                        refine lv_iconst (v := 1) hx hb dX12_does_316 (by decide) ?_
                        refine lv_goto (tgt := 321) hx hb dX12_does_317 (by decide) ?_
                        obtain rfl := Option.some.inj hf
                        exact eI C0 hr w (bzE (x := 1) (by decide)) dX12_does_321
                · rw [if_neg c92] at hf
                  refine lv_iconst (v := 0) hx hb dX12_does_264 (by decide) ?_
                  refine lv_goto (tgt := 269) hx hb dX12_does_265 (by decide) ?_
                  refine pI C0 w fk_X12_62 fp_X12_5 (by decide +kernel) dX12_does_269 (fun H locs w => ?_)
                  refine lv_aload_n hx hb dX12_does_272 rfl (lv_at hl 3 rfl) ?_
                  refine gI C0 w fk_X12_62 (by decide +kernel) dX12_does_273 ?_
                  refine lv_if_ne (tgt := 287) hx hb dX12_does_276 (by decide) (fun c99 => ?_) (fun c99 => ?_)
                  · rw [if_neg c99] at hf
                    refine lv_iconst (v := 0) hx hb dX12_does_287 (by decide) ?_
                    refine lv_istore (lv' := [(4, .int 0), (3, .int (σ.1 238 (x1 + 2).toNatClampNeg)), (2, .int (σ.1 238 (x1 + 1).toNatClampNeg)), (0, .ref (wA B 224)), (1, .int x1)]) hx hb dX12_does_288 hl (by decide) rfl (fun ls hl => ?_)
                    refine lv_goto (tgt := 304) hx hb dX12_does_290 (by decide) ?_
                    refine lv_aload_n hx hb dX12_does_304 rfl (lv_at hl 3 rfl) ?_
                    refine gI C0 w fk_X12_62 (by decide +kernel) dX12_does_305 ?_
                    refine lv_if_ne (tgt := 320) hx hb dX12_does_308 (by decide) (fun c100 => ?_) (fun c100 => ?_)
                    · rw [if_neg c100] at hf
                      refine lv_iconst (v := 0) hx hb dX12_does_320 (by decide) ?_
                      obtain rfl := Option.some.inj hf
                      exact eI C0 hr w (bzE (x := 0) (by decide)) dX12_does_321
                    · rw [if_pos c100] at hf
                      refine lv_iload hx hb dX12_does_311 (lv_at hl 0 rfl) ?_
                      refine lv_if_lt (tgt := 320) hx hb dX12_does_313 (by decide) (fun c9 => absurd c9 (by decide)) (fun _ => ?_)
                      refine lv_iconst (v := 1) hx hb dX12_does_316 (by decide) ?_
                      refine lv_goto (tgt := 321) hx hb dX12_does_317 (by decide) ?_
                      obtain rfl := Option.some.inj hf
                      exact eI C0 hr w (bzE (x := 1) (by decide)) dX12_does_321
                  · rw [if_pos c99] at hf
                    refine lv_aload_n hx hb dX12_does_279 rfl (lv_at hl 3 rfl) ?_
                    refine lv_iload_n hx hb dX12_does_280 rfl (lv_at hl 2 rfl) ?_
                    obtain ⟨q101, h102, hf⟩ := bdE hf
                    refine cV (As := [.int (σ.1 238 (x1 + 1).toNatClampNeg)]) (rest := []) (k := 224) (ci := 10) (T := TX12) (N := 22) C0 w (m_X12_smooths l B _ (setI σ 224 5 0) (σ.1 238 (x1 + 1).toNatClampNeg) q101 h102) ky_X12_smooths kv_X12_smooths lk_X12_233 rfl (by decide +kernel) ⟨Nat.le_of_ble_eq_true rfl, Nat.le_of_ble_eq_true rfl⟩ ⟨Nat.le_of_ble_eq_true rfl, Nat.le_of_ble_eq_true rfl⟩ rfl (by rfl) (Nat.le_of_ble_eq_true rfl) hl.1 dX12_does_281 (fun H locs w => ?_)
                    refine lv_goto (tgt := 288) hx hb dX12_does_284 (by decide) ?_
                    refine lv_istore (lv' := [(4, .int q101.1), (3, .int (σ.1 238 (x1 + 2).toNatClampNeg)), (2, .int (σ.1 238 (x1 + 1).toNatClampNeg)), (0, .ref (wA B 224)), (1, .int x1)]) hx hb dX12_does_288 hl (by decide) rfl (fun ls hl => ?_)
                    refine lv_goto (tgt := 304) hx hb dX12_does_290 (by decide) ?_
                    refine lv_aload_n hx hb dX12_does_304 rfl (lv_at hl 3 rfl) ?_
                    refine gI C0 w fk_X12_62 (by decide +kernel) dX12_does_305 ?_
                    refine lv_if_ne (tgt := 320) hx hb dX12_does_308 (by decide) (fun c103 => ?_) (fun c103 => ?_)
                    · rw [if_neg c103] at hf
                      refine lv_iconst (v := 0) hx hb dX12_does_320 (by decide) ?_
                      obtain rfl := Option.some.inj hf
                      exact eI C0 hr w (bzE (x := 0) (by decide)) dX12_does_321
                    · rw [if_pos c103] at hf
                      refine lv_iload hx hb dX12_does_311 (lv_at hl 0 rfl) ?_
                      refine lv_if_lt (tgt := 320) hx hb dX12_does_313 (by decide) (fun c104 => ?_) (fun c104 => ?_)
                      · rw [if_pos c104] at hf
                        refine lv_iconst (v := 0) hx hb dX12_does_320 (by decide) ?_
                        obtain rfl := Option.some.inj hf
                        exact eI C0 hr w (bzE (x := 0) (by decide)) dX12_does_321
                      · rw [if_neg c104] at hf
                        refine lv_iconst (v := 1) hx hb dX12_does_316 (by decide) ?_
                        refine lv_goto (tgt := 321) hx hb dX12_does_317 (by decide) ?_
                        obtain rfl := Option.some.inj hf
                        exact eI C0 hr w (bzE (x := 1) (by decide)) dX12_does_321
              · rw [if_neg c89] at hf
                refine lv_tableOut (tgt := 293) hx hb dX12_does_27 (sw_out (by have q0 := sw_ne c4; have q1 := sw_ne c13; have q2 := sw_ne c35; have q3 := sw_ne c46; have q4 := sw_ne c57; have q5 := sw_ne c73; have q6 := sw_ne c89; clear hf; simp at *; omega)) (by decide) ?_
                refine lv_aload_n hx hb dX12_does_293 rfl (lv_at hl 3 rfl) ?_
                refine lv_iconst (v := 0) hx hb dX12_does_294 (by decide) ?_
                refine pI C0 w fk_X12_62 fp_X12_5 (by decide +kernel) dX12_does_295 (fun H locs w => ?_)
                refine lv_aload_n hx hb dX12_does_298 rfl (lv_at hl 3 rfl) ?_
                obtain ⟨q105, h106, hf⟩ := bdE hf
                refine cV (As := []) (rest := []) (k := 224) (ci := 10) (T := TX12) (N := 22) C0 w (m_X12_fills l B _ (setI σ 224 5 0) q105 h106) ky_X12_fills kv_X12_fills lk_X12_239 rfl (by decide +kernel) ⟨Nat.le_of_ble_eq_true rfl, Nat.le_of_ble_eq_true rfl⟩ ⟨Nat.le_of_ble_eq_true rfl, Nat.le_of_ble_eq_true rfl⟩ rfl (by rfl) (Nat.le_of_ble_eq_true rfl) hl.1 dX12_does_299 (fun H locs w => ?_)
                refine lv_istore (lv' := [(4, .int q105.1), (3, .int (σ.1 238 (x1 + 2).toNatClampNeg)), (2, .int (σ.1 238 (x1 + 1).toNatClampNeg)), (0, .ref (wA B 224)), (1, .int x1)]) hx hb dX12_does_302 hl (by decide) rfl (fun ls hl => ?_)
                refine lv_aload_n hx hb dX12_does_304 rfl (lv_at hl 3 rfl) ?_
                refine gI C0 w fk_X12_62 (by decide +kernel) dX12_does_305 ?_
                refine lv_if_ne (tgt := 320) hx hb dX12_does_308 (by decide) (fun c107 => ?_) (fun c107 => ?_)
                · rw [if_neg c107] at hf
                  refine lv_iconst (v := 0) hx hb dX12_does_320 (by decide) ?_
                  obtain rfl := Option.some.inj hf
                  exact eI C0 hr w (bzE (x := 0) (by decide)) dX12_does_321
                · rw [if_pos c107] at hf
                  refine lv_iload hx hb dX12_does_311 (lv_at hl 0 rfl) ?_
                  refine lv_if_lt (tgt := 320) hx hb dX12_does_313 (by decide) (fun c108 => ?_) (fun c108 => ?_)
                  · rw [if_pos c108] at hf
                    refine lv_iconst (v := 0) hx hb dX12_does_320 (by decide) ?_
                    obtain rfl := Option.some.inj hf
                    exact eI C0 hr w (bzE (x := 0) (by decide)) dX12_does_321
                  · rw [if_neg c108] at hf
                    refine lv_iconst (v := 1) hx hb dX12_does_316 (by decide) ?_
                    refine lv_goto (tgt := 321) hx hb dX12_does_317 (by decide) ?_
                    obtain rfl := Option.some.inj hf
                    exact eI C0 hr w (bzE (x := 1) (by decide)) dX12_does_321
def f_X12_run_26 : Nat → Int32 → Mem → Option (Int32 × Mem)
  | 0, _, _ => none
  | n + 1, x1, σ =>
    if (σ.1 224 19) ≤ x1 then (
      some ((x1, σ)))
    else (
      bd (f_X12_does (3 * x1) σ) (fun q2 =>
      if q2.1 = 0 then (
        some ((x1, q2.2)))
      else (
        f_X12_run_26 n (x1 + 1) q2.2)))
def f_X12_run (σ : Mem) : Option (Int32 × Mem) :=
  bd (f_X12_readAll (setI σ 224 5 0)) (fun q1 =>
  if q1.1 = 0 then (
    some ((((-10 : Int32)) - (q1.2.1 224 18), q1.2)))
  else (
    bd (f_X12_keep q1.2) (fun q4 =>
    bd (f_X12_run_26 100000 0 q4) (fun q6 =>
    some ((q6.1, setI q6.2 224 5 0))))))
abbrev rm_X12_run : Room := { frames := 9, cells := 0, slots := 0, locals := 215 }
set_option maxHeartbeats 4000000 in
set_option maxRecDepth 100000 in
theorem lp_X12_run_26 {p : Program} {e : Env} {s : State} {m : MethodId} {args : Array Value} {below : List Frame} {meth : Method} {c : Code} {Q : State → Prop} (l : Launch) (B : Wb) (C0 : Cx p s m args meth c cX12_run 2 RX12) : ∀ (n : Nat) (x1 : Int32) (σ : Mem) (o : Int32 × Mem) (H : Heap) (locs : List Loc) (ls : Array Slot), f_X12_run_26 n x1 σ = some o → Wx B σ s H locs → lv_has ls 2 [(0, .ref (wA B 224)), (1, .int x1)] → (∀ (H : Heap) (locs : List Loc) (ls : Array Slot), Wx B o.2 s H locs → lv_has ls 2 [(0, .ref (wA B 224)), (1, .int o.1)] → W p l e rm_X12_run s m args below meth c H locs 0 0 Q (F0 m 50 ls [])) → W p l e rm_X12_run s m args below meth c H locs 0 0 Q (F0 m 26 ls []) := by
  have hx := C0.1.1
  have hb := C0.1.2.1
  intro n
  induction n with
  | zero =>
    intro x1 σ o H locs ls hf w hl hK
    cases hf
  | succ n ih =>
    intro x1 σ o H locs ls hf w hl hK
    rw [f_X12_run_26] at hf
    refine lv_iload_n hx hb dX12_run_26 rfl (lv_at hl 1 rfl) ?_
    refine lv_aload_n hx hb dX12_run_27 rfl (lv_at hl 0 rfl) ?_
    refine gI C0 w fk_X12_298 (by decide +kernel) dX12_run_28 ?_
    refine lv_icmp_ge (tgt := 50) hx hb dX12_run_31 (by decide) (fun c1 => ?_) (fun c1 => ?_)
    · rw [if_pos c1] at hf
      obtain rfl := Option.some.inj hf
      exact hK _ _ _ w (lv_sub hl [0, 1] rfl)
    · rw [if_neg c1] at hf
      refine lv_aload_n hx hb dX12_run_34 rfl (lv_at hl 0 rfl) ?_
      refine lv_iconst (v := 3) hx hb dX12_run_35 (by decide) ?_
      refine lv_iload_n hx hb dX12_run_36 rfl (lv_at hl 1 rfl) ?_
      refine lv_imul hx hb dX12_run_37 ?_
      obtain ⟨q2, h3, hf⟩ := bdE hf
      refine cV (As := [.int (3 * x1)]) (rest := []) (k := 224) (ci := 10) (T := TX12) (N := 22) C0 w (m_X12_does l B _ σ (3 * x1) q2 h3) ky_X12_does kv_X12_does lk_X12_313 rfl (by decide +kernel) ⟨Nat.le_of_ble_eq_true rfl, Nat.le_of_ble_eq_true rfl⟩ ⟨Nat.le_of_ble_eq_true rfl, Nat.le_of_ble_eq_true rfl⟩ rfl (by rfl) (Nat.le_of_ble_eq_true rfl) hl.1 dX12_run_38 (fun H locs w => ?_)
      refine lv_if_eq (tgt := 50) hx hb dX12_run_41 (by decide) (fun c4 => ?_) (fun c4 => ?_)
      · rw [if_pos c4] at hf
        obtain rfl := Option.some.inj hf
        exact hK _ _ _ w (lv_sub hl [0, 1] rfl)
      · rw [if_neg c4] at hf
        refine lv_iinc (k := 1) (v := x1 + 1) (lv' := [(1, .int (x1 + 1)), (0, .ref (wA B 224))]) hx hb dX12_run_44 hl rfl (by rfl) (by decide) rfl (fun ls hl => ?_)
        refine lv_goto (tgt := 26) hx hb dX12_run_47 (by decide) ?_
        exact ih (x1 + 1) q2.2 _ _ _ _ hf w (lv_sub hl [1, 0] rfl) hK
set_option maxHeartbeats 4000000 in
set_option maxRecDepth 100000 in
theorem m_X12_run (l : Launch) (B : Wb) (sz : Nat) (σ : Mem) (q : Int32 × Mem) (hf : f_X12_run σ = some q) : MetC l yX12_run cX12_run 2 (some .int) rm_X12_run B sz σ q.2 [.ref (wA B 224)] (some (.int q.1)) := by
  refine met_in (by decide +kernel) (Nat.le_of_ble_eq_true rfl) ?_
  intro p e s m below meth c C0 hr w hsz ls hl
  have hx := C0.1.1
  have hb := C0.1.2.1
  unfold f_X12_run at hf
  refine lv_aload_n hx hb dX12_run_0 rfl (lv_at hl 0 rfl) ?_
  refine lv_iconst (v := 0) hx hb dX12_run_1 (by decide) ?_
  refine pI C0 w fk_X12_62 fp_X12_5 (by decide +kernel) dX12_run_2 (fun H locs w => ?_)
  refine lv_aload_n hx hb dX12_run_5 rfl (lv_at hl 0 rfl) ?_
  obtain ⟨q1, h2, hf⟩ := bdE hf
  refine cV (As := []) (rest := []) (k := 224) (ci := 10) (T := TX12) (N := 22) C0 w (m_X12_readAll l B _ (setI σ 224 5 0) q1 h2) ky_X12_readAll kv_X12_readAll lk_X12_310 rfl (by decide +kernel) ⟨Nat.le_of_ble_eq_true rfl, Nat.le_of_ble_eq_true rfl⟩ ⟨Nat.le_of_ble_eq_true rfl, Nat.le_of_ble_eq_true rfl⟩ rfl (by rfl) (Nat.le_of_ble_eq_true rfl) hl.1 dX12_run_6 (fun H locs w => ?_)
  refine lv_if_ne (tgt := 20) hx hb dX12_run_9 (by decide) (fun c3 => ?_) (fun c3 => ?_)
  · rw [if_neg c3] at hf
    refine lv_aload_n hx hb dX12_run_20 rfl (lv_at hl 0 rfl) ?_
    obtain ⟨q4, h5, hf⟩ := bdE hf
    refine cV (As := []) (rest := []) (k := 224) (ci := 10) (T := TX12) (N := 22) C0 w (m_X12_keep l B _ q1.2 q4 h5) ky_X12_keep kv_X12_keep lk_X12_131 rfl (by decide +kernel) ⟨Nat.le_of_ble_eq_true rfl, Nat.le_of_ble_eq_true rfl⟩ ⟨Nat.le_of_ble_eq_true rfl, Nat.le_of_ble_eq_true rfl⟩ rfl (by rfl) (Nat.le_of_ble_eq_true rfl) hl.1 dX12_run_21 (fun H locs w => ?_)
    refine lv_iconst (v := 0) hx hb dX12_run_24 (by decide) ?_
    refine lv_istore_n (lv' := [(1, .int 0), (0, .ref (wA B 224))]) hx hb dX12_run_25 rfl hl (by decide) rfl (fun ls hl => ?_)
    obtain ⟨q6, h7, hf⟩ := bdE hf
    refine lp_X12_run_26 l B C0 100000 0 q4 q6 _ _ _ h7 w (lv_sub hl [1, 0] rfl) (fun H locs ls w hl => ?_)
    refine lv_aload_n hx hb dX12_run_50 rfl (lv_at hl 0 rfl) ?_
    refine lv_iconst (v := 0) hx hb dX12_run_51 (by decide) ?_
    refine pI C0 w fk_X12_62 fp_X12_5 (by decide +kernel) dX12_run_52 (fun H locs w => ?_)
    refine lv_iload_n hx hb dX12_run_55 rfl (lv_at hl 1 rfl) ?_
    obtain rfl := Option.some.inj hf
    exact eI C0 hr w rfl dX12_run_56
  · rw [if_pos c3] at hf
    refine lv_bipush (v := (-10)) hx hb dX12_run_12 (by decide) ?_
    refine lv_aload_n hx hb dX12_run_14 rfl (lv_at hl 0 rfl) ?_
    refine gI C0 w fk_X12_258 (by decide +kernel) dX12_run_15 ?_
    refine lv_isub hx hb dX12_run_18 ?_
    obtain rfl := Option.some.inj hf
    exact eI C0 hr w rfl dX12_run_19
def f_X12_undo_37 : Nat → Int32 → Mem → Option (Mem)
  | 0, _, _ => none
  | n + 1, x1, σ =>
    if 200 ≤ x1 then (
      some σ)
    else (
      gd (inb ((200 * (σ.1 224 2)) + x1) 800) (
      gd (inb x1 200) (
      f_X12_undo_37 n (x1 + 1) (setL σ 225 x1.toNatClampNeg (σ.2 226 ((200 * (σ.1 224 2)) + x1).toNatClampNeg)))))
def f_X12_undo (σ : Mem) : Option (Int32 × Mem) :=
  if (σ.1 224 2) = 0 then (
    if ((setI σ 224 5 1).1 224 5) = 0 then (
      bd (f_X12_undo_37 100000 0 (setI (setI σ 224 5 1) 224 2 (((setI σ 224 5 1).1 224 2) - 1))) (fun q6 =>
      some ((q6.1 224 2, q6))))
    else (
      some ((0, setI σ 224 5 1))))
  else (
    if ((setI σ 224 5 0).1 224 5) = 0 then (
      bd (f_X12_undo_37 100000 0 (setI (setI σ 224 5 0) 224 2 (((setI σ 224 5 0).1 224 2) - 1))) (fun q3 =>
      some ((q3.1 224 2, q3))))
    else (
      some ((0, setI σ 224 5 0))))
abbrev rm_X12_undo : Room := { frames := 0, cells := 0, slots := 0, locals := 0 }
set_option maxHeartbeats 4000000 in
set_option maxRecDepth 100000 in
theorem lp_X12_undo_37 {p : Program} {e : Env} {s : State} {m : MethodId} {args : Array Value} {below : List Frame} {meth : Method} {c : Code} {Q : State → Prop} (l : Launch) (B : Wb) (C0 : Cx p s m args meth c cX12_undo 2 RX12) : ∀ (n : Nat) (x1 : Int32) (σ : Mem) (o : Mem) (H : Heap) (locs : List Loc) (ls : Array Slot), f_X12_undo_37 n x1 σ = some o → Wx B σ s H locs → lv_has ls 2 [(0, .ref (wA B 224)), (1, .int x1)] → (∀ (H : Heap) (locs : List Loc) (ls : Array Slot), Wx B o s H locs → lv_has ls 2 [(0, .ref (wA B 224))] → W p l e rm_X12_undo s m args below meth c H locs 0 0 Q (F0 m 71 ls [])) → W p l e rm_X12_undo s m args below meth c H locs 0 0 Q (F0 m 37 ls []) := by
  have hx := C0.1.1
  have hb := C0.1.2.1
  intro n
  induction n with
  | zero =>
    intro x1 σ o H locs ls hf w hl hK
    cases hf
  | succ n ih =>
    intro x1 σ o H locs ls hf w hl hK
    rw [f_X12_undo_37] at hf
    refine lv_iload_n hx hb dX12_undo_37 rfl (lv_at hl 1 rfl) ?_
    refine lv_sipush (v := 200) hx hb dX12_undo_38 (by decide) ?_
    refine lv_icmp_ge (tgt := 71) hx hb dX12_undo_41 (by decide) (fun c1 => ?_) (fun c1 => ?_)
    · rw [if_pos c1] at hf
      obtain rfl := Option.some.inj hf
      exact hK _ _ _ w (lv_sub hl [0] rfl)
    · rw [if_neg c1] at hf
      refine lv_aload_n hx hb dX12_undo_44 rfl (lv_at hl 0 rfl) ?_
      refine gR C0 w 225 fk_X12_7 (by decide +kernel) dX12_undo_45 ?_
      refine lv_iload_n hx hb dX12_undo_48 rfl (lv_at hl 1 rfl) ?_
      refine lv_aload_n hx hb dX12_undo_49 rfl (lv_at hl 0 rfl) ?_
      refine gR C0 w 226 fk_X12_13 (by decide +kernel) dX12_undo_50 ?_
      refine lv_sipush (v := 200) hx hb dX12_undo_53 (by decide) ?_
      refine lv_aload_n hx hb dX12_undo_56 rfl (lv_at hl 0 rfl) ?_
      refine gI C0 w fk_X12_66 (by decide +kernel) dX12_undo_57 ?_
      refine lv_imul hx hb dX12_undo_60 ?_
      refine lv_iload_n hx hb dX12_undo_61 rfl (lv_at hl 1 rfl) ?_
      refine lv_iadd hx hb dX12_undo_62 ?_
      obtain ⟨g2, hf⟩ := gdE hf
      refine aL C0 w (n := 800) (by decide +kernel) (inbE g2) dX12_undo_63 ?_
      obtain ⟨g3, hf⟩ := gdE hf
      refine sL C0 w (n := 200) (by decide +kernel) (inbE g3) dX12_undo_64 (fun H locs w => ?_)
      refine lv_iinc (k := 1) (v := x1 + 1) (lv' := [(1, .int (x1 + 1)), (0, .ref (wA B 224))]) hx hb dX12_undo_65 hl rfl (by rfl) (by decide) rfl (fun ls hl => ?_)
      refine lv_goto (tgt := 37) hx hb dX12_undo_68 (by decide) ?_
      exact ih (x1 + 1) (setL σ 225 x1.toNatClampNeg (σ.2 226 ((200 * (σ.1 224 2)) + x1).toNatClampNeg)) _ _ _ _ hf w (lv_sub hl [1, 0] rfl) hK
set_option maxHeartbeats 4000000 in
set_option maxRecDepth 100000 in
theorem m_X12_undo (l : Launch) (B : Wb) (sz : Nat) (σ : Mem) (q : Int32 × Mem) (hf : f_X12_undo σ = some q) : MetC l yX12_undo cX12_undo 2 (some .int) rm_X12_undo B sz σ q.2 [.ref (wA B 224)] (some (.int q.1)) := by
  refine met_in (by decide +kernel) (Nat.le_of_ble_eq_true rfl) ?_
  intro p e s m below meth c C0 hr w hsz ls hl
  have hx := C0.1.1
  have hb := C0.1.2.1
  unfold f_X12_undo at hf
  refine lv_aload_n hx hb dX12_undo_0 rfl (lv_at hl 0 rfl) ?_
  refine lv_aload_n hx hb dX12_undo_1 rfl (lv_at hl 0 rfl) ?_
  refine gI C0 w fk_X12_66 (by decide +kernel) dX12_undo_2 ?_
  refine lv_if_ne (tgt := 12) hx hb dX12_undo_5 (by decide) (fun c1 => ?_) (fun c1 => ?_)
  · rw [if_neg c1] at hf
    refine lv_iconst (v := 0) hx hb dX12_undo_12 (by decide) ?_
    refine pI C0 w fk_X12_62 fp_X12_5 (by decide +kernel) dX12_undo_13 (fun H locs w => ?_)
    refine lv_aload_n hx hb dX12_undo_16 rfl (lv_at hl 0 rfl) ?_
    refine gI C0 w fk_X12_62 (by decide +kernel) dX12_undo_17 ?_
    refine lv_if_eq (tgt := 25) hx hb dX12_undo_20 (by decide) (fun c2 => ?_) (fun c2 => ?_)
    · rw [if_pos c2] at hf
      refine lv_aload_n hx hb dX12_undo_25 rfl (lv_at hl 0 rfl) ?_
      refine lv_dup hx hb dX12_undo_26 rfl ?_
      refine gI C0 w fk_X12_66 (by decide +kernel) dX12_undo_27 ?_
      refine lv_iconst (v := 1) hx hb dX12_undo_30 (by decide) ?_
      refine lv_isub hx hb dX12_undo_31 ?_
      refine pI C0 w fk_X12_66 fp_X12_2 (by decide +kernel) dX12_undo_32 (fun H locs w => ?_)
      refine lv_iconst (v := 0) hx hb dX12_undo_35 (by decide) ?_
      refine lv_istore_n (lv' := [(1, .int 0), (0, .ref (wA B 224))]) hx hb dX12_undo_36 rfl hl (by decide) rfl (fun ls hl => ?_)
      obtain ⟨q3, h4, hf⟩ := bdE hf
      refine lp_X12_undo_37 l B C0 100000 0 (setI (setI σ 224 5 0) 224 2 (((setI σ 224 5 0).1 224 2) - 1)) q3 _ _ _ h4 w (lv_sub hl [1, 0] rfl) (fun H locs ls w hl => ?_)
      refine lv_aload_n hx hb dX12_undo_71 rfl (lv_at hl 0 rfl) ?_
      refine gI C0 w fk_X12_66 (by decide +kernel) dX12_undo_72 ?_
      obtain rfl := Option.some.inj hf
      exact eI C0 hr w rfl dX12_undo_75
    · rw [if_neg c2] at hf
      refine lv_iconst (v := 0) hx hb dX12_undo_23 (by decide) ?_
      obtain rfl := Option.some.inj hf
      exact eI C0 hr w rfl dX12_undo_24
  · rw [if_pos c1] at hf
    refine lv_iconst (v := 1) hx hb dX12_undo_8 (by decide) ?_
    refine lv_goto (tgt := 13) hx hb dX12_undo_9 (by decide) ?_
    refine pI C0 w fk_X12_62 fp_X12_5 (by decide +kernel) dX12_undo_13 (fun H locs w => ?_)
    refine lv_aload_n hx hb dX12_undo_16 rfl (lv_at hl 0 rfl) ?_
    refine gI C0 w fk_X12_62 (by decide +kernel) dX12_undo_17 ?_
    refine lv_if_eq (tgt := 25) hx hb dX12_undo_20 (by decide) (fun c5 => ?_) (fun c5 => ?_)
    · rw [if_pos c5] at hf
      refine lv_aload_n hx hb dX12_undo_25 rfl (lv_at hl 0 rfl) ?_
      refine lv_dup hx hb dX12_undo_26 rfl ?_
      refine gI C0 w fk_X12_66 (by decide +kernel) dX12_undo_27 ?_
      refine lv_iconst (v := 1) hx hb dX12_undo_30 (by decide) ?_
      refine lv_isub hx hb dX12_undo_31 ?_
      refine pI C0 w fk_X12_66 fp_X12_2 (by decide +kernel) dX12_undo_32 (fun H locs w => ?_)
      refine lv_iconst (v := 0) hx hb dX12_undo_35 (by decide) ?_
      refine lv_istore_n (lv' := [(1, .int 0), (0, .ref (wA B 224))]) hx hb dX12_undo_36 rfl hl (by decide) rfl (fun ls hl => ?_)
      obtain ⟨q6, h7, hf⟩ := bdE hf
      refine lp_X12_undo_37 l B C0 100000 0 (setI (setI σ 224 5 1) 224 2 (((setI σ 224 5 1).1 224 2) - 1)) q6 _ _ _ h7 w (lv_sub hl [1, 0] rfl) (fun H locs ls w hl => ?_)
      refine lv_aload_n hx hb dX12_undo_71 rfl (lv_at hl 0 rfl) ?_
      refine gI C0 w fk_X12_66 (by decide +kernel) dX12_undo_72 ?_
      obtain rfl := Option.some.inj hf
      exact eI C0 hr w rfl dX12_undo_75
    · rw [if_neg c5] at hf
      refine lv_iconst (v := 0) hx hb dX12_undo_23 (by decide) ?_
      obtain rfl := Option.some.inj hf
      exact eI C0 hr w rfl dX12_undo_24
def f_X12_mix (x1 : Int64) (σ : Mem) : Option (Mem) :=
  some (setL σ 224 21 ((31 * (σ.2 224 21)) + x1))
abbrev rm_X12_mix : Room := { frames := 0, cells := 0, slots := 0, locals := 0 }
set_option maxHeartbeats 4000000 in
set_option maxRecDepth 100000 in
theorem m_X12_mix (l : Launch) (B : Wb) (sz : Nat) (σ : Mem) (x1 : Int64) (q : Mem) (hf : f_X12_mix x1 σ = some q) : MetC l yX12_mix cX12_mix 3 none rm_X12_mix B sz σ q [.ref (wA B 224), .long x1] (none) := by
  refine met_in (by decide +kernel) (Nat.le_of_ble_eq_true rfl) ?_
  intro p e s m below meth c C0 hr w hsz ls hl
  have hx := C0.1.1
  have hb := C0.1.2.1
  unfold f_X12_mix at hf
  refine lv_aload_n hx hb dX12_mix_0 rfl (lv_at hl 0 rfl) ?_
  refine kLg C0 31 kc_X12_316 dX12_mix_1 ?_
  refine lv_aload_n hx hb dX12_mix_4 rfl (lv_at hl 0 rfl) ?_
  refine gL C0 w fk_X12_318 (by decide +kernel) dX12_mix_5 ?_
  refine lv_lmul hx hb dX12_mix_8 ?_
  refine lv_lload_n hx hb dX12_mix_9 rfl (lv_at hl 1 rfl) ?_
  refine lv_ladd hx hb dX12_mix_10 ?_
  refine pL C0 w fk_X12_318 fp_X12_21 (by decide +kernel) dX12_mix_11 (fun H locs w => ?_)
  obtain rfl := Option.some.inj hf
  exact eV C0 hr w dX12_mix_14
def f_X12_mixRay_54 : Nat → Int32 → Mem → Option (Mem)
  | 0, _, _ => none
  | n + 1, x2, σ =>
    if x2 < 0 then (
      some σ)
    else (
      gd (inb x2 64) (
      bd (f_X12_mix ((σ.1 230 x2.toNatClampNeg).toInt64) σ) (fun q3 =>
      f_X12_mixRay_54 n (x2 + (-1)) q3)))
def f_X12_mixRay_2 (x1 : Int32) : Nat → Int32 → Mem → Option (Mem)
  | 0, _, _ => none
  | n + 1, x2, σ =>
    if 5 ≤ x2 then (
      some σ)
    else (
      bd (f_X12_valueOf x1 x2 σ) (fun q2 =>
      bd (f_X12_mix q2.1.toInt64 q2.2) (fun q4 =>
      f_X12_mixRay_2 x1 n (x2 + 1) q4)))
def f_X12_mixRay (x1 : Int32) (σ : Mem) : Option (Mem) :=
  bd (f_X12_mixRay_2 x1 100000 0 σ) (fun q1 =>
  bd (f_X12_findWay x1 q1) (fun q3 =>
  bd (f_X12_mix (q3.2 224 11) q3) (fun q5 =>
  bd (f_X12_of x1 3 q5) (fun q7 =>
  bd (f_X12_mix q7 q5) (fun q9 =>
  bd (f_X12_mixRay_54 100000 ((q9.1 224 9) - 1) q9) (fun q11 =>
  some q11))))))
abbrev rm_X12_mixRay : Room := { frames := 6, cells := 0, slots := 0, locals := 145 }
set_option maxHeartbeats 4000000 in
set_option maxRecDepth 100000 in
theorem lp_X12_mixRay_54 {p : Program} {e : Env} {s : State} {m : MethodId} {args : Array Value} {below : List Frame} {meth : Method} {c : Code} {Q : State → Prop} (l : Launch) (B : Wb) (C0 : Cx p s m args meth c cX12_mixRay 3 RX12) : ∀ (n : Nat) (x2 : Int32) (σ : Mem) (o : Mem) (H : Heap) (locs : List Loc) (ls : Array Slot), f_X12_mixRay_54 n x2 σ = some o → Wx B σ s H locs → lv_has ls 3 [(0, .ref (wA B 224)), (2, .int x2)] → (∀ (H : Heap) (locs : List Loc) (ls : Array Slot), Wx B o s H locs → lv_has ls 3 [] → W p l e rm_X12_mixRay s m args below meth c H locs 0 0 Q (F0 m 75 ls [])) → W p l e rm_X12_mixRay s m args below meth c H locs 0 0 Q (F0 m 54 ls []) := by
  have hx := C0.1.1
  have hb := C0.1.2.1
  intro n
  induction n with
  | zero =>
    intro x2 σ o H locs ls hf w hl hK
    cases hf
  | succ n ih =>
    intro x2 σ o H locs ls hf w hl hK
    rw [f_X12_mixRay_54] at hf
    refine lv_iload_n hx hb dX12_mixRay_54 rfl (lv_at hl 1 rfl) ?_
    refine lv_if_lt (tgt := 75) hx hb dX12_mixRay_55 (by decide) (fun c1 => ?_) (fun c1 => ?_)
    · rw [if_pos c1] at hf
      obtain rfl := Option.some.inj hf
      exact hK _ _ _ w (lv_sub hl [] rfl)
    · rw [if_neg c1] at hf
      refine lv_aload_n hx hb dX12_mixRay_58 rfl (lv_at hl 0 rfl) ?_
      refine lv_aload_n hx hb dX12_mixRay_59 rfl (lv_at hl 0 rfl) ?_
      refine gR C0 w 230 fk_X12_27 (by decide +kernel) dX12_mixRay_60 ?_
      refine lv_iload_n hx hb dX12_mixRay_63 rfl (lv_at hl 1 rfl) ?_
      obtain ⟨g2, hf⟩ := gdE hf
      refine aI C0 w (n := 64) (by decide +kernel) (inbE g2) dX12_mixRay_64 ?_
      refine lv_i2l hx hb dX12_mixRay_65 rfl ?_
      obtain ⟨q3, h4, hf⟩ := bdE hf
      refine cV (As := [.long ((σ.1 230 x2.toNatClampNeg).toInt64)]) (rest := []) (k := 224) (ci := 10) (T := TX12) (N := 22) C0 w (m_X12_mix l B _ σ ((σ.1 230 x2.toNatClampNeg).toInt64) q3 h4) ky_X12_mix kv_X12_mix lk_X12_321 rfl (by decide +kernel) ⟨Nat.le_of_ble_eq_true rfl, Nat.le_of_ble_eq_true rfl⟩ ⟨Nat.le_of_ble_eq_true rfl, Nat.le_of_ble_eq_true rfl⟩ rfl (by rfl) (Nat.le_of_ble_eq_true rfl) hl.1 dX12_mixRay_66 (fun H locs w => ?_)
      refine lv_iinc (k := 1) (v := x2 + (-1)) (lv' := [(2, .int (x2 + (-1))), (0, .ref (wA B 224))]) hx hb dX12_mixRay_69 hl rfl (by rfl) (by decide) rfl (fun ls hl => ?_)
      refine lv_goto (tgt := 54) hx hb dX12_mixRay_72 (by decide) ?_
      exact ih (x2 + (-1)) q3 _ _ _ _ hf w (lv_sub hl [1, 0] rfl) hK
set_option maxHeartbeats 4000000 in
set_option maxRecDepth 100000 in
theorem lp_X12_mixRay_2 {p : Program} {e : Env} {s : State} {m : MethodId} {args : Array Value} {below : List Frame} {meth : Method} {c : Code} {Q : State → Prop} (l : Launch) (B : Wb) (C0 : Cx p s m args meth c cX12_mixRay 3 RX12) (x1 : Int32) : ∀ (n : Nat) (x2 : Int32) (σ : Mem) (o : Mem) (H : Heap) (locs : List Loc) (ls : Array Slot), f_X12_mixRay_2 x1 n x2 σ = some o → Wx B σ s H locs → lv_has ls 3 [(0, .ref (wA B 224)), (1, .int x1), (2, .int x2)] → (∀ (H : Heap) (locs : List Loc) (ls : Array Slot), Wx B o s H locs → lv_has ls 3 [(0, .ref (wA B 224)), (1, .int x1)] → W p l e rm_X12_mixRay s m args below meth c H locs 0 0 Q (F0 m 24 ls [])) → W p l e rm_X12_mixRay s m args below meth c H locs 0 0 Q (F0 m 2 ls []) := by
  have hx := C0.1.1
  have hb := C0.1.2.1
  intro n
  induction n with
  | zero =>
    intro x2 σ o H locs ls hf w hl hK
    cases hf
  | succ n ih =>
    intro x2 σ o H locs ls hf w hl hK
    rw [f_X12_mixRay_2] at hf
    refine lv_iload_n hx hb dX12_mixRay_2 rfl (lv_at hl 2 rfl) ?_
    refine lv_iconst (v := 5) hx hb dX12_mixRay_3 (by decide) ?_
    refine lv_icmp_ge (tgt := 24) hx hb dX12_mixRay_4 (by decide) (fun c1 => ?_) (fun c1 => ?_)
    · rw [if_pos c1] at hf
      obtain rfl := Option.some.inj hf
      exact hK _ _ _ w (lv_sub hl [0, 1] rfl)
    · rw [if_neg c1] at hf
      refine lv_aload_n hx hb dX12_mixRay_7 rfl (lv_at hl 0 rfl) ?_
      refine lv_aload_n hx hb dX12_mixRay_8 rfl (lv_at hl 0 rfl) ?_
      refine lv_iload_n hx hb dX12_mixRay_9 rfl (lv_at hl 1 rfl) ?_
      refine lv_iload_n hx hb dX12_mixRay_10 rfl (lv_at hl 2 rfl) ?_
      obtain ⟨q2, h3, hf⟩ := bdE hf
      refine cV (As := [.int x1, .int x2]) (rest := [.ref (wA B 224)]) (k := 224) (ci := 10) (T := TX12) (N := 22) C0 w (m_X12_valueOf l B _ σ x1 x2 q2 h3) ky_X12_valueOf kv_X12_valueOf lk_X12_244 rfl (by decide +kernel) ⟨Nat.le_of_ble_eq_true rfl, Nat.le_of_ble_eq_true rfl⟩ ⟨Nat.le_of_ble_eq_true rfl, Nat.le_of_ble_eq_true rfl⟩ rfl (by rfl) (Nat.le_of_ble_eq_true rfl) hl.1 dX12_mixRay_11 (fun H locs w => ?_)
      refine lv_i2l hx hb dX12_mixRay_14 rfl ?_
      obtain ⟨q4, h5, hf⟩ := bdE hf
      refine cV (As := [.long q2.1.toInt64]) (rest := []) (k := 224) (ci := 10) (T := TX12) (N := 22) C0 w (m_X12_mix l B _ q2.2 q2.1.toInt64 q4 h5) ky_X12_mix kv_X12_mix lk_X12_321 rfl (by decide +kernel) ⟨Nat.le_of_ble_eq_true rfl, Nat.le_of_ble_eq_true rfl⟩ ⟨Nat.le_of_ble_eq_true rfl, Nat.le_of_ble_eq_true rfl⟩ rfl (by rfl) (Nat.le_of_ble_eq_true rfl) hl.1 dX12_mixRay_15 (fun H locs w => ?_)
      refine lv_iinc (k := 2) (v := x2 + 1) (lv' := [(2, .int (x2 + 1)), (0, .ref (wA B 224)), (1, .int x1)]) hx hb dX12_mixRay_18 hl rfl (by rfl) (by decide) rfl (fun ls hl => ?_)
      refine lv_goto (tgt := 2) hx hb dX12_mixRay_21 (by decide) ?_
      exact ih (x2 + 1) q4 _ _ _ _ hf w (lv_sub hl [1, 2, 0] rfl) hK
set_option maxHeartbeats 4000000 in
set_option maxRecDepth 100000 in
theorem m_X12_mixRay (l : Launch) (B : Wb) (sz : Nat) (σ : Mem) (x1 : Int32) (q : Mem) (hf : f_X12_mixRay x1 σ = some q) : MetC l yX12_mixRay cX12_mixRay 3 none rm_X12_mixRay B sz σ q [.ref (wA B 224), .int x1] (none) := by
  refine met_in (by decide +kernel) (Nat.le_of_ble_eq_true rfl) ?_
  intro p e s m below meth c C0 hr w hsz ls hl
  have hx := C0.1.1
  have hb := C0.1.2.1
  unfold f_X12_mixRay at hf
  refine lv_iconst (v := 0) hx hb dX12_mixRay_0 (by decide) ?_
  refine lv_istore_n (lv' := [(2, .int 0), (0, .ref (wA B 224)), (1, .int x1)]) hx hb dX12_mixRay_1 rfl hl (by decide) rfl (fun ls hl => ?_)
  obtain ⟨q1, h2, hf⟩ := bdE hf
  refine lp_X12_mixRay_2 l B C0 x1 100000 0 σ q1 _ _ _ h2 w (lv_sub hl [1, 2, 0] rfl) (fun H locs ls w hl => ?_)
  refine lv_aload_n hx hb dX12_mixRay_24 rfl (lv_at hl 0 rfl) ?_
  refine lv_iload_n hx hb dX12_mixRay_25 rfl (lv_at hl 1 rfl) ?_
  obtain ⟨q3, h4, hf⟩ := bdE hf
  refine cV (As := [.int x1]) (rest := []) (k := 224) (ci := 10) (T := TX12) (N := 22) C0 w (m_X12_findWay l B _ q1 x1 q3 h4) ky_X12_findWay kv_X12_findWay lk_X12_125 rfl (by decide +kernel) ⟨Nat.le_of_ble_eq_true rfl, Nat.le_of_ble_eq_true rfl⟩ ⟨Nat.le_of_ble_eq_true rfl, Nat.le_of_ble_eq_true rfl⟩ rfl (by rfl) (Nat.le_of_ble_eq_true rfl) hl.1 dX12_mixRay_26 (fun H locs w => ?_)
  refine lv_aload_n hx hb dX12_mixRay_29 rfl (lv_at hl 0 rfl) ?_
  refine lv_aload_n hx hb dX12_mixRay_30 rfl (lv_at hl 0 rfl) ?_
  refine gL C0 w fk_X12_114 (by decide +kernel) dX12_mixRay_31 ?_
  obtain ⟨q5, h6, hf⟩ := bdE hf
  refine cV (As := [.long (q3.2 224 11)]) (rest := []) (k := 224) (ci := 10) (T := TX12) (N := 22) C0 w (m_X12_mix l B _ q3 (q3.2 224 11) q5 h6) ky_X12_mix kv_X12_mix lk_X12_321 rfl (by decide +kernel) ⟨Nat.le_of_ble_eq_true rfl, Nat.le_of_ble_eq_true rfl⟩ ⟨Nat.le_of_ble_eq_true rfl, Nat.le_of_ble_eq_true rfl⟩ rfl (by rfl) (Nat.le_of_ble_eq_true rfl) hl.1 dX12_mixRay_34 (fun H locs w => ?_)
  refine lv_aload_n hx hb dX12_mixRay_37 rfl (lv_at hl 0 rfl) ?_
  refine lv_aload_n hx hb dX12_mixRay_38 rfl (lv_at hl 0 rfl) ?_
  refine lv_iload_n hx hb dX12_mixRay_39 rfl (lv_at hl 1 rfl) ?_
  refine lv_iconst (v := 3) hx hb dX12_mixRay_40 (by decide) ?_
  obtain ⟨q7, h8, hf⟩ := bdE hf
  refine cV (As := [.int x1, .int 3]) (rest := [.ref (wA B 224)]) (k := 224) (ci := 10) (T := TX12) (N := 22) C0 w (m_X12_of l B _ q5 x1 3 q7 h8) ky_X12_of kv_X12_of lk_X12_83 rfl (by decide +kernel) ⟨Nat.le_of_ble_eq_true rfl, Nat.le_of_ble_eq_true rfl⟩ ⟨Nat.le_of_ble_eq_true rfl, Nat.le_of_ble_eq_true rfl⟩ rfl (by rfl) (Nat.le_of_ble_eq_true rfl) hl.1 dX12_mixRay_41 (fun H locs w => ?_)
  obtain ⟨q9, h10, hf⟩ := bdE hf
  refine cV (As := [.long q7]) (rest := []) (k := 224) (ci := 10) (T := TX12) (N := 22) C0 w (m_X12_mix l B _ q5 q7 q9 h10) ky_X12_mix kv_X12_mix lk_X12_321 rfl (by decide +kernel) ⟨Nat.le_of_ble_eq_true rfl, Nat.le_of_ble_eq_true rfl⟩ ⟨Nat.le_of_ble_eq_true rfl, Nat.le_of_ble_eq_true rfl⟩ rfl (by rfl) (Nat.le_of_ble_eq_true rfl) hl.1 dX12_mixRay_44 (fun H locs w => ?_)
  refine lv_aload_n hx hb dX12_mixRay_47 rfl (lv_at hl 0 rfl) ?_
  refine gI C0 w fk_X12_118 (by decide +kernel) dX12_mixRay_48 ?_
  refine lv_iconst (v := 1) hx hb dX12_mixRay_51 (by decide) ?_
  refine lv_isub hx hb dX12_mixRay_52 ?_
  refine lv_istore_n (lv' := [(2, .int ((q9.1 224 9) - 1)), (0, .ref (wA B 224)), (1, .int x1)]) hx hb dX12_mixRay_53 rfl hl (by decide) rfl (fun ls hl => ?_)
  obtain ⟨q11, h12, hf⟩ := bdE hf
  refine lp_X12_mixRay_54 l B C0 100000 ((q9.1 224 9) - 1) q9 q11 _ _ _ h12 w (lv_sub hl [1, 0] rfl) (fun H locs ls w hl => ?_)
  obtain rfl := Option.some.inj hf
  exact eV C0 hr w dX12_mixRay_75
def f_X12_digest_161 : Nat → Int32 → Mem → Option (Mem)
  | 0, _, _ => none
  | n + 1, x1, σ =>
    if 5 ≤ x1 then (
      some σ)
    else (
      bd (f_X12_fitOf x1 σ) (fun q2 =>
      bd (f_X12_mix q2.1 q2.2) (fun q4 =>
      f_X12_digest_161 n (x1 + 1) q4)))
def f_X12_digest_32 : Nat → Int32 → Mem → Option (Mem)
  | 0, _, _ => none
  | n + 1, x1, σ =>
    if 9 ≤ x1 then (
      some σ)
    else (
      bd (f_X12_sectionOf x1 σ) (fun q2 =>
      bd (f_X12_mix q2.1.toInt64 q2.2) (fun q4 =>
      f_X12_digest_32 n (x1 + 1) q4)))
def f_X12_digest_135 : Nat → Int32 → Mem → Option (Mem)
  | 0, _, _ => none
  | n + 1, x1, σ =>
    if (σ.2 225 (7 : Int32).toNatClampNeg) ≤ x1.toInt64 then (
      some σ)
    else (
      bd (f_X12_mixRay x1 σ) (fun q3 =>
      f_X12_digest_135 n (x1 + 1) q3))
def f_X12_digest_71 : Nat → Int32 → Mem → Option (Mem)
  | 0, _, _ => none
  | n + 1, x1, σ =>
    bd (f_X12_cells σ) (fun q1 =>
    if q1 ≤ x1 then (
      some σ)
    else (
      gd (inb (8 + x1) 200) (
      bd (f_X12_mix (σ.2 225 (8 + x1).toNatClampNeg) σ) (fun q5 =>
      gd (inb (72 + x1) 200) (
      bd (f_X12_mix (q5.2 225 (72 + x1).toNatClampNeg) q5) (fun q8 =>
      gd (inb x1 64) (
      bd (f_X12_mix ((q8.1 232 x1.toNatClampNeg).toInt64) q8) (fun q11 =>
      gd (inb x1 64) (
      bd (f_X12_mix ((q11.1 233 x1.toNatClampNeg).toInt64) q11) (fun q14 =>
      f_X12_digest_71 n (x1 + 1) q14))))))))))
def f_X12_digest (σ : Mem) : Option (Int64 × Mem) :=
  bd (f_X12_mix (((setL (setI σ 224 5 0) 224 21 11888).1 224 2).toInt64) (setL (setI σ 224 5 0) 224 21 11888)) (fun q1 =>
  bd (f_X12_mix ((q1.1 224 4).toInt64) q1) (fun q3 =>
  bd (f_X12_digest_32 100000 0 q3) (fun q5 =>
  bd (f_X12_mix (q5.2 225 (6 : Int32).toNatClampNeg) q5) (fun q8 =>
  bd (f_X12_cover q8) (fun q10 =>
  bd (f_X12_digest_71 100000 0 q10) (fun q12 =>
  bd (f_X12_digest_135 100000 0 q12) (fun q14 =>
  bd (f_X12_digest_161 100000 0 q14) (fun q16 =>
  some ((q16.2 224 21, q16))))))))))
abbrev rm_X12_digest : Room := { frames := 7, cells := 0, slots := 0, locals := 172 }
set_option maxHeartbeats 4000000 in
set_option maxRecDepth 100000 in
theorem lp_X12_digest_161 {p : Program} {e : Env} {s : State} {m : MethodId} {args : Array Value} {below : List Frame} {meth : Method} {c : Code} {Q : State → Prop} (l : Launch) (B : Wb) (C0 : Cx p s m args meth c cX12_digest 2 RX12) : ∀ (n : Nat) (x1 : Int32) (σ : Mem) (o : Mem) (H : Heap) (locs : List Loc) (ls : Array Slot), f_X12_digest_161 n x1 σ = some o → Wx B σ s H locs → lv_has ls 2 [(0, .ref (wA B 224)), (1, .int x1)] → (∀ (H : Heap) (locs : List Loc) (ls : Array Slot), Wx B o s H locs → lv_has ls 2 [(0, .ref (wA B 224))] → W p l e rm_X12_digest s m args below meth c H locs 0 0 Q (F0 m 181 ls [])) → W p l e rm_X12_digest s m args below meth c H locs 0 0 Q (F0 m 161 ls []) := by
  have hx := C0.1.1
  have hb := C0.1.2.1
  intro n
  induction n with
  | zero =>
    intro x1 σ o H locs ls hf w hl hK
    cases hf
  | succ n ih =>
    intro x1 σ o H locs ls hf w hl hK
    rw [f_X12_digest_161] at hf
    refine lv_iload_n hx hb dX12_digest_161 rfl (lv_at hl 1 rfl) ?_
    refine lv_iconst (v := 5) hx hb dX12_digest_162 (by decide) ?_
    refine lv_icmp_ge (tgt := 181) hx hb dX12_digest_163 (by decide) (fun c1 => ?_) (fun c1 => ?_)
    · rw [if_pos c1] at hf
      obtain rfl := Option.some.inj hf
      exact hK _ _ _ w (lv_sub hl [0] rfl)
    · rw [if_neg c1] at hf
      refine lv_aload_n hx hb dX12_digest_166 rfl (lv_at hl 0 rfl) ?_
      refine lv_aload_n hx hb dX12_digest_167 rfl (lv_at hl 0 rfl) ?_
      refine lv_iload_n hx hb dX12_digest_168 rfl (lv_at hl 1 rfl) ?_
      obtain ⟨q2, h3, hf⟩ := bdE hf
      refine cV (As := [.int x1]) (rest := [.ref (wA B 224)]) (k := 224) (ci := 10) (T := TX12) (N := 22) C0 w (m_X12_fitOf l B _ σ x1 q2 h3) ky_X12_fitOf kv_X12_fitOf lk_X12_250 rfl (by decide +kernel) ⟨Nat.le_of_ble_eq_true rfl, Nat.le_of_ble_eq_true rfl⟩ ⟨Nat.le_of_ble_eq_true rfl, Nat.le_of_ble_eq_true rfl⟩ rfl (by rfl) (Nat.le_of_ble_eq_true rfl) hl.1 dX12_digest_169 (fun H locs w => ?_)
      obtain ⟨q4, h5, hf⟩ := bdE hf
      refine cV (As := [.long q2.1]) (rest := []) (k := 224) (ci := 10) (T := TX12) (N := 22) C0 w (m_X12_mix l B _ q2.2 q2.1 q4 h5) ky_X12_mix kv_X12_mix lk_X12_321 rfl (by decide +kernel) ⟨Nat.le_of_ble_eq_true rfl, Nat.le_of_ble_eq_true rfl⟩ ⟨Nat.le_of_ble_eq_true rfl, Nat.le_of_ble_eq_true rfl⟩ rfl (by rfl) (Nat.le_of_ble_eq_true rfl) hl.1 dX12_digest_172 (fun H locs w => ?_)
      refine lv_iinc (k := 1) (v := x1 + 1) (lv' := [(1, .int (x1 + 1)), (0, .ref (wA B 224))]) hx hb dX12_digest_175 hl rfl (by rfl) (by decide) rfl (fun ls hl => ?_)
      refine lv_goto (tgt := 161) hx hb dX12_digest_178 (by decide) ?_
      exact ih (x1 + 1) q4 _ _ _ _ hf w (lv_sub hl [1, 0] rfl) hK
set_option maxHeartbeats 4000000 in
set_option maxRecDepth 100000 in
theorem lp_X12_digest_32 {p : Program} {e : Env} {s : State} {m : MethodId} {args : Array Value} {below : List Frame} {meth : Method} {c : Code} {Q : State → Prop} (l : Launch) (B : Wb) (C0 : Cx p s m args meth c cX12_digest 2 RX12) : ∀ (n : Nat) (x1 : Int32) (σ : Mem) (o : Mem) (H : Heap) (locs : List Loc) (ls : Array Slot), f_X12_digest_32 n x1 σ = some o → Wx B σ s H locs → lv_has ls 2 [(0, .ref (wA B 224)), (1, .int x1)] → (∀ (H : Heap) (locs : List Loc) (ls : Array Slot), Wx B o s H locs → lv_has ls 2 [(0, .ref (wA B 224))] → W p l e rm_X12_digest s m args below meth c H locs 0 0 Q (F0 m 54 ls [])) → W p l e rm_X12_digest s m args below meth c H locs 0 0 Q (F0 m 32 ls []) := by
  have hx := C0.1.1
  have hb := C0.1.2.1
  intro n
  induction n with
  | zero =>
    intro x1 σ o H locs ls hf w hl hK
    cases hf
  | succ n ih =>
    intro x1 σ o H locs ls hf w hl hK
    rw [f_X12_digest_32] at hf
    refine lv_iload_n hx hb dX12_digest_32 rfl (lv_at hl 1 rfl) ?_
    refine lv_bipush (v := 9) hx hb dX12_digest_33 (by decide) ?_
    refine lv_icmp_ge (tgt := 54) hx hb dX12_digest_35 (by decide) (fun c1 => ?_) (fun c1 => ?_)
    · rw [if_pos c1] at hf
      obtain rfl := Option.some.inj hf
      exact hK _ _ _ w (lv_sub hl [0] rfl)
    · rw [if_neg c1] at hf
      refine lv_aload_n hx hb dX12_digest_38 rfl (lv_at hl 0 rfl) ?_
      refine lv_aload_n hx hb dX12_digest_39 rfl (lv_at hl 0 rfl) ?_
      refine lv_iload_n hx hb dX12_digest_40 rfl (lv_at hl 1 rfl) ?_
      obtain ⟨q2, h3, hf⟩ := bdE hf
      refine cV (As := [.int x1]) (rest := [.ref (wA B 224)]) (k := 224) (ci := 10) (T := TX12) (N := 22) C0 w (m_X12_sectionOf l B _ σ x1 q2 h3) ky_X12_sectionOf kv_X12_sectionOf lk_X12_247 rfl (by decide +kernel) ⟨Nat.le_of_ble_eq_true rfl, Nat.le_of_ble_eq_true rfl⟩ ⟨Nat.le_of_ble_eq_true rfl, Nat.le_of_ble_eq_true rfl⟩ rfl (by rfl) (Nat.le_of_ble_eq_true rfl) hl.1 dX12_digest_41 (fun H locs w => ?_)
      refine lv_i2l hx hb dX12_digest_44 rfl ?_
      obtain ⟨q4, h5, hf⟩ := bdE hf
      refine cV (As := [.long q2.1.toInt64]) (rest := []) (k := 224) (ci := 10) (T := TX12) (N := 22) C0 w (m_X12_mix l B _ q2.2 q2.1.toInt64 q4 h5) ky_X12_mix kv_X12_mix lk_X12_321 rfl (by decide +kernel) ⟨Nat.le_of_ble_eq_true rfl, Nat.le_of_ble_eq_true rfl⟩ ⟨Nat.le_of_ble_eq_true rfl, Nat.le_of_ble_eq_true rfl⟩ rfl (by rfl) (Nat.le_of_ble_eq_true rfl) hl.1 dX12_digest_45 (fun H locs w => ?_)
      refine lv_iinc (k := 1) (v := x1 + 1) (lv' := [(1, .int (x1 + 1)), (0, .ref (wA B 224))]) hx hb dX12_digest_48 hl rfl (by rfl) (by decide) rfl (fun ls hl => ?_)
      refine lv_goto (tgt := 32) hx hb dX12_digest_51 (by decide) ?_
      exact ih (x1 + 1) q4 _ _ _ _ hf w (lv_sub hl [1, 0] rfl) hK
set_option maxHeartbeats 4000000 in
set_option maxRecDepth 100000 in
theorem lp_X12_digest_135 {p : Program} {e : Env} {s : State} {m : MethodId} {args : Array Value} {below : List Frame} {meth : Method} {c : Code} {Q : State → Prop} (l : Launch) (B : Wb) (C0 : Cx p s m args meth c cX12_digest 2 RX12) : ∀ (n : Nat) (x1 : Int32) (σ : Mem) (o : Mem) (H : Heap) (locs : List Loc) (ls : Array Slot), f_X12_digest_135 n x1 σ = some o → Wx B σ s H locs → lv_has ls 2 [(0, .ref (wA B 224)), (1, .int x1)] → (∀ (H : Heap) (locs : List Loc) (ls : Array Slot), Wx B o s H locs → lv_has ls 2 [(0, .ref (wA B 224))] → W p l e rm_X12_digest s m args below meth c H locs 0 0 Q (F0 m 159 ls [])) → W p l e rm_X12_digest s m args below meth c H locs 0 0 Q (F0 m 135 ls []) := by
  have hx := C0.1.1
  have hb := C0.1.2.1
  intro n
  induction n with
  | zero =>
    intro x1 σ o H locs ls hf w hl hK
    cases hf
  | succ n ih =>
    intro x1 σ o H locs ls hf w hl hK
    rw [f_X12_digest_135] at hf
    refine lv_iload_n hx hb dX12_digest_135 rfl (lv_at hl 1 rfl) ?_
    refine lv_i2l hx hb dX12_digest_136 rfl ?_
    refine lv_aload_n hx hb dX12_digest_137 rfl (lv_at hl 0 rfl) ?_
    refine gR C0 w 225 fk_X12_7 (by decide +kernel) dX12_digest_138 ?_
    refine lv_bipush (v := 7) hx hb dX12_digest_141 (by decide) ?_
    refine aL C0 w (n := 200) (by decide +kernel) (inbE (by decide)) dX12_digest_143 ?_
    refine lc_ge (tgt := 159) C0 dX12_digest_144 dX12_digest_145 (by decide) (fun c2 => ?_) (fun c2 => ?_)
    · rw [if_pos c2] at hf
      obtain rfl := Option.some.inj hf
      exact hK _ _ _ w (lv_sub hl [0] rfl)
    · rw [if_neg c2] at hf
      refine lv_aload_n hx hb dX12_digest_148 rfl (lv_at hl 0 rfl) ?_
      refine lv_iload_n hx hb dX12_digest_149 rfl (lv_at hl 1 rfl) ?_
      obtain ⟨q3, h4, hf⟩ := bdE hf
      refine cV (As := [.int x1]) (rest := []) (k := 224) (ci := 10) (T := TX12) (N := 22) C0 w (m_X12_mixRay l B _ σ x1 q3 h4) ky_X12_mixRay kv_X12_mixRay lk_X12_327 rfl (by decide +kernel) ⟨Nat.le_of_ble_eq_true rfl, Nat.le_of_ble_eq_true rfl⟩ ⟨Nat.le_of_ble_eq_true rfl, Nat.le_of_ble_eq_true rfl⟩ rfl (by rfl) (Nat.le_of_ble_eq_true rfl) hl.1 dX12_digest_150 (fun H locs w => ?_)
      refine lv_iinc (k := 1) (v := x1 + 1) (lv' := [(1, .int (x1 + 1)), (0, .ref (wA B 224))]) hx hb dX12_digest_153 hl rfl (by rfl) (by decide) rfl (fun ls hl => ?_)
      refine lv_goto (tgt := 135) hx hb dX12_digest_156 (by decide) ?_
      exact ih (x1 + 1) q3 _ _ _ _ hf w (lv_sub hl [1, 0] rfl) hK
set_option maxHeartbeats 4000000 in
set_option maxRecDepth 100000 in
theorem lp_X12_digest_71 {p : Program} {e : Env} {s : State} {m : MethodId} {args : Array Value} {below : List Frame} {meth : Method} {c : Code} {Q : State → Prop} (l : Launch) (B : Wb) (C0 : Cx p s m args meth c cX12_digest 2 RX12) : ∀ (n : Nat) (x1 : Int32) (σ : Mem) (o : Mem) (H : Heap) (locs : List Loc) (ls : Array Slot), f_X12_digest_71 n x1 σ = some o → Wx B σ s H locs → lv_has ls 2 [(0, .ref (wA B 224)), (1, .int x1)] → (∀ (H : Heap) (locs : List Loc) (ls : Array Slot), Wx B o s H locs → lv_has ls 2 [(0, .ref (wA B 224))] → W p l e rm_X12_digest s m args below meth c H locs 0 0 Q (F0 m 133 ls [])) → W p l e rm_X12_digest s m args below meth c H locs 0 0 Q (F0 m 71 ls []) := by
  have hx := C0.1.1
  have hb := C0.1.2.1
  intro n
  induction n with
  | zero =>
    intro x1 σ o H locs ls hf w hl hK
    cases hf
  | succ n ih =>
    intro x1 σ o H locs ls hf w hl hK
    rw [f_X12_digest_71] at hf
    refine lv_iload_n hx hb dX12_digest_71 rfl (lv_at hl 1 rfl) ?_
    refine lv_aload_n hx hb dX12_digest_72 rfl (lv_at hl 0 rfl) ?_
    obtain ⟨q1, h2, hf⟩ := bdE hf
    refine cV (As := []) (rest := [.int x1]) (k := 224) (ci := 10) (T := TX12) (N := 22) C0 w (m_X12_cells l B _ σ q1 h2) ky_X12_cells kv_X12_cells lk_X12_76 rfl (by decide +kernel) ⟨Nat.le_of_ble_eq_true rfl, Nat.le_of_ble_eq_true rfl⟩ ⟨Nat.le_of_ble_eq_true rfl, Nat.le_of_ble_eq_true rfl⟩ rfl (by rfl) (Nat.le_of_ble_eq_true rfl) hl.1 dX12_digest_73 (fun H locs w => ?_)
    refine lv_icmp_ge (tgt := 133) hx hb dX12_digest_76 (by decide) (fun c3 => ?_) (fun c3 => ?_)
    · rw [if_pos c3] at hf
      obtain rfl := Option.some.inj hf
      exact hK _ _ _ w (lv_sub hl [0] rfl)
    · rw [if_neg c3] at hf
      refine lv_aload_n hx hb dX12_digest_79 rfl (lv_at hl 0 rfl) ?_
      refine lv_aload_n hx hb dX12_digest_80 rfl (lv_at hl 0 rfl) ?_
      refine gR C0 w 225 fk_X12_7 (by decide +kernel) dX12_digest_81 ?_
      refine lv_bipush (v := 8) hx hb dX12_digest_84 (by decide) ?_
      refine lv_iload_n hx hb dX12_digest_86 rfl (lv_at hl 1 rfl) ?_
      refine lv_iadd hx hb dX12_digest_87 ?_
      obtain ⟨g4, hf⟩ := gdE hf
      refine aL C0 w (n := 200) (by decide +kernel) (inbE g4) dX12_digest_88 ?_
      obtain ⟨q5, h6, hf⟩ := bdE hf
      refine cV (As := [.long (σ.2 225 (8 + x1).toNatClampNeg)]) (rest := []) (k := 224) (ci := 10) (T := TX12) (N := 22) C0 w (m_X12_mix l B _ σ (σ.2 225 (8 + x1).toNatClampNeg) q5 h6) ky_X12_mix kv_X12_mix lk_X12_321 rfl (by decide +kernel) ⟨Nat.le_of_ble_eq_true rfl, Nat.le_of_ble_eq_true rfl⟩ ⟨Nat.le_of_ble_eq_true rfl, Nat.le_of_ble_eq_true rfl⟩ rfl (by rfl) (Nat.le_of_ble_eq_true rfl) hl.1 dX12_digest_89 (fun H locs w => ?_)
      refine lv_aload_n hx hb dX12_digest_92 rfl (lv_at hl 0 rfl) ?_
      refine lv_aload_n hx hb dX12_digest_93 rfl (lv_at hl 0 rfl) ?_
      refine gR C0 w 225 fk_X12_7 (by decide +kernel) dX12_digest_94 ?_
      refine lv_bipush (v := 72) hx hb dX12_digest_97 (by decide) ?_
      refine lv_iload_n hx hb dX12_digest_99 rfl (lv_at hl 1 rfl) ?_
      refine lv_iadd hx hb dX12_digest_100 ?_
      obtain ⟨g7, hf⟩ := gdE hf
      refine aL C0 w (n := 200) (by decide +kernel) (inbE g7) dX12_digest_101 ?_
      obtain ⟨q8, h9, hf⟩ := bdE hf
      refine cV (As := [.long (q5.2 225 (72 + x1).toNatClampNeg)]) (rest := []) (k := 224) (ci := 10) (T := TX12) (N := 22) C0 w (m_X12_mix l B _ q5 (q5.2 225 (72 + x1).toNatClampNeg) q8 h9) ky_X12_mix kv_X12_mix lk_X12_321 rfl (by decide +kernel) ⟨Nat.le_of_ble_eq_true rfl, Nat.le_of_ble_eq_true rfl⟩ ⟨Nat.le_of_ble_eq_true rfl, Nat.le_of_ble_eq_true rfl⟩ rfl (by rfl) (Nat.le_of_ble_eq_true rfl) hl.1 dX12_digest_102 (fun H locs w => ?_)
      refine lv_aload_n hx hb dX12_digest_105 rfl (lv_at hl 0 rfl) ?_
      refine lv_aload_n hx hb dX12_digest_106 rfl (lv_at hl 0 rfl) ?_
      refine gR C0 w 232 fk_X12_33 (by decide +kernel) dX12_digest_107 ?_
      refine lv_iload_n hx hb dX12_digest_110 rfl (lv_at hl 1 rfl) ?_
      obtain ⟨g10, hf⟩ := gdE hf
      refine aI C0 w (n := 64) (by decide +kernel) (inbE g10) dX12_digest_111 ?_
      refine lv_i2l hx hb dX12_digest_112 rfl ?_
      obtain ⟨q11, h12, hf⟩ := bdE hf
      refine cV (As := [.long ((q8.1 232 x1.toNatClampNeg).toInt64)]) (rest := []) (k := 224) (ci := 10) (T := TX12) (N := 22) C0 w (m_X12_mix l B _ q8 ((q8.1 232 x1.toNatClampNeg).toInt64) q11 h12) ky_X12_mix kv_X12_mix lk_X12_321 rfl (by decide +kernel) ⟨Nat.le_of_ble_eq_true rfl, Nat.le_of_ble_eq_true rfl⟩ ⟨Nat.le_of_ble_eq_true rfl, Nat.le_of_ble_eq_true rfl⟩ rfl (by rfl) (Nat.le_of_ble_eq_true rfl) hl.1 dX12_digest_113 (fun H locs w => ?_)
      refine lv_aload_n hx hb dX12_digest_116 rfl (lv_at hl 0 rfl) ?_
      refine lv_aload_n hx hb dX12_digest_117 rfl (lv_at hl 0 rfl) ?_
      refine gR C0 w 233 fk_X12_36 (by decide +kernel) dX12_digest_118 ?_
      refine lv_iload_n hx hb dX12_digest_121 rfl (lv_at hl 1 rfl) ?_
      obtain ⟨g13, hf⟩ := gdE hf
      refine aI C0 w (n := 64) (by decide +kernel) (inbE g13) dX12_digest_122 ?_
      refine lv_i2l hx hb dX12_digest_123 rfl ?_
      obtain ⟨q14, h15, hf⟩ := bdE hf
      refine cV (As := [.long ((q11.1 233 x1.toNatClampNeg).toInt64)]) (rest := []) (k := 224) (ci := 10) (T := TX12) (N := 22) C0 w (m_X12_mix l B _ q11 ((q11.1 233 x1.toNatClampNeg).toInt64) q14 h15) ky_X12_mix kv_X12_mix lk_X12_321 rfl (by decide +kernel) ⟨Nat.le_of_ble_eq_true rfl, Nat.le_of_ble_eq_true rfl⟩ ⟨Nat.le_of_ble_eq_true rfl, Nat.le_of_ble_eq_true rfl⟩ rfl (by rfl) (Nat.le_of_ble_eq_true rfl) hl.1 dX12_digest_124 (fun H locs w => ?_)
      refine lv_iinc (k := 1) (v := x1 + 1) (lv' := [(1, .int (x1 + 1)), (0, .ref (wA B 224))]) hx hb dX12_digest_127 hl rfl (by rfl) (by decide) rfl (fun ls hl => ?_)
      refine lv_goto (tgt := 71) hx hb dX12_digest_130 (by decide) ?_
      exact ih (x1 + 1) q14 _ _ _ _ hf w (lv_sub hl [1, 0] rfl) hK
set_option maxHeartbeats 4000000 in
set_option maxRecDepth 100000 in
theorem m_X12_digest (l : Launch) (B : Wb) (sz : Nat) (σ : Mem) (q : Int64 × Mem) (hf : f_X12_digest σ = some q) : MetC l yX12_digest cX12_digest 2 (some .long) rm_X12_digest B sz σ q.2 [.ref (wA B 224)] (some (.long q.1)) := by
  refine met_in (by decide +kernel) (Nat.le_of_ble_eq_true rfl) ?_
  intro p e s m below meth c C0 hr w hsz ls hl
  have hx := C0.1.1
  have hb := C0.1.2.1
  unfold f_X12_digest at hf
  refine lv_aload_n hx hb dX12_digest_0 rfl (lv_at hl 0 rfl) ?_
  refine lv_iconst (v := 0) hx hb dX12_digest_1 (by decide) ?_
  refine pI C0 w fk_X12_62 fp_X12_5 (by decide +kernel) dX12_digest_2 (fun H locs w => ?_)
  refine lv_aload_n hx hb dX12_digest_5 rfl (lv_at hl 0 rfl) ?_
  refine kLg C0 11888 kc_X12_325 dX12_digest_6 ?_
  refine pL C0 w fk_X12_318 fp_X12_21 (by decide +kernel) dX12_digest_9 (fun H locs w => ?_)
  refine lv_aload_n hx hb dX12_digest_12 rfl (lv_at hl 0 rfl) ?_
  refine lv_aload_n hx hb dX12_digest_13 rfl (lv_at hl 0 rfl) ?_
  refine gI C0 w fk_X12_66 (by decide +kernel) dX12_digest_14 ?_
  refine lv_i2l hx hb dX12_digest_17 rfl ?_
  obtain ⟨q1, h2, hf⟩ := bdE hf
  refine cV (As := [.long (((setL (setI σ 224 5 0) 224 21 11888).1 224 2).toInt64)]) (rest := []) (k := 224) (ci := 10) (T := TX12) (N := 22) C0 w (m_X12_mix l B _ (setL (setI σ 224 5 0) 224 21 11888) (((setL (setI σ 224 5 0) 224 21 11888).1 224 2).toInt64) q1 h2) ky_X12_mix kv_X12_mix lk_X12_321 rfl (by decide +kernel) ⟨Nat.le_of_ble_eq_true rfl, Nat.le_of_ble_eq_true rfl⟩ ⟨Nat.le_of_ble_eq_true rfl, Nat.le_of_ble_eq_true rfl⟩ rfl (by rfl) (Nat.le_of_ble_eq_true rfl) hl.1 dX12_digest_18 (fun H locs w => ?_)
  refine lv_aload_n hx hb dX12_digest_21 rfl (lv_at hl 0 rfl) ?_
  refine lv_aload_n hx hb dX12_digest_22 rfl (lv_at hl 0 rfl) ?_
  refine gI C0 w fk_X12_255 (by decide +kernel) dX12_digest_23 ?_
  refine lv_i2l hx hb dX12_digest_26 rfl ?_
  obtain ⟨q3, h4, hf⟩ := bdE hf
  refine cV (As := [.long ((q1.1 224 4).toInt64)]) (rest := []) (k := 224) (ci := 10) (T := TX12) (N := 22) C0 w (m_X12_mix l B _ q1 ((q1.1 224 4).toInt64) q3 h4) ky_X12_mix kv_X12_mix lk_X12_321 rfl (by decide +kernel) ⟨Nat.le_of_ble_eq_true rfl, Nat.le_of_ble_eq_true rfl⟩ ⟨Nat.le_of_ble_eq_true rfl, Nat.le_of_ble_eq_true rfl⟩ rfl (by rfl) (Nat.le_of_ble_eq_true rfl) hl.1 dX12_digest_27 (fun H locs w => ?_)
  refine lv_iconst (v := 0) hx hb dX12_digest_30 (by decide) ?_
  refine lv_istore_n (lv' := [(1, .int 0), (0, .ref (wA B 224))]) hx hb dX12_digest_31 rfl hl (by decide) rfl (fun ls hl => ?_)
  obtain ⟨q5, h6, hf⟩ := bdE hf
  refine lp_X12_digest_32 l B C0 100000 0 q3 q5 _ _ _ h6 w (lv_sub hl [1, 0] rfl) (fun H locs ls w hl => ?_)
  refine lv_aload_n hx hb dX12_digest_54 rfl (lv_at hl 0 rfl) ?_
  refine lv_aload_n hx hb dX12_digest_55 rfl (lv_at hl 0 rfl) ?_
  refine gR C0 w 225 fk_X12_7 (by decide +kernel) dX12_digest_56 ?_
  refine lv_bipush (v := 6) hx hb dX12_digest_59 (by decide) ?_
  refine aL C0 w (n := 200) (by decide +kernel) (inbE (by decide)) dX12_digest_61 ?_
  obtain ⟨q8, h9, hf⟩ := bdE hf
  refine cV (As := [.long (q5.2 225 (6 : Int32).toNatClampNeg)]) (rest := []) (k := 224) (ci := 10) (T := TX12) (N := 22) C0 w (m_X12_mix l B _ q5 (q5.2 225 (6 : Int32).toNatClampNeg) q8 h9) ky_X12_mix kv_X12_mix lk_X12_321 rfl (by decide +kernel) ⟨Nat.le_of_ble_eq_true rfl, Nat.le_of_ble_eq_true rfl⟩ ⟨Nat.le_of_ble_eq_true rfl, Nat.le_of_ble_eq_true rfl⟩ rfl (by rfl) (Nat.le_of_ble_eq_true rfl) hl.1 dX12_digest_62 (fun H locs w => ?_)
  refine lv_aload_n hx hb dX12_digest_65 rfl (lv_at hl 0 rfl) ?_
  obtain ⟨q10, h11, hf⟩ := bdE hf
  refine cV (As := []) (rest := []) (k := 224) (ci := 10) (T := TX12) (N := 22) C0 w (m_X12_cover l B _ q8 q10 h11) ky_X12_cover kv_X12_cover lk_X12_236 rfl (by decide +kernel) ⟨Nat.le_of_ble_eq_true rfl, Nat.le_of_ble_eq_true rfl⟩ ⟨Nat.le_of_ble_eq_true rfl, Nat.le_of_ble_eq_true rfl⟩ rfl (by rfl) (Nat.le_of_ble_eq_true rfl) hl.1 dX12_digest_66 (fun H locs w => ?_)
  refine lv_iconst (v := 0) hx hb dX12_digest_69 (by decide) ?_
  refine lv_istore_n (lv' := [(1, .int 0), (0, .ref (wA B 224))]) hx hb dX12_digest_70 rfl hl (by decide) rfl (fun ls hl => ?_)
  obtain ⟨q12, h13, hf⟩ := bdE hf
  refine lp_X12_digest_71 l B C0 100000 0 q10 q12 _ _ _ h13 w (lv_sub hl [1, 0] rfl) (fun H locs ls w hl => ?_)
  refine lv_iconst (v := 0) hx hb dX12_digest_133 (by decide) ?_
  refine lv_istore_n (lv' := [(1, .int 0), (0, .ref (wA B 224))]) hx hb dX12_digest_134 rfl hl (by decide) rfl (fun ls hl => ?_)
  obtain ⟨q14, h15, hf⟩ := bdE hf
  refine lp_X12_digest_135 l B C0 100000 0 q12 q14 _ _ _ h15 w (lv_sub hl [1, 0] rfl) (fun H locs ls w hl => ?_)
  refine lv_iconst (v := 0) hx hb dX12_digest_159 (by decide) ?_
  refine lv_istore_n (lv' := [(1, .int 0), (0, .ref (wA B 224))]) hx hb dX12_digest_160 rfl hl (by decide) rfl (fun ls hl => ?_)
  obtain ⟨q16, h17, hf⟩ := bdE hf
  refine lp_X12_digest_161 l B C0 100000 0 q14 q16 _ _ _ h17 w (lv_sub hl [1, 0] rfl) (fun H locs ls w hl => ?_)
  refine lv_aload_n hx hb dX12_digest_181 rfl (lv_at hl 0 rfl) ?_
  refine gL C0 w fk_X12_318 (by decide +kernel) dX12_digest_182 ?_
  obtain rfl := Option.some.inj hf
  exact eL C0 hr w dX12_digest_185
