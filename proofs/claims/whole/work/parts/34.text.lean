/-! ===== String's methods at the words' texts; a word's ordinal ===== -/
abbrev rm_J0_coder_7d493 : Room := { frames := 0, cells := 0, slots := 0, locals := 0 }
abbrev rm_J0_length_8abf5 : Room := { frames := 1, cells := 0, slots := 0, locals := 20 }
abbrev rm_J0_isLatin1_aae02 : Room := { frames := 0, cells := 0, slots := 0, locals := 0 }
abbrev rm_J3_checkIndex_8e157 : Room := { frames := 0, cells := 0, slots := 0, locals := 0 }
abbrev rm_J0_checkIndex_df160 : Room := { frames := 1, cells := 0, slots := 0, locals := 22 }
abbrev rm_J1_charAt_3b067 : Room := { frames := 2, cells := 0, slots := 0, locals := 43 }
abbrev rm_J0_charAt_5068e : Room := { frames := 3, cells := 0, slots := 0, locals := 64 }
abbrev rm_Jx29ce0_ordinal_8abf5 : Room := { frames := 0, cells := 0, slots := 0, locals := 0 }
theorem m_J0_coder_7d493 (l : Launch) (B : Wb) (sz : Nat) (σ : Mem) (i : Nat) (hi : i < 8) : MetC l yJ0_coder_7d493 cJ0_coder_7d493 1 (some .byte) rm_J0_coder_7d493 B sz σ σ [.ref (wK B i)] (some (.int 0)) := by
  refine met_in (by decide +kernel) (Nat.le_of_ble_eq_true rfl) ?_
  intro p e s m below meth c C0 hr w hsz ls hl
  have hx := C0.1.1
  have hb := C0.1.2.1
  refine zG C0 w (gen_ w).2.2.2.2.2.2.2.2.2.1 fk_J0_38 dJ0_coder_7d493_0 ?_
  refine lv_if_eq (tgt := 13) hx hb dJ0_coder_7d493_3 (by decide) (fun c9 => absurd c9 (by decide)) (fun _ => ?_)
  refine lv_aload_n hx hb dJ0_coder_7d493_6 rfl (lv_at hl 0 rfl) ?_
  refine zF C0 w ((gen_ w).2.2.2.2.1.1 i hi).2.1 fk_J0_15 dJ0_coder_7d493_7 ?_
  refine lv_goto (tgt := 14) hx hb dJ0_coder_7d493_10 (by decide) ?_
  exact eI C0 hr w (by decide) dJ0_coder_7d493_14
theorem m_J0_isLatin1_aae02 (l : Launch) (B : Wb) (sz : Nat) (σ : Mem) (i : Nat) (hi : i < 8) : MetC l yJ0_isLatin1_aae02 cJ0_isLatin1_aae02 1 (some .boolean) rm_J0_isLatin1_aae02 B sz σ σ [.ref (wK B i)] (some (.int 1)) := by
  refine met_in (by decide +kernel) (Nat.le_of_ble_eq_true rfl) ?_
  intro p e s m below meth c C0 hr w hsz ls hl
  have hx := C0.1.1
  have hb := C0.1.2.1
  refine zG C0 w (gen_ w).2.2.2.2.2.2.2.2.2.1 fk_J0_38 dJ0_isLatin1_aae02_0 ?_
  refine lv_if_eq (tgt := 17) hx hb dJ0_isLatin1_aae02_3 (by decide) (fun c9 => absurd c9 (by decide)) (fun _ => ?_)
  refine lv_aload_n hx hb dJ0_isLatin1_aae02_6 rfl (lv_at hl 0 rfl) ?_
  refine zF C0 w ((gen_ w).2.2.2.2.1.1 i hi).2.1 fk_J0_15 dJ0_isLatin1_aae02_7 ?_
  refine lv_if_ne (tgt := 17) hx hb dJ0_isLatin1_aae02_10 (by decide) (fun c9 => absurd (by decide) c9) (fun _ => ?_)
  refine lv_iconst (v := 1) hx hb dJ0_isLatin1_aae02_13 (by decide) ?_
  refine lv_goto (tgt := 18) hx hb dJ0_isLatin1_aae02_14 (by decide) ?_
  exact eI C0 hr w (by decide) dJ0_isLatin1_aae02_18
theorem len_sh : ∀ i, i < 8 → Int32.ofNat (wLe.getD i 0) >>> ((0 : Int32) &&& 31) = Int32.ofNat (wLe.getD i 0) := by decide +kernel
theorem mm_length (l : Launch) (B : Wb) (sz : Nat) (σ : Mem) (i : Nat) (hi : i < 8) : MetC l yJ0_length_8abf5 cJ0_length_8abf5 1 (some .int) rm_J0_length_8abf5 B sz σ σ [.ref (wK B i)] (some (.int (Int32.ofNat (wLe.getD i 0)))) := by
  refine met_in (by decide +kernel) (Nat.le_of_ble_eq_true rfl) ?_
  intro p e s m below meth c C0 hr w hsz ls hl
  have hx := C0.1.1
  have hb := C0.1.2.1
  refine lv_aload_n hx hb dJ0_length_8abf5_0 rfl (lv_at hl 0 rfl) ?_
  refine zF C0 w ((gen_ w).2.2.2.2.1.1 i hi).2.2.1 fk_J0_9 dJ0_length_8abf5_1 ?_
  refine va_tlen hx hb ((gen_ w).2.2.2.2.1.1 i hi).2.2.2 w.2.2.2.1 rfl dJ0_length_8abf5_4 ?_
  refine lv_aload_n hx hb dJ0_length_8abf5_5 rfl (lv_at hl 0 rfl) ?_
  refine cR (As := []) (rest := [.int (Int32.ofNat (wLe.getD i 0))]) C0 w (m_J0_coder_7d493 l B _ σ i hi) ky_J0_coder_7d493 kv_J0_coder_7d493 lk_J0_335 (shS w hi) ⟨Nat.le_of_ble_eq_true rfl, Nat.le_of_ble_eq_true rfl⟩ ⟨Nat.le_of_ble_eq_true rfl, Nat.le_of_ble_eq_true rfl⟩ rfl (by rfl) (Nat.le_of_ble_eq_true rfl) hl.1 dJ0_length_8abf5_6 (fun H locs w => ?_)
  refine lv_ishr hx hb dJ0_length_8abf5_9 ?_
  rw [len_sh i hi]
  exact eI C0 hr w rfl dJ0_length_8abf5_10
theorem m_J3_checkIndex (l : Launch) (B : Wb) (sz : Nat) (σ : Mem) (i n : Int32) (h0 : ¬ i < 0) (h1 : i < n) (v : Value) (hv : v = .null ∨ ∃ t, v = .ref t) : MetC l yJ3_checkIndex_8e157 cJ3_checkIndex_8e157 3 (some .int) rm_J3_checkIndex_8e157 B sz σ σ [.int i, .int n, v] (some (.int i)) := by
  rcases hv with rfl | ⟨t, rfl⟩
  all_goals
    refine met_in (by decide +kernel) (Nat.le_of_ble_eq_true rfl) ?_
    intro p e s m below meth c C0 hr w hsz ls hl
    have hx := C0.1.1
    have hb := C0.1.2.1
    refine lv_iload_n hx hb dJ3_checkIndex_8e157_0 rfl (lv_at hl 0 rfl) ?_
    refine lv_if_lt (tgt := 9) hx hb dJ3_checkIndex_8e157_1 (by decide) (fun c9 => absurd c9 h0) (fun _ => ?_)
    refine lv_iload_n hx hb dJ3_checkIndex_8e157_4 rfl (lv_at hl 0 rfl) ?_
    refine lv_iload_n hx hb dJ3_checkIndex_8e157_5 rfl (lv_at hl 1 rfl) ?_
    refine lv_icmp_lt (tgt := 16) hx hb dJ3_checkIndex_8e157_6 (by decide) (fun _ => ?_) (fun c9 => absurd h1 c9)
    refine lv_iload_n hx hb dJ3_checkIndex_8e157_16 rfl (lv_at hl 0 rfl) ?_
    exact eI C0 hr w rfl dJ3_checkIndex_8e157_17
theorem m_J0_checkIndex (l : Launch) (B : Wb) (sz : Nat) (σ : Mem) (i n : Int32) (h0 : ¬ i < 0) (h1 : i < n) : MetC l yJ0_checkIndex_df160 cJ0_checkIndex_df160 2 none rm_J0_checkIndex_df160 B sz σ σ [.int i, .int n] none := by
  refine met_in (by decide +kernel) (Nat.le_of_ble_eq_true rfl) ?_
  intro p e s m below meth c C0 hr w hsz ls hl
  have hx := C0.1.1
  have hb := C0.1.2.1
  refine lv_iload_n hx hb dJ0_checkIndex_df160_0 rfl (lv_at hl 0 rfl) ?_
  refine lv_iload_n hx hb dJ0_checkIndex_df160_1 rfl (lv_at hl 1 rfl) ?_
  rcases (gen_ w).2.2.2.2.2.2.2.2.2.2 with hz | ⟨t, hz⟩
  · refine zG C0 w hz fk_J0_1053 dJ0_checkIndex_df160_2 ?_
    refine cS (As := [.int i, .int n, .null]) (rest := []) C0 w (m_J3_checkIndex l B _ σ i n h0 h1 _ (Or.inl rfl)) ky_J3_checkIndex_8e157 ks_J3_checkIndex_8e157 lk_J0_1059 ⟨Nat.le_of_ble_eq_true rfl, Nat.le_of_ble_eq_true rfl⟩ ⟨Nat.le_of_ble_eq_true rfl, Nat.le_of_ble_eq_true rfl⟩ rfl (by rfl) (Nat.le_of_ble_eq_true rfl) hl.1 dJ0_checkIndex_df160_5 (fun H locs w => ?_)
    refine lv_pop hx hb dJ0_checkIndex_df160_8 rfl ?_
    exact eV C0 hr w dJ0_checkIndex_df160_9
  · refine zG C0 w hz fk_J0_1053 dJ0_checkIndex_df160_2 ?_
    refine cS (As := [.int i, .int n, .ref t]) (rest := []) C0 w (m_J3_checkIndex l B _ σ i n h0 h1 _ (Or.inr ⟨t, rfl⟩)) ky_J3_checkIndex_8e157 ks_J3_checkIndex_8e157 lk_J0_1059 ⟨Nat.le_of_ble_eq_true rfl, Nat.le_of_ble_eq_true rfl⟩ ⟨Nat.le_of_ble_eq_true rfl, Nat.le_of_ble_eq_true rfl⟩ rfl (by rfl) (Nat.le_of_ble_eq_true rfl) hl.1 dJ0_checkIndex_df160_5 (fun H locs w => ?_)
    refine lv_pop hx hb dJ0_checkIndex_df160_8 rfl ?_
    exact eV C0 hr w dJ0_checkIndex_df160_9
theorem by_sh : ∀ i, i < 8 → ∀ j, j < wLe.getD i 0 → ((((wBy.getD i []).getD j 0) &&& 255).toUInt32 % 65536).toInt32 = (wBy.getD i []).getD j 0 ∧ narrow .char (.int ((wBy.getD i []).getD j 0)) = .int ((wBy.getD i []).getD j 0) := by decide +kernel
theorem le_31 : ∀ i, i < 8 → wLe.getD i 0 < 2 ^ 31 := by decide +kernel
theorem m_J1_charAt (l : Launch) (B : Wb) (sz : Nat) (σ : Mem) (i : Nat) (hi : i < 8) (j : Int32) (hj : inb j (wLe.getD i 0) = true) : MetC l yJ1_charAt_3b067 cJ1_charAt_3b067 2 (some .char) rm_J1_charAt_3b067 B sz σ σ [.ref (wV B i), .int j] (some (.int ((wBy.getD i []).getD j.toNatClampNeg 0))) := by
  refine met_in (by decide +kernel) (Nat.le_of_ble_eq_true rfl) ?_
  intro p e s m below meth c C0 hr w hsz ls hl
  have hx := C0.1.1
  have hb := C0.1.2.1
  have hlt : j < Int32.ofNat (wLe.getD i 0) := by
    obtain ⟨k, hk, rfl⟩ := nI_of (inbP hj)
    have h2 := inbL hj
    rw [nI_clamp hk] at h2
    exact nI_lt h2 (le_31 i hi)
  refine lv_iload_n hx hb dJ1_charAt_3b067_0 rfl (lv_at hl 1 rfl) ?_
  refine lv_aload_n hx hb dJ1_charAt_3b067_1 rfl (lv_at hl 0 rfl) ?_
  refine va_tlen hx hb ((gen_ w).2.2.2.2.1.1 i hi).2.2.2 w.2.2.2.1 rfl dJ1_charAt_3b067_2 ?_
  refine cS (As := [.int j, .int (Int32.ofNat (wLe.getD i 0))]) (rest := []) C0 w (m_J0_checkIndex l B _ σ j _ (inbP hj) hlt) ky_J0_checkIndex_df160 ks_J0_checkIndex_df160 lk_J1_9 ⟨Nat.le_of_ble_eq_true rfl, Nat.le_of_ble_eq_true rfl⟩ ⟨Nat.le_of_ble_eq_true rfl, Nat.le_of_ble_eq_true rfl⟩ rfl (by rfl) (Nat.le_of_ble_eq_true rfl) hl.1 dJ1_charAt_3b067_3 (fun H locs w => ?_)
  refine lv_aload_n hx hb dJ1_charAt_3b067_6 rfl (lv_at hl 0 rfl) ?_
  refine lv_iload_n hx hb dJ1_charAt_3b067_7 rfl (lv_at hl 1 rfl) ?_
  refine va_tb hx hb ((gen_ w).2.2.2.2.1.1 i hi).2.2.2 w.2.2.2.1 (inbE hj) rfl dJ1_charAt_3b067_8 ?_
  refine lv_sipush (v := 255) hx hb dJ1_charAt_3b067_9 (by decide) ?_
  refine lv_iand hx hb dJ1_charAt_3b067_12 ?_
  refine lv_i2c hx hb dJ1_charAt_3b067_13 (by_sh i hi _ (inbL hj)).1 ?_
  exact eI C0 hr w (by_sh i hi _ (inbL hj)).2 dJ1_charAt_3b067_14
theorem mm_charAt (l : Launch) (B : Wb) (sz : Nat) (σ : Mem) (i : Nat) (hi : i < 8) (j : Int32) (hj : inb j (wLe.getD i 0) = true) : MetC l yJ0_charAt_5068e cJ0_charAt_5068e 2 (some .char) rm_J0_charAt_5068e B sz σ σ [.ref (wK B i), .int j] (some (.int ((wBy.getD i []).getD j.toNatClampNeg 0))) := by
  refine met_in (by decide +kernel) (Nat.le_of_ble_eq_true rfl) ?_
  intro p e s m below meth c C0 hr w hsz ls hl
  have hx := C0.1.1
  have hb := C0.1.2.1
  refine lv_aload_n hx hb dJ0_charAt_5068e_0 rfl (lv_at hl 0 rfl) ?_
  refine cR (As := []) (rest := []) C0 w (m_J0_isLatin1_aae02 l B _ σ i hi) ky_J0_isLatin1_aae02 kv_J0_isLatin1_aae02 lk_J0_492 (shS w hi) ⟨Nat.le_of_ble_eq_true rfl, Nat.le_of_ble_eq_true rfl⟩ ⟨Nat.le_of_ble_eq_true rfl, Nat.le_of_ble_eq_true rfl⟩ rfl (by rfl) (Nat.le_of_ble_eq_true rfl) hl.1 dJ0_charAt_5068e_1 (fun H locs w => ?_)
  refine lv_if_eq (tgt := 16) hx hb dJ0_charAt_5068e_4 (by decide) (fun c9 => absurd c9 (by decide)) (fun _ => ?_)
  refine lv_aload_n hx hb dJ0_charAt_5068e_7 rfl (lv_at hl 0 rfl) ?_
  refine zF C0 w ((gen_ w).2.2.2.2.1.1 i hi).2.2.1 fk_J0_9 dJ0_charAt_5068e_8 ?_
  refine lv_iload_n hx hb dJ0_charAt_5068e_11 rfl (lv_at hl 1 rfl) ?_
  refine cS (As := [.ref (wV B i), .int j]) (rest := []) C0 w (m_J1_charAt l B _ σ i hi j hj) ky_J1_charAt_3b067 ks_J1_charAt_3b067 lk_J0_495 ⟨Nat.le_of_ble_eq_true rfl, Nat.le_of_ble_eq_true rfl⟩ ⟨Nat.le_of_ble_eq_true rfl, Nat.le_of_ble_eq_true rfl⟩ rfl (by rfl) (Nat.le_of_ble_eq_true rfl) hl.1 dJ0_charAt_5068e_12 (fun H locs w => ?_)
  exact eI C0 hr w (by_sh i hi _ (inbL hj)).2 dJ0_charAt_5068e_15
def f_J0_length_8abf5 (x : Int32) (σ : Mem) : Option Int32 := gd (inb x 8) (some (sLen x))
theorem m_J0_length_8abf5 (l : Launch) (B : Wb) (sz : Nat) (σ : Mem) (x q : Int32) (hf : f_J0_length_8abf5 x σ = some q) : MetC l yJ0_length_8abf5 cJ0_length_8abf5 1 (some .int) rm_J0_length_8abf5 B sz σ σ [.ref (wK B x.toNatClampNeg)] (some (.int q)) := by
  obtain ⟨h1, h2⟩ := gdE hf
  obtain rfl := Option.some.inj h2
  exact mm_length l B sz σ _ (inbL h1)
def f_J0_charAt_5068e (x j : Int32) (σ : Mem) : Option Int32 := gd (inb x 8) (gd (inb j (wLe.getD x.toNatClampNeg 0)) (some (sChr x j)))
theorem m_J0_charAt_5068e (l : Launch) (B : Wb) (sz : Nat) (σ : Mem) (x j q : Int32) (hf : f_J0_charAt_5068e x j σ = some q) : MetC l yJ0_charAt_5068e cJ0_charAt_5068e 2 (some .char) rm_J0_charAt_5068e B sz σ σ [.ref (wK B x.toNatClampNeg), .int j] (some (.int q)) := by
  obtain ⟨h1, h2⟩ := gdE hf
  obtain ⟨h3, h4⟩ := gdE h2
  obtain rfl := Option.some.inj h4
  exact mm_charAt l B sz σ _ (inbL h1) j h3
theorem m_ordinal (l : Launch) (B : Wb) (sz : Nat) (σ : Mem) (x : Int32) (h8 : inb x 8 = true) : MetC l yJx29ce0_ordinal_8abf5 cJx29ce0_ordinal_8abf5 1 (some .int) rm_Jx29ce0_ordinal_8abf5 B sz σ σ [.ref (wE B x.toNatClampNeg)] (some (.int x)) := by
  refine met_in (by decide +kernel) (Nat.le_of_ble_eq_true rfl) ?_
  intro p e s m below meth c C0 hr w hsz ls hl
  have hx := C0.1.1
  have hb := C0.1.2.1
  have hE : va_OF "java/lang/Enum" "ordinal" "I" (.int (wOrd.getD x.toNatClampNeg 0)) (wE B x.toNatClampNeg) (own B s.heap.size) s s.heap := (gen_ w).2.1 _ (inbL h8)
  rw [ordE h8] at hE
  refine lv_aload_n hx hb dJx29ce0_ordinal_8abf5_0 rfl (lv_at hl 0 rfl) ?_
  refine zF C0 w hE fk_Jx29ce0_7 dJx29ce0_ordinal_8abf5_1 ?_
  exact eI C0 hr w rfl dJx29ce0_ordinal_8abf5_4
