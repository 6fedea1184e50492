/-! ===== the law's start: the machine's words as the world has them ===== -/
def NV : List Cond := flatC (Jvm.Cond.and given_1 narrow_1)
def wIx : List Nat := [56, 62, 65, 68, 71, 74, 77, 80]
def tW : Term := .static RX5 "WORDS" "[LSlownessImager$Word;"
def tS : Term := .static RX0 "$SwitchMap$SlownessImager$Word" "[I"
def tV (i : Nat) : Term := .field (.string RX10 (wIx.getD i 0)) "java/lang/String" "value" "[B"
theorem nv_ex : ∀ i, i < 8 → Cond.exactly (.static RX10 (wNm.getD i "") wDs) RX10 ∈ NV := by decide +kernel
theorem nv_ord : ∀ i, i < 8 → Cond.eq (.field (.static RX10 (wNm.getD i "") wDs) "java/lang/Enum" "ordinal" "I") (.int (wOrd.getD i 0)) ∈ NV := by decide +kernel
theorem nv_num : ∀ i, i < 8 → Cond.eq (.field (.static RX10 (wNm.getD i "") wDs) RX10 "numbers" "I") (.int (wNu.getD i 0)) ∈ NV := by decide +kernel
theorem nv_txt : ∀ i, i < 8 → Cond.eq (.field (.static RX10 (wNm.getD i "") wDs) RX10 "text" "Ljava/lang/String;") (.string RX10 (wIx.getD i 0)) ∈ NV := by decide +kernel
theorem nv_sex : ∀ i, i < 8 → Cond.exactly (.string RX10 (wIx.getD i 0)) "java/lang/String" ∈ NV := by decide +kernel
theorem nv_sco : ∀ i, i < 8 → Cond.eq (.field (.string RX10 (wIx.getD i 0)) "java/lang/String" "coder" "B") (.int 0) ∈ NV := by decide +kernel
theorem nv_sar : ∀ i, i < 8 → Cond.arrayOf (tV i) .byte ∈ NV := by decide +kernel
theorem nv_sle : ∀ i, i < 8 → Cond.eq (.length (tV i)) (.int (Int32.ofNat (wLe.getD i 0))) ∈ NV := by decide +kernel
theorem nv_sel : ∀ i, i < 8 → ∀ j, j < wLe.getD i 0 → Cond.eq (.elem (tV i) (.int (Int32.ofNat j))) (.int ((wBy.getD i []).getD j 0)) ∈ NV := by decide +kernel
def neIx : List (Nat × Nat × Nat) := [(0, 1, 514), (0, 2, 533), (0, 3, 553), (0, 4, 575), (0, 5, 599), (0, 6, 622), (0, 7, 645), (1, 2, 534), (1, 3, 554), (1, 4, 576), (1, 5, 600), (1, 6, 623), (1, 7, 646), (2, 3, 555), (2, 4, 577), (2, 5, 601), (2, 6, 624), (2, 7, 647), (3, 4, 578), (3, 5, 602), (3, 6, 625), (3, 7, 648), (4, 5, 603), (4, 6, 626), (4, 7, 649), (5, 6, 627), (5, 7, 650), (6, 7, 651)]
theorem nv_sn0 : ∀ q ∈ neIx, NV[q.2.2]? = some (Cond.not (.eq (.string RX10 (wIx.getD q.1 0)) (.string RX10 (wIx.getD q.2.1 0)))) := by decide +kernel
theorem nv_sn1 : ∀ i, i < 8 → ∀ j, j < 8 → i < j → ∃ q ∈ neIx, q.1 = i ∧ q.2.1 = j := by decide +kernel
theorem nv_sn2 {i j : Nat} (hi : i < 8) (hj : j < 8) (h : i < j) : Cond.not (.eq (.string RX10 (wIx.getD i 0)) (.string RX10 (wIx.getD j 0))) ∈ NV := by
  obtain ⟨q, hq, rfl, rfl⟩ := nv_sn1 i hi j hj h
  exact List.mem_of_getElem? (nv_sn0 q hq)
theorem nv_sne : ∀ i, i < 8 → ∀ j, j < 8 → i ≠ j → (Cond.not (.eq (.string RX10 (wIx.getD i 0)) (.string RX10 (wIx.getD j 0))) ∈ NV ∨ Cond.not (.eq (.string RX10 (wIx.getD j 0)) (.string RX10 (wIx.getD i 0))) ∈ NV) := fun i hi j hj hne => by
  rcases Nat.lt_or_ge i j with h | h
  · exact Or.inl (nv_sn2 hi hj h)
  · exact Or.inr (nv_sn2 hj hi (by omega))
theorem nv_war : Cond.arrayOf tW (.object RX10) ∈ NV := by decide +kernel
theorem nv_wle : Cond.eq (.length tW) (.int 8) ∈ NV := by decide +kernel
theorem nv_wel : ∀ i, i < 8 → Cond.eq (.elem tW (.int (Int32.ofNat i))) (.static RX10 (wNm.getD i "") wDs) ∈ NV := by decide +kernel
theorem nv_mar : Cond.arrayOf tS .int ∈ NV := by decide +kernel
theorem nv_mle : Cond.eq (.length tS) (.int 8) ∈ NV := by decide +kernel
theorem nv_mel : ∀ i, i < 8 → Cond.eq (.elem tS (.int (Int32.ofNat i))) (.int (sMap.getD i 0)) ∈ NV := by decide +kernel
theorem nv_cs : Cond.eq (.static "java/lang/String" "COMPACT_STRINGS" "Z") (.int 1) ∈ NV := by decide +kernel
theorem nv_sf : Cond.isRef (.static "jdk/internal/util/Preconditions" "SIOOBE_FORMATTER" "Ljava/util/function/BiFunction;") ∈ NV := by decide +kernel
theorem nv_us : Cond.isRef (.static Bundle.tN "UNASSIGNED_STACK" Bundle.steD) ∈ NV := by decide +kernel
theorem nv_ss : Cond.isRef (.static Bundle.tN "SUPPRESSED_SENTINEL" Bundle.listD) ∈ NV := by decide +kernel
theorem nv_str : ∀ q ∈ strR, Cond.exactly (.string q.1 q.2.1) "java/lang/String" ∈ NV := by decide +kernel
theorem nv_nc : ∀ q ∈ ncP, Cond.not (.castable q.1 q.2) ∈ NV := by decide +kernel
theorem tb_in {w : Cond} (i : Nat) (h : tables_1[i]? = some w) : w ∈ lw_tbl := List.mem_append_right _ (List.mem_of_getElem? h)
theorem tb_nM : ∀ q ∈ nestM, Cond.methodLinkNest q.1 q.2.1 q.2.2.1 q.2.2.2 ∈ tables_1 := by decide +kernel
theorem tb_nF : ∀ q ∈ nestF, Cond.fieldLinkNest q.1 q.2.1 q.2.2.1 q.2.2.2.1 q.2.2.2.2.1 q.2.2.2.2.2 ∈ tables_1 := by decide +kernel
theorem tb_st : ∀ q ∈ strR, Cond.stringRef q.1 q.2.1 q.2.2 ∈ tables_1 := by decide +kernel
theorem tb_ca : ∀ q ∈ [xIA, xIO, xIS], Cond.castable q q ∈ tables_1 := by decide +kernel
theorem tb_de : ∀ q ∈ declM, Cond.declares q ∈ tables_1 := by decide +kernel
section GST
variable {args : Array Value} {s : State} {A : Nat → Prop}
theorem first_gst (hts : ∀ w ∈ lw_tbl, w.before args s = true) (hgv : (Jvm.Cond.and given_1 narrow_1).before args s = true) (hA : ∀ a : Nat, a < s.heap.size → ¬ A a) (D : va_G) (fC : Nat → ClassId) (fA : Nat → Nat) :
    ∃ (fE : Nat → Nat) (tT tM : Nat) (fK fV : Nat → Nat), Gst (D, fC, fA, fE, tT, tM, fK, fV) A s s.heap := by
  have hs : ∀ c ∈ NV, c.before args s = true := flat_of_before _ hgv
  have ht : ∀ w ∈ tables_1, w.before args s = true := fun w h => hts w (List.mem_append_right _ h)
  have h0 : ∀ i : Nat, ∃ a : Nat, i < 8 → (Term.static RX10 (wNm.getD i "") wDs).eval args s none [] s = some (.ref a) := by
    intro i
    by_cases hi : i < 8
    · obtain ⟨a, c, cA, kA, q1, -⟩ := Cond.exactly_spec (args := args) (first := s) (o := none) (s := s) (idx := []) (hs _ (nv_ex i hi))
      exact ⟨a, fun _ => q1⟩
    · exact ⟨0, fun h => absurd h hi⟩
  obtain ⟨fE, hE⟩ := Classical.axiomOfChoice h0
  obtain ⟨fK, fV, hS, hK⟩ := vk_Sof (args := args) (s := s) (N := 8) (tm := fun i => .string RX10 (wIx.getD i 0)) (len := wLe) (byt := wBy) (A := A) (by decide +kernel) (fun i hi => hs _ (nv_sex i hi)) (fun i hi => hs _ (nv_sco i hi)) (fun i hi => hs _ (nv_sar i hi)) (fun i hi => hs _ (nv_sle i hi)) (fun i hi j hj => hs _ (nv_sel i hi j hj)) (fun i j hi hj hne => (nv_sne i hi j hj hne).imp (fun h => hs _ h) (fun h => hs _ h)) hA
  obtain ⟨tT, hT1, hT2⟩ := va_Tof (args := args) (s := s) (tm := tW) (ty := .object RX10) (N := 8) (f := fun j => .ref (fE j)) (A := A) (by decide) (hs _ nv_war) (va_eqv (hs _ nv_wle) rfl) (fun j hj => va_eqv (hs _ (nv_wel j hj)) (hE j hj)) hA
  obtain ⟨tM, hM1, hM2⟩ := va_Tof (args := args) (s := s) (tm := tS) (ty := .int) (N := 8) (f := fun j => .int (sMap.getD j 0)) (A := A) (by decide) (hs _ nv_mar) (va_eqv (hs _ nv_mle) rfl) (fun j hj => va_eqv (hs _ (nv_mel j hj)) rfl) hA
  refine ⟨fE, tT, tM, fK, fV, fun q hq => va_Nw.of rfl (ht _ (tb_nM q hq)), fun q hq => va_Nw.of rfl (ht _ (tb_nF q hq)), fun q hq => ?_, fun q hq => va_Nc.of (hs _ (nv_nc q hq)), ?_, ?_, ⟨fun i hi => va_Oof (hs _ (nv_ex i hi)) (hE i hi) hA, va_Efof (E := RX10) (d0 := wDs) (nm := wNm) (tm := fun i => .int (wOrd.getD i 0)) hE (fun i hi => hs _ (nv_ord i hi)) (fun i hi => rfl) hA, va_Efof (E := RX10) (d0 := wDs) (nm := wNm) (tm := fun i => .int (wNu.getD i 0)) hE (fun i hi => hs _ (nv_num i hi)) (fun i hi => rfl) hA, va_Efof (E := RX10) (d0 := wDs) (nm := wNm) (tm := fun i => .string RX10 (wIx.getD i 0)) hE (fun i hi => hs _ (nv_txt i hi)) hK hA, hS, ?_, hT2, ?_, hM2, ?_, ?_⟩, fun q hq => va_Nw.of rfl (ht _ (tb_ca q hq)), fun q hq => va_Nw.of rfl (ht _ (tb_de q hq))⟩
  · obtain ⟨a, c, cA, kA, q1, -⟩ := Cond.exactly_spec (args := args) (first := s) (o := none) (s := s) (idx := []) (hs _ (nv_str q hq))
    exact ⟨a, vk_R.of (ht _ (tb_st q hq)) q1⟩
  · exact vx_Zqof (hts _ (tb_in 705 (by decide +kernel))) (hts _ (tb_in 14 (by decide +kernel))) (hs _ nv_us) hA
  · exact vx_Zqof (hts _ (tb_in 707 (by decide +kernel))) (hts _ (tb_in 14 (by decide +kernel))) (hs _ nv_ss) hA
  · exact va_Zof (hts _ (tb_in 496 (by decide +kernel))) (hts _ (tb_in 11 (by decide +kernel))) hT1 hA
  · exact va_Zof (hts _ (tb_in 566 (by decide +kernel))) (hts _ (tb_in 25 (by decide +kernel))) hM1 hA
  · exact va_Zof (hts _ (tb_in 510 (by decide +kernel))) (hts _ (tb_in 21 (by decide +kernel))) (va_eqv (hs _ nv_cs) rfl) hA
  · exact va_Zqof (hts _ (tb_in 526 (by decide +kernel))) (hts _ (tb_in 23 (by decide +kernel))) (hs _ nv_sf) hA
theorem arr_prim {ty : FieldType} (h : (Cond.arrayClass ty).before args s = true) : ∃ cA : ClassId, ArrOfT s cA ty ∧ s.vm.findClass ("[" ++ ty.toString) = some cA := by
  obtain ⟨cA, kA, comp, f, hk, hkind⟩ := Cond.arrayClass_spec h
  exact ⟨cA, fun n z => ⟨fun k h => (by cases h), kA, hk, comp, hkind⟩, f⟩
theorem arr_obj {C : String} (h : (Cond.arrayOver (.object C)).before args s = true) : ∃ cA : ClassId, ArrOfT s cA (.object C) ∧ va_RA s cA (.object C) := by
  obtain ⟨comp, cA, kA, hcomp, -, hk, hkind, hname⟩ := Cond.arrayOver_spec h
  exact ⟨cA, fun n z => ⟨fun k h => (by cases h), kA, hk, comp, hkind⟩, kA, comp, hk, hkind, hcomp, hname⟩
theorem arr_two {t : FieldType} (h : (Cond.arrayOver (.array t)).before args s = true) : ∃ cA : ClassId, ArrOfT s cA (.array t) ∧ s.vm.findClass ("[" ++ (FieldType.array t).toString) = some cA := by
  simp only [Cond.before, Cond.holds, Cond.value, beq_iff_eq] at h
  cases hc : s.vm.findClass (FieldType.array t).toString with
  | none => simp [hc] at h
  | some comp =>
    simp only [hc, Option.bind_some, Option.bind_eq_some_iff, Option.map_eq_some_iff] at h
    obtain ⟨cA, -, k, hk, hq⟩ := h
    cases hkind : k.kind with
    | array comp2 ty =>
      rw [hkind] at hq
      simp at hq
      exact ⟨cA, fun n z => ⟨fun k h => (by cases h), k, hk, comp2, by rw [hkind, hq.1]⟩, hq.2⟩
    | _ => rw [hkind] at hq; simp at hq
theorem ins_X11 : Cond.instantiable RX11 9 ∈ GL := gl_in 27 (by decide +kernel) (by decide +kernel)
theorem ins_X12 : Cond.instantiable RX12 22 ∈ GL := gl_in 1067 (by decide +kernel) (by decide +kernel)
theorem ini_X11 : Cond.initialized RX11 ∈ GL := gl_in 1 (by decide +kernel) (by decide +kernel)
theorem ini_X12 : Cond.initialized RX12 ∈ GL := gl_in 13 (by decide +kernel) (by decide +kernel)
theorem kl_L_8 : Cond.classLink RL 8 RX11 ∈ GL := gl_in 26 (by decide +kernel) (by decide +kernel)
theorem kl_L_102 : Cond.classLink RL 102 RX12 ∈ GL := gl_in 1066 (by decide +kernel) (by decide +kernel)
theorem lk_L_101 : Cond.methodLink RL 101 yX11_init ∈ GL := gl_in 28 (by decide +kernel) (by decide +kernel)
theorem lk_L_104 : Cond.methodLink RL 104 yX12_init ∈ GL := gl_in 1068 (by decide +kernel) (by decide +kernel)
theorem ky_X11_init : Ky yX11_init cX11_init 1 none 0 := ⟨gl_in 30 (by decide +kernel) (by decide +kernel), gl_in 1 (by decide +kernel) (by decide +kernel), by decide +kernel, by decide +kernel, by decide +kernel⟩
theorem in_X11i : Cond.instanceMethod yX11_init ∈ GL := gl_in 29 (by decide +kernel) (by decide +kernel)
theorem ky_X12_init : Ky yX12_init cX12_init 1 none 0 := ⟨gl_in 1070 (by decide +kernel) (by decide +kernel), gl_in 13 (by decide +kernel) (by decide +kernel), by decide +kernel, by decide +kernel, by decide +kernel⟩
theorem in_X12i : Cond.instanceMethod yX12_init ∈ GL := gl_in 1069 (by decide +kernel) (by decide +kernel)
theorem first_K (hG : ∀ w ∈ GL, w.before args s = true) (hG4 : (Cond.arrayOver (.array .int)).before args s = true) (hG5 : (Cond.arrayOver (.object RX7)).before args s = true) (hG6 : (Cond.arrayOver (.object RX10)).before args s = true) : ∃ (D : va_G) (fC : Nat → ClassId), ∀ fA fE tT tM fK fV, va_K D vwCl (tysB (D, fC, fA, fE, tT, tM, fK, fV)) s := by
  have hc : ∀ k : Nat, ∃ x : ClassId × (Nat → Nat), ∀ q, vwCl[k]? = some q → u_Kn s q.1 q.2.1 q.2.2 x.1 x.2 := by
    intro k
    match k with
    | 0 =>
      obtain ⟨a, b, h⟩ := u_known hG in_X1 (hG _ ins_X1)
      exact ⟨(a, b), fun q hq => by cases hq; exact h⟩
    | 1 =>
      obtain ⟨a, b, h⟩ := u_known hG in_X2 (hG _ ins_X2)
      exact ⟨(a, b), fun q hq => by cases hq; exact h⟩
    | 2 =>
      obtain ⟨a, b, h⟩ := u_known hG in_X3 (hG _ ins_X3)
      exact ⟨(a, b), fun q hq => by cases hq; exact h⟩
    | 3 =>
      obtain ⟨a, b, h⟩ := u_known hG in_X4 (hG _ ins_X4)
      exact ⟨(a, b), fun q hq => by cases hq; exact h⟩
    | 4 =>
      obtain ⟨a, b, h⟩ := u_known hG in_X5 (hG _ ins_X5)
      exact ⟨(a, b), fun q hq => by cases hq; exact h⟩
    | 5 =>
      obtain ⟨a, b, h⟩ := u_known hG in_X6 (hG _ ins_X6)
      exact ⟨(a, b), fun q hq => by cases hq; exact h⟩
    | 6 =>
      obtain ⟨a, b, h⟩ := u_known hG in_X7 (hG _ ins_X7)
      exact ⟨(a, b), fun q hq => by cases hq; exact h⟩
    | 7 =>
      obtain ⟨a, b, h⟩ := u_known hG in_X8 (hG _ ins_X8)
      exact ⟨(a, b), fun q hq => by cases hq; exact h⟩
    | 8 =>
      obtain ⟨a, b, h⟩ := u_known hG in_X9 (hG _ ins_X9)
      exact ⟨(a, b), fun q hq => by cases hq; exact h⟩
    | 9 =>
      obtain ⟨a, b, h⟩ := u_known hG in_X11 (hG _ ins_X11)
      exact ⟨(a, b), fun q hq => by cases hq; exact h⟩
    | 10 =>
      obtain ⟨a, b, h⟩ := u_known hG in_X12 (hG _ ins_X12)
      exact ⟨(a, b), fun q hq => by cases hq; exact h⟩
    | k + 11 => exact ⟨(0, fun _ => 0), fun q hq => by simp [vwCl] at hq⟩
  obtain ⟨f, hf⟩ := Classical.axiomOfChoice hc
  obtain ⟨c0, a0, b0⟩ := arr_prim (hG _ (gl_in (w := .arrayClass .int) 121 (by decide +kernel) (by decide +kernel)))
  obtain ⟨c1, a1, b1⟩ := arr_prim (hG _ (gl_in (w := .arrayClass .long) 122 (by decide +kernel) (by decide +kernel)))
  obtain ⟨c2, a2, b2⟩ := arr_prim (hG _ (gl_in (w := .arrayClass .boolean) 123 (by decide +kernel) (by decide +kernel)))
  obtain ⟨c3, a3, b3⟩ := arr_prim (hG _ (gl_in (w := .arrayClass .byte) 333 (by decide +kernel) (by decide +kernel)))
  obtain ⟨c4, a4, b4⟩ := arr_two hG4
  obtain ⟨c5, a5, b5⟩ := arr_obj hG5
  obtain ⟨c6, a6, b6⟩ := arr_obj hG6
  refine ⟨(fun k => (f k).1, fun k => (f k).2), fun k => [c0, c1, c2, c3, c4, c5, c6].getD k 0, fun fA fE tT tM fK fV => ⟨fun k q hq => hf k q hq, fun k q hq => ?_⟩⟩
  match k, hq with
  | 0, hq => cases hq; exact ⟨a0, b0⟩
  | 1, hq => cases hq; exact ⟨a1, b1⟩
  | 2, hq => cases hq; exact ⟨a2, b2⟩
  | 3, hq => cases hq; exact ⟨a3, b3⟩
  | 4, hq => cases hq; exact ⟨a4, b4⟩
  | 5, hq => cases hq; exact ⟨a5, b5⟩
  | 6, hq => cases hq; exact ⟨a6, b6⟩
  | k + 7, hq => simp [tysB] at hq
end GST
