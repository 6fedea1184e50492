/-! ===== the law's loop ===== -/
section LAWO
variable {p : Program} {l : Launch} {e : Env} {s : State} {m : MethodId} {args : Array Value} {below : List Frame} {meth : Method} {c : Code} {H : Heap} {locs : List Loc} {cells slots : Nat} {Q : State → Prop}
variable {ls : Array Slot} {B : Wb} {σ : Mem} {b L : Nat} {xs : Nat → Int32}
set_option maxHeartbeats 4000000 in
set_option maxRecDepth 100000 in
theorem law_loop (hfl : l.stackTraces = false) (C0 : Cx p s m args meth c cL_law 8 RL) (X : LX b L xs B s)
    (ke : ∀ σ H locs ls cells slots, Wx B σ s H locs → cells ≤ 601024 → slots ≤ 7293034 → W p l e room_1 s m args below meth c H locs cells slots Q (F0 m 1953 ls [])) :
    ∀ (d i : Nat) (σ : Mem) (H : Heap) (locs : List Loc) (ls : Array Slot) (cells slots : Nat), L ≤ i + 5 * d + 4 → i ≤ L → cells + d ≤ 601024 → slots + 6 * d ≤ 7293034 → Wx B σ s H locs → JX σ → lv_has ls 8 (LB b B i) → W p l e room_1 s m args below meth c H locs cells slots Q (F0 m 23 ls []) := by
  have hx := C0.1.1
  have hb := C0.1.2.1
  have hL := X.2.2.2
  intro d
  induction d with
  | zero =>
    intro i σ H locs ls cells slots h1 h2 h3 h4 w hJ hl
    have hl : lv_has ls 8 [(4, .int (nI i)), (3, .ref (wA B 239)), (2, .ref (wA B 224)), (1, .ref (wA B 0)), (0, .ref b)] := hl
    refine lv_iload hx hb dL_law_23 (lv_at hl 0 rfl) ?_
    refine lv_aload_n hx hb dL_law_25 rfl (lv_at hl 4 rfl) ?_
    refine va_slen hx hb X.1 X.2.1 X.2.2.1 w.2.2.2.1 dL_law_26 ?_
    refine lv_iconst (v := 5) hx hb dL_law_27 (by decide) ?_
    refine lv_isub hx hb dL_law_28 ?_
    refine lv_icmp_gt (tgt := 1953) hx hb dL_law_29 (by decide) (fun c1 => ke σ H locs ls cells slots w (by omega) (by omega)) (fun c1 => absurd ((law_past hL h2).mpr (by omega)) c1)
  | succ d ih =>
    intro i σ H locs ls cells slots h1 h2 h3 h4 w hJ hl
    have hl' := hl
    have hl : lv_has ls 8 [(4, .int (nI i)), (3, .ref (wA B 239)), (2, .ref (wA B 224)), (1, .ref (wA B 0)), (0, .ref b)] := hl
    refine lv_iload hx hb dL_law_23 (lv_at hl 0 rfl) ?_
    refine lv_aload_n hx hb dL_law_25 rfl (lv_at hl 4 rfl) ?_
    refine va_slen hx hb X.1 X.2.1 X.2.2.1 w.2.2.2.1 dL_law_26 ?_
    refine lv_iconst (v := 5) hx hb dL_law_27 (by decide) ?_
    refine lv_isub hx hb dL_law_28 ?_
    refine lv_icmp_gt (tgt := 1953) hx hb dL_law_29 (by decide) (fun c1 => ke σ H locs ls cells slots w (by omega) (by omega)) (fun c1 => ?_)
    have hi : i + 5 ≤ L := by
      rcases Nat.lt_or_ge L (i + 5) with q | q
      · exact absurd ((law_past hL h2).mpr q) c1
      · exact q
    refine lv_aload_n hx hb dL_law_32 rfl (lv_at hl 4 rfl) ?_
    refine lv_iload hx hb dL_law_33 (lv_at hl 0 rfl) ?_
    refine va_sld hx hb X.1 X.2.1 X.2.2.1 w.2.2.2.1 (i := nI i) (L := L) ?_ dL_law_35 ?_
    · unfold vp_in
      rw [nI_clamp (by omega)]
      intro h
      rcases h with h | h
      · have := Int32.lt_iff_toInt_lt.mp h
        rw [nI_toInt (by omega)] at this
        have h00 : (0 : Int32).toInt = 0 := by decide
        omega
      · omega
    refine lv_bipush (v := 31) hx hb dL_law_36 (by decide) ?_
    refine lv_iand hx hb dL_law_38 ?_
    refine lv_topi (fun v _ => ?_)
    have kk : ∀ σ' H locs ls, Wx B σ' s H locs → JX σ' → lv_has ls 8 (LB b B i) → W p l e room_1 s m args below meth c H locs (cells + 1) (slots + 6) Q (F0 m 1947 ls []) := by
      intro σ' H locs ls w hJ hl
      have hl : lv_has ls 8 [(4, .int (nI i)), (3, .ref (wA B 239)), (2, .ref (wA B 224)), (1, .ref (wA B 0)), (0, .ref b)] := hl
      refine lv_iinc (k := 0) (v := nI (i + 5)) (lv' := [(4, .int (nI (i + 5))), (3, .ref (wA B 239)), (2, .ref (wA B 224)), (1, .ref (wA B 0)), (0, .ref b)]) hx hb dL_law_1947 hl rfl (n4_add i 5) (by decide) rfl (fun ls hl => ?_)
      refine lv_goto (tgt := 23) hx hb dL_law_1950 (by decide) ?_
      exact ih (i + 5) σ' H locs ls (cells + 1) (slots + 6) (by omega) (by omega) (by omega) (by omega) w hJ hl
    have hcs : cells + 1 ≤ 601024 ∧ slots + 6 ≤ 7293034 := ⟨by omega, by omega⟩
    by_cases hv : 0 ≤ v.toInt ∧ v.toInt ≤ 28
    · rcases (show v.toInt = 0 ∨ v.toInt = 1 ∨ v.toInt = 2 ∨ v.toInt = 3 ∨ v.toInt = 4 ∨ v.toInt = 5 ∨ v.toInt = 6 ∨ v.toInt = 7 ∨ v.toInt = 8 ∨ v.toInt = 9 ∨ v.toInt = 10 ∨ v.toInt = 11 ∨ v.toInt = 12 ∨ v.toInt = 13 ∨ v.toInt = 14 ∨ v.toInt = 15 ∨ v.toInt = 16 ∨ v.toInt = 17 ∨ v.toInt = 18 ∨ v.toInt = 19 ∨ v.toInt = 20 ∨ v.toInt = 21 ∨ v.toInt = 22 ∨ v.toInt = 23 ∨ v.toInt = 24 ∨ v.toInt = 25 ∨ v.toInt = 26 ∨ v.toInt = 27 ∨ v.toInt = 28 by omega) with h | h | h | h | h | h | h | h | h | h | h | h | h | h | h | h | h | h | h | h | h | h | h | h | h | h | h | h | h
      · exact lv_tableIn (tgt := 168) (off := 129) hx hb dL_law_39 (by rw [h]; decide) (by rw [h]; decide) (by rw [h]; rfl) (by decide) (law_0 hfl C0 w X hJ hi hl' hcs kk)
      · exact lv_tableIn (tgt := 236) (off := 197) hx hb dL_law_39 (by rw [h]; decide) (by rw [h]; decide) (by rw [h]; rfl) (by decide) (law_1 hfl C0 w X hJ hi hl' hcs kk)
      · exact lv_tableIn (tgt := 304) (off := 265) hx hb dL_law_39 (by rw [h]; decide) (by rw [h]; decide) (by rw [h]; rfl) (by decide) (law_2 hfl C0 w X hJ hi hl' hcs kk)
      · exact lv_tableIn (tgt := 372) (off := 333) hx hb dL_law_39 (by rw [h]; decide) (by rw [h]; decide) (by rw [h]; rfl) (by decide) (law_3 hfl C0 w X hJ hi hl' hcs kk)
      · exact lv_tableIn (tgt := 480) (off := 441) hx hb dL_law_39 (by rw [h]; decide) (by rw [h]; decide) (by rw [h]; rfl) (by decide) (law_4 hfl C0 w X hJ hi hl' hcs kk)
      · exact lv_tableIn (tgt := 548) (off := 509) hx hb dL_law_39 (by rw [h]; decide) (by rw [h]; decide) (by rw [h]; rfl) (by decide) (law_5 hfl C0 w X hJ hi hl' hcs kk)
      · exact lv_tableIn (tgt := 616) (off := 577) hx hb dL_law_39 (by rw [h]; decide) (by rw [h]; decide) (by rw [h]; rfl) (by decide) (law_6 hfl C0 w X hJ hi hl' hcs kk)
      · exact lv_tableIn (tgt := 700) (off := 661) hx hb dL_law_39 (by rw [h]; decide) (by rw [h]; decide) (by rw [h]; rfl) (by decide) (law_7 hfl C0 w X hJ hi hl' hcs kk)
      · exact lv_tableIn (tgt := 799) (off := 760) hx hb dL_law_39 (by rw [h]; decide) (by rw [h]; decide) (by rw [h]; rfl) (by decide) (law_8 hfl C0 w X hJ hi hl' hcs kk)
      · exact lv_tableIn (tgt := 867) (off := 828) hx hb dL_law_39 (by rw [h]; decide) (by rw [h]; decide) (by rw [h]; rfl) (by decide) (law_9 hfl C0 w X hJ hi hl' hcs kk)
      · exact lv_tableIn (tgt := 947) (off := 908) hx hb dL_law_39 (by rw [h]; decide) (by rw [h]; decide) (by rw [h]; rfl) (by decide) (law_10 hfl C0 w X hJ hi hl' hcs kk)
      · exact lv_tableIn (tgt := 1003) (off := 964) hx hb dL_law_39 (by rw [h]; decide) (by rw [h]; decide) (by rw [h]; rfl) (by decide) (law_11 hfl C0 w X hJ hi hl' hcs kk)
      · exact lv_tableIn (tgt := 1059) (off := 1020) hx hb dL_law_39 (by rw [h]; decide) (by rw [h]; decide) (by rw [h]; rfl) (by decide) (law_12 hfl C0 w X hJ hi hl' hcs kk)
      · exact lv_tableIn (tgt := 1115) (off := 1076) hx hb dL_law_39 (by rw [h]; decide) (by rw [h]; decide) (by rw [h]; rfl) (by decide) (law_13 hfl C0 w X hJ hi hl' hcs kk)
      · exact lv_tableIn (tgt := 1128) (off := 1089) hx hb dL_law_39 (by rw [h]; decide) (by rw [h]; decide) (by rw [h]; rfl) (by decide) (law_14 hfl C0 w X hJ hi hl' hcs kk)
      · exact lv_tableIn (tgt := 1196) (off := 1157) hx hb dL_law_39 (by rw [h]; decide) (by rw [h]; decide) (by rw [h]; rfl) (by decide) (law_15 hfl C0 w X hJ hi hl' hcs kk)
      · exact lv_tableIn (tgt := 1263) (off := 1224) hx hb dL_law_39 (by rw [h]; decide) (by rw [h]; decide) (by rw [h]; rfl) (by decide) (law_16 hfl C0 w X hJ hi hl' hcs kk)
      · exact lv_tableIn (tgt := 1318) (off := 1279) hx hb dL_law_39 (by rw [h]; decide) (by rw [h]; decide) (by rw [h]; rfl) (by decide) (law_17 hfl C0 w X hJ hi hl' hcs kk)
      · exact lv_tableIn (tgt := 1386) (off := 1347) hx hb dL_law_39 (by rw [h]; decide) (by rw [h]; decide) (by rw [h]; rfl) (by decide) (law_18 hfl C0 w X hJ hi hl' hcs kk)
      · exact lv_tableIn (tgt := 1454) (off := 1415) hx hb dL_law_39 (by rw [h]; decide) (by rw [h]; decide) (by rw [h]; rfl) (by decide) (law_19 hfl C0 w X hJ hi hl' hcs kk)
      · exact lv_tableIn (tgt := 1549) (off := 1510) hx hb dL_law_39 (by rw [h]; decide) (by rw [h]; decide) (by rw [h]; rfl) (by decide) (law_20 hfl C0 w X hJ hi hl' hcs kk)
      · exact lv_tableIn (tgt := 1617) (off := 1578) hx hb dL_law_39 (by rw [h]; decide) (by rw [h]; decide) (by rw [h]; rfl) (by decide) (law_21 hfl C0 w X hJ hi hl' hcs kk)
      · exact lv_tableIn (tgt := 1673) (off := 1634) hx hb dL_law_39 (by rw [h]; decide) (by rw [h]; decide) (by rw [h]; rfl) (by decide) (law_22 hfl C0 w X hJ hi hl' hcs kk)
      · exact lv_tableIn (tgt := 1728) (off := 1689) hx hb dL_law_39 (by rw [h]; decide) (by rw [h]; decide) (by rw [h]; rfl) (by decide) (law_23 hfl C0 w X hJ hi hl' hcs kk)
      · exact lv_tableIn (tgt := 1807) (off := 1768) hx hb dL_law_39 (by rw [h]; decide) (by rw [h]; decide) (by rw [h]; rfl) (by decide) (law_24 hfl C0 w X hJ hi hl' hcs kk)
      · exact lv_tableIn (tgt := 1863) (off := 1824) hx hb dL_law_39 (by rw [h]; decide) (by rw [h]; decide) (by rw [h]; rfl) (by decide) (law_25 hfl C0 w X hJ hi hl' hcs kk)
      · exact lv_tableIn (tgt := 1876) (off := 1837) hx hb dL_law_39 (by rw [h]; decide) (by rw [h]; decide) (by rw [h]; rfl) (by decide) (law_26 hfl C0 w X hJ hi hl' hcs kk)
      · exact lv_tableIn (tgt := 1889) (off := 1850) hx hb dL_law_39 (by rw [h]; decide) (by rw [h]; decide) (by rw [h]; rfl) (by decide) (law_27 hfl C0 w X hJ hi hl' hcs kk)
      · exact lv_tableIn (tgt := 1933) (off := 1894) hx hb dL_law_39 (by rw [h]; decide) (by rw [h]; decide) (by rw [h]; rfl) (by decide) (law_28 hfl C0 w X hJ hi hl' hcs kk)
    · refine lv_tableOut (tgt := 1947) hx hb dL_law_39 (by omega) (by decide) ?_
      exact W.widen (k := cells + 1) (n := slots + 6) (Nat.le_succ _) (Nat.le_add_right _ 6) (kk σ H locs ls w hJ hl')
end LAWO
