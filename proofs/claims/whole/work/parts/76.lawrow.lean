/-! ===== the law's body: rows ===== -/
/-- the script at b, which the law leaves alone -/
def LX (b L : Nat) (xs : Nat → Int32) (B : Wb) (s : State) : Prop := va_X b L xs s s.heap ∧ b < s.heap.size ∧ ¬ own B s.heap.size b ∧ L ≤ 2560
def LB (b : Nat) (B : Wb) (i : Nat) : List (Nat × Value) := [(4, .int (nI i)), (3, .ref (wA B 239)), (2, .ref (wA B 224)), (1, .ref (wA B 0)), (0, .ref b)]
def JX (σ : Mem) : Prop := ∃ W H n hs sc, JJ σ W H n hs sc
section LAWR
variable {p : Program} {l : Launch} {e : Env} {R : Room} {s : State} {m : MethodId} {args : Array Value} {below : List Frame} {meth : Method} {c : Code} {H : Heap} {locs : List Loc} {cells slots : Nat} {Q : State → Prop}
variable {cc : ByteArray} {nL pc : Nat} {ow : String} {ls : Array Slot} {rest st0 : List Value} {B : Wb} {σ σ' : Mem} {b L : Nat} {xs : Nat → Int32}
/-- script[i + q] on the stack -/
theorem lawA (C0 : Cx p s m args meth c cc nL ow) (w : Wx B σ s H locs) (X : LX b L xs B s) {i q : Nat} (hi : i + q < L) (h4 : ls[4]? = some (.val (.int (nI i)))) (h0 : ls[0]? = some (.val (.ref b))) {k : Int} {v : Int32} (hv : Int32.ofInt k = v) (hq : nI i + v = nI (i + q))
    (d0 : decode cc pc = .ok (.aload_n 0, 1)) (d1 : decode cc (pc + 1) = .ok (.iload 4, 2)) (d3 : decode cc (pc + 3) = .ok (.iconst k, 1)) (d4 : decode cc (pc + 4) = .ok (.iadd, 1)) (d5 : decode cc (pc + 5) = .ok (.iaload, 1))
    (kk : W p l e R s m args below meth c H locs cells slots Q (F0 m (pc + 6) ls (.int (xs (i + q)) :: rest))) : W p l e R s m args below meth c H locs cells slots Q (F0 m pc ls rest) := by
  have hx := C0.1.1
  have hb := C0.1.2.1
  have hlt : i + q < 2 ^ 31 := by
    have := X.2.2.2
    omega
  refine lv_aload_n hx hb d0 rfl h0 ?_
  refine lv_iload hx hb d1 h4 ?_
  refine lv_iconst (v := v) hx hb d3 hv ?_
  refine lv_iadd hx hb d4 ?_
  rw [hq]
  refine va_sld hx hb X.1 X.2.1 X.2.2.1 w.2.2.2.1 (i := nI (i + q)) (L := L) ?_ d5 ?_
  · unfold vp_in
    rw [nI_clamp hlt]
    intro h
    rcases h with h | h
    · have := Int32.lt_iff_toInt_lt.mp h
      rw [nI_toInt hlt] at this
      have h00 : (0 : Int32).toInt = 0 := by decide
      omega
    · omega
  · rw [nI_clamp hlt]
    exact kk
/-- script[..] != 0 on the stack -/
theorem lawB (C0 : Cx p s m args meth c cc nL ow) {x : Int32} {o1 o2 : Int} {tgt tgt2 : Nat} (d0 : decode cc pc = .ok (.ifCond .eq o1, 3)) (d3 : decode cc (pc + 3) = .ok (.iconst 1, 1)) (d4 : decode cc (pc + 4) = .ok (.goto o2, 3)) (d7 : decode cc tgt = .ok (.iconst 0, 1)) (ht : (pc : Int) + o1 = (tgt : Int)) (ht2 : ((pc + 4 : Nat) : Int) + o2 = (tgt2 : Int)) (h3 : tgt + 1 = tgt2)
    (kk : W p l e R s m args below meth c H locs cells slots Q (F0 m tgt2 ls (.int (if x = 0 then 0 else 1) :: rest))) : W p l e R s m args below meth c H locs cells slots Q (F0 m pc ls (.int x :: rest)) := by
  have hx := C0.1.1
  have hb := C0.1.2.1
  refine lv_if_eq (tgt := tgt) hx hb d0 ht (fun c1 => ?_) (fun c1 => ?_)
  · rw [if_pos c1] at kk
    refine lv_iconst (v := 0) hx hb d7 (by decide) ?_
    rw [h3]
    exact kk
  · rw [if_neg c1] at kk
    refine lv_iconst (v := 1) hx hb d3 (by decide) ?_
    exact lv_goto (tgt := tgt2) hx hb d4 ht2 kk
end LAWR
theorem ite01 {q : Prop} [Decidable q] : (if q then (0 : Int32) else 1) = 0 ∨ (if q then (0 : Int32) else 1) = 1 := by
  by_cases h : q
  · rw [if_pos h]
    exact Or.inl rfl
  · rw [if_neg h]
    exact Or.inr rfl
def hiW (x : Int32) : Int64 := x.toInt64 <<< ((32 : Int32).toInt64 &&& 63)
theorem law_past {i L : Nat} (hL : L ≤ 2560) (hi : i ≤ L) : (Int32.ofNat L - 5 < nI i ↔ L < i + 5) := by
  rw [Int32.lt_iff_toInt_lt, Int32.toInt_sub, nI_toInt (by omega)]
  have e1 : (Int32.ofNat L).toInt = (L : Int) := Int32.toInt_ofNat_of_lt (by omega)
  have e2 : (5 : Int32).toInt = 5 := by decide
  rw [e1, e2, Int.bmod_eq_of_le (by omega) (by omega)]
  omega
