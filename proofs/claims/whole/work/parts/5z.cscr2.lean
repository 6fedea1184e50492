/-! ===== the class reads numbers and commands ===== -/
theorem sNum_a {sc : List Nat} {i : Nat} (hl : i ≤ sc.length) (h1 : sc.length ≤ 120) (h : nSp sc i = i ∨ ¬ nSp sc i < eDg sc (nSp sc i)) : (sNum sc i).1 = false ∧ (sNum sc i).2.1 = nSp sc i := by
  obtain ⟨s1, s2, -⟩ := nSp_s hl h1
  obtain ⟨g1, g2, -⟩ := eDg_s s2 h1
  unfold sNum
  by_cases q : nSp sc i = i
  · rw [if_pos q]; exact ⟨rfl, q.symm⟩
  · rw [if_neg q]
    have e : eDg sc (nSp sc i) = nSp sc i := by omega
    refine ⟨?_, e⟩
    show (decide (nSp sc i < eDg sc (nSp sc i)) && _) = false
    rw [decide_eq_false (by omega)]
    rfl
theorem sNum_b {sc : List Nat} {i : Nat} (h : nSp sc i ≠ i ∧ nSp sc i < eDg sc (nSp sc i)) : (sNum sc i).2.1 = eDg sc (nSp sc i) ∧ (sNum sc i).2.2 = dval sc (nSp sc i) (eDg sc (nSp sc i) - nSp sc i) ∧ ((sNum sc i).1 = true ∨ ((sNum sc i).1 = false ∧ eDg sc (nSp sc i) < sc.length ∧ isDg sc (eDg sc (nSp sc i)) = true)) := by
  unfold sNum
  rw [if_neg h.1]
  refine ⟨rfl, rfl, ?_⟩
  show (decide (nSp sc i < eDg sc (nSp sc i)) && !(decide (eDg sc (nSp sc i) < sc.length) && isDg sc (eDg sc (nSp sc i)))) = true ∨ (decide (nSp sc i < eDg sc (nSp sc i)) && !(decide (eDg sc (nSp sc i) < sc.length) && isDg sc (eDg sc (nSp sc i)))) = false ∧ _
  rw [decide_eq_true h.2, Bool.true_and]
  by_cases a : eDg sc (nSp sc i) < sc.length
  · rw [decide_eq_true a, Bool.true_and]
    cases b : isDg sc (eDg sc (nSp sc i))
    · exact Or.inl rfl
    · exact Or.inr ⟨rfl, a, rfl⟩
  · rw [decide_eq_false a]
    exact Or.inl rfl
theorem nums_n : ∀ w, w < 8 → nums (N4 w) = N4 (nmK (kOf w)) := by decide +kernel
theorem nmK_le (k : Nat) : nmK k ≤ 2 := by unfold nmK; split <;> (try split) <;> omega
/-- what follows the numbers of a command -/
def cTail (x : Int32) (q6 : (Int32 × Mem) ⊕ Mem) : Option (Int32 × Mem) :=
  sm q6 (fun q8 =>
    bd (f_X5_skipSpaces q8) (fun q9 =>
    if (q9.2.1 219 1) ≤ (q9.2.1 219 6) then (
      some ((q9.2.1 219 6, q9.2)))
    else (
      gd (inb (q9.2.1 219 6) 120) (
      if (q9.2.1 220 (q9.2.1 219 6).toNatClampNeg) = 59 then (
        gd (inb ((setI q9.2 219 6 ((q9.2.1 219 6) + 1)).1 219 5) 120) (
        gd (inb x 8) (
        bd (some (setI (setI (setI q9.2 219 6 ((q9.2.1 219 6) + 1)) 221 (((setI q9.2 219 6 ((q9.2.1 219 6) + 1)).1 219 5).toNatClampNeg) x) 219 5 (((setI (setI q9.2 219 6 ((q9.2.1 219 6) + 1)) 221 (((setI q9.2 219 6 ((q9.2.1 219 6) + 1)).1 219 5).toNatClampNeg) x).1 219 5) + 1))) (fun q16 =>
        some (((-1 : Int32), q16))))))
      else (
        some ((q9.2.1 219 6, q9.2)))))))
section CSCR2
variable {σ τ : Mem} {sc : List Nat}
def c2I (k q j : Nat) : Prop := (q = 219 ∧ j = 6) ∨ ((q = 222 ∨ q = 223) ∧ j = k)
theorem c2_p {k : Nat} (f : Fz (c2I k) noL σ τ) : Fz csrI noL σ τ := f.mono (fun q j => by unfold c2I csrI; omega) (fun _ _ h => h)
theorem c6_2 {k : Nat} (f : Fz c6I noL σ τ) : Fz (c2I k) noL σ τ := f.mono (fun q j => by unfold c6I c2I; omega) (fun _ _ h => h)
theorem c_digit {i : Nat} (h : CScr σ sc) (hi : σ.1 219 6 = N4 i) (hl : i ≤ sc.length) : ∃ r, f_X5_isDigitNext σ = some r ∧ ((r = 1 ∧ i < sc.length ∧ isDg sc i = true) ∨ (r = 0 ∧ ¬ (i < sc.length ∧ isDg sc i = true))) := by
  have b1 := h.1
  unfold f_X5_isDigitNext
  rw [h.2.2.1, hi]
  by_cases e : sc.length ≤ i
  · rw [if_pos ((n4_le (by omega) (by omega)).mpr e)]
    exact ⟨0, rfl, Or.inr ⟨rfl, fun y => by omega⟩⟩
  · have hb := h.2.1 i (by omega)
    have e1 : N4 (sc.getD i 0) < 48 ↔ sc.getD i 0 < 48 := n4_lt (b := 48) (by omega) (by omega)
    have e2 : 57 < N4 (sc.getD i 0) ↔ 57 < sc.getD i 0 := n4_lt (a := 57) (by omega) (by omega)
    have e3 : isDg sc i = true ↔ (48 ≤ sc.getD i 0 ∧ sc.getD i 0 ≤ 57) := by unfold isDg bat; rw [decide_eq_true_eq]
    rw [if_neg (fun q => e ((n4_le (by omega) (by omega)).mp q)), gd_inb (by omega) (by omega), gd_inb (by omega) (by omega), n4_nat (by omega), h.2.2.2 i (by omega)]
    by_cases c1 : sc.getD i 0 < 48
    · rw [if_pos (e1.mpr c1)]
      exact ⟨0, rfl, Or.inr ⟨rfl, fun y => by have := e3.mp y.2; omega⟩⟩
    · rw [if_neg (fun q => c1 (e1.mp q))]
      by_cases c2 : 57 < sc.getD i 0
      · rw [if_pos (e2.mpr c2)]
        exact ⟨0, rfl, Or.inr ⟨rfl, fun y => by have := e3.mp y.2; omega⟩⟩
      · rw [if_neg (fun q => c2 (e2.mp q))]
        exact ⟨1, rfl, Or.inl ⟨rfl, by omega, e3.mpr (by omega)⟩⟩
theorem c_number {p : Nat} (h : CScr σ sc) (hi : σ.1 219 6 = N4 p) (hl : p ≤ sc.length) : ∃ τ, f_X5_readNumber σ = some (N4 (dval sc p (eDg sc p - p)), τ) ∧ Fz c6I noL σ τ ∧ τ.1 219 6 = N4 (eDg sc p) := by
  have b1 := h.1
  obtain ⟨s1, s2, s3, s4, s5⟩ := eDg_s hl h.1
  obtain ⟨⟨x1, τ⟩, a1, a2, a3, a4⟩ := loopU (fun k t (a : Int32 × Mem) => f_X5_readNumber_4 k a.1 (N4 t) a.2) (eDg sc p - p) (fun t a => a.1 = N4 (dval sc p t) ∧ a.2.1 219 6 = N4 (p + t) ∧ Fz c6I noL σ a.2) (fun a => a.1 = N4 (dval sc p (eDg sc p - p)) ∧ a.2.1 219 6 = N4 (eDg sc p) ∧ Fz c6I noL σ a.2) (by
      rintro k ⟨a, τ⟩ ⟨p1, p2, p3⟩
      have p2' : τ.1 219 6 = N4 (eDg sc p) := by
        have : τ.1 219 6 = N4 (p + (eDg sc p - p)) := p2
        rw [this]; congr 1; omega
      refine ⟨(a, τ), ?_, p1, p2', p3⟩
      show f_X5_readNumber_4 (k + 1) a (N4 (eDg sc p - p)) τ = some (a, τ)
      rw [f_X5_readNumber_4]
      by_cases e : eDg sc p - p = 6
      · rw [if_pos (show (6 : Int32) ≤ N4 (eDg sc p - p) by rw [e]; decide)]
      · obtain ⟨r, r1, r2⟩ := c_digit (h.p (c6_p p3)) p2' s2
        rw [if_neg (show ¬ (6 : Int32) ≤ N4 (eDg sc p - p) from fun y => by have := (n4_le (a := 6) (by omega) (by omega)).mp y; omega), r1, bd_s]
        rcases r2 with ⟨rfl, g1, g2⟩ | ⟨rfl, g⟩
        · rw [s4 (by omega) g1] at g2
          cases g2
        · rw [if_pos rfl]) (by
      rintro k t ⟨a, τ⟩ ht ⟨p1, p2, p3⟩
      have p1' : a = N4 (dval sc p t) := p1
      have p2' : τ.1 219 6 = N4 (p + t) := p2
      have hd := s5 (p + t) (by omega) (by omega)
      have hd' := hd
      unfold isDg at hd'
      rw [decide_eq_true_eq] at hd'
      obtain ⟨r, r1, r2⟩ := c_digit (h.p (c6_p p3)) p2' (by omega)
      show ∃ a' : Int32 × Mem, f_X5_readNumber_4 (k + 1) a (N4 t) τ = _ ∧ _
      rw [f_X5_readNumber_4, if_neg (show ¬ (6 : Int32) ≤ N4 t from fun y => by have := (n4_le (a := 6) (by omega) (by omega)).mp y; omega), r1, bd_s]
      rcases r2 with ⟨rfl, g1, g2⟩ | ⟨rfl, g⟩
      · have hv : 10 * N4 (dval sc p t) + N4 (bat sc (p + t)) - 48 = N4 (dval sc p (t + 1)) := by
          rw [show (10 : Int32) = N4 10 from rfl, show (48 : Int32) = N4 48 from rfl, n4_mul, n4_add, n4_sub (by omega)]
          congr 1
          show _ = 10 * dval sc p t + (bat sc (p + t) - 48)
          omega
        rw [if_neg (by decide), p2', gd_inb (by omega) (by omega), n4_nat (by omega), (h.p (c6_p p3)).2.2.2 (p + t) (by omega), p1', show sc.getD (p + t) 0 = bat sc (p + t) from rfl, hv, n4_succ, n4_succ]
        exact ⟨(N4 (dval sc p (t + 1)), _), rfl, rfl, mI_e, p3.i (by unfold c6I; omega)⟩
      · exact absurd ⟨by omega, hd⟩ g) 100000 0 (N4 0, σ) (by omega) (by omega) ⟨rfl, hi, Fz.rfl⟩
  have a1' : f_X5_readNumber_4 100000 0 0 σ = some (x1, τ) := a1
  obtain rfl : x1 = _ := a2
  unfold f_X5_readNumber
  rw [a1', bd_s]
  exact ⟨τ, rfl, a4, a3⟩
/-- one number of a command -/
theorem c_num1 {i k w t q : Nat} (h : CScr σ sc) (hi : σ.1 219 6 = N4 i) (hl : i ≤ sc.length) (hk : σ.1 219 5 = N4 k) (hk2 : k < 120) (hw : w < 8) (ht : t < nmK (kOf w)) :
    ∃ τ, Fz (c2I k) noL σ τ ∧ (((nSp sc i = i ∨ ¬ nSp sc i < eDg sc (nSp sc i)) ∧ f_X5_readCommand_27 (N4 w) (q + 1) (N4 t) σ = some (.inl (N4 (sNum sc i).2.1, τ)) ∧ (sNum sc i).1 = false)
      ∨ ((nSp sc i ≠ i ∧ nSp sc i < eDg sc (nSp sc i)) ∧ f_X5_readCommand_27 (N4 w) (q + 1) (N4 t) σ = f_X5_readCommand_27 (N4 w) q (N4 (t + 1)) τ ∧ τ.1 219 6 = N4 (sNum sc i).2.1 ∧ τ.1 (222 + t) k = N4 (sNum sc i).2.2 ∧ (t = 1 → τ.1 222 k = σ.1 222 k))) := by
  have b1 := h.1
  have hK := nmK_le (kOf w)
  obtain ⟨s1, s2, s3, s4⟩ := nSp_s hl h.1
  obtain ⟨g1, g2, g3, g4, g5⟩ := eDg_s s2 h.1
  obtain ⟨τ1, a1, a2, a3⟩ := c_spaces h hi hl
  have hM := h.p (c6_p a2)
  rw [f_X5_readCommand_27, gd_inb hw (by omega), nums_n w hw, if_neg (fun y => by have := (n4_le (by omega) (by omega)).mp y; omega), a1, bd_s]
  by_cases e : nSp sc i = i
  · obtain ⟨u1, u2⟩ := sNum_a hl h.1 (Or.inl e)
    refine ⟨τ1, c6_2 a2, Or.inl ⟨Or.inl e, ?_, u1⟩⟩
    rw [if_pos e, if_pos rfl, a3, u2]
  · rw [if_neg e, if_neg (show ¬ (1 : Int32) = 0 by decide)]
    obtain ⟨r, r1, r2⟩ := c_digit hM a3 s2
    show ∃ τ, Fz (c2I k) noL σ τ ∧ ((_ ∧ (bd (f_X5_isDigitNext τ1) _) = _ ∧ _) ∨ (_ ∧ (bd (f_X5_isDigitNext τ1) _) = _ ∧ _))
    rw [r1, bd_s]
    rcases r2 with ⟨rfl, d1, d2⟩ | ⟨rfl, d⟩
    · have hlt : nSp sc i < eDg sc (nSp sc i) := by
        rcases Nat.lt_or_ge (nSp sc i) (eDg sc (nSp sc i)) with y | y
        · exact y
        · have e2 : eDg sc (nSp sc i) = nSp sc i := by omega
          have := g4 (by omega) (by omega)
          rw [e2, d2] at this
          cases this
      obtain ⟨u1, u2, u3⟩ := sNum_b ⟨e, hlt⟩
      obtain ⟨τ2, v1, v2, v3⟩ := c_number hM a3 s2
      have f2 := a2.trans v2
      have e5 : τ2.1 219 5 = N4 k := (f2.1 219 5 (by unfold c6I; omega)).trans hk
      rw [if_neg (by decide), v1, bd_s]
      rcases Nat.lt_or_ge t 1 with z | z
      · obtain rfl : t = 0 := by omega
        refine ⟨setI τ2 222 k (N4 (dval sc (nSp sc i) (eDg sc (nSp sc i) - nSp sc i))), (c6_2 f2).i (by unfold c2I; omega), Or.inr ⟨⟨e, hlt⟩, ?_, ?_, ?_, fun y => by omega⟩⟩
        · rw [if_pos (show N4 0 = 0 from rfl), e5, gd_inb (by omega) (by omega), n4_nat (by omega), n4_succ]
        · rw [mI_p (by omega), v3, u1]
        · rw [mI_e, u2]
      · obtain rfl : t = 1 := by omega
        refine ⟨setI τ2 223 k (N4 (dval sc (nSp sc i) (eDg sc (nSp sc i) - nSp sc i))), (c6_2 f2).i (by unfold c2I; omega), Or.inr ⟨⟨e, hlt⟩, ?_, ?_, ?_, fun _ => ?_⟩⟩
        · rw [if_neg (show ¬ N4 1 = 0 by decide), e5, gd_inb (by omega) (by omega), n4_nat (by omega), n4_succ]
        · rw [mI_p (by omega), v3, u1]
        · rw [mI_e, u2]
        · rw [mI_p (by omega)]; exact f2.1 222 k (by unfold c6I; omega)
    · have hn : ¬ nSp sc i < eDg sc (nSp sc i) := fun y => d ⟨by omega, g5 _ (Nat.le_refl _) y⟩
      obtain ⟨u1, u2⟩ := sNum_a hl h.1 (Or.inr hn)
      refine ⟨τ1, c6_2 a2, Or.inl ⟨Or.inr hn, ?_, u1⟩⟩
      rw [if_pos rfl, a3, u2]
theorem c_numE {w t q : Nat} (hw : w < 8) (ht : nmK (kOf w) = t) : f_X5_readCommand_27 (N4 w) (q + 1) (N4 t) σ = some (.inr σ) := by
  have hK := nmK_le (kOf w)
  rw [f_X5_readCommand_27, gd_inb hw (by omega), nums_n w hw, if_pos ((n4_le (by omega) (by omega)).mpr (by omega))]
theorem c_tail {i k w : Nat} (h : CScr σ sc) (hi : σ.1 219 6 = N4 i) (hl : i ≤ sc.length) (hk : σ.1 219 5 = N4 k) (hk2 : k < 120) (hw : w < 8) :
    ∃ τ, cTail (N4 w) (.inr σ) = some (if nSp sc i < sc.length ∧ bat sc (nSp sc i) = 59 then -1 else N4 (nSp sc i), τ) ∧ Fz csrI noL σ τ ∧ (∀ j, j ≠ k → τ.1 221 j = σ.1 221 j) ∧ τ.1 222 = σ.1 222 ∧ τ.1 223 = σ.1 223 ∧ ((nSp sc i < sc.length ∧ bat sc (nSp sc i) = 59) → τ.1 219 6 = N4 (nSp sc i + 1) ∧ τ.1 219 5 = N4 (k + 1) ∧ τ.1 221 k = N4 w) := by
  have b1 := h.1
  obtain ⟨s1, s2, s3, s4⟩ := nSp_s hl h.1
  obtain ⟨τ1, a1, a2, a3⟩ := c_spaces h hi hl
  have hM := h.p (c6_p a2)
  have e5 : τ1.1 219 5 = N4 k := (a2.1 219 5 (by unfold c6I; omega)).trans hk
  have r1 : ∀ q, q ≠ 219 → τ1.1 q = σ.1 q := fun q hq => a2.rowI (fun j => by unfold c6I; omega)
  unfold cTail
  show ∃ τ, (bd (f_X5_skipSpaces σ) _) = _ ∧ _
  rw [a1, bd_s]
  dsimp only
  rw [hM.2.2.1, a3]
  by_cases e : nSp sc i < sc.length
  · have hb := h.2.1 _ e
    rw [if_neg (fun y => by have := (n4_le (by omega) (by omega)).mp y; omega), gd_inb (by omega) (by omega), n4_nat (by omega), hM.2.2.2 _ e]
    by_cases e2 : bat sc (nSp sc i) = 59
    · have e2' : sc.getD (nSp sc i) 0 = 59 := e2
      rw [if_pos (show N4 (sc.getD (nSp sc i) 0) = 59 by rw [e2']; rfl), if_pos (show nSp sc i < sc.length ∧ bat sc (nSp sc i) = 59 from ⟨e, e2⟩), mI_j (by omega), e5, gd_inb (by omega) (by omega), gd_inb hw (by omega), bd_s, n4_nat (by omega), mI_p (by omega), mI_j (by omega), e5, n4_succ, n4_succ]
      refine ⟨_, rfl, (((c6_p a2).i (by unfold csrI; omega)).i (by unfold csrI; omega)).i (by unfold csrI; omega), fun j hj => ?_, ?_, ?_, fun _ => ⟨?_, mI_e, ?_⟩⟩
      · rw [mI_p (by omega), mI_j hj, mI_p (by omega), r1 221 (by omega)]
      · rw [mI_p (by omega), mI_p (by omega), mI_p (by omega), r1 222 (by omega)]
      · rw [mI_p (by omega), mI_p (by omega), mI_p (by omega), r1 223 (by omega)]
      · rw [mI_j (by omega), mI_p (by omega), mI_e]
      · rw [mI_p (by omega), mI_e]
    · rw [if_neg (show ¬ N4 (sc.getD (nSp sc i) 0) = 59 from fun y => e2 ((n4_eq (a := sc.getD (nSp sc i) 0) (b := 59) (by omega) (by omega)).mp y)), if_neg (show ¬ (nSp sc i < sc.length ∧ bat sc (nSp sc i) = 59) from fun y => e2 y.2)]
      exact ⟨τ1, rfl, c6_p a2, fun j _ => by rw [r1 221 (by omega)], r1 222 (by omega), r1 223 (by omega), fun y => absurd y.2 e2⟩
  · rw [if_pos ((n4_le (by omega) (by omega)).mpr (by omega)), if_neg (show ¬ (nSp sc i < sc.length ∧ bat sc (nSp sc i) = 59) from fun y => e y.1)]
    exact ⟨τ1, rfl, c6_p a2, fun j _ => by rw [r1 221 (by omega)], r1 222 (by omega), r1 223 (by omega), fun y => absurd y.1 e⟩
/-- a seventh digit: the command ends there -/
theorem c_bad {i k w t q : Nat} (h : CScr σ sc) (hi : σ.1 219 6 = N4 i) (hl : i < sc.length) (hd : isDg sc i = true) (hk : σ.1 219 5 = N4 k) (hk2 : k < 120) (hw : w < 8) (ht : t ≤ nmK (kOf w)) :
    ∃ τ, (bd (f_X5_readCommand_27 (N4 w) (q + 1) (N4 t) σ) (cTail (N4 w))) = some (N4 i, τ) ∧ Fz csrI noL σ τ ∧ (∀ j, j ≠ k → τ.1 221 j = σ.1 221 j ∧ τ.1 222 j = σ.1 222 j ∧ τ.1 223 j = σ.1 223 j) := by
  obtain ⟨s1, s2, s3, s4⟩ := nSp_s (Nat.le_of_lt hl) h.1
  have hd' := hd
  unfold isDg at hd'
  rw [decide_eq_true_eq] at hd'
  have hns : nSp sc i = i := by
    rcases Nat.lt_or_ge i (nSp sc i) with y | y
    · have := s4 i (Nat.le_refl i) y
      unfold isSp at this
      rw [decide_eq_true_eq] at this
      omega
    · omega
  rcases Nat.lt_or_ge t (nmK (kOf w)) with z | z
  · obtain ⟨τ, f, c⟩ := c_num1 (q := q) h hi (Nat.le_of_lt hl) hk hk2 hw z
    rcases c with ⟨c1, c2, c3⟩ | ⟨c1, -⟩
    · rw [c2, bd_s, (sNum_a (Nat.le_of_lt hl) h.1 (Or.inl hns)).2, hns]
      exact ⟨τ, rfl, c2_p f, fun j hj => ⟨by rw [f.1 221 j (by unfold c2I; omega)], by rw [f.1 222 j (by unfold c2I; omega)], by rw [f.1 223 j (by unfold c2I; omega)]⟩⟩
    · exact absurd hns c1.1
  · rw [c_numE hw (by omega), bd_s]
    obtain ⟨τ, a1, a2, a3, a4, a5, -⟩ := c_tail h hi (Nat.le_of_lt hl) hk hk2 hw
    rw [hns, if_neg (fun y => by omega)] at a1
    exact ⟨τ, a1, a2, fun j hj => ⟨a3 j hj, by rw [a4], by rw [a5]⟩⟩
/-- the numbers of a command -/
theorem c_nums {i k w : Nat} (h : CScr σ sc) (hi : σ.1 219 6 = N4 i) (hl : i ≤ sc.length) (hk : σ.1 219 5 = N4 k) (hk2 : k < 120) (hw : w < 8) :
    ∃ τ, (bd (f_X5_readCommand_27 (N4 w) 100000 0 σ) (cTail (N4 w))) = (if (sNums sc i (nmK (kOf w))).1 = true then cTail (N4 w) (.inr τ) else some (N4 (sNums sc i (nmK (kOf w))).2.1, τ)) ∧ Fz csrI noL σ τ ∧ (∀ j, j ≠ k → τ.1 221 j = σ.1 221 j ∧ τ.1 222 j = σ.1 222 j ∧ τ.1 223 j = σ.1 223 j)
      ∧ ((sNums sc i (nmK (kOf w))).1 = true → τ.1 219 5 = N4 k ∧ τ.1 219 6 = N4 (sNums sc i (nmK (kOf w))).2.1 ∧ (1 ≤ nmK (kOf w) → τ.1 222 k = N4 (sNums sc i (nmK (kOf w))).2.2.1) ∧ (nmK (kOf w) = 2 → τ.1 223 k = N4 (sNums sc i (nmK (kOf w))).2.2.2)) := by
  have hK := nmK_le (kOf w)
  have fr : ∀ {σ τ : Mem}, Fz (c2I k) noL σ τ → (∀ j, j ≠ k → τ.1 221 j = σ.1 221 j ∧ τ.1 222 j = σ.1 222 j ∧ τ.1 223 j = σ.1 223 j) := fun f j hj => ⟨by rw [f.1 221 j (by unfold c2I; omega)], by rw [f.1 222 j (by unfold c2I; omega)], by rw [f.1 223 j (by unfold c2I; omega)]⟩
  have f5 : ∀ {σ τ : Mem}, Fz (c2I k) noL σ τ → σ.1 219 5 = N4 k → τ.1 219 5 = N4 k := fun f e => (f.1 219 5 (by unfold c2I; omega)).trans e
  rcases Nat.lt_or_ge (nmK (kOf w)) 1 with z | z
  · have e0 : nmK (kOf w) = 0 := by omega
    have e1 : f_X5_readCommand_27 (N4 w) 100000 0 σ = some (.inr σ) := c_numE (q := 99999) hw e0
    rw [e0]
    exact ⟨σ, by rw [e1, bd_s, if_pos (show (sNums sc i 0).1 = true from rfl)], Fz.rfl, fun j _ => ⟨rfl, rfl, rfl⟩, fun _ => ⟨hk, hi, fun y => by omega, fun y => by omega⟩⟩
  · obtain ⟨τ, f, c⟩ := c_num1 (q := 99999) (t := 0) h hi hl hk hk2 hw (by omega)
    have hM := h.p (c2_p f)
    obtain ⟨n1, n2⟩ := sNum_s hl h.1
    rcases c with ⟨c1, c2, c3⟩ | ⟨c1, c2, c3, c4, -⟩
    · have c2' : f_X5_readCommand_27 (N4 w) 100000 0 σ = _ := c2
      have hs : (sNums sc i (nmK (kOf w))).1 = false ∧ (sNums sc i (nmK (kOf w))).2.1 = (sNum sc i).2.1 := by
        rcases Nat.lt_or_ge (nmK (kOf w)) 2 with y | y
        · rw [show nmK (kOf w) = 1 by omega]; exact ⟨c3, rfl⟩
        · rw [show nmK (kOf w) = 2 by omega, sNums_2, if_neg (by rw [c3]; decide)]; exact ⟨rfl, rfl⟩
      exact ⟨τ, by rw [c2', if_neg (show ¬ (sNums sc i (nmK (kOf w))).1 = true by rw [hs.1]; decide), hs.2] <;> rfl, c2_p f, fr f, fun y => by rw [hs.1] at y; cases y⟩
    · have c2' : f_X5_readCommand_27 (N4 w) 100000 0 σ = f_X5_readCommand_27 (N4 w) 99999 (N4 1) τ := c2
      obtain ⟨u1, u2, u3⟩ := sNum_b c1
      have h5 := f5 f hk
      rw [c2']
      rcases u3 with u3 | ⟨u3, u4, u5⟩
      · -- a good first number
        rcases Nat.lt_or_ge (nmK (kOf w)) 2 with y | y
        · have e1 : nmK (kOf w) = 1 := by omega
          have e2 : f_X5_readCommand_27 (N4 w) 99999 (N4 1) τ = some (.inr τ) := c_numE (q := 99998) hw e1
          rw [e1]
          exact ⟨τ, by rw [e2, bd_s, if_pos (show (sNums sc i 1).1 = true from u3)], c2_p f, fr f, fun _ => ⟨h5, c3, fun _ => c4, fun y => by omega⟩⟩
        · have e1 : nmK (kOf w) = 2 := by omega
          obtain ⟨ρ, g, d⟩ := c_num1 (q := 99998) (t := 1) hM c3 n2 h5 hk2 hw (by omega)
          have hs : sNums sc i 2 = ((sNum sc (sNum sc i).2.1).1, (sNum sc (sNum sc i).2.1).2.1, (sNum sc i).2.2, (sNum sc (sNum sc i).2.1).2.2) := by rw [sNums_2, if_pos u3]
          rcases d with ⟨d1, d2, d3⟩ | ⟨d1, d2, d3, d4, d5⟩
          · have d2' : f_X5_readCommand_27 (N4 w) 99999 (N4 1) τ = _ := d2
            rw [e1, hs]
            exact ⟨ρ, by rw [d2', if_neg (show ¬ (sNum sc (sNum sc i).2.1).1 = true by rw [d3]; decide)] <;> rfl, c2_p (f.trans g), fr (f.trans g), fun y => by rw [show (sNum sc (sNum sc i).2.1).1 = true from y] at d3; cases d3⟩
          · have d2' : f_X5_readCommand_27 (N4 w) 99999 (N4 1) τ = f_X5_readCommand_27 (N4 w) 99998 (N4 2) ρ := d2
            obtain ⟨v1, v2, v3⟩ := sNum_b d1
            rw [d2', e1, hs]
            rcases v3 with v3 | ⟨v3, v4, v5⟩
            · have e2 : f_X5_readCommand_27 (N4 w) 99998 (N4 2) ρ = some (.inr ρ) := c_numE (q := 99997) hw e1
              exact ⟨ρ, by rw [e2, bd_s, if_pos (show (sNum sc (sNum sc i).2.1).1 = true from v3)], c2_p (f.trans g), fr (f.trans g), fun _ => ⟨f5 g h5, d3, fun _ => (d5 rfl).trans c4, fun _ => d4⟩⟩
            · have d3' := d3
              rw [v1] at d3'
              obtain ⟨μ, m1, m2, m3⟩ := c_bad (q := 99997) (t := 2) (hM.p (c2_p g)) d3' v4 v5 (f5 g h5) hk2 hw (by omega)
              have m1' : (bd (f_X5_readCommand_27 (N4 w) 99998 (N4 2) ρ) (cTail (N4 w))) = _ := m1
              refine ⟨μ, by rw [m1', if_neg (show ¬ (sNum sc (sNum sc i).2.1).1 = true by rw [v3]; decide), ← v1], (c2_p (f.trans g)).trans m2, fun j hj => ?_, fun y => by rw [show (sNum sc (sNum sc i).2.1).1 = true from y] at v3; cases v3⟩
              obtain ⟨k1, k2, k3⟩ := m3 j hj
              obtain ⟨l1, l2, l3⟩ := fr (f.trans g) j hj
              exact ⟨k1.trans l1, k2.trans l2, k3.trans l3⟩
      · have c3' := c3
        rw [u1] at c3'
        obtain ⟨μ, m1, m2, m3⟩ := c_bad (q := 99998) (t := 1) hM c3' u4 u5 h5 hk2 hw (by omega)
        have m1' : (bd (f_X5_readCommand_27 (N4 w) 99999 (N4 1) τ) (cTail (N4 w))) = _ := m1
        have hs : (sNums sc i (nmK (kOf w))).1 = false ∧ (sNums sc i (nmK (kOf w))).2.1 = (sNum sc i).2.1 := by
          rcases Nat.lt_or_ge (nmK (kOf w)) 2 with y | y
          · rw [show nmK (kOf w) = 1 by omega]; exact ⟨u3, rfl⟩
          · rw [show nmK (kOf w) = 2 by omega, sNums_2, if_neg (by rw [u3]; decide)]; exact ⟨rfl, rfl⟩
        refine ⟨μ, by rw [m1', if_neg (show ¬ (sNums sc i (nmK (kOf w))).1 = true by rw [hs.1]; decide), hs.2, u1], (c2_p f).trans m2, fun j hj => ?_, fun y => by rw [hs.1] at y; cases y⟩
        obtain ⟨k1, k2, k3⟩ := m3 j hj
        obtain ⟨l1, l2, l3⟩ := fr f j hj
        exact ⟨k1.trans l1, k2.trans l2, k3.trans l3⟩
end CSCR2
