/-! ===== the reference reads a whole script and runs it ===== -/
section MRUN
variable {σ : Mem} {W H n : Nat} {hs : List (Nat → Int64)} {sc : List Nat} {m : Nat → Int64}
/-- a command as it stands in the draft -/
def DC (τ : Mem) (row : Nat) (c : Nat × Nat × Nat) : Prop := τ.1 238 row = N4 c.1 ∧ (1 ≤ nmK c.1 → τ.1 238 (row + 1) = N4 c.2.1) ∧ (nmK c.1 = 2 → τ.1 238 (row + 2) = N4 c.2.2)
theorem sNums_2 (sc : List Nat) (i : Nat) : sNums sc i 2 = (if (sNum sc i).1 = true then ((sNum sc (sNum sc i).2.1).1, (sNum sc (sNum sc i).2.1).2.1, (sNum sc i).2.2, (sNum sc (sNum sc i).2.1).2.2) else (false, (sNum sc i).2.1, (sNum sc i).2.2, 0)) := rfl
theorem m_nums0 {row : Nat} : f_X12_readCommand_50 (N4 row) 0 100000 0 σ = some (.inr σ) := by
  rw [show (100000 : Nat) = 99999 + 1 from rfl, f_X12_readCommand_50, if_pos (by decide)]
theorem m_nums1 {row i : Nat} (h : MScr σ sc) (hi : σ.1 224 18 = N4 i) (hl : i ≤ sc.length) (hr : row + 2 < 90) : ∃ τ, f_X12_readCommand_50 (N4 row) 1 100000 0 σ = some (if (sNum sc i).1 = true then .inr τ else .inl (N4 0, τ)) ∧ Fz mpI mpL σ τ ∧ (∀ j, j ≠ row + 1 → τ.1 238 j = σ.1 238 j) ∧ τ.1 224 19 = σ.1 224 19 ∧ τ.1 224 18 = N4 (sNum sc i).2.1 ∧ ((sNum sc i).1 = true → τ.1 238 (row + 1) = N4 (sNum sc i).2.2) := by
  obtain ⟨τ, a1, a2⟩ := m_readNumber (row := row + 1) h hi hl (by omega)
  refine ⟨τ, ?_, a2⟩
  rw [show (100000 : Nat) = 99998 + 1 + 1 from rfl, f_X12_readCommand_50, if_neg (by decide), show N4 row + 1 + 0 = N4 (row + 1) by rw [n4_succ, show (0 : Int32) = N4 0 from rfl, n4_add], a1, bd_s]
  by_cases q : (sNum sc i).1 = true
  · rw [if_pos q, if_neg (show ¬ N4 1 = 0 by decide), if_pos q, f_X12_readCommand_50, if_pos (by decide)]
  · rw [if_neg q, if_pos (show N4 0 = 0 from rfl), if_neg q]; rfl
theorem m_nums2 {row i : Nat} (h : MScr σ sc) (hi : σ.1 224 18 = N4 i) (hl : i ≤ sc.length) (hr : row + 2 < 90) : ∃ τ, f_X12_readCommand_50 (N4 row) 2 100000 0 σ = some (if (sNums sc i 2).1 = true then .inr τ else .inl (N4 0, τ)) ∧ Fz mpI mpL σ τ ∧ (∀ j, j ≠ row + 1 → j ≠ row + 2 → τ.1 238 j = σ.1 238 j) ∧ τ.1 224 19 = σ.1 224 19 ∧ τ.1 224 18 = N4 (sNums sc i 2).2.1 ∧ ((sNums sc i 2).1 = true → τ.1 238 (row + 1) = N4 (sNums sc i 2).2.2.1 ∧ τ.1 238 (row + 2) = N4 (sNums sc i 2).2.2.2) := by
  obtain ⟨τ, a1, a2, a3, a4, a5, a6⟩ := m_readNumber (row := row + 1) h hi hl (by omega)
  rw [show (100000 : Nat) = 99997 + 1 + 1 + 1 from rfl, f_X12_readCommand_50, if_neg (by decide), show N4 row + 1 + 0 = N4 (row + 1) by rw [n4_succ, show (0 : Int32) = N4 0 from rfl, n4_add], a1, bd_s]
  rw [sNums_2]
  by_cases q : (sNum sc i).1 = true
  · obtain ⟨s1, s2⟩ := sNum_s hl h.1
    obtain ⟨ρ, b1, b2, b3, b4, b5, b6⟩ := m_readNumber (row := row + 2) (h.p a2) a5 s2 (by omega)
    simp only [if_pos q]
    rw [if_neg (show ¬ N4 1 = 0 by decide), f_X12_readCommand_50, if_neg (by decide), show N4 row + 1 + (0 + 1) = N4 (row + 2) by rw [n4_succ, show (0 + 1 : Int32) = N4 1 from rfl, n4_add], b1, bd_s]
    refine ⟨ρ, ?_, a2.trans b2, fun j h1 h2 => (b3 j h2).trans (a3 j h1), b4.trans a4, b5, fun e => ⟨(b3 _ (by omega)).trans (a6 q), b6 e⟩⟩
    by_cases q2 : (sNum sc (sNum sc i).2.1).1 = true
    · rw [if_pos q2, if_neg (show ¬ N4 1 = 0 by decide), if_pos q2, f_X12_readCommand_50, if_pos (by decide)]
    · rw [if_neg q2, if_pos (show N4 0 = 0 from rfl), if_neg q2]; rfl
  · simp only [if_neg q]
    rw [if_pos (show N4 0 = 0 from rfl)]
    exact ⟨τ, rfl, a2, fun j h1 h2 => a3 j h1, a4, a5, fun e => nomatch e⟩
theorem m_tail {i k : Nat} (h : MScr σ sc) (hi : σ.1 224 18 = N4 i) (hl : i ≤ sc.length) (hk : σ.1 224 19 = N4 k) :
    ∃ τ, (bd (f_X12_spaces σ) fun q19 => bd (f_X12_here q19.2) fun q21 => if q21 = 59 then some ((1 : Int32), setI (setI q19.2 224 18 (q19.2.1 224 18 + 1)) 224 19 ((setI q19.2 224 18 (q19.2.1 224 18 + 1)).1 224 19 + 1)) else some (0, q19.2)) = some (if nSp sc i < sc.length ∧ bat sc (nSp sc i) = 59 then N4 1 else N4 0, τ) ∧ Fz mpI mpL σ τ ∧ τ.1 238 = σ.1 238 ∧ τ.1 224 18 = N4 (if nSp sc i < sc.length ∧ bat sc (nSp sc i) = 59 then nSp sc i + 1 else nSp sc i) ∧ τ.1 224 19 = N4 (if nSp sc i < sc.length ∧ bat sc (nSp sc i) = 59 then k + 1 else k) := by
  have hb := h.b
  obtain ⟨s1, s2, -⟩ := nSp_s hl h.1
  obtain ⟨τ, a1, a2, a3⟩ := m_spaces h hi hl
  have e19 : τ.1 224 19 = N4 k := (a2.1 224 19 (by unfold m8I; omega)).trans hk
  have e238 : τ.1 238 = σ.1 238 := a2.rowI (fun j => by unfold m8I; omega)
  rw [a1, bd_s, m_here (h.p (m8_p a2)) a3 s2, bd_s]
  by_cases q : nSp sc i < sc.length
  · have := hb _ q
    by_cases q2 : bat sc (nSp sc i) = 59
    · have hh : nSp sc i < sc.length ∧ bat sc (nSp sc i) = 59 := ⟨q, q2⟩
      rw [if_pos q, if_pos hh, if_pos hh, if_pos hh, q2, if_pos (show N4 59 = 59 from rfl), a3, n4_succ, mI_j (by omega), e19, n4_succ]
      refine ⟨_, rfl, ((m8_p a2).i (by unfold mpI; omega)).i (by unfold mpI; omega), ?_, ?_, mI_e⟩
      · rw [mI_p (by omega), mI_p (by omega)]; exact e238
      · rw [mI_j (by omega), mI_e]
    · have hh : ¬ (nSp sc i < sc.length ∧ bat sc (nSp sc i) = 59) := fun e => q2 e.2
      rw [if_pos q, if_neg hh, if_neg hh, if_neg hh, if_neg (show ¬ N4 (bat sc (nSp sc i)) = 59 from fun e => q2 ((n4_eq (b := 59) (by omega) (by omega)).mp e))]
      exact ⟨τ, rfl, m8_p a2, e238, a3, e19⟩
  · have hh : ¬ (nSp sc i < sc.length ∧ bat sc (nSp sc i) = 59) := fun e => q e.1
    rw [if_neg q, if_neg hh, if_neg hh, if_neg hh, if_neg (by decide)]
    exact ⟨τ, rfl, m8_p a2, e238, a3, e19⟩
theorem m_cmd {i k : Nat} (h : MScr σ sc) (hi : σ.1 224 18 = N4 i) (hl : i ≤ sc.length) (hk : σ.1 224 19 = N4 k) (hk2 : k ≤ 29) :
    ∃ τ, f_X12_readCommand σ = some (if (sCmd sc i).1 = true then N4 1 else N4 0, τ) ∧ Fz mpI mpL σ τ ∧ (∀ j, j < 3 * k → τ.1 238 j = σ.1 238 j) ∧ τ.1 224 18 = N4 (sCmd sc i).2.1 ∧ ((sCmd sc i).1 = true → τ.1 224 19 = N4 (k + 1) ∧ DC τ (3 * k) (sCmd sc i).2.2) := by
  have b1 := h.1
  obtain ⟨l1, l2, -⟩ := nLe_s hl b1
  obtain ⟨τ, a1, a2, a3, a4, a5, a6⟩ := m_readWord (row := 3 * k) h hi hl (by omega)
  unfold f_X12_readCommand sCmd
  rw [hk, show (3 : Int32) = N4 3 from rfl, n4_mul, a1, bd_s]
  by_cases q : wkd sc i = 8
  · simp only [if_pos q]
    rw [if_pos (show N4 0 = 0 from rfl)]
    rw [if_pos q] at a5
    exact ⟨τ, rfl, a2, fun j hj => a3 j (by omega), a5, fun e => nomatch e⟩
  · have hkl : wkd sc i < 8 := by
      have h1 : wkd sc i ≤ 8 := by
        unfold wkd; split
        · exact Nat.le_refl _
        · exact kd_le _
      omega
    rw [if_neg q] at a5
    have hM := h.p a2
    have hk19 : τ.1 224 19 = N4 k := a4.trans hk
    simp only [if_neg q]
    rw [if_neg (show ¬ N4 1 = 0 by decide), gd_inb (by omega) (by omega), n4_nat (by omega), a6 q]
    -- from the numbers on
    have fin : ∀ (x2 : Int32) (ρ : Mem), (hn : f_X12_readCommand_50 (N4 (3 * k)) x2 100000 0 τ = some (if (sNums sc (nLe sc i) (nmK (wkd sc i))).1 = true then .inr ρ else .inl (N4 0, ρ))) → Fz mpI mpL τ ρ → (∀ j, j ≠ 3 * k + 1 → j ≠ 3 * k + 2 → ρ.1 238 j = τ.1 238 j) → ρ.1 224 19 = τ.1 224 19 → ρ.1 224 18 = N4 (sNums sc (nLe sc i) (nmK (wkd sc i))).2.1 → ((sNums sc (nLe sc i) (nmK (wkd sc i))).1 = true → (1 ≤ nmK (wkd sc i) → ρ.1 238 (3 * k + 1) = N4 (sNums sc (nLe sc i) (nmK (wkd sc i))).2.2.1) ∧ (nmK (wkd sc i) = 2 → ρ.1 238 (3 * k + 2) = N4 (sNums sc (nLe sc i) (nmK (wkd sc i))).2.2.2)) →
        ∃ μ, (bd (f_X12_readCommand_50 (N4 (3 * k)) x2 100000 0 τ) fun q16 => sm q16 fun q18 => bd (f_X12_spaces q18) fun q19 => bd (f_X12_here q19.2) fun q21 => if q21 = 59 then some ((1 : Int32), setI (setI q19.2 224 18 (q19.2.1 224 18 + 1)) 224 19 ((setI q19.2 224 18 (q19.2.1 224 18 + 1)).1 224 19 + 1)) else some (0, q19.2)) = some (if (if (sNums sc (nLe sc i) (nmK (wkd sc i))).1 = true then (if nSp sc (sNums sc (nLe sc i) (nmK (wkd sc i))).2.1 < sc.length ∧ bat sc (nSp sc (sNums sc (nLe sc i) (nmK (wkd sc i))).2.1) = 59 then (true, nSp sc (sNums sc (nLe sc i) (nmK (wkd sc i))).2.1 + 1, wkd sc i, (sNums sc (nLe sc i) (nmK (wkd sc i))).2.2.1, (sNums sc (nLe sc i) (nmK (wkd sc i))).2.2.2) else (false, nSp sc (sNums sc (nLe sc i) (nmK (wkd sc i))).2.1, 8, 0, 0)) else (false, (sNums sc (nLe sc i) (nmK (wkd sc i))).2.1, 8, 0, 0) : Bool × Nat × Nat × Nat × Nat).1 = true then N4 1 else N4 0, μ) ∧ Fz mpI mpL σ μ ∧ (∀ j, j < 3 * k → μ.1 238 j = σ.1 238 j) ∧ μ.1 224 18 = N4 (if (sNums sc (nLe sc i) (nmK (wkd sc i))).1 = true then (if nSp sc (sNums sc (nLe sc i) (nmK (wkd sc i))).2.1 < sc.length ∧ bat sc (nSp sc (sNums sc (nLe sc i) (nmK (wkd sc i))).2.1) = 59 then (true, nSp sc (sNums sc (nLe sc i) (nmK (wkd sc i))).2.1 + 1, wkd sc i, (sNums sc (nLe sc i) (nmK (wkd sc i))).2.2.1, (sNums sc (nLe sc i) (nmK (wkd sc i))).2.2.2) else (false, nSp sc (sNums sc (nLe sc i) (nmK (wkd sc i))).2.1, 8, 0, 0)) else (false, (sNums sc (nLe sc i) (nmK (wkd sc i))).2.1, 8, 0, 0) : Bool × Nat × Nat × Nat × Nat).2.1 ∧ ((if (sNums sc (nLe sc i) (nmK (wkd sc i))).1 = true then (if nSp sc (sNums sc (nLe sc i) (nmK (wkd sc i))).2.1 < sc.length ∧ bat sc (nSp sc (sNums sc (nLe sc i) (nmK (wkd sc i))).2.1) = 59 then (true, nSp sc (sNums sc (nLe sc i) (nmK (wkd sc i))).2.1 + 1, wkd sc i, (sNums sc (nLe sc i) (nmK (wkd sc i))).2.2.1, (sNums sc (nLe sc i) (nmK (wkd sc i))).2.2.2) else (false, nSp sc (sNums sc (nLe sc i) (nmK (wkd sc i))).2.1, 8, 0, 0)) else (false, (sNums sc (nLe sc i) (nmK (wkd sc i))).2.1, 8, 0, 0) : Bool × Nat × Nat × Nat × Nat).1 = true → μ.1 224 19 = N4 (k + 1) ∧ DC μ (3 * k) (if (sNums sc (nLe sc i) (nmK (wkd sc i))).1 = true then (if nSp sc (sNums sc (nLe sc i) (nmK (wkd sc i))).2.1 < sc.length ∧ bat sc (nSp sc (sNums sc (nLe sc i) (nmK (wkd sc i))).2.1) = 59 then (true, nSp sc (sNums sc (nLe sc i) (nmK (wkd sc i))).2.1 + 1, wkd sc i, (sNums sc (nLe sc i) (nmK (wkd sc i))).2.2.1, (sNums sc (nLe sc i) (nmK (wkd sc i))).2.2.2) else (false, nSp sc (sNums sc (nLe sc i) (nmK (wkd sc i))).2.1, 8, 0, 0)) else (false, (sNums sc (nLe sc i) (nmK (wkd sc i))).2.1, 8, 0, 0) : Bool × Nat × Nat × Nat × Nat).2.2) := by
      intro x2 ρ hn f1 f2 f3 f4 f5
      obtain ⟨g1, g2⟩ := sNums_s l2 b1 (nmK (wkd sc i))
      generalize sNums sc (nLe sc i) (nmK (wkd sc i)) = N at *
      rw [hn, bd_s]
      by_cases c : N.1 = true
      · simp only [if_pos c]
        obtain ⟨μ, t1, t2, t3, t4, t5⟩ := m_tail (σ := ρ) (hM.p f1) f4 g2 (f3.trans hk19)
        show ∃ μ, (bd (f_X12_spaces ρ) _) = _ ∧ _
        rw [t1]
        obtain ⟨u1, u2⟩ := f5 c
        by_cases d : nSp sc N.2.1 < sc.length ∧ bat sc (nSp sc N.2.1) = 59
        · simp only [if_pos d] at t4 t5 ⊢
          refine ⟨μ, rfl, (a2.trans f1).trans t2, fun j hj => ?_, t4, fun _ => ⟨t5, ?_, fun e => ?_, fun e => ?_⟩⟩
          · rw [t3, f2 j (by omega) (by omega), a3 j (by omega)]
          · rw [t3, f2 _ (by omega) (by omega)]; exact a6 q
          · rw [t3]; exact u1 e
          · rw [t3]; exact u2 e
        · simp only [if_neg d] at t4 t5 ⊢
          refine ⟨μ, rfl, (a2.trans f1).trans t2, fun j hj => ?_, t4, fun e => nomatch e⟩
          rw [t3, f2 j (by omega) (by omega), a3 j (by omega)]
      · simp only [if_neg c]
        exact ⟨ρ, rfl, a2.trans f1, fun j hj => by rw [f2 j (by omega) (by omega), a3 j (by omega)], f4, fun e => nomatch e⟩
    by_cases c3 : wkd sc i ≤ 3
    · have hnm : nmK (wkd sc i) = 2 := by unfold nmK; rw [if_pos c3]
      obtain ⟨ρ, e1, e2, e3, e4, e5, e6⟩ := m_nums2 (row := 3 * k) hM a5 l2 (by omega)
      rw [if_neg (show ¬ N4 3 < N4 (wkd sc i) from fun e => by have := (n4_lt (by omega) (by omega)).mp e; omega)]
      refine fin 2 ρ (by rw [hnm]; exact e1) e2 e3 e4 (by rw [hnm]; exact e5) (fun e => ?_)
      rw [hnm] at e ⊢
      exact ⟨fun _ => (e6 e).1, fun _ => (e6 e).2⟩
    · rw [if_pos ((n4_lt (by omega) (by omega)).mpr (by omega)), gd_inb (by omega) (by omega)]
      by_cases c7 : wkd sc i = 7
      · have hnm : nmK (wkd sc i) = 0 := by unfold nmK; rw [if_neg c3, if_pos c7]
        rw [if_pos (show N4 (wkd sc i) = 7 by rw [c7]; rfl)]
        refine fin 0 τ (by rw [hnm]; exact m_nums0) Fz.rfl (fun _ _ _ => rfl) rfl (by rw [hnm]; exact a5) (fun e => ?_)
        rw [hnm]
        exact ⟨fun e => by omega, fun e => by omega⟩
      · have hnm : nmK (wkd sc i) = 1 := by unfold nmK; rw [if_neg c3, if_neg c7]
        obtain ⟨ρ, e1, e2, e3, e4, e5, e6⟩ := m_nums1 (row := 3 * k) hM a5 l2 (by omega)
        rw [if_neg (show ¬ N4 (wkd sc i) = 7 from fun e => c7 ((n4_eq (b := 7) (by omega) (by omega)).mp e))]
        refine fin 1 ρ (by rw [hnm]; exact e1) e2 (fun j h1 _ => e3 j h1) e4 (by rw [hnm]; exact e5) (fun e => ?_)
        rw [hnm] at e ⊢
        exact ⟨fun _ => e6 e, fun e => by omega⟩
end MRUN
