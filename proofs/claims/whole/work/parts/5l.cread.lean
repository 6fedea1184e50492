/-! ===== the class's readings ===== -/
section CREAD
variable {σ : Mem} {W H n : Nat} {m : Nat → Int64}
/-- a question was answered -/
def CQ (σ τ : Mem) (m : Nat → Int64) (W H n : Nat) : Prop := Fc σ τ ∧ Cch τ m W H n
theorem CQ.rfl (h : CS σ m W H n) : CQ σ σ m W H n := ⟨Fz.rfl, h.2.2.2⟩
theorem CQ.cs {τ : Mem} (h : CS σ m W H n) (q : CQ σ τ m W H n) : CS τ m W H n := h.q q.1 q.2
theorem CQ.trans {τ ρ : Mem} (q : CQ σ τ m W H n) (q' : CQ τ ρ m W H n) : CQ σ ρ m W H n := ⟨q.1.trans q'.1, q'.2⟩
theorem c_find' {r : Nat} (h : CS σ m W H n) (hr : r < n) : ∃ τ, f_X9_find (N4 r) σ = some (wtm m W H r, τ) ∧ CQ σ τ m W H n ∧ CW τ m W H r := by
  obtain ⟨τ, a1, a2, a3, a4⟩ := c_find h hr
  exact ⟨τ, a1, ⟨a2, a3⟩, a4⟩
theorem cs_obs {r : Nat} (h : CS σ m W H n) (hr : r < 16) : σ.2 6 r = m (139 + 4 * r) := (h.2.1.2.2.2.2 r hr).2.2.2.symm
theorem c_isActive {r : Nat} (h : CS σ m W H n) (hr : r < 16) : f_X7_isActive (N4 r) σ = some (if actR m r = true then N4 1 else N4 0) := by
  have hu := h.1.2.2.2.2.2.1 r hr
  have q := (h.2.1.2.2.2.2 r hr).2.2.1
  unfold f_X7_isActive actR
  rw [gd_inb (by omega) (by omega), n4_nat (by omega), gd_inb (by omega) (by omega), cs_obs h hr]
  rcases hu with e | e
  · rw [e] at q
    rw [show σ.1 7 r = N4 0 from i64_n4 q, if_pos (show N4 0 = 0 from rfl), e, if_neg (by simp; intro y; exact absurd y (by decide))]
    rfl
  · rw [e] at q
    rw [show σ.1 7 r = N4 1 from i64_n4 q, if_neg (show ¬ N4 1 = 0 by decide), e]
    by_cases c : m (139 + 4 * r) = -1
    · rw [if_pos c, if_neg (by simp [c])]; rfl
    · rw [if_neg c, if_pos (by simp [c]; rfl)]; rfl
theorem c_actives (h : CS σ m W H n) : f_X4_activeRays σ = some (N4 (cnt (actR m) n)) := by
  have hn := h.1.1.2.2.2.2.2.2.2
  obtain ⟨-, -, w7⟩ := cs_W h
  have key := loopF (fun k i (a : Int32) => f_X4_activeRays_4 σ k a (N4 i)) n (fun i => N4 (cnt (actR m) i)) (N4 (cnt (actR m) n)) (fun k => by
      show f_X4_activeRays_4 σ (k + 1) _ (N4 n) = _
      rw [f_X4_activeRays_4, w7, if_pos ((n4_le (by omega) (by omega)).mpr (Nat.le_refl _))]) (fun k i hi => by
      show f_X4_activeRays_4 σ (k + 1) (N4 (cnt (actR m) i)) (N4 i) = f_X4_activeRays_4 σ k (N4 (cnt (actR m) (i + 1))) (N4 (i + 1))
      rw [f_X4_activeRays_4, w7, if_neg (fun q => by have := (n4_le (by omega) (by omega)).mp q; omega), c_isActive h (by omega), bd_s, n4_succ, n4_succ]
      simp only [cnt]
      by_cases q : actR m i = true
      · rw [if_neg (fun e => by rw [act_b.mp e] at q; cases q), if_pos q]
      · rw [if_pos (act_b.mpr (eq_false_of_ne_true q)), if_neg q]; rfl) 100000 0 (by omega) (by omega)
  have key' : f_X4_activeRays_4 σ 100000 0 0 = _ := key
  unfold f_X4_activeRays
  rw [key', bd_s]
theorem c_coverage {c : Nat} (h : CS σ m W H n) (hc : c < 64) : ∃ τ, f_X4_coverage (N4 c) σ = some (N4 (cvr m W H c n), τ) ∧ CQ σ τ m W H n := by
  have hn := h.1.1.2.2.2.2.2.2.2
  obtain ⟨⟨q1, τ⟩, a1, a2, a3⟩ := loopU (fun k i (a : Int32 × Mem) => f_X4_coverage_4 (N4 c) k a.1 (N4 i) a.2) n (fun i a => a.1 = N4 (cvr m W H c i) ∧ CQ σ a.2 m W H n) (fun a => a.1 = N4 (cvr m W H c n) ∧ CQ σ a.2 m W H n) (by
      rintro k ⟨a, τ⟩ ⟨p1, p2⟩
      obtain ⟨-, -, w7⟩ := cs_W (CQ.cs h p2)
      refine ⟨(a, τ), ?_, p1, p2⟩
      show f_X4_coverage_4 (N4 c) (k + 1) a (N4 n) τ = some (a, τ)
      rw [f_X4_coverage_4, w7, if_pos ((n4_le (by omega) (by omega)).mpr (Nat.le_refl _))]) (by
      rintro k i ⟨a, τ⟩ hi ⟨p1, p2⟩
      have ht := CQ.cs h p2
      obtain ⟨-, -, w7⟩ := cs_W ht
      have p1' : a = N4 (cvr m W H c i) := p1
      have hs : cvr m W H c (i + 1) = cvr m W H c i + if (actR m i && decide (0 < wln m W H i c)) = true then 1 else 0 := rfl
      show ∃ a' : Int32 × Mem, f_X4_coverage_4 (N4 c) (k + 1) a (N4 i) τ = _ ∧ _
      rw [f_X4_coverage_4, w7, if_neg (fun q => by have := (n4_le (by omega) (by omega)).mp q; omega), c_isActive ht (by omega), bd_s, n4_succ]
      by_cases q : actR m i = true
      · obtain ⟨ρ, r1, r2, r3⟩ := c_find' ht hi
        obtain ⟨-, l1, l2⟩ := sh_way i (by omega)
        have hwl := (wln_bd (c := c) h.1.1 h.1.2.2.2.1 hi h.1.s8).1
        rw [if_neg (fun e => by rw [act_b.mp e] at q; cases q), r1, bd_s, gd_inb (by omega) (by omega), n4_nat (by omega), gd_t l1, l2, gd_inb (by omega) (by omega), n4_nat (by omega), r3.2.2.2 c hc]
        by_cases z : wln m W H i c = 0
        · rw [if_pos (show N4 (wln m W H i c) ≤ 0 by rw [z]; decide)]
          refine ⟨(a, ρ), rfl, ?_, p2.trans r2⟩
          show a = _
          rw [p1', hs, if_neg (by simp [z])]; rfl
        · rw [if_neg (show ¬ N4 (wln m W H i c) ≤ 0 from fun e => z (by have := (n4_le (b := 0) (by omega) (by omega)).mp e; omega))]
          refine ⟨(a + 1, ρ), rfl, ?_, p2.trans r2⟩
          show a + 1 = _
          rw [p1', n4_succ, hs, if_pos (by simp [q]; omega)]
      · rw [if_pos (act_b.mpr (eq_false_of_ne_true q))]
        refine ⟨(a, τ), rfl, ?_, p2⟩
        show a = _
        rw [p1', hs, if_neg (by simp [eq_false_of_ne_true q])]; rfl) 100000 0 (N4 0, σ) (by omega) (by omega) ⟨rfl, CQ.rfl h⟩
  obtain rfl : q1 = _ := a2
  have a1' : f_X4_coverage_4 (N4 c) 100000 0 0 σ = _ := a1
  unfold f_X4_coverage
  rw [a1', bd_s]
  exact ⟨τ, rfl, a3⟩
theorem c_lengthSum {c : Nat} (h : CS σ m W H n) (hc : c < 64) : ∃ τ, f_X4_lengthSum (N4 c) σ = some (N4 (plo m W H c n), τ) ∧ CQ σ τ m W H n := by
  have hn := h.1.1.2.2.2.2.2.2.2
  obtain ⟨⟨q1, τ⟩, a1, a2, a3⟩ := loopU (fun k i (a : Int32 × Mem) => f_X4_lengthSum_4 (N4 c) k a.1 (N4 i) a.2) n (fun i a => a.1 = N4 (plo m W H c i) ∧ CQ σ a.2 m W H n) (fun a => a.1 = N4 (plo m W H c n) ∧ CQ σ a.2 m W H n) (by
      rintro k ⟨a, τ⟩ ⟨p1, p2⟩
      obtain ⟨-, -, w7⟩ := cs_W (CQ.cs h p2)
      refine ⟨(a, τ), ?_, p1, p2⟩
      show f_X4_lengthSum_4 (N4 c) (k + 1) a (N4 n) τ = some (a, τ)
      rw [f_X4_lengthSum_4, w7, if_pos ((n4_le (by omega) (by omega)).mpr (Nat.le_refl _))]) (by
      rintro k i ⟨a, τ⟩ hi ⟨p1, p2⟩
      have ht := CQ.cs h p2
      obtain ⟨-, -, w7⟩ := cs_W ht
      have p1' : a = N4 (plo m W H c i) := p1
      have hs : plo m W H c (i + 1) = plo m W H c i + if actR m i = true then wln m W H i c else 0 := rfl
      show ∃ a' : Int32 × Mem, f_X4_lengthSum_4 (N4 c) (k + 1) a (N4 i) τ = _ ∧ _
      rw [f_X4_lengthSum_4, w7, if_neg (fun q => by have := (n4_le (by omega) (by omega)).mp q; omega), c_isActive ht (by omega), bd_s, n4_succ]
      by_cases q : actR m i = true
      · obtain ⟨ρ, r1, r2, r3⟩ := c_find' ht hi
        obtain ⟨-, l1, l2⟩ := sh_way i (by omega)
        rw [if_neg (fun e => by rw [act_b.mp e] at q; cases q), r1, bd_s, gd_inb (by omega) (by omega), n4_nat (by omega), gd_t l1, l2, gd_inb (by omega) (by omega), n4_nat (by omega), r3.2.2.2 c hc]
        refine ⟨(a + N4 (wln m W H i c), ρ), rfl, ?_, p2.trans r2⟩
        show a + _ = _
        rw [p1', n4_add, hs, if_pos q]
      · rw [if_pos (act_b.mpr (eq_false_of_ne_true q))]
        refine ⟨(a, τ), rfl, ?_, p2⟩
        show a = _
        rw [p1', hs, if_neg q]; rfl) 100000 0 (N4 0, σ) (by omega) (by omega) ⟨rfl, CQ.rfl h⟩
  obtain rfl : q1 = _ := a2
  have a1' : f_X4_lengthSum_4 (N4 c) 100000 0 0 σ = _ := a1
  unfold f_X4_lengthSum
  rw [a1', bd_s]
  exact ⟨τ, rfl, a3⟩
theorem c_unc (h : CS σ m W H n) : ∃ τ, f_X4_uncoveredCells σ = some (N4 (unc m W H n (W * H)), τ) ∧ CQ σ τ m W H n := by
  have hn := h.1.1.2.2.2.2.2.2.2
  have hK := h.1.1.K
  obtain ⟨⟨q1, τ⟩, a1, a2, a3⟩ := loopU (fun k i (a : Int32 × Mem) => f_X4_uncoveredCells_4 k a.1 (N4 i) a.2) (W * H) (fun i a => a.1 = N4 (unc m W H n i) ∧ CQ σ a.2 m W H n) (fun a => a.1 = N4 (unc m W H n (W * H)) ∧ CQ σ a.2 m W H n) (by
      rintro k ⟨a, τ⟩ ⟨p1, p2⟩
      refine ⟨(a, τ), ?_, p1, p2⟩
      show f_X4_uncoveredCells_4 (k + 1) a (N4 (W * H)) τ = some (a, τ)
      rw [f_X4_uncoveredCells_4, c_cells (CQ.cs h p2), bd_s, if_pos ((n4_le (by omega) (by omega)).mpr (Nat.le_refl _))]) (by
      rintro k i ⟨a, τ⟩ hi ⟨p1, p2⟩
      have ht := CQ.cs h p2
      have p1' : a = N4 (unc m W H n i) := p1
      have hcv : cvr m W H i n ≤ n := cnt_le _ n
      obtain ⟨ρ, r1, r2⟩ := c_coverage (c := i) ht (by omega)
      have hs : unc m W H n (i + 1) = unc m W H n i + if decide (cvr m W H i n = 0) = true then 1 else 0 := rfl
      show ∃ a' : Int32 × Mem, f_X4_uncoveredCells_4 (k + 1) a (N4 i) τ = _ ∧ _
      rw [f_X4_uncoveredCells_4, c_cells ht, bd_s, if_neg (fun q => by have := (n4_le (by omega) (by omega)).mp q; omega), r1, bd_s, n4_succ]
      by_cases z : cvr m W H i n = 0
      · rw [if_pos (show N4 (cvr m W H i n) = 0 by rw [z]; rfl)]
        refine ⟨(a + 1, ρ), rfl, ?_, p2.trans r2⟩
        show a + 1 = _
        rw [p1', n4_succ, hs, if_pos (by simp [z])]
      · rw [if_neg (n4_ne0 z (by omega))]
        refine ⟨(a, ρ), rfl, ?_, p2.trans r2⟩
        show a = _
        rw [p1', hs, if_neg (by simp [z])]; rfl) 100000 0 (N4 0, σ) (by omega) (by omega) ⟨rfl, CQ.rfl h⟩
  obtain rfl : q1 = _ := a2
  have a1' : f_X4_uncoveredCells_4 100000 0 0 σ = _ := a1
  unfold f_X4_uncoveredCells
  rw [a1', bd_s]
  exact ⟨τ, rfl, a3⟩
theorem c_within {a lo hi : Int32} : f_X11_isWithin a lo hi σ = some (if lo ≤ a ∧ a ≤ hi then 1 else 0) := by
  unfold f_X11_isWithin
  by_cases h1 : a < lo
  · rw [if_pos h1, if_neg (fun h => absurd h1 (Int32.not_lt.mpr h.1))]
  · rw [if_neg h1]
    by_cases h2 : hi < a
    · rw [if_pos h2, if_neg (fun h => absurd h2 (Int32.not_lt.mpr h.2))]
    · rw [if_neg h2, if_pos ⟨Int32.not_lt.mp h1, Int32.not_lt.mp h2⟩]
theorem c_outB (h : CS σ m W H n) : f_X4_cellsOutsideBounds σ = some (N4 (outB m (W * H) (m 2) (m 3))) := by
  have hK := h.1.1.K
  have e2 := h.2.1.1 2 (by omega)
  have e3 := h.2.1.1 3 (by omega)
  have key := loopF (fun k i (a : Int32) => f_X4_cellsOutsideBounds_4 σ k a (N4 i)) (W * H) (fun i => N4 (outB m i (m 2) (m 3))) (N4 (outB m (W * H) (m 2) (m 3))) (fun k => by
      show f_X4_cellsOutsideBounds_4 σ (k + 1) _ (N4 (W * H)) = _
      rw [f_X4_cellsOutsideBounds_4, c_cells h, bd_s, if_pos ((n4_le (by omega) (by omega)).mpr (Nat.le_refl _))]) (fun k i hi => by
      have e8 := (h.2.1.2.2.2.1 i (by omega)).1
      show f_X4_cellsOutsideBounds_4 σ (k + 1) (N4 (outB m i (m 2) (m 3))) (N4 i) = f_X4_cellsOutsideBounds_4 σ k (N4 (outB m (i + 1) (m 2) (m 3))) (N4 (i + 1))
      have hs : outB m (i + 1) (m 2) (m 3) = outB m i (m 2) (m 3) + if (!decide (m 2 ≤ m (8 + i) ∧ m (8 + i) ≤ m 3)) = true then 1 else 0 := rfl
      have hq : (m 2 ≤ m (8 + i) ∧ m (8 + i) ≤ m 3) ↔ (σ.1 1 2 ≤ σ.1 2 i ∧ σ.1 2 i ≤ σ.1 1 3) := by
        rw [e2, e3, e8, Int32.toInt64_le, Int32.toInt64_le]
      rw [f_X4_cellsOutsideBounds_4, c_cells h, bd_s, if_neg (fun q => by have := (n4_le (by omega) (by omega)).mp q; omega), gd_inb (by omega) (by omega), n4_nat (by omega), c_within, bd_s, n4_succ, n4_succ, hs]
      by_cases q : σ.1 1 2 ≤ σ.1 2 i ∧ σ.1 2 i ≤ σ.1 1 3
      · rw [if_neg (b4_t q), if_neg (by rw [decide_eq_true (hq.mpr q)]; decide)]; rfl
      · rw [if_pos (b4_f q), if_pos (by rw [decide_eq_false (fun y => q (hq.mp y))]; rfl)]) 100000 0 (by omega) (by omega)
  have key' : f_X4_cellsOutsideBounds_4 σ 100000 0 0 = _ := key
  unfold f_X4_cellsOutsideBounds
  rw [key', bd_s]
theorem absC (v : Int64) : (if 0 < v then v else -v) = abs8 v := by
  unfold abs8
  by_cases h : 0 < v
  · rw [if_pos h, if_pos (Int64.le_of_lt h)]
  · rw [if_neg h]
    by_cases h2 : 0 ≤ v
    · have : v = 0 := Int64.le_antisymm (Int64.not_lt.mp h) h2
      rw [if_pos h2, this]; rfl
    · rw [if_neg h2]
theorem c_misfit {r : Nat} (h : CS σ m W H n) (hr : r < n) : ∃ τ, f_X9_find (N4 r) σ = some (wtm m W H r, τ) ∧ CQ σ τ m W H n ∧ (if 0 < σ.2 6 r - wtm m W H r then σ.2 6 r - wtm m W H r else -(σ.2 6 r - wtm m W H r)) = resA m W H r := by
  have hn := h.1.1.2.2.2.2.2.2.2
  obtain ⟨τ, a1, a2, -⟩ := c_find' h hr
  refine ⟨τ, a1, a2, ?_⟩
  rw [absC, cs_obs h (by omega)]
  rfl
theorem c_misfitSum (h : CS σ m W H n) : ∃ τ, f_X4_misfitSum σ = some ((fitS m W H n).1, τ) ∧ CQ σ τ m W H n := by
  have hn := h.1.1.2.2.2.2.2.2.2
  obtain ⟨⟨q1, τ⟩, a1, a2, a3⟩ := loopU (fun k i (a : Int64 × Mem) => f_X4_misfitSum_4 k a.1 (N4 i) a.2) n (fun i a => a.1 = (fitS m W H i).1 ∧ CQ σ a.2 m W H n) (fun a => a.1 = (fitS m W H n).1 ∧ CQ σ a.2 m W H n) (by
      rintro k ⟨a, τ⟩ ⟨p1, p2⟩
      obtain ⟨-, -, w7⟩ := cs_W (CQ.cs h p2)
      refine ⟨(a, τ), ?_, p1, p2⟩
      show f_X4_misfitSum_4 (k + 1) a (N4 n) τ = some (a, τ)
      rw [f_X4_misfitSum_4, w7, if_pos ((n4_le (by omega) (by omega)).mpr (Nat.le_refl _))]) (by
      rintro k i ⟨a, τ⟩ hi ⟨p1, p2⟩
      have ht := CQ.cs h p2
      obtain ⟨-, -, w7⟩ := cs_W ht
      have p1' : a = (fitS m W H i).1 := p1
      show ∃ a' : Int64 × Mem, f_X4_misfitSum_4 (k + 1) a (N4 i) τ = _ ∧ _
      rw [f_X4_misfitSum_4, w7, if_neg (fun q => by have := (n4_le (by omega) (by omega)).mp q; omega), c_isActive ht (by omega), bd_s, n4_succ]
      by_cases q : actR m i = true
      · obtain ⟨ρ, r1, r2, r3⟩ := c_misfit ht hi
        rw [if_neg (fun e => by rw [act_b.mp e] at q; cases q), gd_inb (by omega) (by omega), n4_nat (by omega), r1, bd_s, r3]
        refine ⟨(a + resA m W H i, ρ), rfl, ?_, p2.trans r2⟩
        show a + _ = (if actR m i = true then _ else _ : Int64 × Int64 × Int64).1
        rw [if_pos q, p1']
      · rw [if_pos (act_b.mpr (eq_false_of_ne_true q))]
        refine ⟨(a, τ), rfl, ?_, p2⟩
        show a = (if actR m i = true then _ else _ : Int64 × Int64 × Int64).1
        rw [if_neg q, p1']) 100000 0 (0, σ) (by omega) (by omega) ⟨rfl, CQ.rfl h⟩
  obtain rfl : q1 = _ := a2
  have a1' : f_X4_misfitSum_4 100000 0 0 σ = _ := a1
  unfold f_X4_misfitSum
  rw [a1', bd_s]
  exact ⟨τ, rfl, a3⟩
theorem resA_pos {r : Nat} (hV : Val m W H n) (hr : r < n) : (0 : Int64) ≤ resA m W H r := by
  have hn := hV.1.2.2.2.2.2.2.2
  obtain ⟨o1, o2, o3⟩ := hV.2.2.2.1.lt hV.1 hr
  obtain ⟨b1, b2⟩ := dsl_bd hV (Or.inl rfl : (8 : Nat) = 8 ∨ (8 : Nat) = 72) o1 o2
  obtain ⟨z, z1, z2, z3⟩ := hV.2.2.2.2.2.2 r (by omega)
  unfold resA abs8 wtm
  rw [z1, z8_sub]
  have hi : (Z8 (z - dsl m W H 8 (frc m W r) (toc m W r))).toInt = z - dsl m W H 8 (frc m W r) (toc m W r) := z8_int (by omega) (by omega)
  by_cases c : (0 : Int64) ≤ Z8 (z - dsl m W H 8 (frc m W r) (toc m W r))
  · rw [if_pos c]; exact c
  · rw [if_neg c]
    have h0 : (0 : Int64).toInt = 0 := by decide
    rw [Int64.le_iff_toInt_le, hi, h0] at c
    rw [Int64.le_iff_toInt_le, h0, show -Z8 (z - dsl m W H 8 (frc m W r) (toc m W r)) = Z8 (-(z - dsl m W H 8 (frc m W r) (toc m W r))) from (Int64.ofInt_neg _).symm, z8_int (by omega) (by omega)]
    omega
/-- worst ray so far, in the class's and the reference's words -/
def Wor (m : Nat → Int64) (W H i : Nat) (x1 : Int32) (x2 : Int64) : Prop := (x1 = -1 ∧ x2 = -1 ∧ (fitS m W H i).2 = (0, -1)) ∨ ∃ w, w < i ∧ x1 = N4 w ∧ x2 = resA m W H w ∧ (fitS m W H i).2 = (x2, N8 w)
theorem c_worst (h : CS σ m W H n) : ∃ x1 x2 τ, f_X4_worstRay σ = some (x1, τ) ∧ Wor m W H n x1 x2 ∧ CQ σ τ m W H n := by
  have hn := h.1.1.2.2.2.2.2.2.2
  obtain ⟨⟨q1, τ⟩, a1, x2, a2, a3⟩ := loopU (fun k i (a : Int32 × Int64 × Mem) => f_X4_worstRay_9 k a.1 a.2.1 (N4 i) a.2.2) n (fun i a => Wor m W H i a.1 a.2.1 ∧ CQ σ a.2.2 m W H n) (fun a => ∃ x2, Wor m W H n a.1 x2 ∧ CQ σ a.2 m W H n) (by
      rintro k ⟨a, b, τ⟩ ⟨p1, p2⟩
      obtain ⟨-, -, w7⟩ := cs_W (CQ.cs h p2)
      refine ⟨(a, τ), ?_, b, p1, p2⟩
      show f_X4_worstRay_9 (k + 1) a b (N4 n) τ = some (a, τ)
      rw [f_X4_worstRay_9, w7, if_pos ((n4_le (by omega) (by omega)).mpr (Nat.le_refl _))]) (by
      rintro k i ⟨a, b, τ⟩ hi ⟨p1, p2⟩
      have ht := CQ.cs h p2
      obtain ⟨-, -, w7⟩ := cs_W ht
      have p1' : Wor m W H i a b := p1
      have hf : fitS m W H (i + 1) = if actR m i = true then ((fitS m W H i).1 + resA m W H i, if resA m W H i ≤ (fitS m W H i).2.1 then (fitS m W H i).2.1 else resA m W H i, if (fitS m W H i).2.2 = -1 then N8 i else if resA m W H i ≤ (fitS m W H i).2.1 then (fitS m W H i).2.2 else N8 i) else fitS m W H i := rfl
      have hpos := resA_pos h.1 hi
      show ∃ a' : Int32 × Int64 × Mem, f_X4_worstRay_9 (k + 1) a b (N4 i) τ = _ ∧ _
      rw [f_X4_worstRay_9, w7, if_neg (fun q => by have := (n4_le (by omega) (by omega)).mp q; omega), c_isActive ht (by omega), bd_s, n4_succ]
      by_cases q : actR m i = true
      · obtain ⟨ρ, r1, r2, r3⟩ := c_misfit ht hi
        rw [if_pos q] at hf
        rw [if_neg (fun e => by rw [act_b.mp e] at q; cases q), gd_inb (by omega) (by omega), n4_nat (by omega), r1, bd_s, r3]
        rcases p1' with ⟨w1, w2, w3⟩ | ⟨w, w1, w2, w3, w4⟩
        · rw [w2, if_neg (show ¬ resA m W H i ≤ -1 from fun e => absurd (Int64.le_trans hpos e) (by decide))]
          refine ⟨(_, _, ρ), rfl, Or.inr ⟨i, by omega, rfl, rfl, ?_⟩, p2.trans r2⟩
          rw [hf, w3]
          show ((if resA m W H i ≤ 0 then (0 : Int64) else resA m W H i), (if (-1 : Int64) = -1 then N8 i else _)) = (resA m W H i, N8 i)
          rw [if_pos rfl]
          by_cases z : resA m W H i ≤ 0
          · rw [if_pos z, Int64.le_antisymm z hpos]
          · rw [if_neg z]
        · have e1 : (fitS m W H i).2.1 = b := by rw [w4]
          have e2 : (fitS m W H i).2.2 = N8 w := by rw [w4]
          have hne : ¬ N8 w = -1 := fun e => by
            have := congrArg Int64.toInt e
            rw [n8_int (by omega)] at this
            have h1 : (-1 : Int64).toInt = -1 := by decide
            omega
          rw [e1, e2, if_neg hne] at hf
          by_cases c : resA m W H i ≤ b
          · rw [if_pos c]
            rw [if_pos c, if_pos c] at hf
            exact ⟨(_, _, ρ), rfl, Or.inr ⟨w, by omega, w2, w3, by rw [hf]⟩, p2.trans r2⟩
          · rw [if_neg c]
            rw [if_neg c, if_neg c] at hf
            exact ⟨(N4 i, resA m W H i, ρ), rfl, Or.inr ⟨i, by omega, rfl, rfl, by rw [hf]⟩, p2.trans r2⟩
      · rw [if_neg q] at hf
        rw [if_pos (act_b.mpr (eq_false_of_ne_true q))]
        refine ⟨(a, b, τ), rfl, ?_, p2⟩
        rcases p1' with ⟨w1, w2, w3⟩ | ⟨w, w1, w2, w3, w4⟩
        · exact Or.inl ⟨w1, w2, by rw [hf]; exact w3⟩
        · exact Or.inr ⟨w, by omega, w2, w3, by rw [hf]; exact w4⟩) 100000 0 (-1, -1, σ) (by omega) (by omega) ⟨Or.inl ⟨rfl, rfl, rfl⟩, CQ.rfl h⟩
  have a1' : f_X4_worstRay_9 100000 (-1) (-1) 0 σ = _ := a1
  refine ⟨q1, x2, τ, ?_, a2, a3⟩
  unfold f_X4_worstRay
  rw [a1', bd_s]
theorem c_greatest (h : CS σ m W H n) : ∃ τ, f_X4_greatestMisfit σ = some ((fitS m W H n).2.1, τ) ∧ CQ σ τ m W H n := by
  have hn := h.1.1.2.2.2.2.2.2.2
  obtain ⟨x1, x2, τ, a1, a2, a3⟩ := c_worst h
  unfold f_X4_greatestMisfit
  rw [a1, bd_s]
  rcases a2 with ⟨w1, w2, w3⟩ | ⟨w, w1, w2, w3, w4⟩
  · rw [if_pos w1, w3]
    exact ⟨τ, rfl, a3⟩
  · obtain ⟨ρ, r1, r2, r3⟩ := c_misfit (CQ.cs h a3) w1
    rw [w2, if_neg (n4_neg (by omega)), gd_inb (by omega) (by omega), r1, bd_s, n4_nat (by omega), r3, w4, w3]
    exact ⟨ρ, rfl, a3.trans r2⟩
theorem c_worst64 (h : CS σ m W H n) : ∃ x1 τ, f_X4_worstRay σ = some (x1, τ) ∧ x1.toInt64 = (fitS m W H n).2.2 ∧ CQ σ τ m W H n := by
  have hn := h.1.1.2.2.2.2.2.2.2
  obtain ⟨x1, x2, τ, a1, a2, a3⟩ := c_worst h
  refine ⟨x1, τ, a1, ?_, a3⟩
  rcases a2 with ⟨w1, w2, w3⟩ | ⟨w, w1, w2, w3, w4⟩
  · rw [w1, w3]; rfl
  · rw [w2, w4, n4_64 (by omega)]
theorem c_slowSum (h : CS σ m W H n) : f_X4_slownessSum σ = some (sum8 (fun c => m (8 + c)) (W * H)) := by
  have hK := h.1.1.K
  have key := loopF (fun k i (a : Int64) => f_X4_slownessSum_4 σ k a (N4 i)) (W * H) (fun i => sum8 (fun c => m (8 + c)) i) (sum8 (fun c => m (8 + c)) (W * H)) (fun k => by
      show f_X4_slownessSum_4 σ (k + 1) _ (N4 (W * H)) = _
      rw [f_X4_slownessSum_4, c_cells h, bd_s, if_pos ((n4_le (by omega) (by omega)).mpr (Nat.le_refl _))]) (fun k i hi => by
      show f_X4_slownessSum_4 σ (k + 1) (sum8 (fun c => m (8 + c)) i) (N4 i) = f_X4_slownessSum_4 σ k (sum8 (fun c => m (8 + c)) (i + 1)) (N4 (i + 1))
      rw [f_X4_slownessSum_4, c_cells h, bd_s, if_neg (fun q => by have := (n4_le (by omega) (by omega)).mp q; omega), gd_inb (by omega) (by omega), n4_nat (by omega), ← (h.2.1.2.2.2.1 i (by omega)).1, n4_succ]
      rfl) 100000 0 (by omega) (by omega)
  have key' : f_X4_slownessSum_4 σ 100000 0 0 = _ := key
  unfold f_X4_slownessSum
  rw [key', bd_s]
theorem abs_diff {a b : Nat} (ha : a ≤ 100000) (hb : b ≤ 100000) : (if (0 : Int32) ≤ N4 a - N4 b then N4 a - N4 b else 0 - (N4 a - N4 b)).toInt64 = abs8 (N8 a - N8 b) := by
  have h1 : (N4 a - N4 b).toInt = (a : Int) - b := n4_subI (by omega) (by omega)
  have h2 : (N8 a - N8 b).toInt = (a : Int) - b := by rw [z8_n, z8_n, z8_sub, z8_int (by omega) (by omega)]
  have z4 : (0 : Int32).toInt = 0 := by decide
  have z8' : (0 : Int64).toInt = 0 := by decide
  apply Int64.toInt.inj
  unfold abs8
  by_cases c : (b : Int) ≤ a
  · rw [if_pos (Int32.le_iff_toInt_le.mpr (by rw [z4, h1]; omega)), if_pos (Int64.le_iff_toInt_le.mpr (by rw [z8', h2]; omega)), Int32.toInt_toInt64, h1, h2]
  · rw [if_neg (fun e => c (by have := Int32.le_iff_toInt_le.mp e; rw [z4, h1] at this; omega)), if_neg (fun e => c (by have := Int64.le_iff_toInt_le.mp e; rw [z8', h2] at this; omega)), Int32.toInt_toInt64, Int32.toInt_sub, h1, z4, Int64.toInt_neg, h2]
    rw [Int.bmod_eq_of_le (by omega) (by omega), Int.bmod_eq_of_le (by omega) (by omega)]
    omega
theorem c_dist (h : CS σ m W H n) : f_X4_distanceFromTruth σ = some (sum8 (fun c => abs8 (m (8 + c) - m (72 + c))) (W * H)) := by
  have hK := h.1.1.K
  have key := loopF (fun k i (a : Int64) => f_X4_distanceFromTruth_4 σ k a (N4 i)) (W * H) (fun i => sum8 (fun c => abs8 (m (8 + c) - m (72 + c))) i) (sum8 (fun c => abs8 (m (8 + c) - m (72 + c))) (W * H)) (fun k => by
      show f_X4_distanceFromTruth_4 σ (k + 1) _ (N4 (W * H)) = _
      rw [f_X4_distanceFromTruth_4, c_cells h, bd_s, if_pos ((n4_le (by omega) (by omega)).mpr (Nat.le_refl _))]) (fun k i hi => by
      obtain ⟨a, a1, a2, a3⟩ := slo_n h.1.2.1 (show i < 64 by omega)
      obtain ⟨b, b1, b2, b3⟩ := slo_n h.1.2.2.1 (show i < 64 by omega)
      obtain ⟨s1, s2⟩ := h.2.1.2.2.2.1 i (by omega)
      have e1 : σ.1 2 i = N4 a := i64_n4 (by rw [← a1]; exact s1)
      have e2 : σ.1 3 i = N4 b := i64_n4 (by rw [← b1]; exact s2)
      show f_X4_distanceFromTruth_4 σ (k + 1) (sum8 (fun c => abs8 (m (8 + c) - m (72 + c))) i) (N4 i) = f_X4_distanceFromTruth_4 σ k (sum8 (fun c => abs8 (m (8 + c) - m (72 + c))) i + abs8 (m (8 + i) - m (72 + i))) (N4 (i + 1))
      rw [f_X4_distanceFromTruth_4, c_cells h, bd_s, if_neg (fun q => by have := (n4_le (by omega) (by omega)).mp q; omega), gd_inb (by omega) (by omega), gd_inb (by omega) (by omega), n4_nat (by omega), e1, e2, abs_diff a3 b3, a1, b1, n4_succ]) 100000 0 (by omega) (by omega)
  have key' : f_X4_distanceFromTruth_4 σ 100000 0 0 = _ := key
  unfold f_X4_distanceFromTruth
  rw [key', bd_s]
end CREAD
