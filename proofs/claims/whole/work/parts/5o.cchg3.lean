/-! ===== the class: smooth, fill, times taken ===== -/
section CCHG3
variable {σ : Mem} {W H n : Nat} {m m' : Nat → Int64}
theorem cs_scr {τ : Mem} (h : CS σ m W H n) (hI : ∀ q, q < 182 → τ.1 q = σ.1 q) (hL : ∀ q, q < 182 → τ.2 q = σ.2 q) : CS τ m W H n :=
  ⟨h.1, h.2.1.of (fun q _ _ => hI q (by omega)) (fun q _ _ => hL q (by omega)), h.2.2.1.of (fun q _ _ => hI q (by omega)) h.1.1.K.2, cch_of h.2.2.2 (fun q _ _ => hI q (by omega)) (hL 146 (by omega)) h.1.1.2.2.2.2.2.2.2⟩
/-- the neighbours of c, as the class has them -/
theorem nb_facts {c : Nat} (h : CS σ m W H n) (hc : c < W * H) : (nbs W (W * H) c).length ≤ 8 ∧ σ.1 9 c = N4 (nbs W (W * H) c).length ∧ (∀ i, i < (nbs W (W * H) c).length → (nbs W (W * H) c).getD i 0 < W * H ∧ mv W c ((nbs W (W * H) c).getD i 0) ≠ 0 ∧ σ.1 (11 + 1 * c) i = N4 ((nbs W (W * H) c).getD i 0) ∧ σ.1 (76 + 1 * c) i = N4 (mv W c ((nbs W (W * H) c).getD i 0)) ∧ memb (fun j => (nbs W (W * H) c).getD j 0) i ((nbs W (W * H) c).getD i 0) = false) ∧ ∀ o, o < W * H → (memb (fun j => (nbs W (W * H) c).getD j 0) (nbs W (W * H) c).length o = true ↔ mv W c o ≠ 0) := by
  have hK := h.1.1.K
  obtain ⟨g1, g2⟩ := h.2.2.1.2 c hc
  refine ⟨nbs_len W (by have := h.1.1.2.2.2.2.1; omega) H (by have := h.1.1.2.2.2.2.2.2.1; omega) c (by omega) h.1.1.2.2.2.1, g1, fun i hi => ?_, fun o ho => ?_⟩
  · obtain ⟨n1, n2⟩ := nbs_get hi
    refine ⟨n1, n2, (g2 i hi).1, (g2 i hi).2, eq_false_of_ne_true (fun e => ?_)⟩
    obtain ⟨j, j1, j2⟩ := (memb_iff _ _ i).mp e
    have := nodup_getD (nbs_nodup W (W * H) c) (show j < _ by omega) hi j2
    omega
  · rw [memb_iff]
    constructor
    · rintro ⟨j, j1, j2⟩
      rw [← j2]; exact (nbs_get j1).2
    · intro e
      exact mem_getD (nbs_mem.mpr ⟨ho, e⟩)
theorem c_smo33 {c k : Nat} {x1 : Int32} (h : CS σ m W H n) (hc : c < W * H) (hk : k ≤ 100) : f_X1_smoothOut_33 x1 (N4 c) σ 100000 (N8 k * m (8 + c)) (N4 k) (N4 0) = some (smoS m W (W * H) c k, N4 (smoN W (W * H) c k)) := by
  have hK := h.1.1.K
  obtain ⟨f1, f2, f3, f4⟩ := nb_facts h hc
  obtain ⟨b1, b2⟩ := sh_nb c (by omega)
  generalize hnl : nbs W (W * H) c = nl at *
  have key := loopF (fun q i (a : Int64 × Int32) => f_X1_smoothOut_33 x1 (N4 c) σ q a.1 a.2 (N4 i)) nl.length (fun i => (N8 k * m (8 + c) + sum8 (fun o => if memb (fun j => nl.getD j 0) i o = true then (if mv W c o = 1000 then m (8 + o) else 0) else 0) (W * H), N4 (k + cnt (fun o => memb (fun j => nl.getD j 0) i o && decide (mv W c o = 1000)) (W * H)))) (smoS m W (W * H) c k, N4 (smoN W (W * H) c k)) (fun q => by
      show f_X1_smoothOut_33 x1 (N4 c) σ (q + 1) _ _ (N4 nl.length) = _
      rw [f_X1_smoothOut_33, gd_inb (by omega) (by omega), n4_nat (by omega), f2, if_pos ((n4_le (by omega) (by omega)).mpr (Nat.le_refl _))]
      have e1 : sum8 (fun o => if memb (fun j => nl.getD j 0) nl.length o = true then (if mv W c o = 1000 then m (8 + o) else 0) else 0) (W * H) = sum8 (fun o => if mv W c o = 1000 then m (8 + o) else 0) (W * H) := sum8_congr fun o ho => by
        by_cases e : mv W c o = 1000
        · rw [if_pos ((f4 o ho).mpr (by omega))]
        · rw [if_neg e]
          split <;> rfl
      have e2 : cnt (fun o => memb (fun j => nl.getD j 0) nl.length o && decide (mv W c o = 1000)) (W * H) = cnt (fun o => decide (mv W c o = 1000)) (W * H) := cnt_congr fun o ho => by
        by_cases e : mv W c o = 1000
        · rw [(f4 o ho).mpr (by omega), Bool.true_and]
        · rw [decide_eq_false e, Bool.and_false]
      unfold smoS smoN
      rw [e1, e2]) (fun q i hi => by
      obtain ⟨n1, n2, n3, n4, n5⟩ := f3 i hi
      show f_X1_smoothOut_33 x1 (N4 c) σ (q + 1) (N8 k * m (8 + c) + sum8 (fun o => if memb (fun j => nl.getD j 0) i o = true then (if mv W c o = 1000 then m (8 + o) else 0) else 0) (W * H)) (N4 (k + cnt (fun o => memb (fun j => nl.getD j 0) i o && decide (mv W c o = 1000)) (W * H))) (N4 i) = f_X1_smoothOut_33 x1 (N4 c) σ q (N8 k * m (8 + c) + sum8 (fun o => if setD (memb (fun j => nl.getD j 0) i) (nl.getD i 0) o = true then (if mv W c o = 1000 then m (8 + o) else 0) else 0) (W * H)) (N4 (k + cnt (fun o => setD (memb (fun j => nl.getD j 0) i) (nl.getD i 0) o && decide (mv W c o = 1000)) (W * H))) (N4 (i + 1))
      have hmv : mv W c (nl.getD i 0) < 2000 := by rcases mv_cases W c (nl.getD i 0) with e | e | e <;> omega
      rw [sum8_setD n5 _ n1, cnt_setD2 n5 _ n1, ← Int64.add_assoc, ← Nat.add_assoc]
      rw [f_X1_smoothOut_33, gd_inb (by omega) (by omega), n4_nat (by omega), f2, if_neg (fun e => by have := (n4_le (by omega) (by omega)).mp e; omega), gd_inb (by omega) (by omega), gd_t b2.1, b2.2, gd_inb (by omega) (by omega), n4_nat (by omega), n4]
      by_cases e : mv W c (nl.getD i 0) = 1000
      · rw [if_pos (show N4 (mv W c (nl.getD i 0)) = 1000 by rw [e]; rfl), gd_inb (by omega) (by omega), gd_t b1.1, b1.2, gd_inb (by omega) (by omega), n3, gd_inb (by omega) (by omega), n4_nat (by omega), ← (h.2.1.2.2.2.1 _ (by omega)).1, n4_succ, n4_succ, if_pos e, if_pos (decide_eq_true e)]
      · rw [if_neg (show ¬ N4 (mv W c (nl.getD i 0)) = 1000 from fun y => e ((n4_eq (b := 1000) (by omega) (by omega)).mp y)), n4_succ, if_neg e, if_neg (by rw [decide_eq_false e]; decide), Int64.add_zero]
        rfl) 100000 0 (by omega) (by omega)
  have e0 : N8 k * m (8 + c) + sum8 (fun o => if memb (fun j => nl.getD j 0) 0 o = true then (if mv W c o = 1000 then m (8 + o) else 0) else 0) (W * H) = N8 k * m (8 + c) := by
    have : ∀ K, sum8 (fun o => if memb (fun j => nl.getD j 0) 0 o = true then (if mv W c o = 1000 then m (8 + o) else 0) else 0) K = 0 := fun K => by
      induction K with
      | zero => rfl
      | succ K ih => simp only [sum8]; rw [ih, show memb (fun j => nl.getD j 0) 0 K = false from rfl, if_neg (by decide)]; rfl
    rw [this, Int64.add_zero]
  have e1 : cnt (fun o => memb (fun j => nl.getD j 0) 0 o && decide (mv W c o = 1000)) (W * H) = 0 := by
    have : ∀ K, cnt (fun o => memb (fun j => nl.getD j 0) 0 o && decide (mv W c o = 1000)) K = 0 := fun K => cnt_false K
    exact this _
  have key' : f_X1_smoothOut_33 x1 (N4 c) σ 100000 (N8 k * m (8 + c) + sum8 (fun o => if memb (fun j => nl.getD j 0) 0 o = true then (if mv W c o = 1000 then m (8 + o) else 0) else 0) (W * H)) (N4 (k + cnt (fun o => memb (fun j => nl.getD j 0) 0 o && decide (mv W c o = 1000)) (W * H))) (N4 0) = _ := key
  rw [e0, e1, Nat.add_zero] at key'
  exact key'
theorem c_smooth {k : Nat} (h : CS σ m W H n) (hk : 1 ≤ k) (hk2 : k ≤ 100) : ∃ τ, f_X1_smoothOut (N4 k) σ = some (N4 (chg m (mSmo m W (W * H) k) 8 (W * H)), τ) ∧ CS τ (mSmo m W (W * H) k) W H n ∧ Fk σ τ := by
  have hK := h.1.1.K
  obtain ⟨τ, a1, a2, a3, a4⟩ := loopU (fun q i τ => f_X1_smoothOut_2 (N4 k) q (N4 i) τ) (W * H) (fun i τ => (∀ q, q ≠ 184 → τ.1 q = σ.1 q) ∧ τ.2 = σ.2 ∧ ∀ c, c < i → smoV m W (W * H) k c = (τ.1 184 c).toInt64) (fun τ => (∀ q, q ≠ 184 → τ.1 q = σ.1 q) ∧ τ.2 = σ.2 ∧ ∀ c, c < W * H → smoV m W (W * H) k c = (τ.1 184 c).toInt64) (by
      intro q τ hP
      refine ⟨τ, ?_, hP⟩
      show f_X1_smoothOut_2 (N4 k) (q + 1) (N4 (W * H)) τ = some τ
      rw [f_X1_smoothOut_2, c_cellsR h (hP.1 1 (by omega)), bd_s, if_pos ((n4_le (by omega) (by omega)).mpr (Nat.le_refl _))]) (by
      intro q i τ hi hP
      obtain ⟨p1, p2, p3⟩ := hP
      have ht : CS τ m W H n := cs_scr h (fun q hq => p1 q (by omega)) (fun q _ => by rw [p2])
      obtain ⟨v, v1, v2, v3⟩ := smoV_n h.1 hk hk2 hi
      have hb := smoN_bd (W := W) (c := i) hk hk2 hK.2
      have s33 := c_smo33 (x1 := N4 k) ht hi hk2
      have s33' : f_X1_smoothOut_33 (N4 k) (N4 i) τ 100000 (N8 k * m (8 + i)) (N4 k) 0 = _ := s33
      show ∃ a', f_X1_smoothOut_2 (N4 k) (q + 1) (N4 i) τ = _ ∧ _
      rw [f_X1_smoothOut_2, c_cells ht, bd_s, if_neg (fun e => by have := (n4_le (by omega) (by omega)).mp e; omega), gd_inb (by omega) (by omega), n4_nat (by omega), n4_64 (by omega), ← (ht.2.1.2.2.2.1 i (by omega)).1, s33', bd_s, n4_64 (by omega), c_rq (by omega) (by omega), bd_s, gd_inb (by omega) (by omega), n4_succ]
      refine ⟨_, rfl, fun q hq => by rw [mI_p hq]; exact p1 q hq, p2, fun c hc => ?_⟩
      by_cases e : c = i
      · rw [e, mI_e]
        have hv : rnd8 (smoS m W (W * H) i k) (N8 (smoN W (W * H) i k)) = N8 v := v1
        rw [hv, n8_32, n4_64 (by omega)]
        exact v1
      · rw [mI_j e]; exact p3 c (by omega)) 100000 0 σ (by omega) (by omega) ⟨fun _ _ => rfl, rfl, fun c hc => by omega⟩
  have ht : CS τ m W H n := cs_scr h (fun q hq => a2 q (by omega)) (fun q _ => by rw [a3])
  have hF : Fk σ τ := ⟨fun q j hq => by rw [a2 q (fun e => hq (by unfold ckI; omega))], fun q j _ => by rw [a3]⟩
  obtain ⟨ρ, b1, b2, b3⟩ := c_takeOver (x1 := 2) (Or.inl ⟨rfl, rfl⟩) ht a4 (val_smo h.1 hk hk2)
  have a1' : f_X1_smoothOut_2 (N4 k) 100000 0 σ = some τ := a1
  unfold f_X1_smoothOut
  rw [a1', bd_s, b1, bd_s]
  exact ⟨ρ, rfl, b2, hF.trans b3⟩
/-! fill -/
theorem c_mean8 {c : Nat} (h : CS σ m W H n) (hc : c < W * H) (h185 : ∀ c, c < W * H → σ.1 185 c = N4 (cvr m W H c n)) : f_X1_meanAround_8 (N4 c) σ 100000 0 (N4 0) (N4 0) = some (filS m W H n c (W * H), N4 (filN m W H n c (W * H))) := by
  have hK := h.1.1.K
  have hn := h.1.1.2.2.2.2.2.2.2
  obtain ⟨f1, f2, f3, f4⟩ := nb_facts h hc
  obtain ⟨b1, b2⟩ := sh_nb c (by omega)
  generalize hnl : nbs W (W * H) c = nl at *
  have key := loopF (fun q i (a : Int64 × Int32) => f_X1_meanAround_8 (N4 c) σ q a.1 a.2 (N4 i)) nl.length (fun i => (sum8 (fun o => if memb (fun j => nl.getD j 0) i o = true then (if 0 < cvr m W H o n then m (8 + o) else 0) else 0) (W * H), N4 (cnt (fun o => memb (fun j => nl.getD j 0) i o && decide (0 < cvr m W H o n)) (W * H)))) (filS m W H n c (W * H), N4 (filN m W H n c (W * H))) (fun q => by
      show f_X1_meanAround_8 (N4 c) σ (q + 1) _ _ (N4 nl.length) = _
      rw [f_X1_meanAround_8, gd_inb (by omega) (by omega), n4_nat (by omega), f2, if_pos ((n4_le (by omega) (by omega)).mpr (Nat.le_refl _))]
      have e1 : sum8 (fun o => if memb (fun j => nl.getD j 0) nl.length o = true then (if 0 < cvr m W H o n then m (8 + o) else 0) else 0) (W * H) = filS m W H n c (W * H) := sum8_congr fun o ho => by
        unfold filP
        simp only [decide_eq_true_eq]
        by_cases e : mv W c o ≠ 0
        · rw [if_pos ((f4 o ho).mpr e)]
          by_cases e2 : 0 < cvr m W H o n
          · rw [if_pos e2, if_pos ⟨e, e2⟩]
          · rw [if_neg e2, if_neg (fun y => e2 y.2)]
        · rw [if_neg (fun y => e ((f4 o ho).mp y)), if_neg (fun y => e y.1)]
      have e2 : cnt (fun o => memb (fun j => nl.getD j 0) nl.length o && decide (0 < cvr m W H o n)) (W * H) = filN m W H n c (W * H) := cnt_congr fun o ho => by
        unfold filP
        by_cases e : mv W c o ≠ 0
        · rw [(f4 o ho).mpr e, Bool.true_and]
          by_cases e2 : 0 < cvr m W H o n
          · rw [decide_eq_true e2, decide_eq_true ⟨e, e2⟩]
          · rw [decide_eq_false e2, decide_eq_false (fun y => e2 y.2)]
        · rw [eq_false_of_ne_true (fun y => e ((f4 o ho).mp y)), Bool.false_and, decide_eq_false (fun y => e y.1)]
      rw [e1, e2]) (fun q i hi => by
      obtain ⟨n1, n2, n3, n4, n5⟩ := f3 i hi
      have hcv : cvr m W H (nl.getD i 0) n ≤ n := cnt_le _ n
      show f_X1_meanAround_8 (N4 c) σ (q + 1) (sum8 (fun o => if memb (fun j => nl.getD j 0) i o = true then (if 0 < cvr m W H o n then m (8 + o) else 0) else 0) (W * H)) (N4 (cnt (fun o => memb (fun j => nl.getD j 0) i o && decide (0 < cvr m W H o n)) (W * H))) (N4 i) = f_X1_meanAround_8 (N4 c) σ q (sum8 (fun o => if setD (memb (fun j => nl.getD j 0) i) (nl.getD i 0) o = true then (if 0 < cvr m W H o n then m (8 + o) else 0) else 0) (W * H)) (N4 (cnt (fun o => setD (memb (fun j => nl.getD j 0) i) (nl.getD i 0) o && decide (0 < cvr m W H o n)) (W * H))) (N4 (i + 1))
      rw [sum8_setD n5 _ n1, cnt_setD2 n5 _ n1]
      rw [f_X1_meanAround_8, gd_inb (by omega) (by omega), n4_nat (by omega), f2, if_neg (fun e => by have := (n4_le (by omega) (by omega)).mp e; omega), gd_inb (by omega) (by omega), gd_t b1.1, b1.2, gd_inb (by omega) (by omega), n4_nat (by omega), n3, gd_inb (by omega) (by omega), n4_nat (by omega), h185 _ n1]
      by_cases e : 0 < cvr m W H (nl.getD i 0) n
      · rw [if_neg (show ¬ N4 (cvr m W H (nl.getD i 0) n) ≤ 0 from fun y => by have := (n4_le (b := 0) (by omega) (by omega)).mp y; omega), gd_inb (by omega) (by omega), ← (h.2.1.2.2.2.1 _ (by omega)).1, n4_succ, n4_succ, if_pos e, if_pos (decide_eq_true e)]
      · rw [if_pos (show N4 (cvr m W H (nl.getD i 0) n) ≤ 0 from (n4_le (b := 0) (by omega) (by omega)).mpr (by omega)), n4_succ, if_neg e, if_neg (by rw [decide_eq_false e]; decide), Int64.add_zero]
        rfl) 100000 0 (by omega) (by omega)
  have e0 : sum8 (fun o => if memb (fun j => nl.getD j 0) 0 o = true then (if 0 < cvr m W H o n then m (8 + o) else 0) else 0) (W * H) = 0 := by
    have : ∀ K, sum8 (fun o => if memb (fun j => nl.getD j 0) 0 o = true then (if 0 < cvr m W H o n then m (8 + o) else 0) else 0) K = 0 := fun K => by
      induction K with
      | zero => rfl
      | succ K ih => simp only [sum8]; rw [ih, show memb (fun j => nl.getD j 0) 0 K = false from rfl, if_neg (by decide)]; rfl
    exact this _
  have e1 : cnt (fun o => memb (fun j => nl.getD j 0) 0 o && decide (0 < cvr m W H o n)) (W * H) = 0 := by
    have : ∀ K, cnt (fun o => memb (fun j => nl.getD j 0) 0 o && decide (0 < cvr m W H o n)) K = 0 := fun K => cnt_false K
    exact this _
  have key' : f_X1_meanAround_8 (N4 c) σ 100000 (sum8 (fun o => if memb (fun j => nl.getD j 0) 0 o = true then (if 0 < cvr m W H o n then m (8 + o) else 0) else 0) (W * H)) (N4 (cnt (fun o => memb (fun j => nl.getD j 0) 0 o && decide (0 < cvr m W H o n)) (W * H))) (N4 0) = _ := key
  rw [e0, e1] at key'
  exact key'
theorem c_fill1 (h : CS σ m W H n) : ∃ τ, f_X1_fillGaps_2 100000 (N4 0) σ = some τ ∧ CS τ m W H n ∧ Fk σ τ ∧ ∀ c, c < W * H → τ.1 185 c = N4 (cvr m W H c n) := by
  have hK := h.1.1.K
  refine loopU (fun q i τ => f_X1_fillGaps_2 q (N4 i) τ) (W * H) (fun i τ => CS τ m W H n ∧ Fk σ τ ∧ ∀ c, c < i → τ.1 185 c = N4 (cvr m W H c n)) (fun τ => CS τ m W H n ∧ Fk σ τ ∧ ∀ c, c < W * H → τ.1 185 c = N4 (cvr m W H c n)) (by
      intro q τ hP
      refine ⟨τ, ?_, hP⟩
      show f_X1_fillGaps_2 (q + 1) (N4 (W * H)) τ = some τ
      rw [f_X1_fillGaps_2, c_cells hP.1, bd_s, if_pos ((n4_le (by omega) (by omega)).mpr (Nat.le_refl _))]) (by
      intro q i τ hi hP
      obtain ⟨p1, p2, p3⟩ := hP
      obtain ⟨ρ, r1, r2⟩ := c_coverage (c := i) p1 (by omega)
      show ∃ a', f_X1_fillGaps_2 (q + 1) (N4 i) τ = _ ∧ _
      rw [f_X1_fillGaps_2, c_cells p1, bd_s, if_neg (fun e => by have := (n4_le (by omega) (by omega)).mp e; omega), r1, bd_s, gd_inb (by omega) (by omega), n4_nat (by omega), n4_succ]
      refine ⟨_, rfl, cs_scr (CQ.cs p1 r2) (fun q hq => mI_p (by omega)) (fun q _ => rfl), (p2.trans r2.1.k).i (by unfold ckI; omega), fun c hc => ?_⟩
      by_cases e : c = i
      · rw [e, mI_e]
      · rw [mI_j e, r2.1.1 185 c (by unfold cqI; omega)]; exact p3 c (by omega)) 100000 0 σ (by omega) (by omega) ⟨h, Fz.rfl, fun c hc => by omega⟩
theorem c_fillG (h : CS σ m W H n) : ∃ τ, f_X1_fillGaps σ = some (N4 (chg m (mFil m W H n) 8 (W * H)), τ) ∧ CS τ (mFil m W H n) W H n ∧ Fk σ τ := by
  have hK := h.1.1.K
  have hn := h.1.1.2.2.2.2.2.2.2
  obtain ⟨σ1, c1, c2, c3, c4⟩ := c_fill1 h
  obtain ⟨τ, a1, a2, a3, a4⟩ := loopU (fun q i τ => f_X1_fillGaps_35 q (N4 i) τ) (W * H) (fun i τ => (∀ q, q ≠ 184 → τ.1 q = σ1.1 q) ∧ τ.2 = σ1.2 ∧ ∀ c, c < i → filV m W H n c = (τ.1 184 c).toInt64) (fun τ => (∀ q, q ≠ 184 → τ.1 q = σ1.1 q) ∧ τ.2 = σ1.2 ∧ ∀ c, c < W * H → filV m W H n c = (τ.1 184 c).toInt64) (by
      intro q τ hP
      refine ⟨τ, ?_, hP⟩
      show f_X1_fillGaps_35 (q + 1) (N4 (W * H)) τ = some τ
      rw [f_X1_fillGaps_35, c_cellsR c2 (hP.1 1 (by omega)), bd_s, if_pos ((n4_le (by omega) (by omega)).mpr (Nat.le_refl _))]) (by
      intro q i τ hi hP
      obtain ⟨p1, p2, p3⟩ := hP
      have ht : CS τ m W H n := cs_scr c2 (fun q hq => p1 q (by omega)) (fun q _ => by rw [p2])
      have h185 : ∀ c, c < W * H → τ.1 185 c = N4 (cvr m W H c n) := fun c hc => by rw [p1 185 (by omega)]; exact c4 c hc
      have hcv : cvr m W H i n ≤ n := cnt_le _ n
      obtain ⟨v, v1, v2, v3⟩ := filV_n h.1 hi
      have e8 := (ht.2.1.2.2.2.1 i (by omega)).1
      have fin : ∀ x : Int32, filV m W H n i = x.toInt64 → ∃ a', f_X1_fillGaps_35 q (N4 i + 1) (setI τ 184 i x) = f_X1_fillGaps_35 q (N4 (i + 1)) a' ∧ (∀ q, q ≠ 184 → a'.1 q = σ1.1 q) ∧ a'.2 = σ1.2 ∧ ∀ c, c < i + 1 → filV m W H n c = (a'.1 184 c).toInt64 := fun x hx => by
        rw [n4_succ]
        refine ⟨_, rfl, fun q hq => by rw [mI_p hq]; exact p1 q hq, p2, fun c hc => ?_⟩
        by_cases e : c = i
        · rw [e, mI_e]; exact hx
        · rw [mI_j e]; exact p3 c (by omega)
      show ∃ a', f_X1_fillGaps_35 (q + 1) (N4 i) τ = _ ∧ _
      rw [f_X1_fillGaps_35, c_cells ht, bd_s, if_neg (fun e => by have := (n4_le (by omega) (by omega)).mp e; omega), gd_inb (by omega) (by omega), n4_nat (by omega), h185 i hi]
      by_cases z : cvr m W H i n = 0
      · have hm8 : f_X1_meanAround_8 (N4 i) τ 100000 0 0 0 = _ := c_mean8 ht hi h185
        have hfn : filN m W H n i (W * H) ≤ W * H := cnt_le _ _
        rw [if_pos (show N4 (cvr m W H i n) = 0 by rw [z]; rfl)]
        unfold f_X1_meanAround
        rw [hm8, bd_s]
        by_cases y : filN m W H n i (W * H) = 0
        · rw [if_pos (show N4 (filN m W H n i (W * H)) = 0 by rw [y]; rfl), gd_inb (by omega) (by omega), n4_nat (by omega), bd_s, gd_inb (by omega) (by omega)]
          exact fin _ (by unfold filV; rw [if_neg (by omega)]; exact e8)
        · have hv : rnd8 (filS m W H n i (W * H)) (N8 (filN m W H n i (W * H))) = N8 v := by
            rw [← v1]; unfold filV; rw [if_pos ⟨z, by omega⟩]
          rw [if_neg (n4_ne0 y (by omega)), n4_64 (by omega), c_rq (by omega) (by omega), bd_s, bd_s, gd_inb (by omega) (by omega), hv, n8_32]
          exact fin _ (by rw [v1, n4_64 (by omega)])
      · rw [if_neg (n4_ne0 z (by omega)), gd_inb (by omega) (by omega), gd_inb (by omega) (by omega)]
        exact fin _ (by unfold filV; rw [if_neg (fun y => z y.1)]; exact e8)) 100000 0 σ1 (by omega) (by omega) ⟨fun _ _ => rfl, rfl, fun c hc => by omega⟩
  have ht : CS τ m W H n := cs_scr c2 (fun q hq => a2 q (by omega)) (fun q _ => by rw [a3])
  have hF : Fk σ τ := c3.trans ⟨fun q j hq => by rw [a2 q (fun e => hq (by unfold ckI; omega))], fun q j _ => by rw [a3]⟩
  obtain ⟨ρ, b1, b2, b3⟩ := c_takeOver (x1 := 2) (Or.inl ⟨rfl, rfl⟩) ht a4 (val_fil h.1)
  have a1' : f_X1_fillGaps_35 100000 0 σ1 = some τ := a1
  have c1' : f_X1_fillGaps_2 100000 0 σ = some σ1 := c1
  unfold f_X1_fillGaps
  rw [c1', bd_s, a1', bd_s, b1, bd_s]
  exact ⟨ρ, rfl, b2, hF.trans b3⟩
end CCHG3
