/-! ===== the reference: active rays, coverage ===== -/
def actR (m : Nat → Int64) (r : Nat) : Bool := decide (m (138 + 4 * r) = 1 ∧ m (139 + 4 * r) ≠ -1)
theorem m_isActive {r : Nat} {σ : Mem} (hr : r < 16) : f_X12_isActive (N4 r) σ = some (if actR (σ.2 225) r = true then N4 1 else N4 0) := by
  unfold f_X12_isActive actR
  rw [show (2 : Int32) = N4 2 from rfl, show (3 : Int32) = N4 3 from rfl, m_of hr (by omega), bd_s, m_of hr (by omega), bd_s, show 136 + 4 * r + 2 = 138 + 4 * r by omega, show 136 + 4 * r + 3 = 139 + 4 * r by omega]
  by_cases h1 : σ.2 225 (138 + 4 * r) = 1
  · rw [if_pos h1]
    by_cases h2 : σ.2 225 (139 + 4 * r) = -1
    · rw [if_pos h2, if_neg (by simp [h2])]; rfl
    · rw [if_neg h2, if_pos (by simp [h1, h2])]; rfl
  · rw [if_neg h1, if_neg (by simp [h1])]; rfl
theorem n8_rays {W H n i : Nat} {m : Nat → Int64} (h : Dm m W H n) (hi : i < 1000) : (m (7 : Int32).toNatClampNeg ≤ (N4 i).toInt64) ↔ n ≤ i := by
  have hn := h.2.2.2.2.2.2.2
  rw [show (7 : Int32).toNatClampNeg = 7 from rfl, h.2.2.1, n4_64 (by omega), n8_le (by omega) (by omega)]
theorem act_b {m : Nat → Int64} {r : Nat} : ((if actR m r = true then N4 1 else N4 0) = (0 : Int32)) ↔ actR m r = false := by
  by_cases h : actR m r = true
  · rw [if_pos h, h]; simp; decide
  · rw [if_neg h]; simp [eq_false_of_ne_true h]; rfl
theorem m_actives {W H n : Nat} {σ : Mem} (h : Dm (σ.2 225) W H n) : f_X12_actives σ = some (N4 (cnt (actR (σ.2 225)) n)) := by
  have hn := h.2.2.2.2.2.2.2
  have key := loopF (fun k i (a : Int32) => f_X12_actives_4 σ k a (N4 i)) n (fun i => N4 (cnt (actR (σ.2 225)) i)) (N4 (cnt (actR (σ.2 225)) n)) ?_ ?_ 100000 0 (by omega) (by omega)
  · unfold f_X12_actives
    rw [show (0 : Int32) = N4 0 from rfl]
    rw [show N4 0 = N4 (cnt (actR (σ.2 225)) 0) from rfl] at key
    have key' : f_X12_actives_4 σ 100000 (N4 0) (N4 0) = _ := key
    rw [key', bd_s]
  · intro k
    show f_X12_actives_4 σ (k + 1) _ (N4 n) = _
    rw [f_X12_actives_4, if_pos ((n8_rays h (by omega)).mpr (Nat.le_refl n))]
  · intro k i hi
    show f_X12_actives_4 σ (k + 1) (N4 (cnt (actR (σ.2 225)) i)) (N4 i) = f_X12_actives_4 σ k (N4 (cnt (actR (σ.2 225)) (i + 1))) (N4 (i + 1))
    rw [f_X12_actives_4, if_neg (fun q => by have := (n8_rays h (by omega)).mp q; omega), m_isActive (by omega), bd_s]
    simp only [act_b, show (1 : Int32) = N4 1 from rfl, show (0 : Int32) = N4 0 from rfl, n4_add, cnt]
    by_cases q : actR (σ.2 225) i = true
    · rw [if_neg (by rw [q]; decide), if_pos q]
    · rw [if_neg q, if_pos rfl, if_neg q]
def sumN (f : Nat → Nat) : Nat → Nat
  | 0 => 0
  | k + 1 => sumN f k + f k
noncomputable def cvr (m : Nat → Int64) (W H c k : Nat) : Nat := cnt (fun r => actR m r && decide (0 < wln m W H r c)) k
noncomputable def plo (m : Nat → Int64) (W H c k : Nat) : Nat := sumN (fun r => if actR m r = true then wln m W H r c else 0) k
theorem wln_bd {m : Nat → Int64} {W H n r c : Nat} (h : Dm m W H n) (hR : Ra m H n) (hr : r < n) (hs : Slo (W * H) (slw m 8)) : wln m W H r c ≤ 181000 ∧ (wlr m W H r).length ≤ 64 ∧ 2 ≤ (wlr m W H r).length := by
  have hK := h.K
  obtain ⟨o1, o2, o3⟩ := hR.lt h hr
  have hC : Cert W (W * H) (slw m 8) (frc m W r) (dsl m W H 8 (frc m W r)) := cert_ex h.2.2.2.1 h.2.2.2.2.1 h.2.2.2.2.2.1 h.2.2.2.2.2.2.1 hs o1
  have f1 := wayl_facts hK.2 hs hC o1 _ o2
  have f2 := rk_K (L := dsl m W H 8 (frc m W r)) o2
  have f3 := lenL_ge W (wlr m W H r) (fun _ => 0) c
  have f4 : 2 ≤ (wlr m W H r).length := by
    unfold wlr
    rw [wayl_c hK.2 hs hC o2 o3, List.length_cons]
    have := (wayl_facts hK.2 hs hC o1 _ (prv_spec hC o2 o3).1).2.2.2
    omega
  have f5 : (wlr m W H r).length ≤ rk (W * H) (dsl m W H 8 (frc m W r)) (toc m W r) + 1 := f1.1
  refine ⟨?_, by omega, f4⟩
  unfold wln
  have : (fun _ : Nat => 0) c = 0 := rfl
  omega
/-- what covering writes beside the ways -/
theorem cov_zero {σ : Mem} : ∃ τ, f_X12_cover_2 100000 (N4 0) σ = some τ ∧ Fq σ τ ∧ ∀ c, c < 64 → τ.1 232 c = N4 0 ∧ τ.1 233 c = N4 0 := by
  refine loopU (fun n i τ => f_X12_cover_2 n (N4 i) τ) 64 (fun i τ => Fq σ τ ∧ ∀ c, c < i → τ.1 232 c = N4 0 ∧ τ.1 233 c = N4 0) (fun τ => Fq σ τ ∧ ∀ c, c < 64 → τ.1 232 c = N4 0 ∧ τ.1 233 c = N4 0) ?_ ?_ 100000 0 σ (by omega) (by omega) ⟨Fz.rfl, fun c hc => by omega⟩
  · intro n τ hP
    refine ⟨τ, ?_, hP⟩
    show f_X12_cover_2 (n + 1) (N4 64) τ = some τ
    rw [f_X12_cover_2, if_pos (show (64 : Int32) ≤ N4 64 from (n4_le (a := 64) (by omega) (by omega)).mpr (Nat.le_refl _))]
  · intro n i τ hi hP
    show ∃ a', f_X12_cover_2 (n + 1) (N4 i) τ = _ ∧ _
    rw [f_X12_cover_2, if_neg (fun q => by have := (n4_le (a := 64) (by omega) (by omega)).mp q; omega), gd_inb (by omega) (by omega), gd_inb (by omega) (by omega), n4_nat (by omega), n4_succ, show (0 : Int32) = N4 0 from rfl]
    refine ⟨_, rfl, (hP.1.i (by unfold mqI; omega)).i (by unfold mqI; omega), fun c hc => ?_⟩
    by_cases e : c = i
    · rw [e, mI_p (by omega), mI_e, mI_e]; exact ⟨rfl, rfl⟩
    · rw [mI_p (by omega), mI_j e, mI_j e, mI_p (by omega)]; exact hP.2 c (by omega)
theorem cov_add {x1 : Int32} {σ : Mem} {f g l : Nat → Nat} (hf : ∀ c, c < 64 → σ.1 232 c = N4 (f c)) (hg : ∀ c, c < 64 → σ.1 233 c = N4 (g c)) (hl : ∀ c, c < 64 → σ.1 231 c = N4 (l c) ∧ l c < 2147483648) :
    ∃ τ, f_X12_cover_58 x1 100000 (N4 0) σ = some τ ∧ Fq σ τ ∧ ∀ c, c < 64 → τ.1 232 c = N4 (f c + if 0 < l c then 1 else 0) ∧ τ.1 233 c = N4 (g c + l c) := by
  have key := loopU (fun n i τ => f_X12_cover_58 x1 n (N4 i) τ) 64 (fun i τ => Fq σ τ ∧ (∀ c, c < 64 → τ.1 231 c = N4 (l c)) ∧ ∀ c, c < 64 → τ.1 232 c = N4 (if c < i then f c + (if 0 < l c then 1 else 0) else f c) ∧ τ.1 233 c = N4 (if c < i then g c + l c else g c)) (fun τ => Fq σ τ ∧ ∀ c, c < 64 → τ.1 232 c = N4 (f c + if 0 < l c then 1 else 0) ∧ τ.1 233 c = N4 (g c + l c)) ?_ ?_ 100000 0 σ (by omega) (by omega) ⟨Fz.rfl, fun c hc => (hl c hc).1, fun c hc => by rw [if_neg (by omega), if_neg (by omega)]; exact ⟨hf c hc, hg c hc⟩⟩
  · exact key
  · intro n τ hP
    refine ⟨τ, ?_, hP.1, fun c hc => by have := hP.2.2 c hc; rw [if_pos hc, if_pos hc] at this; exact this⟩
    show f_X12_cover_58 x1 (n + 1) (N4 64) τ = some τ
    rw [f_X12_cover_58, if_pos (show (64 : Int32) ≤ N4 64 from (n4_le (a := 64) (by omega) (by omega)).mpr (Nat.le_refl _))]
  · intro n i τ hi hP
    obtain ⟨p1, p2, p3⟩ := hP
    have a1 := (p3 i hi).1
    have a2 := (p3 i hi).2
    rw [if_neg (Nat.lt_irrefl i)] at a1 a2
    have hli := (hl i hi).2
    show ∃ a', f_X12_cover_58 x1 (n + 1) (N4 i) τ = _ ∧ _
    rw [f_X12_cover_58, if_neg (fun q => by have := (n4_le (a := 64) (by omega) (by omega)).mp q; omega)]
    simp only [gd_inb (show i < 64 by omega) (show 64 < 2147483648 by omega), n4_nat (show i < 2147483648 by omega), bd_s, a1, p2 i hi, n4_succ, show (0 : Int32) = N4 0 from rfl, mI_p (show (233 : Nat) ≠ 232 by omega), mI_p (show (231 : Nat) ≠ 232 by omega), a2]
    have fin : ∀ v, v = f i + (if 0 < l i then 1 else 0) → Fq σ (setI (setI τ 232 i (N4 v)) 233 i (N4 (g i + l i))) ∧ (∀ c, c < 64 → (setI (setI τ 232 i (N4 v)) 233 i (N4 (g i + l i))).1 231 c = N4 (l c)) ∧ ∀ c, c < 64 → (setI (setI τ 232 i (N4 v)) 233 i (N4 (g i + l i))).1 232 c = N4 (if c < i + 1 then f c + (if 0 < l c then 1 else 0) else f c) ∧ (setI (setI τ 232 i (N4 v)) 233 i (N4 (g i + l i))).1 233 c = N4 (if c < i + 1 then g c + l c else g c) := fun v hv => by
      refine ⟨(p1.i (by unfold mqI; omega)).i (by unfold mqI; omega), fun c hc => by rw [mI_p (by omega), mI_p (by omega)]; exact p2 c hc, fun c hc => ?_⟩
      by_cases e : c = i
      · rw [e, mI_p (by omega), mI_e, mI_e, if_pos (show i < i + 1 by omega), if_pos (show i < i + 1 by omega), hv]
        exact ⟨rfl, rfl⟩
      · rw [mI_p (by omega), mI_j e, mI_j e, mI_p (by omega)]
        have := p3 c hc
        by_cases q : c < i
        · rw [if_pos q, if_pos q] at this
          rw [if_pos (show c < i + 1 by omega), if_pos (show c < i + 1 by omega)]
          exact this
        · rw [if_neg q, if_neg q] at this
          rw [if_neg (show ¬ c < i + 1 by omega), if_neg (show ¬ c < i + 1 by omega)]
          exact this
    simp only [n4_add]
    by_cases hz : l i = 0
    · rw [if_pos (show N4 (l i) ≤ N4 0 by rw [hz]; decide)]
      exact ⟨_, rfl, fin _ (by rw [hz]; simp)⟩
    · rw [if_neg (show ¬ N4 (l i) ≤ N4 0 from fun q => hz (by have := (n4_le (a := l i) (b := 0) (by omega) (by omega)).mp q; omega))]
      exact ⟨_, rfl, fin _ (by rw [if_pos (by omega)])⟩
theorem m_cover {W H n : Nat} {σ : Mem} (h : Dm (σ.2 225) W H n) (hR : Ra (σ.2 225) H n) (hs : Slo (W * H) (slw (σ.2 225) 8)) :
    ∃ τ, f_X12_cover σ = some τ ∧ Fq σ τ ∧ ∀ c, c < 64 → τ.1 232 c = N4 (cvr (σ.2 225) W H c n) ∧ τ.1 233 c = N4 (plo (σ.2 225) W H c n) := by
  have hn := h.2.2.2.2.2.2.2
  obtain ⟨σ1, a1, a2, a3⟩ := cov_zero (σ := σ)
  have key := loopU (fun k i τ => f_X12_cover_30 k (N4 i) τ) n (fun i τ => Fq σ τ ∧ ∀ c, c < 64 → τ.1 232 c = N4 (cvr (σ.2 225) W H c i) ∧ τ.1 233 c = N4 (plo (σ.2 225) W H c i)) (fun τ => Fq σ τ ∧ ∀ c, c < 64 → τ.1 232 c = N4 (cvr (σ.2 225) W H c n) ∧ τ.1 233 c = N4 (plo (σ.2 225) W H c n)) ?_ ?_ 100000 0 σ1 (by omega) (by omega) ⟨a2, a3⟩
  · obtain ⟨τ, b1, b2⟩ := key
    refine ⟨τ, ?_, b2⟩
    unfold f_X12_cover
    have b1' : f_X12_cover_30 100000 (N4 0) σ1 = some τ := b1
    rw [show (0 : Int32) = N4 0 from rfl, a1, bd_s, b1', bd_s]
  · intro k τ hP
    refine ⟨τ, ?_, hP⟩
    show f_X12_cover_30 (k + 1) (N4 n) τ = some τ
    rw [f_X12_cover_30, hP.1.m, if_pos ((n8_rays h (by omega)).mpr (Nat.le_refl n))]
  · intro k i τ hi hP
    obtain ⟨p1, p2⟩ := hP
    have hd : Dm (τ.2 225) W H n := by rw [p1.m]; exact h
    show ∃ a', f_X12_cover_30 (k + 1) (N4 i) τ = _ ∧ _
    rw [f_X12_cover_30, p1.m, if_neg (fun q => by have := (n8_rays h (by omega)).mp q; omega), m_isActive (by omega), bd_s, p1.m, n4_succ]
    by_cases q : actR (σ.2 225) i = true
    · rw [if_neg (fun e => by rw [act_b.mp e] at q; cases q)]
      obtain ⟨ρ, r1, r2, r3⟩ := m_findWay hd (by rw [p1.m]; exact hR) hi (by rw [p1.m]; exact hs)
      rw [p1.m] at r3
      obtain ⟨-, -, r4, -⟩ := r3
      have g1 : ∀ c, c < 64 → ρ.1 232 c = N4 (cvr (σ.2 225) W H c i) := fun c hc => by rw [r2.1 232 c (by unfold mwI; omega)]; exact (p2 c hc).1
      have g2 : ∀ c, c < 64 → ρ.1 233 c = N4 (plo (σ.2 225) W H c i) := fun c hc => by rw [r2.1 233 c (by unfold mwI; omega)]; exact (p2 c hc).2
      obtain ⟨μ, s1, s2, s3⟩ := cov_add (x1 := N4 i) g1 g2 (fun c hc => ⟨r4 c hc, by have := (wln_bd (c := c) h hR hi hs).1; omega⟩)
      rw [r1, bd_s, show (0 : Int32) = N4 0 from rfl, s1, bd_s]
      refine ⟨μ, rfl, (p1.trans r2.q).trans s2, fun c hc => ?_⟩
      obtain ⟨t1, t2⟩ := s3 c hc
      rw [t1, t2]
      unfold cvr plo
      simp only [cnt, sumN, q, Bool.true_and, decide_eq_true_eq, if_true]
      exact ⟨trivial, trivial⟩
    · rw [if_pos (act_b.mpr (eq_false_of_ne_true q))]
      refine ⟨τ, rfl, p1, fun c hc => ?_⟩
      rw [(p2 c hc).1, (p2 c hc).2]
      unfold cvr plo
      simp only [cnt, sumN, eq_false_of_ne_true q, Bool.false_and]
      exact ⟨rfl, rfl⟩
