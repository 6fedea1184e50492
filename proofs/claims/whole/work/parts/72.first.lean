/-! ===== the first state ===== -/
def m0 : Nat → Int64 := fun j => if 8 ≤ j ∧ j < 136 then 1000 else if j = 7 then 0 else if j = 1 then 4 else if j = 0 then 4 else if j = 4 then 1000 else if j = 3 then 100000 else if j = 2 then 1 else 0
theorem m0_hi {j : Nat} (h : 136 ≤ j) : m0 j = 0 := by
  unfold m0
  rw [if_neg (show ¬ (8 ≤ j ∧ j < 136) by omega), if_neg (show ¬ j = 7 by omega), if_neg (show ¬ j = 1 by omega), if_neg (show ¬ j = 0 by omega), if_neg (show ¬ j = 4 by omega), if_neg (show ¬ j = 3 by omega), if_neg (show ¬ j = 2 by omega)]
theorem m0_mid {j : Nat} (h : 8 ≤ j ∧ j < 136) : m0 j = 1000 := by
  unfold m0
  rw [if_pos h]
theorem val_m0 : Val m0 4 4 0 := by
  refine ⟨⟨by decide +kernel, by decide +kernel, by decide +kernel, by omega, by omega, by omega, by omega, by omega⟩, fun c hc => ?_, fun c hc => ?_, fun r hr => absurd hr (Nat.not_lt_zero r), ⟨1, 100000, 1000, 0, 0, by decide +kernel, by decide +kernel, by omega, by omega, by omega, by decide +kernel, by omega, by omega, by decide +kernel, by omega, by decide +kernel, by omega⟩, fun r hr => Or.inl ?_, fun r hr => ⟨0, ?_, by omega, by omega⟩⟩
  · unfold slw
    rw [m0_mid (by omega)]
    decide +kernel
  · unfold slw
    rw [m0_mid (by omega)]
    decide +kernel
  · rw [m0_hi (by omega)]
    decide +kernel
  · rw [m0_hi (by omega)]
    decide +kernel
theorem sm_0 : Sm σ0 1 m0 := by
  refine ⟨by decide +kernel, by decide +kernel, by decide +kernel, by decide +kernel, by decide +kernel⟩
theorem m0_beg {q : Mem} (h : q.2 225 = σ0.2 225) : mBeg ((sm0 q).2 225) 4 4 = m0 := by
  funext j
  show (if 8 ≤ j ∧ j < 136 then 1000 else _) = if 8 ≤ j ∧ j < 136 then 1000 else _
  congr 1
  unfold sm0
  show vp_updL (vp_updL (vp_updL (vp_updL (vp_updL (vp_updL (q.2 225) 2 1) 3 100000) 4 1000) 0 4) 1 4) 7 0 j = _
  rw [h]
  rfl
theorem first_state : ∃ q ρ, f_X2_lay 4 4 σ0 = some q ∧ (∀ k, 224 ≤ k → q.1 k = σ0.1 k ∧ q.2 k = σ0.2 k) ∧ f_X12_beginAnew 4 4 (sm0 q) = some ρ ∧ JJ ρ 4 4 0 [] [] ∧ ρ.1 239 = σ0.1 239 ∧ ρ.2 239 = σ0.2 239 := by
  obtain ⟨q, a1, a2, a3, a4⟩ := c_lay (σ := σ0) (W := 4) (H := 4) (by omega) (by omega) (by omega) (by omega)
  obtain ⟨ρ, b1, b2, b3, b4⟩ := m_beginAnew 4 4 (sm0 q)
  have a1' : f_X2_lay 4 4 σ0 = some q := a1
  have e225 : ρ.2 225 = m0 := by
    rw [b4]
    exact m0_beg (by rw [a3])
  have hI : ∀ p, ρ.1 p = q.1 p := fun p => by
    rw [b2]
    rfl
  have hL : ∀ p, p ≠ 225 → ρ.2 p = σ0.2 p := fun p hp => by
    rw [b3 p hp, ← a3]
    unfold sm0
    rw [mL_p hp, mL_p hp, mL_p hp]
  have hI2 : ∀ p, p < 8 ∨ 140 ≤ p → ρ.1 p = σ0.1 p := fun p hp => (hI p).trans (a4 p hp)
  refine ⟨q, ρ, a1', fun k hk => ⟨a4 k (Or.inr (by omega)), by rw [a3]⟩, b1, ⟨?_, ?_, fun h hh => absurd hh (by simp)⟩, hI2 239 (by omega), hL 239 (by omega)⟩
  · rw [e225]
    refine ⟨⟨val_m0, ?_, ?_, fun r hr => absurd hr (Nat.not_lt_zero r)⟩, ⟨by simp, ?_, 0, by omega, ?_, fun k hk => absurd hk (Nat.not_lt_zero k)⟩, ⟨by simp, fun i hi => absurd hi (Nat.not_lt_zero i), ?_, fun i hi => absurd hi (Nat.not_lt_zero i)⟩⟩
    · obtain ⟨s1, s2, s3, s4, s5⟩ := sm_0
      unfold Sm
      rw [hI2 1 (by omega), hI2 (1 + 1) (by omega), hI2 (1 + 2) (by omega), hI2 (1 + 3) (by omega), hI2 (1 + 4) (by omega), hI2 (1 + 6) (by omega), hL 1 (by omega), hL (1 + 5) (by omega)]
      exact ⟨s1, s2, s3, s4, s5⟩
    · obtain ⟨g1, g2⟩ := a2
      refine ⟨by rw [hI]; exact g1, fun c hc => ?_⟩
      obtain ⟨g3, g4⟩ := g2 c hc
      refine ⟨by rw [hI]; exact g3, fun i hi => ?_⟩
      rw [hI, hI]
      exact g4 i hi
    · rw [hI2 189 (by omega)]
      decide +kernel
    · rw [hI2 189 (by omega)]
      decide +kernel
    · rw [hI2 219 (by omega)]
      decide +kernel
  · refine ⟨⟨by simp, ?_, fun k hk => absurd hk (Nat.not_lt_zero k)⟩, ⟨by simp, fun i hi => absurd hi (Nat.not_lt_zero i), ?_, fun i hi => absurd hi (Nat.not_lt_zero i)⟩⟩
    · rw [hI2 224 (by omega)]
      decide +kernel
    · rw [hI2 224 (by omega)]
      decide +kernel
