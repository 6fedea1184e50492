/-! ===== the reference's questions ===== -/
theorem rng_c {c : Nat} {b : Int} (h : (c : Int) ≤ b) (hc : c < 2147483648) : rng (N4 c) 0 b = true := by
  unfold rng
  rw [n4_int hc, decide_eq_true_eq]
  omega
section MASK
variable {σ : Mem} {W H n : Nat} {hs : List (Nat → Int64)} {sc : List Nat} {x1 x2 x3 x4 : Int32} {m : Nat → Int64}
noncomputable def rayV (m : Nat → Int64) (W H r w : Nat) : Int32 := if w = 4 then N4 (wlr m W H r).length else if w = 3 then (if actR m r = true then N4 1 else N4 0) else (m (136 + 4 * r + w)).toInt32
theorem m_valueOf {r w : Nat} (hm : σ.2 225 = m) (hV : Val m W H n) (hr : r < n) (hw : w < 5) : ∃ τ, f_X12_valueOf (N4 r) (N4 w) σ = some (rayV m W H r w, τ) ∧ Fq σ τ := by
  have hn := hV.1.2.2.2.2.2.2.2
  unfold f_X12_valueOf rayV
  by_cases e4 : w = 4
  · obtain ⟨τ, a1, a2, a3⟩ := m_findWay (σ := σ) (by rw [hm]; exact hV.1) (by rw [hm]; exact hV.2.2.2.1) hr (by rw [hm]; exact hV.s8)
    rw [hm] at a3
    rw [if_pos (show N4 w = 4 by rw [e4]; rfl), if_pos e4, a1, bd_s, a3.1]
    exact ⟨τ, rfl, a2.q⟩
  · rw [if_neg (show ¬ N4 w = 4 from fun q => e4 ((n4_eq (b := 4) (by omega) (by omega)).mp q)), if_neg e4]
    by_cases e3 : w = 3
    · rw [if_pos (show N4 w = 3 by rw [e3]; rfl), if_pos e3, m_isActive (by omega), bd_s, hm]
      by_cases q : actR m r = true
      · rw [if_neg (fun e => by rw [act_b.mp e] at q; cases q), if_pos q]; exact ⟨σ, rfl, Fz.rfl⟩
      · rw [if_pos (act_b.mpr (eq_false_of_ne_true q)), if_neg q]; exact ⟨σ, rfl, Fz.rfl⟩
    · rw [if_neg (show ¬ N4 w = 3 from fun q => e3 ((n4_eq (b := 3) (by omega) (by omega)).mp q)), if_neg e3, m_of (by omega) (by omega), bd_s, hm]
      exact ⟨σ, rfl, Fz.rfl⟩
theorem mo_ray1 (h : Dm (σ.2 225) W H n) (h1 : rng x1 0 ((n : Int) - 1) = false) : f_X12_ray x1 x2 σ = some (0, setI σ 224 5 1) := by
  unfold f_X12_ray
  rw [m_isRay h, bd_s, if_pos (b4_f (bf h1)), mI_e, if_neg (by decide)]
theorem mo_ray2 {r : Nat} (h : Dm (σ.2 225) W H n) (hr : r < n) (h2 : rng x2 0 4 = false) : f_X12_ray (N4 r) x2 σ = some (0, setI σ 224 5 2) := by
  have hn := h.2.2.2.2.2.2.2
  unfold f_X12_ray
  rw [m_isRay h, bd_s, if_neg (b4_t (rng_i hr (by omega))), inr 0 4 rfl rfl, bd_s, if_pos (b4_f (bf h2)), mI_e, if_neg (by decide)]
theorem mo_ray {r w : Nat} (hV : Val (σ.2 225) W H n) (hI : MInv σ hs sc) (hr : r < n) (hw : w < 5) : ∃ τ, f_X12_ray (N4 r) (N4 w) σ = some (rayV (σ.2 225) W H r w, τ) ∧ MO σ τ (σ.2 225) hs sc := by
  have hn := hV.1.2.2.2.2.2.2.2
  obtain ⟨τ, a1, a2⟩ := m_valueOf (σ := setI σ 224 5 0) (m := σ.2 225) rfl hV hr hw
  unfold f_X12_ray
  rw [m_isRay hV.1, bd_s, if_neg (b4_t (rng_i hr (by omega))), inr 0 4 rfl rfl, bd_s, if_neg (b4_t (rng_c (b := 4) (by omega) (by omega))), mI_e, if_pos rfl, a1, bd_s]
  exact ⟨τ, rfl, MO.q0 hI a2⟩
theorem mo_time1 (h : Dm (σ.2 225) W H n) (h1 : rng x1 0 ((n : Int) - 1) = false) : f_X12_time x1 x2 σ = some (0, setI σ 224 5 1) := by
  unfold f_X12_time
  rw [m_isRay h, bd_s, if_pos (b4_f (bf h1)), mI_e, if_neg (by decide)]
theorem mo_time2 {r : Nat} (h : Dm (σ.2 225) W H n) (hr : r < n) (h2 : rng x2 0 1 = false) : f_X12_time (N4 r) x2 σ = some (0, setI σ 224 5 2) := by
  have hn := h.2.2.2.2.2.2.2
  unfold f_X12_time
  rw [m_isRay h, bd_s, if_neg (b4_t (rng_i hr (by omega))), inr 0 1 rfl rfl, bd_s, if_pos (b4_f (bf h2)), mI_e, if_neg (by decide)]
noncomputable def timV (m : Nat → Int64) (W H r w : Nat) : Int64 := if w = 0 then wtm m W H r else m (139 + 4 * r)
theorem mo_time {r w : Nat} (hV : Val (σ.2 225) W H n) (hI : MInv σ hs sc) (hr : r < n) (hw : w < 2) : ∃ τ, f_X12_time (N4 r) (N4 w) σ = some (timV (σ.2 225) W H r w, τ) ∧ MO σ τ (σ.2 225) hs sc := by
  have hn := hV.1.2.2.2.2.2.2.2
  unfold f_X12_time timV
  rw [m_isRay hV.1, bd_s, if_neg (b4_t (rng_i hr (by omega))), inr 0 1 rfl rfl, bd_s, if_neg (b4_t (rng_c (b := 1) (by omega) (by omega))), mI_e, if_pos rfl]
  by_cases e : w = 0
  · obtain ⟨τ, a1, a2⟩ := m_timeOf (σ := setI σ 224 5 0) hV.1 hV.2.2.2.1 hr hV.s8
    rw [if_pos (show N4 w = 0 by rw [e]; rfl), if_pos e, a1, bd_s]
    exact ⟨τ, rfl, MO.q0 hI a2.w.q⟩
  · rw [if_neg (n4_ne0 e (by omega)), if_neg e, show (3 : Int32) = N4 3 from rfl, m_of (by omega) (by omega), bd_s, show 136 + 4 * r + 3 = 139 + 4 * r by omega]
    exact ⟨_, rfl, MO.q0 hI Fz.rfl⟩
theorem mo_residual1 (h : Dm (σ.2 225) W H n) (h1 : rng x1 0 ((n : Int) - 1) = false) : f_X12_residual x1 σ = some (0, setI σ 224 5 1) := by
  unfold f_X12_residual
  rw [m_isRay h, bd_s, if_pos (b4_f (bf h1)), mI_e, if_neg (by decide)]
theorem mo_residual2 {r : Nat} (h : Dm (σ.2 225) W H n) (hr : r < n) (h2 : σ.2 225 (139 + 4 * r) = -1) : f_X12_residual (N4 r) σ = some (0, setI σ 224 5 2) := by
  have hn := h.2.2.2.2.2.2.2
  unfold f_X12_residual
  rw [m_isRay h, bd_s, if_neg (b4_t (rng_i hr (by omega))), show (3 : Int32) = N4 3 from rfl, m_of (by omega) (by omega), bd_s, show 136 + 4 * r + 3 = 139 + 4 * r by omega, if_pos h2, mI_e, if_neg (by decide)]
theorem mo_residual {r : Nat} (hV : Val (σ.2 225) W H n) (hI : MInv σ hs sc) (hr : r < n) (h2 : ¬ σ.2 225 (139 + 4 * r) = -1) : ∃ τ, f_X12_residual (N4 r) σ = some (σ.2 225 (139 + 4 * r) - wtm (σ.2 225) W H r, τ) ∧ MO σ τ (σ.2 225) hs sc := by
  have hn := hV.1.2.2.2.2.2.2.2
  obtain ⟨τ, a1, a2⟩ := m_residualOf (σ := setI σ 224 5 0) hV.1 hV.2.2.2.1 hr hV.s8
  unfold f_X12_residual
  rw [m_isRay hV.1, bd_s, if_neg (b4_t (rng_i hr (by omega))), show (3 : Int32) = N4 3 from rfl, m_of (by omega) (by omega), bd_s, show 136 + 4 * r + 3 = 139 + 4 * r by omega, if_neg h2, mI_e, if_pos rfl, a1, bd_s]
  exact ⟨τ, rfl, MO.q0 hI a2.w.q⟩
theorem mo_wayCell1 (h : Dm (σ.2 225) W H n) (h1 : rng x1 0 ((n : Int) - 1) = false) : f_X12_wayCell x1 x2 σ = some (0, setI σ 224 5 1) := by
  unfold f_X12_wayCell
  rw [m_isRay h, bd_s, if_pos (b4_f (bf h1)), mI_e, if_neg (by decide)]
theorem mo_wayCell2 {r : Nat} (h : Dm (σ.2 225) W H n) (hr : r < n) (h2 : ¬ 0 ≤ x2) : f_X12_wayCell (N4 r) x2 σ = some (0, setI σ 224 5 2) := by
  have hn := h.2.2.2.2.2.2.2
  unfold f_X12_wayCell
  rw [m_isRay h, bd_s, if_neg (b4_t (rng_i hr (by omega))), if_neg h2, mI_e, if_neg (by decide)]
noncomputable def wcV (m : Nat → Int64) (W H r i : Nat) : Int32 := if (wlr m W H r).length ≤ i then -1 else N4 ((wlr m W H r).getD ((wlr m W H r).length - 1 - i) 0)
theorem i32_n4 {x : Int32} (h : 0 ≤ x) : ∃ i, x = N4 i ∧ i < 2147483648 := by
  have h1 := x.toInt_lt
  have h0 := Int32.le_iff_toInt_le.mp h
  rw [show (0 : Int32).toInt = 0 from rfl] at h0
  refine ⟨x.toInt.toNat, ?_, by omega⟩
  rw [← Int32.toInt_inj, n4_int (by omega)]
  omega
theorem mo_wayCell {r i : Nat} (hV : Val (σ.2 225) W H n) (hI : MInv σ hs sc) (hr : r < n) (hi : i < 2147483648) : ∃ τ, f_X12_wayCell (N4 r) (N4 i) σ = some (wcV (σ.2 225) W H r i, τ) ∧ MO σ τ (σ.2 225) hs sc := by
  have hn := hV.1.2.2.2.2.2.2.2
  obtain ⟨τ, a1, a2, a3⟩ := m_findWay (σ := setI σ 224 5 0) hV.1 hV.2.2.2.1 hr hV.s8
  have hb := (wln_bd (c := 0) hV.1 hV.2.2.2.1 hr hV.s8).2
  obtain ⟨b1, b2, -⟩ := a3
  rw [show (setI σ 224 5 0).2 225 = σ.2 225 from rfl] at b1 b2
  unfold f_X12_wayCell wcV
  rw [m_isRay hV.1, bd_s, if_neg (b4_t (rng_i hr (by omega))), if_pos (show (0 : Int32) ≤ N4 i from (n4_le (a := 0) (by omega) (by omega)).mpr (Nat.zero_le _)), mI_e, if_pos rfl, a1, bd_s, b1]
  by_cases q : (wlr (σ.2 225) W H r).length ≤ i
  · rw [if_pos ((n4_le (by omega) (by omega)).mpr q), if_pos q]
    exact ⟨τ, rfl, MO.q0 hI a2.q⟩
  · rw [if_neg (fun e => q ((n4_le (by omega) (by omega)).mp e)), if_neg q, show (1 : Int32) = N4 1 from rfl, n4_sub (by omega), n4_sub (by omega), gd_inb (by omega) (by omega), n4_nat (by omega), b2 _ (by omega)]
    exact ⟨τ, rfl, MO.q0 hI a2.q⟩
theorem mo_length1 (h : Dm (σ.2 225) W H n) (h1 : ¬ (rng x1 0 ((n : Int) - 1) = true ∧ rng x2 0 (((W * H : Nat) : Int) - 1) = true)) : f_X12_length x1 x2 σ = some (0, setI σ 224 5 1) := by
  unfold f_X12_length
  rw [m_isRay h, bd_s]
  by_cases q : rng x1 0 ((n : Int) - 1) = true
  · rw [if_neg (b4_t q), m_isCell h, bd_s, if_pos (b4_f (fun e => h1 ⟨q, e⟩)), mI_e, if_neg (by decide)]
  · rw [if_pos (b4_f q), mI_e, if_neg (by decide)]
theorem mo_length {r c : Nat} (hV : Val (σ.2 225) W H n) (hI : MInv σ hs sc) (hr : r < n) (hc : c < W * H) : ∃ τ, f_X12_length (N4 r) (N4 c) σ = some (N4 (wln (σ.2 225) W H r c), τ) ∧ MO σ τ (σ.2 225) hs sc := by
  have hn := hV.1.2.2.2.2.2.2.2
  have hK := hV.1.K
  obtain ⟨τ, a1, a2, a3⟩ := m_findWay (σ := setI σ 224 5 0) hV.1 hV.2.2.2.1 hr hV.s8
  obtain ⟨-, -, b3, -⟩ := a3
  unfold f_X12_length
  rw [m_isRay hV.1, bd_s, if_neg (b4_t (rng_i hr (by omega))), m_isCell hV.1, bd_s, if_neg (b4_t (rng_i hc (by omega))), mI_e, if_pos rfl, a1, bd_s, gd_inb (by omega) (by omega), n4_nat (by omega), b3 c (by omega)]
  exact ⟨τ, rfl, MO.q0 hI a2.q⟩
theorem mo_least1 (h : Dm (σ.2 225) W H n) (h1 : ¬ (rng x1 0 (((W * H : Nat) : Int) - 1) = true ∧ rng x2 0 (((W * H : Nat) : Int) - 1) = true)) : f_X12_least x1 x2 x3 σ = some (0, setI σ 224 5 1) := by
  unfold f_X12_least
  rw [m_isCell h, bd_s]
  by_cases q : rng x1 0 (((W * H : Nat) : Int) - 1) = true
  · rw [if_neg (b4_t q), m_isCell h, bd_s, if_pos (b4_f (fun e => h1 ⟨q, e⟩)), mI_e, if_neg (by decide)]
  · rw [if_pos (b4_f q), mI_e, if_neg (by decide)]
noncomputable def leaV (m : Nat → Int64) (W H a b : Nat) (x : Int32) : Int64 := Z8 (dsl m W H (if x = 0 then 8 else 72) a b)
theorem mo_least {a b : Nat} (hV : Val (σ.2 225) W H n) (hI : MInv σ hs sc) (ha : a < W * H) (hb : b < W * H) : ∃ τ, f_X12_least (N4 a) (N4 b) x3 σ = some (leaV (σ.2 225) W H a b x3, τ) ∧ MO σ τ (σ.2 225) hs sc := by
  have hK := hV.1.K
  unfold f_X12_least leaV
  rw [m_isCell hV.1, bd_s, if_neg (b4_t (rng_i ha (by omega))), m_isCell hV.1, bd_s, if_neg (b4_t (rng_i hb (by omega))), mI_e, if_pos rfl]
  by_cases e : x3 = 0
  · obtain ⟨τ, a1, a2, a3, a4⟩ := m_spread (x := 8) (σ := setI σ 224 5 0) hV.1 (by omega) hV.s8 ha
    rw [if_pos e, if_pos e, show (8 : Int32) = N4 8 from rfl, a1, bd_s, gd_inb (by omega) (by omega), n4_nat (by omega), a4 b hb]
    exact ⟨τ, rfl, MO.q0 hI a2.w.q⟩
  · obtain ⟨τ, a1, a2, a3, a4⟩ := m_spread (x := 72) (σ := setI σ 224 5 0) hV.1 (by omega) hV.s72 ha
    rw [if_neg e, if_neg e, show (72 : Int32) = N4 72 from rfl, a1, bd_s, gd_inb (by omega) (by omega), n4_nat (by omega), a4 b hb]
    exact ⟨τ, rfl, MO.q0 hI a2.w.q⟩
theorem mo_cell1 (h : Dm (σ.2 225) W H n) (h1 : rng x1 0 (((W * H : Nat) : Int) - 1) = false) : f_X12_cell x1 x2 σ = some (0, setI σ 224 5 1) := by
  unfold f_X12_cell
  rw [m_isCell h, bd_s, if_pos (b4_f (bf h1)), mI_e, if_neg (by decide)]
theorem mo_cell2 {c : Nat} (h : Dm (σ.2 225) W H n) (hc : c < W * H) (h2 : rng x2 0 3 = false) : f_X12_cell (N4 c) x2 σ = some (0, setI σ 224 5 2) := by
  have hK := h.K
  unfold f_X12_cell
  rw [m_isCell h, bd_s, if_neg (b4_t (rng_i hc (by omega))), inr 0 3 rfl rfl, bd_s, if_pos (b4_f (bf h2)), mI_e, if_neg (by decide)]
noncomputable def celV (m : Nat → Int64) (W H n c w : Nat) : Int32 := if w = 0 then (m (8 + c)).toInt32 else if w = 1 then (m (72 + c)).toInt32 else if w = 2 then N4 (cvr m W H c n) else N4 (plo m W H c n)
theorem mo_cell {c w : Nat} (hV : Val (σ.2 225) W H n) (hI : MInv σ hs sc) (hc : c < W * H) (hw : w < 4) : ∃ τ, f_X12_cell (N4 c) (N4 w) σ = some (celV (σ.2 225) W H n c w, τ) ∧ MO σ τ (σ.2 225) hs sc := by
  have hK := hV.1.K
  unfold f_X12_cell celV
  rw [m_isCell hV.1, bd_s, if_neg (b4_t (rng_i hc (by omega))), inr 0 3 rfl rfl, bd_s, if_neg (b4_t (rng_c (b := 3) (by omega) (by omega))), mI_e, if_pos rfl]
  by_cases e2 : 2 ≤ w
  · obtain ⟨τ, a1, a2, a3⟩ := m_cover (σ := setI σ 224 5 0) hV.1 hV.2.2.2.1 hV.s8
    obtain ⟨b1, b2⟩ := a3 c (by omega)
    rw [if_pos (show (2 : Int32) ≤ N4 w from (n4_le (a := 2) (by omega) (by omega)).mpr e2), a1, bd_s, if_neg (show ¬ w = 0 by omega), if_neg (show ¬ w = 1 by omega)]
    by_cases e : w = 2
    · rw [if_pos (show N4 w = 2 by rw [e]; rfl), if_pos e, gd_inb (by omega) (by omega), n4_nat (by omega), b1]
      exact ⟨τ, rfl, MO.q0 hI a2⟩
    · rw [if_neg (show ¬ N4 w = 2 from fun q => e ((n4_eq (b := 2) (by omega) (by omega)).mp q)), if_neg e, gd_inb (by omega) (by omega), n4_nat (by omega), b2]
      exact ⟨τ, rfl, MO.q0 hI a2⟩
  · rw [if_neg (show ¬ (2 : Int32) ≤ N4 w from fun q => e2 ((n4_le (a := 2) (by omega) (by omega)).mp q))]
    by_cases e : w = 0
    · rw [if_pos (show N4 w = 0 by rw [e]; rfl), if_pos e, show (8 : Int32) = N4 8 from rfl, n4_add, gd_inb (by omega) (by omega), n4_nat (by omega)]
      exact ⟨_, rfl, MO.q0 hI Fz.rfl⟩
    · rw [if_neg (n4_ne0 e (by omega)), if_neg e, if_pos (show w = 1 by omega), show (72 : Int32) = N4 72 from rfl, n4_add, gd_inb (by omega) (by omega), n4_nat (by omega)]
      exact ⟨_, rfl, MO.q0 hI Fz.rfl⟩
noncomputable def unc (m : Nat → Int64) (W H n K : Nat) : Nat := cnt (fun c => decide (cvr m W H c n = 0)) K
theorem m_unc (h : Dm (σ.2 225) W H n) (h232 : ∀ c, c < 64 → σ.1 232 c = N4 (cvr (σ.2 225) W H c n)) : f_X12_sectionOf_68 σ 100000 (N4 0) (N4 0) = some (N4 (unc (σ.2 225) W H n (W * H))) := by
  have hK := h.K
  have hn := h.2.2.2.2.2.2.2
  refine loopF (fun q i (a : Int32) => f_X12_sectionOf_68 σ q a (N4 i)) (W * H) (fun i => N4 (unc (σ.2 225) W H n i)) (N4 (unc (σ.2 225) W H n (W * H))) ?_ ?_ 100000 0 (by omega) (by omega)
  · intro q
    show f_X12_sectionOf_68 σ (q + 1) _ (N4 (W * H)) = _
    rw [f_X12_sectionOf_68, m_cells h, bd_s, if_pos ((n4_le (by omega) (by omega)).mpr (Nat.le_refl _))]
  · intro q i hi
    have hcv : cvr (σ.2 225) W H i n ≤ n := cnt_le _ n
    show f_X12_sectionOf_68 σ (q + 1) (N4 (unc (σ.2 225) W H n i)) (N4 i) = f_X12_sectionOf_68 σ q (N4 (unc (σ.2 225) W H n (i + 1))) (N4 (i + 1))
    rw [f_X12_sectionOf_68, m_cells h, bd_s, if_neg (fun q => by have := (n4_le (by omega) (by omega)).mp q; omega), gd_inb (by omega) (by omega), n4_nat (by omega), h232 i (by omega), n4_succ, n4_succ]
    unfold unc
    simp only [cnt, decide_eq_true_eq]
    by_cases e : cvr (σ.2 225) W H i n = 0
    · rw [if_pos (show N4 (cvr (σ.2 225) W H i n) = 0 by rw [e]; rfl), if_pos e]
    · rw [if_neg (n4_ne0 e (by omega)), if_neg e, show (0 : Int32) = N4 0 from rfl, n4_add]
noncomputable def secV (m : Nat → Int64) (W H n w : Nat) : Int32 := if w = 0 then N4 W else if w = 1 then N4 H else if w = 2 then N4 n else if w = 3 then N4 (cnt (actR m) n) else if w = 4 then N4 (unc m W H n (W * H)) else (m (w - 3)).toInt32
theorem m_sectionOf {w : Nat} (hm : σ.2 225 = m) (hV : Val m W H n) (hw : w < 9) : ∃ τ, f_X12_sectionOf (N4 w) σ = some (secV m W H n w, τ) ∧ Fq σ τ := by
  have h : Dm (σ.2 225) W H n := by rw [hm]; exact hV.1
  have hn := h.2.2.2.2.2.2.2
  have ne : ∀ k, k < 9 → (¬ N4 w = N4 k ↔ ¬ w = k) := fun k hk => not_congr (n4_eq (by omega) (by omega))
  unfold f_X12_sectionOf secV
  by_cases e0 : w = 0
  · rw [if_pos (show N4 w = 0 by rw [e0]; rfl), if_pos e0, m_columns h, bd_s]; exact ⟨σ, rfl, Fz.rfl⟩
  · rw [if_neg (show ¬ N4 w = 0 from (ne 0 (by omega)).mpr e0), if_neg e0]
    by_cases e1 : w = 1
    · rw [if_pos (show N4 w = 1 by rw [e1]; rfl), if_pos e1, m_rows h, bd_s]; exact ⟨σ, rfl, Fz.rfl⟩
    · rw [if_neg (show ¬ N4 w = 1 from (ne 1 (by omega)).mpr e1), if_neg e1]
      by_cases e2 : w = 2
      · rw [if_pos (show N4 w = 2 by rw [e2]; rfl), if_pos e2, show (7 : Int32).toNatClampNeg = 7 from rfl, h.2.2.1, n8_32]; exact ⟨σ, rfl, Fz.rfl⟩
      · rw [if_neg (show ¬ N4 w = 2 from (ne 2 (by omega)).mpr e2), if_neg e2]
        by_cases e3 : w = 3
        · rw [if_pos (show N4 w = 3 by rw [e3]; rfl), if_pos e3, m_actives h, bd_s, hm]; exact ⟨σ, rfl, Fz.rfl⟩
        · rw [if_neg (show ¬ N4 w = 3 from (ne 3 (by omega)).mpr e3), if_neg e3]
          by_cases e4 : w = 4
          · obtain ⟨τ, a1, a2, a3⟩ := m_cover (σ := σ) h (by rw [hm]; exact hV.2.2.2.1) (by rw [hm]; exact hV.s8)
            have hu := m_unc (σ := τ) (by rw [a2.m]; exact h) (fun c hc => by rw [a2.m]; exact (a3 c hc).1)
            rw [a2.m, hm] at hu
            rw [if_pos (show N4 w = 4 by rw [e4]; rfl), if_pos e4, a1, bd_s, show (0 : Int32) = N4 0 from rfl, hu, bd_s]
            exact ⟨τ, rfl, a2⟩
          · rw [if_neg (show ¬ N4 w = 4 from (ne 4 (by omega)).mpr e4), if_neg e4, show (2 : Int32) = N4 2 from rfl, show (5 : Int32) = N4 5 from rfl, n4_add, n4_sub (by omega), gd_inb (by omega) (by omega), n4_nat (by omega), hm, show 2 + w - 5 = w - 3 by omega]
            exact ⟨σ, rfl, Fz.rfl⟩
theorem mo_section1 (h1 : rng x1 0 8 = false) : f_X12_section x1 σ = some (0, setI σ 224 5 1) := by
  unfold f_X12_section
  rw [inr 0 8 rfl rfl, bd_s, if_pos (b4_f (bf h1)), mI_e, if_neg (by decide)]
theorem mo_section {w : Nat} (hV : Val (σ.2 225) W H n) (hI : MInv σ hs sc) (hw : w < 9) : ∃ τ, f_X12_section (N4 w) σ = some (secV (σ.2 225) W H n w, τ) ∧ MO σ τ (σ.2 225) hs sc := by
  obtain ⟨τ, a1, a2⟩ := m_sectionOf (σ := setI σ 224 5 0) (m := σ.2 225) rfl hV hw
  unfold f_X12_section
  rw [inr 0 8 rfl rfl, bd_s, if_neg (b4_t (rng_c (b := 8) (by omega) (by omega))), mI_e, if_pos rfl, a1, bd_s]
  exact ⟨τ, rfl, MO.q0 hI a2⟩
/-! fit -/
noncomputable def resA (m : Nat → Int64) (W H r : Nat) : Int64 := abs8 (m (139 + 4 * r) - wtm m W H r)
noncomputable def fitS (m : Nat → Int64) (W H : Nat) : Nat → Int64 × Int64 × Int64
  | 0 => (0, 0, -1)
  | k + 1 => if actR m k = true then ((fitS m W H k).1 + resA m W H k, if resA m W H k ≤ (fitS m W H k).2.1 then (fitS m W H k).2.1 else resA m W H k, if (fitS m W H k).2.2 = -1 then N8 k else if resA m W H k ≤ (fitS m W H k).2.1 then (fitS m W H k).2.2 else N8 k) else fitS m W H k
theorem m_fit13 {w : Nat} (hm : σ.2 225 = m) (hV : Val m W H n) (hw : w < 3) : ∃ τ, f_X12_fitOf_13 (N4 w) 100000 0 0 (-1) (N4 0) σ = some ((fitS m W H n).1, (fitS m W H n).2.1, (fitS m W H n).2.2, τ) ∧ FrS σ τ := by
  have h : Dm (σ.2 225) W H n := by rw [hm]; exact hV.1
  have hn := h.2.2.2.2.2.2.2
  have key := loopU (fun q i (a : Int64 × Int64 × Int64 × Mem) => f_X12_fitOf_13 (N4 w) q a.1 a.2.1 a.2.2.1 (N4 i) a.2.2.2) n (fun i a => (a.1, a.2.1, a.2.2.1) = fitS m W H i ∧ FrS σ a.2.2.2) (fun b => (b.1, b.2.1, b.2.2.1) = fitS m W H n ∧ FrS σ b.2.2.2) ?_ ?_ 100000 0 (0, 0, -1, σ) (by omega) (by omega) ⟨rfl, FrS.rfl⟩
  · obtain ⟨⟨b1, b2, b3, b4⟩, c1, c2, c3⟩ := key
    have c1' : f_X12_fitOf_13 (N4 w) 100000 0 0 (-1) (N4 0) σ = some (b1, b2, b3, b4) := c1
    have c2' : (b1, b2, b3) = fitS m W H n := c2
    rw [← c2']
    exact ⟨b4, c1', c3⟩
  · rintro q ⟨a1, a2, a3, τ⟩ hP
    refine ⟨(a1, a2, a3, τ), ?_, hP⟩
    show f_X12_fitOf_13 (N4 w) (q + 1) a1 a2 a3 (N4 n) τ = _
    have hd : Dm (τ.2 225) W H n := by rw [hP.2.dm]; exact h
    rw [f_X12_fitOf_13, if_pos ((n8_rays hd (by omega)).mpr (Nat.le_refl n))]
  · rintro q i ⟨a1, a2, a3, τ⟩ hi ⟨p1, p2⟩
    have hmt : τ.2 225 = m := p2.dm.trans hm
    have hd : Dm (τ.2 225) W H n := by rw [hmt]; exact hV.1
    have p1' : (a1, a2, a3) = fitS m W H i := p1
    have e1 : (fitS m W H i).1 = a1 := by rw [← p1']
    have e2 : (fitS m W H i).2.1 = a2 := by rw [← p1']
    have e3 : (fitS m W H i).2.2 = a3 := by rw [← p1']
    show ∃ a', f_X12_fitOf_13 (N4 w) (q + 1) a1 a2 a3 (N4 i) τ = _ ∧ _
    rw [f_X12_fitOf_13, if_neg (fun q => by have := (n8_rays hd (by omega)).mp q; omega), if_neg (show ¬ (3 : Int32) ≤ N4 w from fun q => by have := (n4_le (a := 3) (by omega) (by omega)).mp q; omega), m_isActive (by omega), bd_s, hmt, n4_succ]
    by_cases c : actR m i = true
    · obtain ⟨ρ, r1, r2⟩ := m_residualOf hd (by rw [hmt]; exact hV.2.2.2.1) hi (by rw [hmt]; exact hV.s8)
      rw [hmt] at r1
      have hf : fitS m W H (i + 1) = (a1 + resA m W H i, if resA m W H i ≤ a2 then a2 else resA m W H i, if a3 = -1 then N8 i else if resA m W H i ≤ a2 then a3 else N8 i) := by
        rw [← e1, ← e2, ← e3]
        show (if actR m i = true then _ else _) = _
        rw [if_pos c]
      have h8 : (N4 i).toInt64 = N8 i := n4_64 (by omega)
      have hr : abs8 (m (139 + 4 * i) - wtm m W H i) = resA m W H i := rfl
      rw [if_neg (fun e => by rw [act_b.mp e] at c; cases c), r1, bd_s, m_abs, bd_s, h8, hr, hf]
      by_cases c3 : a3 = -1
      · rw [if_pos c3, if_pos c3]
        by_cases c2 : resA m W H i ≤ a2
        · rw [if_pos c2, if_pos c2]; exact ⟨(_, _, _, ρ), rfl, rfl, p2.trans r2⟩
        · rw [if_neg c2, if_neg c2]; exact ⟨(_, _, _, ρ), rfl, rfl, p2.trans r2⟩
      · rw [if_neg c3, if_neg c3]
        by_cases c2 : resA m W H i ≤ a2
        · rw [if_pos c2, if_pos c2, if_pos c2, if_pos c2]; exact ⟨(_, _, _, ρ), rfl, rfl, p2.trans r2⟩
        · rw [if_neg c2, if_neg c2, if_neg c2, if_neg c2]; exact ⟨(_, _, _, ρ), rfl, rfl, p2.trans r2⟩
    · rw [if_pos (act_b.mpr (eq_false_of_ne_true c))]
      refine ⟨(a1, a2, a3, τ), rfl, ?_, p2⟩
      show (a1, a2, a3) = (if actR m i = true then _ else _)
      rw [if_neg c]; exact p1
noncomputable def fitV (m : Nat → Int64) (W H n w : Nat) : Int64 := if w = 0 then (fitS m W H n).1 else if w = 1 then (fitS m W H n).2.1 else if w = 2 then (fitS m W H n).2.2 else if w = 3 then sum8 (fun c => abs8 (m (8 + c) - m (72 + c))) (W * H) else sum8 (fun c => m (8 + c)) (W * H)
theorem m_fitOf {w : Nat} (hm : σ.2 225 = m) (hV : Val m W H n) (hw : w < 5) : ∃ τ, f_X12_fitOf (N4 w) σ = some (fitV m W H n w, τ) ∧ Fq σ τ := by
  have h : Dm (σ.2 225) W H n := by rw [hm]; exact hV.1
  have hn := h.2.2.2.2.2.2.2
  have hK := h.K
  unfold f_X12_fitOf fitV
  by_cases q : w < 3
  · obtain ⟨τ, a1, a2⟩ := m_fit13 hm hV q
    have hd : Dm (τ.2 225) W H n := by rw [a2.dm]; exact h
    have h110 : ∀ y1 y2 y3, f_X12_fitOf_110 (N4 w) y1 y2 τ 100000 y3 (N4 0) = some y3 := fun y1 y2 y3 => by
      rw [show (100000 : Nat) = 99999 + 1 from rfl, f_X12_fitOf_110, m_cells hd, bd_s, if_neg (fun q => by have := (n4_le (by omega) (by omega)).mp q; omega), if_pos (show N4 w ≤ 2 from (n4_le (b := 2) (by omega) (by omega)).mpr (by omega))]
    rw [show (0 : Int32) = N4 0 from rfl, a1, bd_s, h110, bd_s]
    by_cases e1 : w = 1
    · rw [if_pos (show N4 w = 1 by rw [e1]; rfl), if_neg (show ¬ w = 0 by omega), if_pos e1]; exact ⟨τ, rfl, a2.w.q⟩
    · rw [if_neg (show ¬ N4 w = 1 from fun q => e1 ((n4_eq (b := 1) (by omega) (by omega)).mp q)), if_neg e1]
      by_cases e2 : w = 2
      · rw [if_pos (show N4 w = 2 by rw [e2]; rfl), if_neg (show ¬ w = 0 by omega), if_pos e2]; exact ⟨τ, rfl, a2.w.q⟩
      · rw [if_neg (show ¬ N4 w = 2 from fun q => e2 ((n4_eq (b := 2) (by omega) (by omega)).mp q)), if_pos (show w = 0 by omega)]; exact ⟨τ, rfl, a2.w.q⟩
  · have h13 : ∃ y : Int64 × Int64, f_X12_fitOf_13 (N4 w) 100000 0 0 (-1) (N4 0) σ = some (0, y.1, y.2, σ) := by
      refine ⟨(0, -1), ?_⟩
      rw [show (100000 : Nat) = 99999 + 1 from rfl, f_X12_fitOf_13]
      by_cases e : n = 0
      · rw [if_pos ((n8_rays h (by omega)).mpr (by omega))]
      · rw [if_neg (fun q => e (by have := (n8_rays h (by omega)).mp q; omega)), if_pos (show (3 : Int32) ≤ N4 w from (n4_le (a := 3) (by omega) (by omega)).mpr (by omega))]
    obtain ⟨y, hy⟩ := h13
    have h110 := loopF (fun q i (a : Int64) => f_X12_fitOf_110 (N4 w) y.1 y.2 σ q a (N4 i)) (W * H) (fun i => sum8 (fun c => if w = 3 then abs8 (m (8 + c) - m (72 + c)) else m (8 + c)) i) (sum8 (fun c => if w = 3 then abs8 (m (8 + c) - m (72 + c)) else m (8 + c)) (W * H)) (by
        intro q
        show f_X12_fitOf_110 (N4 w) y.1 y.2 σ (q + 1) _ (N4 (W * H)) = _
        rw [f_X12_fitOf_110, m_cells h, bd_s, if_pos ((n4_le (by omega) (by omega)).mpr (Nat.le_refl _))]) (by
        intro q i hi
        show f_X12_fitOf_110 (N4 w) y.1 y.2 σ (q + 1) (sum8 (fun c => if w = 3 then abs8 (m (8 + c) - m (72 + c)) else m (8 + c)) i) (N4 i) = f_X12_fitOf_110 (N4 w) y.1 y.2 σ q (sum8 (fun c => if w = 3 then abs8 (m (8 + c) - m (72 + c)) else m (8 + c)) (i + 1)) (N4 (i + 1))
        rw [f_X12_fitOf_110, m_cells h, bd_s, if_neg (fun q => by have := (n4_le (by omega) (by omega)).mp q; omega), if_neg (show ¬ N4 w ≤ 2 from fun q => by have := (n4_le (b := 2) (by omega) (by omega)).mp q; omega), show (8 : Int32) = N4 8 from rfl, n4_add, gd_inb (by omega) (by omega), gd_inb (by omega) (by omega), show (72 : Int32) = N4 72 from rfl, n4_add, gd_inb (by omega) (by omega), n4_nat (by omega), n4_nat (by omega), m_abs, bd_s, hm, n4_succ]
        simp only [sum8]
        by_cases e : w = 3
        · rw [if_pos (show N4 w = 3 by rw [e]; rfl), if_pos e]
        · rw [if_neg (show ¬ N4 w = 3 from fun q => e ((n4_eq (b := 3) (by omega) (by omega)).mp q)), if_neg e]) 100000 0 (by omega) (by omega)
    have h110' : f_X12_fitOf_110 (N4 w) y.1 y.2 σ 100000 0 (N4 0) = _ := h110
    rw [show (0 : Int32) = N4 0 from rfl, hy, bd_s, h110', bd_s, if_neg (show ¬ N4 w = 1 from fun q => by have := (n4_eq (b := 1) (by omega) (by omega)).mp q; omega), if_neg (show ¬ N4 w = 2 from fun q => by have := (n4_eq (b := 2) (by omega) (by omega)).mp q; omega), if_neg (show ¬ w = 0 by omega), if_neg (show ¬ w = 1 by omega), if_neg (show ¬ w = 2 by omega)]
    refine ⟨σ, ?_, Fz.rfl⟩
    by_cases e : w = 3
    · rw [if_pos e]; simp only [if_pos e]
    · rw [if_neg e]; simp only [if_neg e]
theorem mo_fit1 (h1 : rng x1 0 4 = false) : f_X12_fit x1 σ = some (0, setI σ 224 5 1) := by
  unfold f_X12_fit
  rw [inr 0 4 rfl rfl, bd_s, if_pos (b4_f (bf h1)), mI_e, if_neg (by decide)]
theorem mo_fit {w : Nat} (hV : Val (σ.2 225) W H n) (hI : MInv σ hs sc) (hw : w < 5) : ∃ τ, f_X12_fit (N4 w) σ = some (fitV (σ.2 225) W H n w, τ) ∧ MO σ τ (σ.2 225) hs sc := by
  obtain ⟨τ, a1, a2⟩ := m_fitOf (σ := setI σ 224 5 0) (m := σ.2 225) rfl hV hw
  unfold f_X12_fit
  rw [inr 0 4 rfl rfl, bd_s, if_neg (b4_t (rng_c (b := 4) (by omega) (by omega))), mI_e, if_pos rfl, a1, bd_s]
  exact ⟨τ, rfl, MO.q0 hI a2⟩
/-! whatIf -/
theorem mo_whatIf1 (h : Dm (σ.2 225) W H n) (h1 : ¬ (rng x1 0 ((n : Int) - 1) = true ∧ rng x2 0 (((W * H : Nat) : Int) - 1) = true)) : f_X12_whatIf x1 x2 x3 σ = some (0, setI σ 224 5 1) := by
  unfold f_X12_whatIf
  rw [m_isRay h, bd_s]
  by_cases q : rng x1 0 ((n : Int) - 1) = true
  · rw [if_neg (b4_t q), m_isCell h, bd_s, if_pos (b4_f (fun e => h1 ⟨q, e⟩)), mI_e, if_neg (by decide)]
  · rw [if_pos (b4_f q), mI_e, if_neg (by decide)]
theorem mo_whatIf2 {r c : Nat} (h : Dm (σ.2 225) W H n) (hr : r < n) (hc : c < W * H) (h3 : rng x3 1 100000 = false) : f_X12_whatIf (N4 r) (N4 c) x3 σ = some (0, setI σ 224 5 2) := by
  have hn := h.2.2.2.2.2.2.2
  have hK := h.K
  unfold f_X12_whatIf
  rw [m_isRay h, bd_s, if_neg (b4_t (rng_i hr (by omega))), m_isCell h, bd_s, if_neg (b4_t (rng_i hc (by omega))), m_isSlow, bd_s, if_pos (b4_f (bf h3)), mI_e, if_neg (by decide)]
noncomputable def whaV (m : Nat → Int64) (W H r c : Nat) (v : Int64) : Int64 := wtm (vp_updL m (8 + c) v) W H r - wtm m W H r
theorem slw_rng {v : Int32} (h : rng v 1 100000 = true) : 1 ≤ v.toInt64.toInt ∧ v.toInt64.toInt ≤ 100000 := by
  unfold rng at h
  rw [decide_eq_true_eq] at h
  rw [Int32.toInt_toInt64]; exact h
theorem slo_upd {x c : Nat} {v : Int32} (h : Slo 64 (slw m x)) (hv : rng v 1 100000 = true) : Slo 64 (slw (vp_updL m (x + c) v.toInt64) x) := fun d hd => by
  unfold slw vp_updL
  by_cases e : x + d = x + c
  · rw [if_pos e]; exact slw_rng hv
  · rw [if_neg e]; exact h d hd
theorem mo_whatIf {r c : Nat} (hV : Val (σ.2 225) W H n) (hI : MInv σ hs sc) (hr : r < n) (hc : c < W * H) (h3 : rng x3 1 100000 = true) : ∃ τ, f_X12_whatIf (N4 r) (N4 c) x3 σ = some (whaV (σ.2 225) W H r c x3.toInt64, τ) ∧ MO σ τ (σ.2 225) hs sc := by
  have hn := hV.1.2.2.2.2.2.2.2
  have hK := hV.1.K
  obtain ⟨τ, a1, a2⟩ := m_timeOf (σ := setI σ 224 5 0) hV.1 hV.2.2.2.1 hr hV.s8
  have hM : MO σ τ (σ.2 225) hs sc := MO.q0 hI a2.w.q
  have hM2 := hM.l (j := 8 + c) (v := x3.toInt64)
  have hV2 : Dm (vp_updL (σ.2 225) (8 + c) x3.toInt64) W H n := dm_l hV.1 (by omega)
  have e : ∀ j, j ≠ 8 + c → vp_updL (σ.2 225) (8 + c) x3.toInt64 j = σ.2 225 j := fun j hj => if_neg hj
  obtain ⟨ρ, b1, b2⟩ := m_timeOf (σ := setL τ 225 (8 + c) x3.toInt64) (hM2.dm hV2) (by rw [hM2.1]; exact ra_of hV.2.2.2.1 (fun r hr => ⟨e _ (by omega), e _ (by omega)⟩)) hr (by rw [hM2.1]; exact (slo_upd hV.2.1 h3).mono hK.2)
  rw [hM2.1] at b1
  rw [show (setI σ 224 5 0).2 225 = σ.2 225 from rfl] at a1
  unfold f_X12_whatIf
  rw [m_isRay hV.1, bd_s, if_neg (b4_t (rng_i hr (by omega))), m_isCell hV.1, bd_s, if_neg (b4_t (rng_i hc (by omega))), m_isSlow, bd_s, if_neg (b4_t h3), mI_e, if_pos rfl, a1, bd_s, show (8 : Int32) = N4 8 from rfl, n4_add, gd_inb (by omega) (by omega), gd_inb (by omega) (by omega), n4_nat (by omega), b1, bd_s, gd_inb (by omega) (by omega), hM.1]
  refine ⟨_, rfl, ?_⟩
  have hM3 := (hM2.q b2.w.q).l (j := 8 + c) (v := σ.2 225 (8 + c))
  rw [upd_upd, upd_self rfl] at hM3
  exact hM3
end MASK
