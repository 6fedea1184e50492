/-! ===== the reference's simple calls, second half ===== -/
section MCALL2
variable {σ : Mem} {W H n : Nat} {hs : List (Nat → Int64)} {sc : List Nat} {x1 x2 x3 x4 : Int32}
theorem MO.dm {τ : Mem} {m' : Nat → Int64} {hs' : List (Nat → Int64)} {sc' : List Nat} (h : MO σ τ m' hs' sc') (hd : Dm m' W H n) : Dm (τ.2 225) W H n := by rw [h.1]; exact hd
theorem dm_l {m : Nat → Int64} {k : Nat} {v : Int64} (h : Dm m W H n) (hk : 8 ≤ k ∨ (k ≠ 0 ∧ k ≠ 1 ∧ k ≠ 7)) : Dm (vp_updL m k v) W H n := by
  obtain ⟨h0, h1, h7, h⟩ := h
  refine ⟨?_, ?_, ?_, h⟩
  · rw [← h0]; simp [vp_updL]; omega
  · rw [← h1]; simp [vp_updL]; omega
  · rw [← h7]; simp [vp_updL]; omega
/-! setBounds -/
def outB (m : Nat → Int64) (K : Nat) (lo hi : Int64) : Nat := cnt (fun c => !decide (lo ≤ m (8 + c) ∧ m (8 + c) ≤ hi)) K
theorem m_outB (h : Dm (σ.2 225) W H n) : f_X12_setBounds_66 x1 x2 σ 100000 (N4 0) (N4 0) = some (N4 (outB (σ.2 225) (W * H) x1.toInt64 x2.toInt64)) := by
  have hK := h.K
  have key := loopF (fun k i (a : Int32) => f_X12_setBounds_66 x1 x2 σ k a (N4 i)) (W * H) (fun i => N4 (outB (σ.2 225) i x1.toInt64 x2.toInt64)) (N4 (outB (σ.2 225) (W * H) x1.toInt64 x2.toInt64)) ?_ ?_ 100000 0 (by omega) (by omega)
  · exact key
  · intro k
    show f_X12_setBounds_66 x1 x2 σ (k + 1) _ (N4 (W * H)) = _
    rw [f_X12_setBounds_66, m_cells h, bd_s, if_pos ((n4_le (by omega) (by omega)).mpr (Nat.le_refl _))]
  · intro k i hi
    show f_X12_setBounds_66 x1 x2 σ (k + 1) (N4 (outB (σ.2 225) i x1.toInt64 x2.toInt64)) (N4 i) = f_X12_setBounds_66 x1 x2 σ k (N4 (outB (σ.2 225) (i + 1) x1.toInt64 x2.toInt64)) (N4 (i + 1))
    rw [f_X12_setBounds_66, m_cells h, bd_s, if_neg (fun q => by have := (n4_le (by omega) (by omega)).mp q; omega), show (8 : Int32) = N4 8 from rfl, n4_add, gd_inb (by omega) (by omega), n4_nat (by omega), b4_in, bd_s]
    unfold outB
    simp only [cnt]
    by_cases q : x1.toInt64 ≤ σ.2 225 (8 + i) ∧ σ.2 225 (8 + i) ≤ x2.toInt64
    · rw [if_neg (b4_t q), show (0 : Int32) = N4 0 from rfl, n4_add, n4_succ, if_neg (by simp [q])]
    · rw [if_pos (b4_f q), n4_succ, n4_succ, if_pos (by simp only [Bool.not_eq_true', decide_eq_false_iff_not]; exact q)]
theorem mo_setBounds1 (h1 : ¬ (rng x1 1 x2.toInt = true ∧ rng x2 1 100000 = true)) : f_X12_setBounds x1 x2 σ = some (0, setI σ 224 5 1) := by
  unfold f_X12_setBounds
  rw [inr 1 x2.toInt rfl (Int32.toInt_toInt64 x2), bd_s]
  by_cases h : rng x1 1 x2.toInt = true
  · rw [if_neg (b4_t h), inr 1 100000 rfl rfl, bd_s, if_pos (b4_f (fun q => h1 ⟨h, q⟩)), mI_e, if_neg (by decide)]
  · rw [if_pos (b4_f h), mI_e, if_neg (by decide)]
def mBnd (m : Nat → Int64) (lo hi : Int64) : Nat → Int64 := vp_updL (vp_updL m 2 lo) 3 hi
theorem mo_setBounds (h : Dm (σ.2 225) W H n) (hI : MInv σ hs sc) (h1 : rng x1 1 x2.toInt = true) (h2 : rng x2 1 100000 = true) : ∃ τ, f_X12_setBounds x1 x2 σ = some (N4 (outB (σ.2 225) (W * H) x1.toInt64 x2.toInt64), τ) ∧ MO σ τ (mBnd (σ.2 225) x1.toInt64 x2.toInt64) (push hs (σ.2 225)) sc := by
  obtain ⟨τ, a1, a2⟩ := m_keep0 hI
  have a3 : MO σ (setL (setL τ 225 2 x1.toInt64) 225 3 x2.toInt64) (mBnd (σ.2 225) x1.toInt64 x2.toInt64) (push hs (σ.2 225)) sc := a2.l.l
  have hd := a3.dm (dm_l (dm_l h (by omega)) (by omega))
  have e : outB (mBnd (σ.2 225) x1.toInt64 x2.toInt64) (W * H) x1.toInt64 x2.toInt64 = outB (σ.2 225) (W * H) x1.toInt64 x2.toInt64 := cnt_congr fun i hi => by simp [mBnd, vp_updL, show 8 + i ≠ 2 by omega, show 8 + i ≠ 3 by omega]
  unfold f_X12_setBounds
  rw [inr 1 x2.toInt rfl (Int32.toInt_toInt64 x2), bd_s, if_neg (b4_t h1), inr 1 100000 rfl rfl, bd_s, if_neg (b4_t h2), mI_e, if_pos rfl, a1, bd_s, show (2 : Int32).toNatClampNeg = 2 from rfl, show (3 : Int32).toNatClampNeg = 3 from rfl]
  rw [show (0 : Int32) = N4 0 from rfl, m_outB hd, bd_s, a3.1, e]
  exact ⟨_, rfl, a3⟩
/-! rays -/
def mAdd (m : Nat → Int64) (n : Nat) (s r : Int64) : Nat → Int64 := vp_updL (vp_updL (vp_updL (vp_updL (vp_updL m (136 + 4 * n) s) (137 + 4 * n) r) (138 + 4 * n) 1) (139 + 4 * n) (-1)) 7 (N8 (n + 1))
theorem m_adds (h : Dm (σ.2 225) W H n) (hn : n < 16) : f_X12_adds x1 x2 σ = some (N4 n, setL (setL (setL (setL (setL σ 225 (136 + 4 * n) x1.toInt64) 225 (137 + 4 * n) x2.toInt64) 225 (138 + 4 * n) 1) 225 (139 + 4 * n) (-1)) 225 7 (N8 (n + 1))) := by
  unfold f_X12_adds
  rw [show (7 : Int32).toNatClampNeg = 7 from rfl, h.2.2.1, n8_32, show (0 : Int32) = N4 0 from rfl, m_put hn (by omega), bd_s, show (1 : Int32) = N4 1 from rfl, m_put hn (by omega), bd_s, show (2 : Int32) = N4 2 from rfl, m_put hn (by omega), bd_s, show (3 : Int32) = N4 3 from rfl, m_put hn (by omega), bd_s, mL_j (by omega), mL_j (by omega), mL_j (by omega), mL_j (by omega), h.2.2.1, show (1 : Int64) = N8 1 from rfl, n8_add, show 136 + 4 * n + 1 = 137 + 4 * n by omega, show 136 + 4 * n + 2 = 138 + 4 * n by omega, show 136 + 4 * n + 3 = 139 + 4 * n by omega, Nat.add_zero]
theorem MO.add {τ : Mem} {m' : Nat → Int64} {hs' : List (Nat → Int64)} {sc' : List Nat} {s r : Int64} (h : MO σ τ m' hs' sc') : MO σ (setL (setL (setL (setL (setL τ 225 (136 + 4 * n) s) 225 (137 + 4 * n) r) 225 (138 + 4 * n) 1) 225 (139 + 4 * n) (-1)) 225 7 (N8 (n + 1))) (mAdd m' n s r) hs' sc' := h.l.l.l.l.l
def noRay (H n : Nat) (x1 x2 : Int32) : Int32 := if rng x1 0 ((H : Int) - 1) = true ∧ rng x2 0 ((H : Int) - 1) = true then (if n = 16 then 2 else 0) else 1
theorem m_whyNo (h : Dm (σ.2 225) W H n) : f_X12_whyNoRay x1 x2 σ = some (noRay H n x1 x2) := by
  have hn := h.2.2.2.2.2.2.2
  unfold f_X12_whyNoRay noRay
  rw [m_isRow h, bd_s]
  by_cases h1 : rng x1 0 ((H : Int) - 1) = true
  · rw [if_neg (b4_t h1), m_isRow h, bd_s]
    by_cases h2 : rng x2 0 ((H : Int) - 1) = true
    · have hh : rng x1 0 ((H : Int) - 1) = true ∧ rng x2 0 ((H : Int) - 1) = true := ⟨h1, h2⟩
      rw [if_neg (b4_t h2), if_pos hh, show (7 : Int32).toNatClampNeg = 7 from rfl, h.2.2.1]
      by_cases e : n = 16
      · rw [if_pos e, if_pos (show N8 n = 16 by rw [e]; rfl)]
      · rw [if_neg e, if_neg (show ¬ N8 n = 16 from fun q => e ((n8_eq (b := 16) (by omega) (by omega)).mp q))]
    · rw [if_pos (b4_f h2), if_neg (fun q => h2 q.2)]
  · rw [if_pos (b4_f h1), if_neg (fun q => h1 q.1)]
theorem mo_addRay0 (h : Dm (σ.2 225) W H n) (h1 : noRay H n x1 x2 ≠ 0) : f_X12_addRay x1 x2 σ = some (0, setI σ 224 5 (noRay H n x1 x2)) := by
  unfold f_X12_addRay
  rw [m_whyNo h, bd_s, mI_e, if_neg h1]
theorem mo_addRay (h : Dm (σ.2 225) W H n) (hI : MInv σ hs sc) (h1 : noRay H n x1 x2 = 0) (hn : n < 16) : ∃ τ, f_X12_addRay x1 x2 σ = some (N4 n, τ) ∧ MO σ τ (mAdd (σ.2 225) n x1.toInt64 x2.toInt64) (push hs (σ.2 225)) sc := by
  obtain ⟨τ, a1, a2⟩ := m_keep0 hI
  unfold f_X12_addRay
  rw [m_whyNo h, bd_s, mI_e, if_pos h1, h1, a1, bd_s, m_adds (a2.dm h) hn, bd_s]
  exact ⟨_, rfl, a2.add⟩
theorem mo_setUsed1 (h : Dm (σ.2 225) W H n) (h1 : rng x1 0 ((n : Int) - 1) = false) : f_X12_setUsed x1 x2 σ = some (0, setI σ 224 5 1) := by
  unfold f_X12_setUsed
  rw [m_isRay h, bd_s, if_pos (b4_f (bf h1)), mI_e, if_neg (by decide)]
theorem rng_i {c K : Nat} (hc : c < K) (hK : K < 2147483648) : rng (N4 c) 0 ((K : Int) - 1) = true := by
  unfold rng
  rw [n4_int (by omega), decide_eq_true_eq]
  omega
def mUse (m : Nat → Int64) (r : Nat) (x : Int32) : Nat → Int64 := vp_updL m (138 + 4 * r) (if x = 0 then 0 else 1)
theorem mo_setUsed {r : Nat} (h : Dm (σ.2 225) W H n) (hI : MInv σ hs sc) (hr : r < n) : ∃ τ, f_X12_setUsed (N4 r) x2 σ = some (N4 (cnt (actR (mUse (σ.2 225) r x2)) n), τ) ∧ MO σ τ (mUse (σ.2 225) r x2) (push hs (σ.2 225)) sc := by
  have hn := h.2.2.2.2.2.2.2
  obtain ⟨τ, a1, a2⟩ := m_keep0 hI
  have a3 : MO σ (setL τ 225 (138 + 4 * r) (if x2 = 0 then 0 else 1)) (mUse (σ.2 225) r x2) (push hs (σ.2 225)) sc := a2.l
  have hd := a3.dm (dm_l h (by omega))
  have hac := m_actives hd
  rw [a3.1] at hac
  unfold f_X12_setUsed
  rw [m_isRay h, bd_s, if_neg (b4_t (rng_i hr (by omega))), mI_e, if_pos rfl, a1, bd_s, show (2 : Int32) = N4 2 from rfl, m_put (by omega) (by omega), m_put (by omega) (by omega), bd_s, bd_s, show 136 + 4 * r + 2 = 138 + 4 * r by omega]
  by_cases e : x2 = 0
  · rw [if_pos e] at hac a3 ⊢
    rw [hac, bd_s]
    exact ⟨_, rfl, a3⟩
  · rw [if_neg e] at hac a3 ⊢
    rw [hac, bd_s]
    exact ⟨_, rfl, a3⟩
theorem mo_setTime1 {t : Int64} (h : Dm (σ.2 225) W H n) (h1 : rng x1 0 ((n : Int) - 1) = false) : f_X12_setTime x1 t σ = some (0, setI σ 224 5 1) := by
  unfold f_X12_setTime
  rw [m_isRay h, bd_s, if_pos (b4_f (bf h1)), mI_e, if_neg (by decide)]
theorem mo_setTime2 {r : Nat} {t : Int64} (h : Dm (σ.2 225) W H n) (hr : r < n) (h2 : ¬ (-1 ≤ t ∧ t ≤ 100000000000)) : f_X12_setTime (N4 r) t σ = some (0, setI σ 224 5 2) := by
  have hn := h.2.2.2.2.2.2.2
  unfold f_X12_setTime
  rw [m_isRay h, bd_s, if_neg (b4_t (rng_i hr (by omega))), b4_in, bd_s, if_pos (b4_f h2), mI_e, if_neg (by decide)]
theorem mo_setTime {r : Nat} {t : Int64} (h : Dm (σ.2 225) W H n) (hI : MInv σ hs sc) (hr : r < n) (h2 : -1 ≤ t ∧ t ≤ 100000000000) : ∃ τ, f_X12_setTime (N4 r) t σ = some (σ.2 225 (139 + 4 * r), τ) ∧ MO σ τ (vp_updL (σ.2 225) (139 + 4 * r) t) (push hs (σ.2 225)) sc := by
  have hn := h.2.2.2.2.2.2.2
  obtain ⟨τ, a1, a2⟩ := m_keep0 hI
  unfold f_X12_setTime
  rw [m_isRay h, bd_s, if_neg (b4_t (rng_i hr (by omega))), b4_in, bd_s, if_neg (b4_t h2), mI_e, if_pos rfl, a1, bd_s, show (3 : Int32) = N4 3 from rfl, m_of (by omega) (by omega), bd_s, m_put (by omega) (by omega), bd_s, show 136 + 4 * r + 3 = 139 + 4 * r by omega, a2.1]
  exact ⟨_, rfl, a2.l⟩
theorem mo_setOrder1 (h1 : ¬ (rng x1 1 2000 = true ∧ rng x2 0 3 = true ∧ rng x3 0 999999 = true)) : f_X12_setOrder x1 x2 x3 σ = some (0, setI σ 224 5 1) := by
  unfold f_X12_setOrder
  rw [inr 1 2000 rfl rfl, bd_s]
  by_cases h : rng x1 1 2000 = true
  · rw [if_neg (b4_t h), inr 0 3 rfl rfl, bd_s]
    by_cases h' : rng x2 0 3 = true
    · rw [if_neg (b4_t h'), inr 0 999999 rfl rfl, bd_s, if_pos (b4_f (fun q => h1 ⟨h, h', q⟩)), mI_e, if_neg (by decide)]
    · rw [if_pos (b4_f h'), mI_e, if_neg (by decide)]
  · rw [if_pos (b4_f h), mI_e, if_neg (by decide)]
def mOrd (m : Nat → Int64) (re od s : Int64) : Nat → Int64 := vp_updL (vp_updL (vp_updL m 4 re) 5 od) 6 s
theorem mo_setOrder (hI : MInv σ hs sc) (h1 : rng x1 1 2000 = true) (h2 : rng x2 0 3 = true) (h3 : rng x3 0 999999 = true) : ∃ τ, f_X12_setOrder x1 x2 x3 σ = some ((σ.2 225 4).toInt32, τ) ∧ MO σ τ (mOrd (σ.2 225) x1.toInt64 x2.toInt64 x3.toInt64) (push hs (σ.2 225)) sc := by
  obtain ⟨τ, a1, a2⟩ := m_keep0 hI
  unfold f_X12_setOrder
  rw [inr 1 2000 rfl rfl, bd_s, if_neg (b4_t h1), inr 0 3 rfl rfl, bd_s, if_neg (b4_t h2), inr 0 999999 rfl rfl, bd_s, if_neg (b4_t h3), mI_e, if_pos rfl, a1, bd_s, bd_s, show (4 : Int32).toNatClampNeg = 4 from rfl, show (5 : Int32).toNatClampNeg = 5 from rfl, show (6 : Int32).toNatClampNeg = 6 from rfl, a2.1]
  exact ⟨_, rfl, a2.l.l.l⟩
/-! script bytes -/
theorem mo_type1 (h1 : rng x1 0 127 = false) : f_X12_type x1 σ = some (0, setI σ 224 5 1) := by
  unfold f_X12_type
  rw [inr 0 127 rfl rfl, bd_s, if_pos (b4_f (bf h1)), mI_e, if_neg (by decide)]
theorem mo_type2 (hI : MInv σ hs sc) (h1 : rng x1 0 127 = true) (h2 : sc.length = 120) : f_X12_type x1 σ = some (0, setI σ 224 5 2) := by
  unfold f_X12_type
  rw [inr 0 127 rfl rfl, bd_s, if_neg (b4_t h1), hI.2.2.2.1, if_pos (show N4 sc.length = 120 by rw [h2]; rfl), mI_e, if_neg (by decide)]
theorem getD_last {l : List Nat} {v i : Nat} (hi : i < (l ++ [v]).length) : (l ++ [v]).getD i 0 = if i = l.length then v else l.getD i 0 := by
  rw [List.length_append, List.length_singleton] at hi
  by_cases e : i = l.length
  · rw [if_pos e, getD_app e]; rfl
  · rw [if_neg e, List.getD_eq_getElem?_getD, List.getElem?_append_left (by omega), List.getD_eq_getElem?_getD]
theorem mo_type {v : Nat} (hI : MInv σ hs sc) (hv : v < 128) (h2 : sc.length < 120) : ∃ τ, f_X12_type (N4 v) σ = some (N4 (sc.length + 1), τ) ∧ MO σ τ (σ.2 225) hs (sc ++ [v]) := by
  have h1 : rng (N4 v) 0 127 = true := rng_i (K := 128) hv (by omega)
  obtain ⟨⟨a1, a2, a3⟩, b1, b2, b3, b4⟩ := hI
  have hl : (sc ++ [v]).length = sc.length + 1 := by rw [List.length_append]; rfl
  unfold f_X12_type
  rw [inr 0 127 rfl rfl, bd_s, if_neg (b4_t h1), b3, if_neg (show ¬ N4 sc.length = 120 from fun q => by have := (n4_eq (b := 120) (by omega) (by omega)).mp q; omega), mI_e, if_pos rfl, mI_j (by omega), b3, gd_inb (by omega) (by omega), bd_s, n4_nat (by omega), mI_e, mI_p (by omega), mI_j (by omega), b3, n4_succ]
  refine ⟨_, rfl, rfl, ⟨⟨a1, ?_, a3⟩, ?_, ?_, ?_, ?_⟩, ⟨fun q hq => ?_, fun q _ => rfl, ?_⟩, ?_⟩
  · rw [mI_j (by omega), mI_p (by omega), mI_j (by omega)]; exact a2
  · omega
  · intro i hi
    rw [getD_last hi]
    split
    · exact hv
    · exact b2 i (by omega)
  · rw [mI_e, hl]
  · intro i hi
    rw [getD_last hi, mI_p (by omega)]
    by_cases e : i = sc.length
    · rw [if_pos e, e, mI_e]
    · rw [if_neg e, mI_j e, mI_p (by omega)]
      exact b4 i (by omega)
  · rw [mI_p (by omega), mI_p (by omega), mI_p (by omega)]
  · rw [mI_j (by omega), mI_p (by omega), mI_j (by omega)]
  · rw [mI_j (by omega), mI_p (by omega), mI_e]
theorem mo_clear (hI : MInv σ hs sc) : ∃ τ, f_X12_clearScript σ = some (N4 sc.length, τ) ∧ MO σ τ (σ.2 225) hs [] := by
  obtain ⟨⟨a1, a2, a3⟩, b1, b2, b3, b4⟩ := hI
  unfold f_X12_clearScript
  rw [mI_j (by omega), b3]
  refine ⟨_, rfl, rfl, ⟨⟨a1, ?_, a3⟩, by simp, fun i hi => ?_, ?_, fun i hi => ?_⟩, ⟨fun q hq => ?_, fun q _ => rfl, ?_⟩, ?_⟩
  · rw [mI_j (by omega), mI_j (by omega)]; exact a2
  · simp at hi
  · rw [mI_e]; rfl
  · simp at hi
  · rw [mI_p (by omega), mI_p (by omega)]
  · rw [mI_j (by omega), mI_j (by omega)]
  · rw [mI_j (by omega), mI_e]
/-! undo -/
theorem mo_undo1 (hI : MInv σ [] sc) : f_X12_undo σ = some (0, setI σ 224 5 1) := by
  unfold f_X12_undo
  rw [hI.1.2.1, if_pos (show N4 ([] : List (Nat → Int64)).length = 0 from rfl), mI_e, if_neg (by decide)]
def mUnd (m h : Nat → Int64) : Nat → Int64 := fun j => if j < 200 then h j else m j
theorem undo_copy {k : Nat} {m0 : Nat → Int64} (h2 : σ.1 224 2 = N4 k) (hk : k < 4) (h6 : ∀ j, j < 200 → σ.2 226 (200 * k + j) = m0 j) : ∃ τ, f_X12_undo_37 100000 (N4 0) σ = some τ ∧ τ.1 = σ.1 ∧ (∀ q, q ≠ 225 → τ.2 q = σ.2 q) ∧ τ.2 225 = mUnd (σ.2 225) m0 := by
  refine loopU (fun n i τ => f_X12_undo_37 n (N4 i) τ) 200 (fun i τ => τ.1 = σ.1 ∧ (∀ q, q ≠ 225 → τ.2 q = σ.2 q) ∧ τ.2 225 = fun j => if j < i then m0 j else σ.2 225 j) (fun τ => τ.1 = σ.1 ∧ (∀ q, q ≠ 225 → τ.2 q = σ.2 q) ∧ τ.2 225 = mUnd (σ.2 225) m0) ?_ ?_ 100000 0 σ (by omega) (by omega) ⟨rfl, fun _ _ => rfl, by funext j; rw [if_neg (by omega)]⟩
  · intro n τ hP
    refine ⟨τ, ?_, hP⟩
    show f_X12_undo_37 (n + 1) (N4 200) τ = some τ
    rw [f_X12_undo_37, if_pos (show (200 : Int32) ≤ N4 200 from (n4_le (a := 200) (by omega) (by omega)).mpr (Nat.le_refl _))]
  · intro n i τ hi hP
    obtain ⟨p1, p2, p3⟩ := hP
    show ∃ a', f_X12_undo_37 (n + 1) (N4 i) τ = _ ∧ _
    rw [f_X12_undo_37, if_neg (fun q => by have := (n4_le (a := 200) (by omega) (by omega)).mp q; omega), p1, h2, show (200 : Int32) = N4 200 from rfl, n4_mul, n4_add, gd_inb (by omega) (by omega), gd_inb (by omega) (by omega), n4_nat (by omega), n4_nat (by omega), n4_succ]
    refine ⟨_, rfl, p1, fun q hq => (mL_p hq).trans (p2 q hq), ?_⟩
    funext j
    by_cases e : j = i
    · rw [e, mL_e, if_pos (by omega), p2 226 (by omega)]; exact h6 i hi
    · rw [mL_j e, p3]
      show (if j < i then m0 j else _) = _
      by_cases q : j < i
      · rw [if_pos q, if_pos (by omega)]
      · rw [if_neg q, if_neg (by omega)]
theorem mo_undo {k : Nat} (hI : MInv σ hs sc) (hk : hs.length = k + 1) : ∃ τ, f_X12_undo σ = some (N4 k, τ) ∧ MO σ τ (mUnd (σ.2 225) (hs.getD k zr)) (hs.take k) sc := by
  obtain ⟨⟨a1, a2, a3⟩, b1, b2, b3, b4⟩ := hI
  have e2 : (setI (setI σ 224 5 0) 224 2 (N4 k)).1 224 2 = N4 k := mI_e
  obtain ⟨τ, t1, t2, t3, t4⟩ := undo_copy (σ := setI (setI σ 224 5 0) 224 2 (N4 k)) (m0 := hs.getD k zr) e2 (by omega) (fun j hj => a3 k (by omega) j hj)
  unfold f_X12_undo
  rw [a2, if_neg (show ¬ N4 hs.length = 0 from n4_ne0 (by omega) (by omega)), mI_e, if_pos rfl, mI_j (by omega), a2, show N4 hs.length - 1 = N4 k by rw [show (1 : Int32) = N4 1 from rfl, n4_sub (by omega)]; congr 1; omega, show (0 : Int32) = N4 0 from rfl]
  rw [show (0 : Int32) = N4 0 from rfl] at t1
  rw [t1, bd_s, t2, e2]
  have hl : (hs.take k).length = k := by rw [List.length_take]; omega
  refine ⟨τ, rfl, t4, ⟨⟨by omega, by rw [t2, hl]; exact e2, fun i hi j hj => ?_⟩, b1, b2, ?_, ?_⟩, ⟨fun q hq => ?_, fun q hq => t3 q (by omega), ?_⟩, ?_⟩
  · rw [t3 226 (by omega)]
    rw [hl] at hi
    rw [List.getD_eq_getElem?_getD, List.getElem?_take_of_lt hi, ← List.getD_eq_getElem?_getD]
    exact a3 i (by omega) j hj
  · rw [t2, mI_j (by omega), mI_j (by omega)]; exact b3
  · intro i hi
    rw [t2, mI_p (by omega), mI_p (by omega)]; exact b4 i hi
  · rw [t2, mI_p (by omega), mI_p (by omega)]
  · rw [t2, mI_j (by omega), mI_j (by omega)]
  · rw [t2, mI_j (by omega), mI_e]
end MCALL2
