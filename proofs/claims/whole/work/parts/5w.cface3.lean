/-! ===== the class's calls: bounds, rays, order, beginning, undoing, typing ===== -/
section CFACE3
variable {σ τ : Mem} {W H n W' H' n' : Nat} {m m' : Nat → Int64} {hs hs' : List (Nat → Int64)} {sc : List Nat} {x1 x2 x3 x4 : Int32}
theorem co_setBounds1 (h1 : ¬ (rng x1 1 x2.toInt = true ∧ rng x2 1 100000 = true)) : f_X11_setBounds x1 x2 σ = some (.inr xIA, σ) := by
  unfold f_X11_setBounds
  rw [cn_r 1 100000 (by decide) (by decide), bd_s]
  by_cases q : rng x2 1 100000 = true
  · rw [if_pos q, xm_l, cn_r 1 x2.toInt (by decide) rfl, bd_s, if_neg (fun e => h1 ⟨e, q⟩), xm_r]
  · rw [if_neg q, xm_r]
/-- the class's State at places 0..7 other than 0, 1, 7 -/
theorem cs_small (h : CS σ m W H n) (hV : Val m' W H n) (e : ∀ j, (j < 2 ∨ 7 ≤ j) → m' j = m j) (tI : ∀ q, q ≠ 1 → τ.1 q = σ.1 q) (tL : ∀ q, q ≠ 1 → τ.2 q = σ.2 q) (t7 : τ.1 1 7 = σ.1 1 7) (t : ∀ j, j < 6 → m' j = (τ.1 1 j).toInt64) (t6 : m' 6 = τ.2 1 6) : CS τ m' W H n := by
  obtain ⟨s1, s2, s3, s4, s5⟩ := h.2.1
  refine ⟨hV, ⟨t, t6, by rw [e 7 (by omega), t7]; exact s3, fun c hc => ?_, fun r hr => ?_⟩, h.2.2.1.of (fun q a b => tI q (by omega)) h.1.1.K.2, cch_congr h.1 (fun c hc => e _ (by omega)) (fun r hr => ⟨e _ (by omega), e _ (by omega)⟩) (cch_of h.2.2.2 (fun q _ _ => tI q (by omega)) (tL 146 (by omega)) h.1.1.2.2.2.2.2.2.2)⟩
  · rw [e _ (by omega), e _ (by omega), tI (1 + 1) (by omega), tI (1 + 2) (by omega)]; exact s4 c hc
  · rw [e _ (by omega), e _ (by omega), e _ (by omega), e _ (by omega), tI (1 + 3) (by omega), tI (1 + 4) (by omega), tI (1 + 6) (by omega), tL (1 + 5) (by omega)]; exact s5 r hr
theorem co_setBounds (h : CI σ m W H n hs sc) (h1 : rng x1 1 x2.toInt = true) (h2 : rng x2 1 100000 = true) : ∃ τ, f_X11_setBounds x1 x2 σ = some (.inl (N4 (outB m (W * H) x1.toInt64 x2.toInt64)), τ) ∧ CO σ τ (mBnd m x1.toInt64 x2.toInt64) W H n (push hs m) sc := by
  obtain ⟨b, rfl, b1, b2, b3⟩ := rng_lo (a := 1) (b := 100000) h2
  have h1' : rng x1 ((1 : Nat) : Int) (b : Int) = true := by rw [n4_int (by omega)] at h1; exact h1
  obtain ⟨a, rfl, a1, a2, a3⟩ := rng_lo h1'
  obtain ⟨τ, c1, c2, c3⟩ := co_save h
  obtain ⟨s1, s2, s3, s4, s5⟩ := c2.1.1.2.1
  have hC : CS (setI (setI τ 1 2 (N4 a)) 1 3 (N4 b)) (mBnd m (N8 a) (N8 b)) W H n := by
    refine cs_small c2.1.1 (val_bnd h.1.1 a1 a2 b2) (fun j hj => by unfold mBnd vp_updL; rw [if_neg (by omega), if_neg (by omega)]) (fun q hq => by rw [mI_p hq, mI_p hq]) (fun q hq => rfl) (by rw [mI_j (by omega), mI_j (by omega)]) (fun j hj => ?_) ?_
    · unfold mBnd vp_updL
      by_cases e3 : j = 3
      · rw [if_pos e3, e3, mI_e, n4_64 (by omega)]
      · rw [if_neg e3, mI_j e3]
        by_cases e2 : j = 2
        · rw [if_pos e2, e2, mI_e, n4_64 (by omega)]
        · rw [if_neg e2, mI_j e2]; exact s1 j hj
    · unfold mBnd vp_updL
      rw [if_neg (by omega), if_neg (by omega)]; exact s2
  have ho := c_outB hC
  have e2 : mBnd m (N8 a) (N8 b) 2 = N8 a := by unfold mBnd vp_updL; rw [if_neg (by omega), if_pos rfl]
  have e3 : mBnd m (N8 a) (N8 b) 3 = N8 b := by unfold mBnd vp_updL; rw [if_pos rfl]
  have e8 : outB (mBnd m (N8 a) (N8 b)) (W * H) (N8 a) (N8 b) = outB m (W * H) (N8 a) (N8 b) := by
    unfold outB
    congr 1
    funext c
    rw [show mBnd m (N8 a) (N8 b) (8 + c) = m (8 + c) by unfold mBnd vp_updL; rw [if_neg (by omega), if_neg (by omega)]]
  rw [e2, e3, e8] at ho
  unfold f_X11_setBounds
  rw [cn_r 1 100000 (by decide) (by decide), bd_s, if_pos h2, xm_l, cn_r 1 (N4 b).toInt (by decide) rfl, bd_s, if_pos h1, xm_l, c1, bd_s, ho, bd_s, n4_64 (by omega), n4_64 (by omega)]
  exact ⟨_, rfl, c2.fk hC ((Fz.rfl.i (by unfold ckI; omega)).i (by unfold ckI; omega))⟩
theorem co_setOrder1 (h1 : ¬ (rng x1 1 2000 = true ∧ rng x2 0 3 = true ∧ rng x3 0 999999 = true)) : f_X11_setOrder x1 x2 x3 σ = some (.inr xIA, σ) := by
  unfold f_X11_setOrder
  rw [cn_r 1 2000 (by decide) (by decide), bd_s]
  by_cases q : rng x1 1 2000 = true
  · rw [if_pos q, xm_l, cn_r 0 3 (by decide) (by decide), bd_s]
    by_cases q2 : rng x2 0 3 = true
    · rw [if_pos q2, xm_l, cn_r 0 999999 (by decide) (by decide), bd_s, if_neg (fun e => h1 ⟨q, q2, e⟩), xm_r]
    · rw [if_neg q2, xm_r]
  · rw [if_neg q, xm_r]
theorem co_setOrder (h : CI σ m W H n hs sc) (h1 : rng x1 1 2000 = true) (h2 : rng x2 0 3 = true) (h3 : rng x3 0 999999 = true) : ∃ τ, f_X11_setOrder x1 x2 x3 σ = some (.inl (m 4).toInt32, τ) ∧ CO σ τ (mOrd m x1.toInt64 x2.toInt64 x3.toInt64) W H n (push hs m) sc := by
  obtain ⟨a, rfl, a1, a2, a3⟩ := rng_lo (a := 1) (b := 2000) h1
  obtain ⟨b, rfl, b1, b2, b3⟩ := rng_lo (a := 0) (b := 3) h2
  obtain ⟨s, rfl, g1, g2, g3⟩ := rng_lo (a := 0) (b := 999999) h3
  obtain ⟨τ, c1, c2, c3⟩ := co_save h
  obtain ⟨s1, s2, s3, s4, s5⟩ := c2.1.1.2.1
  have hC : CS (setL (setI (setI τ 1 4 (N4 a)) 1 5 (N4 b)) 1 6 (N8 s)) (mOrd m (N8 a) (N8 b) (N8 s)) W H n := by
    refine cs_small c2.1.1 (val_ord h.1.1 a1 a2 b2 (by omega)) (fun j hj => by unfold mOrd vp_updL; rw [if_neg (by omega), if_neg (by omega), if_neg (by omega)]) (fun q hq => by rw [mL_I, mI_p hq, mI_p hq]) (fun q hq => by rw [mL_p hq]; rfl) (by rw [mL_I, mI_j (by omega), mI_j (by omega)]) (fun j hj => ?_) ?_
    · unfold mOrd vp_updL
      rw [if_neg (show ¬ j = 6 by omega), mL_I]
      by_cases e3 : j = 5
      · rw [if_pos e3, e3, mI_e, n4_64 (by omega)]
      · rw [if_neg e3, mI_j e3]
        by_cases e2 : j = 4
        · rw [if_pos e2, e2, mI_e, n4_64 (by omega)]
        · rw [if_neg e2, mI_j e2]; exact s1 j hj
    · unfold mOrd
      rw [mL_e]; exact if_pos rfl
  unfold f_X11_setOrder
  rw [cn_r 1 2000 (by decide) (by decide), bd_s, if_pos h1, xm_l, cn_r 0 3 (by decide) (by decide), bd_s, if_pos h2, xm_l, cn_r 0 999999 (by decide) (by decide), bd_s, if_pos h3, xm_l, c1, bd_s, i64_r (s1 4 (by omega)), n4_64 (by omega), n4_64 (by omega), n4_64 (by omega)]
  exact ⟨_, rfl, c2.fk hC (((Fz.rfl.i (by unfold ckI; omega)).i (by unfold ckI; omega)).l (by unfold ckI; omega))⟩
theorem co_setTime1 {t : Int64} (h : CI σ m W H n hs sc) (h1 : rng x1 0 ((n : Int) - 1) = false) : f_X11_setTime x1 t σ = some (.inr xIO, σ) := by
  unfold f_X11_setTime
  rw [c_needRay h.1, bd_s, if_neg (bf h1), xm_r]
theorem co_setTime2 {r : Nat} {t : Int64} (h : CI σ m W H n hs sc) (hr : r < n) (h2 : ¬ (-1 ≤ t ∧ t ≤ 100000000000)) : f_X11_setTime (N4 r) t σ = some (.inr xIA, σ) := by
  have hn := h.1.1.1.2.2.2.2.2.2.2
  unfold f_X11_setTime
  rw [c_needRay h.1, bd_s, if_pos (rng_i hr (by omega)), xm_l]
  by_cases e : t = -1
  · exact absurd ⟨by rw [e]; exact Int64.le_refl _, by rw [e]; decide⟩ h2
  · rw [if_neg e]
    by_cases e2 : t < 0
    · rw [if_pos e2]
    · rw [if_neg e2]
      have : ¬ t ≤ 100000000000 := fun q => h2 ⟨Int64.le_trans (b := 0) (by decide) (Int64.not_lt.mp e2), q⟩
      rw [if_neg this]
theorem co_setTime {r : Nat} {t : Int64} (h : CI σ m W H n hs sc) (hr : r < n) (h2 : -1 ≤ t ∧ t ≤ 100000000000) : ∃ τ, f_X11_setTime (N4 r) t σ = some (.inl (m (139 + 4 * r)), τ) ∧ CO σ τ (vp_updL m (139 + 4 * r) t) W H n (push hs m) sc := by
  have hn := h.1.1.1.2.2.2.2.2.2.2
  obtain ⟨τ, c1, c2, c3⟩ := co_save h
  have b1 := Int64.le_iff_toInt_le.mp h2.1
  have b2 := Int64.le_iff_toInt_le.mp h2.2
  have hC := cs_obsL (v := t) c2.1.1 (show r < 16 by omega) (val_tim h.1.1 (by omega) b1 b2)
  have hfin : ∃ τ', some ((Sum.inl (τ.2 6 r) : Int64 ⊕ String), setL τ 6 r t) = some (.inl (m (139 + 4 * r)), τ') ∧ CO σ τ' (vp_updL m (139 + 4 * r) t) W H n (push hs m) sc := by
    rw [cs_obs c2.1.1 (by omega)]
    exact ⟨_, rfl, c2.fk hC (Fz.rfl.l (by unfold ckI; omega))⟩
  unfold f_X11_setTime
  rw [c_needRay h.1, bd_s, if_pos (rng_i hr (by omega)), xm_l]
  by_cases e : t = -1
  · rw [if_pos e, c1, bd_s, gd_inb (by omega) (by omega), gd_inb (by omega) (by omega), n4_nat (by omega)]
    exact hfin
  · have e2 : ¬ t < 0 := fun q => by
      have := Int64.lt_iff_toInt_lt.mp q
      have h0 : (0 : Int64).toInt = 0 := by decide
      have h9 : (-1 : Int64).toInt = -1 := by decide
      rw [h0] at this
      rw [h9] at b1
      exact e (Int64.toInt.inj (by rw [h9]; omega))
    rw [if_neg e, if_neg e2, if_pos h2.2, c1, bd_s, gd_inb (by omega) (by omega), gd_inb (by omega) (by omega), n4_nat (by omega)]
    exact hfin
theorem co_setUsed1 (h : CI σ m W H n hs sc) (h1 : rng x1 0 ((n : Int) - 1) = false) : f_X11_setUsed x1 x2 σ = some (.inr xIO, σ) := by
  unfold f_X11_setUsed
  rw [c_needRay h.1, bd_s, if_neg (bf h1), xm_r]
theorem co_setUsed {r : Nat} (h : CI σ m W H n hs sc) (hr : r < n) (hx : x2 = 0 ∨ x2 = 1) : ∃ τ, f_X11_setUsed (N4 r) x2 σ = some (.inl (N4 (cnt (actR (mUse m r x2)) n)), τ) ∧ CO σ τ (mUse m r x2) W H n (push hs m) sc := by
  have hn := h.1.1.1.2.2.2.2.2.2.2
  obtain ⟨τ, c1, c2, c3⟩ := co_save h
  obtain ⟨s1, s2, s3, s4, s5⟩ := c2.1.1.2.1
  have e : ∀ j, j ≠ 138 + 4 * r → mUse m r x2 j = m j := fun j hj => if_neg hj
  have e8 : mUse m r x2 (138 + 4 * r) = x2.toInt64 := by
    show (if 138 + 4 * r = 138 + 4 * r then _ else _) = _
    rw [if_pos rfl]
    rcases hx with rfl | rfl
    · decide
    · decide
  have hC : CS (setI τ 7 r x2) (mUse m r x2) W H n := by
    refine ⟨val_use h.1.1 (by omega), ⟨fun j hj => by rw [e j (by omega), mI_p (by omega)]; exact s1 j hj, by rw [e 6 (by omega)]; exact s2, by rw [e 7 (by omega), mI_p (by omega)]; exact s3, fun c hc => by rw [e _ (by omega), e _ (by omega), mI_p (by omega), mI_p (by omega)]; exact s4 c hc, fun q hq => ?_⟩, c2.1.1.2.2.1.of (fun q a b => mI_p (by omega)) h.1.1.1.K.2, cch_congr h.1.1 (fun c hc => e _ (by omega)) (fun r hr => ⟨e _ (by omega), e _ (by omega)⟩) (cch_of c2.1.1.2.2.2 (fun q _ _ => mI_p (by omega)) rfl hn)⟩
    obtain ⟨a, b, c, d⟩ := s5 q hq
    refine ⟨by rw [e _ (by omega), mI_p (by omega)]; exact a, by rw [e _ (by omega), mI_p (by omega)]; exact b, ?_, by rw [e _ (by omega)]; exact d⟩
    show _ = ((setI τ 7 r x2).1 7 q).toInt64
    by_cases x : q = r
    · rw [x, mI_e, e8]
    · rw [mI_j x, e _ (by omega)]; exact c
  unfold f_X11_setUsed
  rw [c_needRay h.1, bd_s, if_pos (rng_i hr (by omega)), xm_l, c1, bd_s, gd_inb (by omega) (by omega), gd_t (show bz x2 = true by rcases hx with rfl | rfl <;> decide), n4_nat (by omega), c_actives hC, bd_s]
  exact ⟨_, rfl, c2.fk hC (Fz.rfl.i (by unfold ckI; omega))⟩
/-! rays -/
theorem co_addRay1 (h : CI σ m W H n hs sc) (h1 : ¬ (rng x1 0 ((H : Int) - 1) = true ∧ rng x2 0 ((H : Int) - 1) = true)) : f_X11_addRay x1 x2 σ = some (.inr xIO, σ) := by
  unfold f_X11_addRay
  rw [c_needRow h.1, bd_s]
  by_cases q : rng x1 0 ((H : Int) - 1) = true
  · rw [if_pos q, xm_l, c_needRow h.1, bd_s, if_neg (fun e => h1 ⟨q, e⟩), xm_r]
  · rw [if_neg q, xm_r]
theorem co_addRay2 (h : CI σ m W H n hs sc) (h1 : rng x1 0 ((H : Int) - 1) = true) (h2 : rng x2 0 ((H : Int) - 1) = true) (hn : n = 16) : f_X11_addRay x1 x2 σ = some (.inr xIS, σ) := by
  unfold f_X11_addRay f_X11_hasRoomForRay
  rw [c_needRow h.1, bd_s, if_pos h1, xm_l, c_needRow h.1, bd_s, if_pos h2, xm_l, (cs_W h.1).2.2, if_pos (show (16 : Int32) ≤ N4 n by rw [hn]; decide), bd_s, if_pos rfl]
theorem co_addRay (h : CI σ m W H n hs sc) (h1 : rng x1 0 ((H : Int) - 1) = true) (h2 : rng x2 0 ((H : Int) - 1) = true) (hn : n < 16) : ∃ τ, f_X11_addRay x1 x2 σ = some (.inl (N4 n), τ) ∧ CO σ τ (mAdd m n x1.toInt64 x2.toInt64) W H (n + 1) (push hs m) sc := by
  have hH := h.1.1.1.2.2.2.2.2.2.1
  obtain ⟨a, rfl, a1, a2⟩ := rng_n4 h1
  obtain ⟨b, rfl, b1, b2⟩ := rng_n4 h2
  obtain ⟨τ, c1, c2, c3⟩ := co_save h
  obtain ⟨s1, s2, s3, s4, s5⟩ := c2.1.1.2.1
  have e7 := (cs_W c2.1.1).2.2
  obtain ⟨ρ, r1, r2, r3, r4⟩ := c_forget (σ := setI (setI (setL (setI (setI τ 4 n (N4 a)) 5 n (N4 b)) 6 n (-1)) 7 n 1) 1 7 (N4 (n + 1)))
  have hI : ∀ q, q ≠ 1 → (q < 4 ∨ 7 < q) → q ≠ 144 → ρ.1 q = τ.1 q := fun q h1 h2 h3 => by
    rw [r2 q h3, mI_p h1, mI_p (by omega), mL_I, mI_p (by omega), mI_p (by omega)]
  have hL : ∀ q, q ≠ 6 → ρ.2 q = τ.2 q := fun q h1 => by
    rw [r3]
    show (setL (setI (setI τ 4 n (N4 a)) 5 n (N4 b)) 6 n (-1)).2 q = _
    rw [mL_p h1]; rfl
  have hm : ∀ j, j ≠ 7 → j ≠ 136 + 4 * n → j ≠ 137 + 4 * n → j ≠ 138 + 4 * n → j ≠ 139 + 4 * n → mAdd m n (N8 a) (N8 b) j = m j := fun j g1 g2 g3 g4 g5 => by
    unfold mAdd vp_updL
    rw [if_neg g1, if_neg g5, if_neg g4, if_neg g3, if_neg g2]
  have hC : CS ρ (mAdd m n (N8 a) (N8 b)) W H (n + 1) := by
    refine ⟨val_add h.1.1 a1 b1 hn, ⟨fun j hj => ?_, ?_, ?_, fun c hc => ?_, fun q hq => ?_⟩, c2.1.1.2.2.1.of (fun q g1 g2 => hI q (by omega) (by omega) (by omega)) h.1.1.1.K.2, cch_0 r4 (by omega)⟩
    · rw [hm j (by omega) (by omega) (by omega) (by omega) (by omega), r2 1 (by omega), mI_j (by omega), mI_p (by omega), mL_I, mI_p (by omega), mI_p (by omega)]
      exact s1 j hj
    · rw [hm 6 (by omega) (by omega) (by omega) (by omega) (by omega), hL 1 (by omega)]; exact s2
    · rw [r2 1 (by omega), mI_e, n4_64 (by omega)]
      unfold mAdd
      exact if_pos rfl
    · rw [hm _ (by omega) (by omega) (by omega) (by omega) (by omega), hm _ (by omega) (by omega) (by omega) (by omega) (by omega), hI (1 + 1) (by omega) (by omega) (by omega), hI (1 + 2) (by omega) (by omega) (by omega)]
      exact s4 c hc
    · obtain ⟨g1, g2, g3, g4⟩ := s5 q hq
      show _ = (ρ.1 4 q).toInt64 ∧ _ = (ρ.1 5 q).toInt64 ∧ _ = (ρ.1 7 q).toInt64 ∧ _ = ρ.2 6 q
      have k4 : ρ.1 4 q = if q = n then N4 a else τ.1 4 q := by
        rw [r2 4 (by omega), mI_p (by omega), mI_p (by omega), mL_I, mI_p (by omega)]
        by_cases x : q = n
        · rw [if_pos x, x, mI_e]
        · rw [if_neg x, mI_j x]
      have k5 : ρ.1 5 q = if q = n then N4 b else τ.1 5 q := by
        rw [r2 5 (by omega), mI_p (by omega), mI_p (by omega), mL_I]
        by_cases x : q = n
        · rw [if_pos x, x, mI_e]
        · rw [if_neg x, mI_j x, mI_p (by omega)]
      have k7 : ρ.1 7 q = if q = n then 1 else τ.1 7 q := by
        rw [r2 7 (by omega), mI_p (by omega)]
        by_cases x : q = n
        · rw [if_pos x, x, mI_e]
        · rw [if_neg x, mI_j x, mL_I, mI_p (by omega), mI_p (by omega)]
      have k6 : ρ.2 6 q = if q = n then -1 else τ.2 6 q := by
        rw [r3]
        show (setL (setI (setI τ 4 n (N4 a)) 5 n (N4 b)) 6 n (-1)).2 6 q = _
        by_cases x : q = n
        · rw [if_pos x, x, mL_e]
        · rw [if_neg x, mL_j x]; rfl
      rw [k4, k5, k7, k6]
      by_cases x : q = n
      · rw [if_pos x, if_pos x, if_pos x, if_pos x, x, n4_64 (by omega), n4_64 (by omega)]
        unfold mAdd vp_updL
        refine ⟨?_, ?_, ?_, ?_⟩
        · rw [if_neg (by omega), if_neg (by omega), if_neg (by omega), if_neg (by omega), if_pos rfl]
        · rw [if_neg (by omega), if_neg (by omega), if_neg (by omega), if_pos rfl]
        · rw [if_neg (by omega), if_neg (by omega), if_pos rfl]; decide
        · rw [if_neg (by omega), if_pos rfl]
      · rw [if_neg x, if_neg x, if_neg x, if_neg x, hm _ (by omega) (by omega) (by omega) (by omega) (by omega), hm _ (by omega) (by omega) (by omega) (by omega) (by omega), hm _ (by omega) (by omega) (by omega) (by omega) (by omega), hm _ (by omega) (by omega) (by omega) (by omega) (by omega)]
        exact ⟨g1, g2, g3, g4⟩
  have hF : Fk τ ρ := by
    refine ⟨fun q j hq => ?_, fun q j hq => ?_⟩
    · rw [hI q (by unfold ckI at hq; omega) (by unfold ckI at hq; omega) (by unfold ckI at hq; omega)]
    · rw [hL q (by unfold ckI at hq; omega)]
  unfold f_X11_addRay f_X11_hasRoomForRay
  rw [c_needRow h.1, bd_s, if_pos h1, xm_l, c_needRow h.1, bd_s, if_pos h2, xm_l, (cs_W h.1).2.2, if_neg (show ¬ (16 : Int32) ≤ N4 n from fun q => by have := (n4_le (a := 16) (by omega) (by omega)).mp q; omega), bd_s, if_neg (by decide), c1, bd_s]
  unfold f_X11_appendRay
  rw [e7, gd_inb (by omega) (by omega), gd_inb (by omega) (by omega), gd_inb (by omega) (by omega), gd_inb (by omega) (by omega), bd_s, n4_nat (by omega), n4_succ, r1, bd_s, bd_s, n4_64 (by omega), n4_64 (by omega)]
  exact ⟨ρ, rfl, c2.fk hC hF⟩
/-! beginning -/
theorem c_layOut {m : Nat → Int64} (hV : Val m W H n) (hS : Sm σ 1 m) : ∃ τ, f_X11_layOut σ = some τ ∧ CS τ m W H n ∧ Fk σ τ := by
  obtain ⟨d0, d1, d7, w1, w2, w3, w4, w5⟩ := hV.1
  have e0 : σ.1 1 0 = N4 W := i64_n4 (by rw [← d0]; exact hS.1 0 (by omega))
  have e1 : σ.1 1 1 = N4 H := i64_n4 (by rw [← d1]; exact hS.1 1 (by omega))
  obtain ⟨τ, a1, a2, a3, a4⟩ := c_lay (σ := σ) w1 w2 w3 w4
  obtain ⟨ρ, b1, b2, b3, b4⟩ := c_forget (σ := τ)
  unfold f_X11_layOut
  rw [e0, e1, a1, bd_s, b1, bd_s]
  refine ⟨ρ, rfl, ⟨hV, hS.of (fun q _ _ => by rw [b2 q (by omega), a4 q (by omega)]) (fun q _ _ => by rw [b3, a3]), a2.of (fun q _ _ => b2 q (by omega)) (Nat.mul_le_mul w2 w4), cch_0 b4 w5⟩, ⟨fun q j hq => ?_, fun q j hq => by rw [b3, a3]⟩⟩
  rw [b2 q (by unfold ckI at hq; omega), a4 q (by unfold ckI at hq; omega)]
theorem co_begin1 (h1 : ¬ (rng x1 2 8 = true ∧ rng x2 2 8 = true)) : f_X11_begin x1 x2 σ = some (.inr xIA, σ) := by
  unfold f_X11_begin
  rw [cn_r 2 8 (by decide) (by decide), bd_s]
  by_cases q : rng x1 2 8 = true
  · rw [if_pos q, xm_l, cn_r 2 8 (by decide) (by decide), bd_s, if_neg (fun e => h1 ⟨q, e⟩), xm_r]
  · rw [if_neg q, xm_r]
theorem c_start {c r : Nat} (hS : Sm σ 1 m) (hc : c ≤ 8) (hr : r ≤ 8) : ∃ τ, f_X7_startAnew (N4 c) (N4 r) σ = some τ ∧ Sm τ 1 (mBeg m (N8 c) (N8 r)) ∧ Fk σ τ := by
  obtain ⟨g1, g2, g3, g4⟩ := sh_23
  obtain ⟨s1, s2, s3, s4, s5⟩ := hS
  obtain ⟨τ, a1, a2, a3, a4⟩ := c_fill (σ := setI (setI (setI σ 1 0 (N4 c)) 1 1 (N4 r)) 1 7 0) (x0 := 2) (v := 1000) g1 g2 (by omega)
  obtain ⟨ρ, b1, b2, b3, b4⟩ := c_fill (σ := τ) (x0 := 3) (v := 1000) g3 g4 (by omega)
  have hI : ∀ q, q ≠ 1 → q ≠ 2 → q ≠ 3 → ρ.1 q = σ.1 q := fun q h1 h2 h3 => by rw [b2 q h3, a2 q h2, mI_p h1, mI_p h1, mI_p h1]
  have hL : ρ.2 = σ.2 := by rw [b3, a3]; rfl
  have hm : ∀ j, (j ≠ 0 ∧ j ≠ 1 ∧ j ≠ 7 ∧ (j < 8 ∨ 136 ≤ j)) → mBeg m (N8 c) (N8 r) j = m j := fun j hj => by
    unfold mBeg vp_updL
    rw [if_neg (by omega), if_neg (by omega), if_neg (by omega), if_neg (by omega)]
  have hm8 : ∀ j, 8 ≤ j → j < 136 → mBeg m (N8 c) (N8 r) j = 1000 := fun j h1 h2 => by
    unfold mBeg
    rw [if_pos ⟨h1, h2⟩]
  have k1 : ∀ j, ρ.1 1 j = (setI (setI (setI σ 1 0 (N4 c)) 1 1 (N4 r)) 1 7 0).1 1 j := fun j => by rw [b2 1 (by omega), a2 1 (by omega)]
  unfold f_X7_startAnew
  rw [a1, bd_s, b1, bd_s]
  refine ⟨ρ, rfl, ⟨fun j hj => ?_, ?_, ?_, fun d hd => ⟨?_, ?_⟩, fun q hq => ?_⟩, ⟨fun q j hq => ?_, fun q j hq => by rw [hL]⟩⟩
  · rw [k1 j, mI_j (by omega)]
    by_cases e1 : j = 1
    · rw [e1, mI_e, n4_64 (by omega)]
      unfold mBeg vp_updL
      rw [if_neg (by omega), if_neg (by omega), if_pos rfl]
    · rw [mI_j e1]
      by_cases e0 : j = 0
      · rw [e0, mI_e, n4_64 (by omega)]
        unfold mBeg vp_updL
        rw [if_neg (by omega), if_neg (by omega), if_neg (by omega), if_pos rfl]
      · rw [mI_j e0, hm j (by omega)]; exact s1 j hj
  · rw [hm 6 (by omega), hL]; exact s2
  · rw [k1 7, mI_e]
    unfold mBeg vp_updL
    rw [if_neg (by omega), if_pos rfl]; decide
  · rw [hm8 _ (by omega) (by omega)]
    show _ = (ρ.1 2 d).toInt64
    rw [b2 2 (by omega), a4 d hd]; decide
  · rw [hm8 _ (by omega) (by omega)]
    show _ = (ρ.1 3 d).toInt64
    rw [b4 d hd]; decide
  · rw [hm _ (by omega), hm _ (by omega), hm _ (by omega), hm _ (by omega), hI (1 + 3) (by omega) (by omega) (by omega), hI (1 + 4) (by omega) (by omega) (by omega), hI (1 + 6) (by omega) (by omega) (by omega), hL]
    exact s5 q hq
  · rw [hI q (by unfold ckI at hq; omega) (by unfold ckI at hq; omega) (by unfold ckI at hq; omega)]
theorem co_begin {c r : Nat} (h : CI σ m W H n hs sc) (c1 : 2 ≤ c) (c2 : c ≤ 8) (r1 : 2 ≤ r) (r2 : r ≤ 8) : ∃ τ, f_X11_begin (N4 c) (N4 r) σ = some (.inl (N4 (c * r)), τ) ∧ CO σ τ (mBeg m (N8 c) (N8 r)) c r 0 (push hs m) sc := by
  have hx1 : rng (N4 c) 2 8 = true := by unfold rng; rw [n4_int (by omega), decide_eq_true_eq]; omega
  have hx2 : rng (N4 r) 2 8 = true := by unfold rng; rw [n4_int (by omega), decide_eq_true_eq]; omega
  obtain ⟨τ, a1, a2, a3⟩ := co_save h
  obtain ⟨ρ, b1, b2, b3⟩ := c_start (c := c) (r := r) a2.1.1.2.1 c2 r2
  obtain ⟨μ, d1, d2, d3⟩ := c_layOut (val_beg h.1.1 c1 c2 r1 r2) b2
  unfold f_X11_begin
  rw [cn_r 2 8 (by decide) (by decide), bd_s, if_pos hx1, xm_l, cn_r 2 8 (by decide) (by decide), bd_s, if_pos hx2, xm_l, a1, bd_s, b1, bd_s, d1, bd_s, c_cells d2, bd_s]
  exact ⟨μ, rfl, a2.fk d2 (b3.trans d3)⟩
/-! undoing -/
theorem val_cg (hV : Val m W H n) (e : ∀ j, j < 200 → m' j = m j) : Val m' W H n := by
  have hn := hV.1.2.2.2.2.2.2.2
  obtain ⟨v1, v2, v3, v4, v5, v6, v7⟩ := hV
  refine ⟨dm_of v1 (e 0 (by omega)) (e 1 (by omega)) (e 7 (by omega)), fun c hc => ?_, fun c hc => ?_, ra_of v4 (fun r hr => ⟨e _ (by omega), e _ (by omega)⟩), ?_, fun r hr => ?_, fun r hr => ?_⟩
  · rw [slw_of (m := m) (K := 64) (fun c hc => e _ (by omega)) c hc]; exact v2 c hc
  · rw [slw_of (m := m) (K := 64) (fun c hc => e _ (by omega)) c hc]; exact v3 c hc
  · unfold Bnd
    rw [e 2 (by omega), e 3 (by omega), e 4 (by omega), e 5 (by omega), e 6 (by omega)]
    exact v5
  · rw [e _ (by omega)]; exact v6 r hr
  · rw [e _ (by omega)]; exact v7 r hr
theorem sm_cg {k : Nat} (h : Sm σ k m) (e : ∀ j, j < 200 → m' j = m j) : Sm σ k m' := by
  obtain ⟨s1, s2, s3, s4, s5⟩ := h
  exact ⟨fun j hj => by rw [e j (by omega)]; exact s1 j hj, by rw [e 6 (by omega)]; exact s2, by rw [e 7 (by omega)]; exact s3, fun c hc => by rw [e _ (by omega), e _ (by omega)]; exact s4 c hc, fun r hr => by rw [e _ (by omega), e _ (by omega), e _ (by omega), e _ (by omega)]; exact s5 r hr⟩
theorem co_undo1 (h : CI σ m W H n [] sc) : f_X11_undo σ = some (.inr xIS, σ) := by
  unfold f_X11_undo
  rw [h.2.1.2.1, if_pos (by rfl)]
theorem co_undo {k : Nat} (h : CI σ m W H n hs sc) (hk : hs.length = k + 1) (hV : Val (hs.getD k zr) W' H' n') : ∃ τ, f_X11_undo σ = some (.inl (N4 k), τ) ∧ CO σ τ (mUnd m (hs.getD k zr)) W' H' n' (hs.take k) sc := by
  have hl := h.2.1.1
  have hk1 : hs.length - 1 = k := by omega
  obtain ⟨τ, a1, a2, a3, a4⟩ := c_restore (σ := σ) (hs := hs) (by omega) (by rw [hk1]; exact hV.2.2.2.2.2.1) h.2.1
  rw [hk1] at a2 a3
  have e : ∀ j, j < 200 → mUnd m (hs.getD k zr) j = hs.getD k zr j := fun j hj => if_pos hj
  obtain ⟨ρ, b1, b2, b3⟩ := c_layOut (val_cg hV e) (sm_cg a2 e)
  have hp : ∀ q, 189 ≤ q → ρ.1 q = τ.1 q ∧ ρ.2 q = τ.2 q := fun q hq => ⟨b3.rowI (fun j => by unfold ckI; omega), b3.row (fun j => by unfold ckI; omega)⟩
  have h3 : CHist ρ (hs.take k) := a3.of (fun q h1 _ => (hp q h1).1) (fun q h1 _ => (hp q h1).2)
  have hlt : (hs.take k).length = k := by rw [List.length_take]; omega
  unfold f_X11_undo
  rw [h.2.1.2.1, if_neg (n4_ne0 (by omega) (by omega)), a1, bd_s, b1, bd_s, h3.2.1, hlt]
  refine ⟨ρ, rfl, ⟨b2, h3, h.2.2.of (fun q h1 h2 => ?_)⟩, fun q hq => ⟨?_, ?_⟩⟩
  · rw [(hp q (by omega)).1, (a4 q (by omega)).1]
  · rw [(hp q (by omega)).1, (a4 q (by omega)).1]
  · rw [(hp q (by omega)).2, (a4 q (by omega)).2]
/-! typing -/
theorem co_clear (h : CI σ m W H n hs sc) : ∃ τ, f_X11_clearScript σ = some (N4 sc.length, τ) ∧ CO σ τ m W H n hs [] := by
  unfold f_X11_clearScript
  rw [h.2.2.2.2.1]
  refine ⟨_, rfl, ⟨cs_scr h.1 (fun q hq => mI_p (by omega)) (fun q _ => rfl), h.2.1.of (fun q _ _ => mI_p (by omega)) (fun q _ _ => rfl), ⟨by simp, fun i hi => absurd hi (Nat.not_lt_zero i), mI_e, fun i hi => absurd hi (Nat.not_lt_zero i)⟩⟩, fun q hq => ⟨mI_p (by omega), rfl⟩⟩
theorem co_type1 (h1 : rng x1 0 127 = false) : f_X11_type x1 σ = some (.inr xIA, σ) := by
  unfold f_X11_type
  rw [cn_r 0 127 (by decide) (by decide), bd_s, if_neg (bf h1), xm_r]
theorem co_type2 (h : CI σ m W H n hs sc) (h1 : rng x1 0 127 = true) (h2 : sc.length = 120) : f_X11_type x1 σ = some (.inr xIS, σ) := by
  unfold f_X11_type
  rw [cn_r 0 127 (by decide) (by decide), bd_s, if_pos h1, xm_l, h.2.2.2.2.1, if_neg (show ¬ N4 sc.length < 120 from fun q => by have := (n4_lt (b := 120) (by omega) (by omega)).mp q; omega)]
theorem byt_n4 : ∀ v, v < 128 → (N4 v).toInt8.toInt32 = N4 v ∧ byt (N4 v) = true := by decide +kernel
theorem co_type {v : Nat} (h : CI σ m W H n hs sc) (hv : v < 128) (h2 : sc.length < 120) : ∃ τ, f_X11_type (N4 v) σ = some (.inl (N4 (sc.length + 1)), τ) ∧ CO σ τ m W H n hs (sc ++ [v]) := by
  obtain ⟨t1, t2, t3, t4⟩ := h.2.2
  obtain ⟨b1, b2⟩ := byt_n4 v hv
  unfold f_X11_type f_X5_append
  rw [cn_r 0 127 (by decide) (by decide), bd_s, if_pos (rng_c (by omega) (by omega)), xm_l, t3, if_pos (show N4 sc.length < 120 from (n4_lt (b := 120) (by omega) (by omega)).mpr h2), if_neg (show ¬ (120 : Int32) ≤ N4 sc.length from fun q => by have := (n4_le (a := 120) (by omega) (by omega)).mp q; omega), gd_inb (by omega) (by omega), b1, gd_t b2, n4_nat (by omega), bd_s, bd_s, mI_e, mI_p (by omega), t3, n4_succ]
  refine ⟨_, rfl, ⟨cs_scr h.1 (fun q hq => by rw [mI_p (by omega), mI_p (by omega)]) (fun q _ => rfl), h.2.1.of (fun q _ _ => by rw [mI_p (by omega), mI_p (by omega)]) (fun q _ _ => rfl), ?_⟩, fun q hq => ⟨by rw [mI_p (by omega), mI_p (by omega)], rfl⟩⟩
  have hl : (sc ++ [v]).length = sc.length + 1 := by rw [List.length_append]; rfl
  refine ⟨by omega, fun i hi => ?_, by rw [mI_e, hl], fun i hi => ?_⟩
  · by_cases e : i = sc.length
    · rw [e, getD_r]; exact hv
    · rw [getD_l (by omega)]; exact t2 i (by omega)
  · rw [mI_p (by omega)]
    by_cases e : i = sc.length
    · rw [e, getD_r, mI_e]
    · rw [getD_l (by omega), mI_j e]; exact t4 i (by omega)
end CFACE3
