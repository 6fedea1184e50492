/-! ===== the class's calls: the other reading calls, the changes ===== -/
section CFACE2
variable {σ τ : Mem} {W H n W' H' n' : Nat} {m m' : Nat → Int64} {hs hs' : List (Nat → Int64)} {sc : List Nat} {x1 x2 x3 x4 : Int32}
theorem co_fit {w : Nat} (h : CI σ m W H n hs sc) (hw : w < 5) : ∃ τ, f_X11_fit (N4 w) σ = some (.inl (fitV m W H n w), τ) ∧ CO σ τ m W H n hs sc := by
  have hwk : ∀ k, k < 10 → ((N4 w = N4 k) ↔ w = k) := fun k hk => n4_eq (by omega) (by omega)
  unfold f_X11_fit fitV
  rw [cn_r 0 4 (by decide) (by decide), bd_s, if_pos (rng_c (by omega) (by omega)), xm_l]
  by_cases e0 : w = 0
  · obtain ⟨τ, a1, a2⟩ := c_misfitSum h.1
    rw [if_pos (show N4 w = 0 from (hwk 0 (by omega)).mpr e0), if_pos e0, a1, bd_s]
    exact ⟨τ, rfl, ci_q h a2⟩
  rw [if_neg (show ¬ N4 w = 0 from fun q => e0 ((hwk 0 (by omega)).mp q)), if_neg e0]
  by_cases e1 : w = 1
  · obtain ⟨τ, a1, a2⟩ := c_greatest h.1
    rw [if_pos (show N4 w = 1 from (hwk 1 (by omega)).mpr e1), if_pos e1, a1, bd_s]
    exact ⟨τ, rfl, ci_q h a2⟩
  rw [if_neg (show ¬ N4 w = 1 from fun q => e1 ((hwk 1 (by omega)).mp q)), if_neg e1]
  by_cases e2 : w = 2
  · obtain ⟨v, τ, a1, a2, a3⟩ := c_worst64 h.1
    rw [if_pos (show N4 w = 2 from (hwk 2 (by omega)).mpr e2), if_pos e2, a1, bd_s, ← a2]
    exact ⟨τ, rfl, ci_q h a3⟩
  rw [if_neg (show ¬ N4 w = 2 from fun q => e2 ((hwk 2 (by omega)).mp q)), if_neg e2]
  by_cases e3 : w = 3
  · rw [if_pos (show N4 w = 3 from (hwk 3 (by omega)).mpr e3), if_pos e3, c_dist h.1, bd_s]
    exact ⟨σ, rfl, CO.refl h⟩
  · rw [if_neg (show ¬ N4 w = 3 from fun q => e3 ((hwk 3 (by omega)).mp q)), if_neg e3, c_slowSum h.1, bd_s]
    exact ⟨σ, rfl, CO.refl h⟩
theorem co_least1 (h : CI σ m W H n hs sc) (h1 : ¬ (rng x1 0 (((W * H : Nat) : Int) - 1) = true ∧ rng x2 0 (((W * H : Nat) : Int) - 1) = true)) : f_X11_least x1 x2 x3 σ = some (.inr xIO, σ) := by
  unfold f_X11_least
  rw [c_needCell h.1, bd_s]
  by_cases q : rng x1 0 (((W * H : Nat) : Int) - 1) = true
  · rw [if_pos q, xm_l, c_needCell h.1, bd_s, if_neg (fun e => h1 ⟨q, e⟩), xm_r]
  · rw [if_neg q, xm_r]
theorem cq_srch {ρ : Mem} (h : CS σ m W H n) (r2 : Fz csI csL σ ρ) : CQ σ ρ m W H n :=
  ⟨r2.mono (fun q j => by unfold csI cqI; omega) (fun q j => by unfold csL cqI; omega), cch_of h.2.2.2 (fun q h1 _ => r2.rowI (fun j => by unfold csI; omega)) (r2.row (fun j => by unfold csL; omega)) h.1.1.2.2.2.2.2.2.2⟩
theorem co_least {a b : Nat} (h : CI σ m W H n hs sc) (ha : a < W * H) (hb : b < W * H) : ∃ τ, f_X11_least (N4 a) (N4 b) x3 σ = some (.inl (leaV m W H a b x3), τ) ∧ CO σ τ m W H n hs sc := by
  have hK := h.1.1.1.K
  have p2 := h.1
  unfold f_X11_least leaV
  rw [c_needCell h.1, bd_s, if_pos (rng_i ha (by omega)), xm_l, c_needCell h.1, bd_s, if_pos (rng_i hb (by omega)), xm_l]
  by_cases e : x3 = 0
  · obtain ⟨ρ, D, r1, r2, r3⟩ := c_least (x1 := 2) (o := a) (t := b) p2.2.2.1 p2.1.1.2.2.2.1 p2.1.1.2.2.2.2.1 p2.1.1.2.2.2.2.2.1 p2.1.1.2.2.2.2.2.2.1 (Or.inl rfl) (fun c hc => cs_slow p2 c (by omega)) p2.1.s8 ha hb
    rw [if_pos e, if_pos e, r1, bd_s]
    exact ⟨ρ, rfl, ci_q h (cq_srch p2 r2)⟩
  · obtain ⟨ρ, D, r1, r2, r3⟩ := c_least (x1 := 3) (o := a) (t := b) p2.2.2.1 p2.1.1.2.2.2.1 p2.1.1.2.2.2.2.1 p2.1.1.2.2.2.2.2.1 p2.1.1.2.2.2.2.2.2.1 (Or.inr (Or.inl rfl)) (fun c hc => cs_true p2 c (by omega)) p2.1.s72 ha hb
    rw [if_neg e, if_neg e, r1, bd_s]
    exact ⟨ρ, rfl, ci_q h (cq_srch p2 r2)⟩
theorem co_whatIf1 (h : CI σ m W H n hs sc) (h1 : ¬ (rng x1 0 ((n : Int) - 1) = true ∧ rng x2 0 (((W * H : Nat) : Int) - 1) = true)) : f_X11_whatIf x1 x2 x3 σ = some (.inr xIO, σ) := by
  unfold f_X11_whatIf
  rw [c_needRay h.1, bd_s]
  by_cases q : rng x1 0 ((n : Int) - 1) = true
  · rw [if_pos q, xm_l, c_needCell h.1, bd_s, if_neg (fun e => h1 ⟨q, e⟩), xm_r]
  · rw [if_neg q, xm_r]
theorem co_whatIf2 {r c : Nat} (h : CI σ m W H n hs sc) (hr : r < n) (hc : c < W * H) (h3 : rng x3 1 100000 = false) : f_X11_whatIf (N4 r) (N4 c) x3 σ = some (.inr xIA, σ) := by
  have hn := h.1.1.1.2.2.2.2.2.2.2
  have hK := h.1.1.1.K
  unfold f_X11_whatIf
  rw [c_needRay h.1, bd_s, if_pos (rng_i hr (by omega)), xm_l, c_needCell h.1, bd_s, if_pos (rng_i hc (by omega)), xm_l, cn_r 1 100000 (by decide) (by decide), bd_s, if_neg (bf h3), xm_r]
theorem cch_of2 {τ : Mem} (h : Cch σ m W H n) (hI : ∀ q, 144 ≤ q → q ≤ 181 → q ≠ 145 → τ.1 q = σ.1 q) (hL : τ.2 146 = σ.2 146) (hn : n ≤ 16) : Cch τ m W H n := fun r hr hk => by
  rw [hI 144 (by omega) (by omega) (by omega)] at hk
  exact (h r hr hk).of (by rw [hL]) (by rw [hI 147 (by omega) (by omega) (by omega)]) (hI _ (by omega) (by omega) (by omega)) (hI _ (by omega) (by omega) (by omega))
theorem co_whatIf {r c : Nat} (h : CI σ m W H n hs sc) (hr : r < n) (hc : c < W * H) (h3 : rng x3 1 100000 = true) : ∃ τ, f_X11_whatIf (N4 r) (N4 c) x3 σ = some (.inl (whaV m W H r c x3.toInt64), τ) ∧ CO σ τ m W H n hs sc := by
  have hn := h.1.1.1.2.2.2.2.2.2.2
  have hK := h.1.1.1.K
  obtain ⟨b, rfl, b1, b2, b3⟩ := rng_lo (a := 1) (b := 100000) h3
  obtain ⟨τ, a1, a2, -⟩ := c_find' h.1 hr
  have hT := CQ.cs h.1 a2
  obtain ⟨o1, o2, o3⟩ := h.1.1.2.2.2.1.lt h.1.1.1 hr
  have hm : ∀ j, j ≠ 8 + c → vp_updL m (8 + c) (N8 b) j = m j := fun j hj => if_neg hj
  have hrow : ∀ q, q ≠ 145 → (setI (repI τ 145 (va_cpy (τ.1 2) (τ.1 145) (0 : Int32).toNatClampNeg (0 : Int32).toNatClampNeg (64 : Int32).toNatClampNeg)) 145 c (N4 b)).1 q = τ.1 q := fun q hq => by rw [mI_p hq, rI_p hq]
  have hF : Fc τ (setI (repI τ 145 (va_cpy (τ.1 2) (τ.1 145) (0 : Int32).toNatClampNeg (0 : Int32).toNatClampNeg (64 : Int32).toNatClampNeg)) 145 c (N4 b)) := ⟨fun q j hq => by rw [hrow q (fun e => hq (by rw [e]; unfold cqI; omega))], fun q j hq => rfl⟩
  have hQ : CQ τ (setI (repI τ 145 (va_cpy (τ.1 2) (τ.1 145) (0 : Int32).toNatClampNeg (0 : Int32).toNatClampNeg (64 : Int32).toNatClampNeg)) 145 c (N4 b)) m W H n := ⟨hF, cch_of2 hT.2.2.2 (fun q _ _ hq => hrow q hq) rfl hn⟩
  have hC := CQ.cs hT hQ
  have hS : ∀ d, d < W * H → (setI (repI τ 145 (va_cpy (τ.1 2) (τ.1 145) (0 : Int32).toNatClampNeg (0 : Int32).toNatClampNeg (64 : Int32).toNatClampNeg)) 145 c (N4 b)).1 145 d = N4 (slw (vp_updL m (8 + c) (N8 b)) 8 d).toNat ∧ slw (vp_updL m (8 + c) (N8 b)) 8 d = ((slw (vp_updL m (8 + c) (N8 b)) 8 d).toNat : Int) := fun d hd => by
    by_cases e : d = c
    · have : slw (vp_updL m (8 + c) (N8 b)) 8 d = (b : Int) := by
        unfold slw vp_updL
        rw [if_pos (by omega), n8_int (by omega)]
      rw [this, e, mI_e]
      exact ⟨rfl, rfl⟩
    · have : slw (vp_updL m (8 + c) (N8 b)) 8 d = slw m 8 d := by
        unfold slw vp_updL
        rw [if_neg (by omega)]
      rw [this, mI_j e, rI_e, cpy64 (by omega)]
      exact cs_slow hT d (by omega)
  have hSl : Slo (W * H) (slw (vp_updL m (8 + c) (N8 b)) 8) := by
    have := slo_upd (c := c) (v := N4 b) h.1.1.2.1 h3
    rw [n4_64 (by omega)] at this
    exact this.mono hK.2
  obtain ⟨ρ, D, r1, r2, r3⟩ := c_least (x1 := 145) hC.2.2.1 hC.1.1.2.2.2.1 hC.1.1.2.2.2.2.1 hC.1.1.2.2.2.2.2.1 hC.1.1.2.2.2.2.2.2.1 (Or.inr (Or.inr rfl)) hS hSl o1 o2
  unfold f_X11_whatIf f_X9_delayWith
  rw [c_needRay h.1, bd_s, if_pos (rng_i hr (by omega)), xm_l, c_needCell h.1, bd_s, if_pos (rng_i hc (by omega)), xm_l, cn_r 1 100000 (by decide) (by decide), bd_s, if_pos h3, xm_l, a1, bd_s, bd_s, gd_inb (by omega) (by omega), n4_nat (by omega)]
  show ∃ τ', (bd (bd (f_X7_sourceCell (N4 r) (setI (repI τ 145 (va_cpy (τ.1 2) (τ.1 145) (0 : Int32).toNatClampNeg (0 : Int32).toNatClampNeg (64 : Int32).toNatClampNeg)) 145 c (N4 b))) _) _) = _ ∧ _
  rw [c_source hC hr, bd_s, c_receiver hC hr, bd_s, r1, bd_s, bd_s]
  refine ⟨ρ, ?_, ci_q h (a2.trans (hQ.trans (cq_srch hC r2)))⟩
  have e1 : frc (vp_updL m (8 + c) (N8 b)) W r = frc m W r := frc_of (hm _ (by omega))
  have e2 : toc (vp_updL m (8 + c) (N8 b)) W r = toc m W r := toc_of (hm _ (by omega))
  unfold whaV
  rw [n4_64 (by omega), show wtm (vp_updL m (8 + c) (N8 b)) W H r = Z8 (dist W (W * H) (slw (vp_updL m (8 + c) (N8 b)) 8) (frc (vp_updL m (8 + c) (N8 b)) W r) (toc (vp_updL m (8 + c) (N8 b)) W r)) from rfl, e1, e2]
/-! changes -/
theorem sm_cell {x p c v : Nat} (hx : (x = 8 ∧ p = 2) ∨ (x = 72 ∧ p = 3)) (hc : c < 64) (h : Sm σ 1 m) (tI : ∀ q, q ≠ p → q ≤ 7 → τ.1 q = σ.1 q) (tL : ∀ q, q ≤ 7 → τ.2 q = σ.2 q) (tp : ∀ i, τ.1 p i = if i = c then N4 v else σ.1 p i) (hv : v < 2147483648) : Sm τ 1 (vp_updL m (x + c) (N8 v)) := by
  obtain ⟨s1, s2, s3, s4, s5⟩ := h
  have e : ∀ j, j ≠ x + c → vp_updL m (x + c) (N8 v) j = m j := fun j hj => if_neg hj
  have ee : vp_updL m (x + c) (N8 v) (x + c) = N8 v := if_pos rfl
  refine ⟨fun j hj => by rw [e j (by omega), tI 1 (by omega) (by omega)]; exact s1 j hj, by rw [e 6 (by omega), tL 1 (by omega)]; exact s2, by rw [e 7 (by omega), tI 1 (by omega) (by omega)]; exact s3, fun d hd => ?_, fun r hr => ?_⟩
  · obtain ⟨a, b⟩ := s4 d hd
    rcases hx with ⟨rfl, rfl⟩ | ⟨rfl, rfl⟩
    · refine ⟨?_, by rw [e _ (by omega)]; show _ = (τ.1 3 d).toInt64; rw [tI 3 (by omega) (by omega)]; exact b⟩
      show _ = (τ.1 2 d).toInt64
      rw [tp d]
      by_cases q : d = c
      · rw [if_pos q, q, ee, n4_64 hv]
      · rw [if_neg q, e _ (by omega)]; exact a
    · refine ⟨by rw [e _ (by omega)]; show _ = (τ.1 2 d).toInt64; rw [tI 2 (by omega) (by omega)]; exact a, ?_⟩
      show _ = (τ.1 3 d).toInt64
      rw [tp d]
      by_cases q : d = c
      · rw [if_pos q, q, ee, n4_64 hv]
      · rw [if_neg q, e _ (by omega)]; exact b
  · obtain ⟨a, b, c', d⟩ := s5 r hr
    refine ⟨?_, ?_, ?_, ?_⟩
    · rw [e _ (by omega)]; show _ = (τ.1 4 r).toInt64; rw [tI 4 (by omega) (by omega)]; exact a
    · rw [e _ (by omega)]; show _ = (τ.1 5 r).toInt64; rw [tI 5 (by omega) (by omega)]; exact b
    · rw [e _ (by omega)]; show _ = (τ.1 7 r).toInt64; rw [tI 7 (by omega) (by omega)]; exact c'
    · rw [e _ (by omega)]; show _ = τ.2 6 r; rw [tL 6 (by omega)]; exact d
theorem c_put {c b : Nat} (h : CS σ m W H n) (hc : c < 64) (b1 : 1 ≤ b) (b2 : b ≤ 100000) : ∃ τ, f_X1_putSlowness (N4 c) (N4 b) σ = some τ ∧ CS τ (vp_updL m (8 + c) (N8 b)) W H n ∧ Fk σ τ := by
  have hn := h.1.1.2.2.2.2.2.2.2
  obtain ⟨τ, a1, a2, a3, a4⟩ := c_forget (σ := setI σ 2 c (N4 b))
  unfold f_X1_putSlowness
  rw [gd_inb (by omega) (by omega), n4_nat (by omega), a1, bd_s]
  have hq : ∀ q, q ≠ 144 → q ≠ 2 → τ.1 q = σ.1 q := fun q h1 h2 => by rw [a2 q h1, mI_p h2]
  refine ⟨τ, rfl, ⟨val_s8 h.1 hc b1 b2, sm_cell (x := 8) (p := 2) (Or.inl ⟨rfl, rfl⟩) hc h.2.1 (fun q h1 h2 => hq q (by omega) h1) (fun q _ => by rw [a3]; rfl) (fun i => ?_) (by omega), h.2.2.1.of (fun q h1 h2 => hq q (by omega) (by omega)) h.1.1.K.2, cch_0 a4 hn⟩, ⟨fun q j hq' => ?_, fun q j hq' => by rw [a3]; rfl⟩⟩
  · rw [a2 2 (by omega)]
    by_cases e : i = c
    · rw [e, mI_e, if_pos rfl]
    · rw [mI_j e, if_neg e]
  · rw [hq q (by unfold ckI at hq'; omega) (by unfold ckI at hq'; omega)]
theorem co_setCell1 (h : CI σ m W H n hs sc) (h1 : rng x1 0 (((W * H : Nat) : Int) - 1) = false) : f_X11_setCell x1 x2 σ = some (.inr xIO, σ) := by
  unfold f_X11_setCell
  rw [c_needCell h.1, bd_s, if_neg (bf h1), xm_r]
theorem co_setCell2 (h : CI σ m W H n hs sc) (h1 : rng x1 0 (((W * H : Nat) : Int) - 1) = true) (h2 : rng x2 1 100000 = false) : f_X11_setCell x1 x2 σ = some (.inr xIA, σ) := by
  unfold f_X11_setCell
  rw [c_needCell h.1, bd_s, if_pos h1, xm_l, cn_r 1 100000 (by decide) (by decide), bd_s, if_neg (bf h2), xm_r]
theorem co_setCell {c : Nat} (h : CI σ m W H n hs sc) (hc : c < W * H) (h2 : rng x2 1 100000 = true) : ∃ τ, f_X11_setCell (N4 c) x2 σ = some (.inl (m (8 + c)).toInt32, τ) ∧ CO σ τ (vp_updL m (8 + c) x2.toInt64) W H n (push hs m) sc := by
  have hK := h.1.1.1.K
  obtain ⟨b, rfl, b1, b2, b3⟩ := rng_lo (a := 1) (b := 100000) h2
  obtain ⟨τ, a1, a2, a3⟩ := co_save h
  obtain ⟨ρ, r1, r2, r3⟩ := c_put (c := c) a2.1.1 (by omega) b1 b2
  unfold f_X11_setCell
  rw [c_needCell h.1, bd_s, if_pos (rng_i hc (by omega)), xm_l, cn_r 1 100000 (by decide) (by decide), bd_s, if_pos h2, xm_l, a1, bd_s, gd_inb (by omega) (by omega), r1, bd_s, n4_nat (by omega), i64_r (a2.1.1.2.1.2.2.2.1 c (by omega)).1, n4_64 (by omega)]
  exact ⟨ρ, rfl, a2.fk r2 r3⟩
theorem co_setTrue1 (h : CI σ m W H n hs sc) (h1 : rng x1 0 (((W * H : Nat) : Int) - 1) = false) : f_X11_setTrue x1 x2 σ = some (.inr xIO, σ) := by
  unfold f_X11_setTrue
  rw [c_needCell h.1, bd_s, if_neg (bf h1), xm_r]
theorem co_setTrue2 (h : CI σ m W H n hs sc) (h1 : rng x1 0 (((W * H : Nat) : Int) - 1) = true) (h2 : rng x2 1 100000 = false) : f_X11_setTrue x1 x2 σ = some (.inr xIA, σ) := by
  unfold f_X11_setTrue
  rw [c_needCell h.1, bd_s, if_pos h1, xm_l, cn_r 1 100000 (by decide) (by decide), bd_s, if_neg (bf h2), xm_r]
theorem cs_true1 {c b : Nat} (h : CS σ m W H n) (hc : c < 64) (b1 : 1 ≤ b) (b2 : b ≤ 100000) : CS (setI σ 3 c (N4 b)) (vp_updL m (72 + c) (N8 b)) W H n := by
  have hn := h.1.1.2.2.2.2.2.2.2
  have e : ∀ j, j ≠ 72 + c → vp_updL m (72 + c) (N8 b) j = m j := fun j hj => if_neg hj
  refine ⟨val_s72 h.1 hc b1 b2, sm_cell (x := 72) (p := 3) (Or.inr ⟨rfl, rfl⟩) hc h.2.1 (fun q h1 h2 => mI_p h1) (fun q _ => rfl) (fun i => ?_) (by omega), h.2.2.1.of (fun q h1 h2 => mI_p (by omega)) h.1.1.K.2, cch_congr h.1 (fun d hd => e _ (by omega)) (fun r hr => ⟨e _ (by omega), e _ (by omega)⟩) (cch_of h.2.2.2 (fun q _ _ => mI_p (by omega)) rfl hn)⟩
  by_cases q : i = c
  · rw [q, mI_e, if_pos rfl]
  · rw [mI_j q, if_neg q]
theorem co_setTrue {c : Nat} (h : CI σ m W H n hs sc) (hc : c < W * H) (h2 : rng x2 1 100000 = true) : ∃ τ, f_X11_setTrue (N4 c) x2 σ = some (.inl (m (72 + c)).toInt32, τ) ∧ CO σ τ (vp_updL m (72 + c) x2.toInt64) W H n (push hs m) sc := by
  have hK := h.1.1.1.K
  obtain ⟨b, rfl, b1, b2, b3⟩ := rng_lo (a := 1) (b := 100000) h2
  obtain ⟨τ, a1, a2, a3⟩ := co_save h
  unfold f_X11_setTrue
  rw [c_needCell h.1, bd_s, if_pos (rng_i hc (by omega)), xm_l, cn_r 1 100000 (by decide) (by decide), bd_s, if_pos h2, xm_l, a1, bd_s, gd_inb (by omega) (by omega), gd_inb (by omega) (by omega), n4_nat (by omega), i64_r (a2.1.1.2.1.2.2.2.1 c (by omega)).2, n4_64 (by omega)]
  exact ⟨_, rfl, a2.fk (cs_true1 a2.1.1 (by omega) b1 b2) (Fz.rfl.i (by unfold ckI; omega))⟩
theorem co_slope1 (h1 : ¬ (rng x2 1 100000 = true ∧ rng x3 (-10000) 10000 = true ∧ rng x4 (-10000) 10000 = true)) : f_X11_slope x1 x2 x3 x4 σ = some (.inr xIA, σ) := by
  unfold f_X11_slope
  rw [cn_r 1 100000 (by decide) (by decide), bd_s]
  by_cases q : rng x2 1 100000 = true
  · rw [if_pos q, xm_l, cn_r (-10000) 10000 (by decide) (by decide), bd_s]
    by_cases q2 : rng x3 (-10000) 10000 = true
    · rw [if_pos q2, xm_l, cn_r (-10000) 10000 (by decide) (by decide), bd_s, if_neg (fun e => h1 ⟨q, q2, e⟩), xm_r]
    · rw [if_neg q2, xm_r]
  · rw [if_neg q, xm_r]
theorem co_slope {x : Nat} (h : CI σ m W H n hs sc) (hsel : (x1 = 0 → x = 8) ∧ (x1 ≠ 0 → x = 72)) (h1 : rng x2 1 100000 = true) (h2 : rng x3 (-10000) 10000 = true) (h3 : rng x4 (-10000) 10000 = true) : ∃ τ, f_X11_slope x1 x2 x3 x4 σ = some (.inl (N4 (chg m (mSlp m x W (W * H) x2.toInt64 x3.toInt64 x4.toInt64) x (W * H))), τ) ∧ CO σ τ (mSlp m x W (W * H) x2.toInt64 x3.toInt64 x4.toInt64) W H n (push hs m) sc := by
  obtain ⟨τ, a1, a2, a3⟩ := co_save h
  obtain ⟨ρ, r1, r2, r3⟩ := c_incline a2.1.1 hsel h1 h2 h3
  unfold f_X11_slope
  rw [cn_r 1 100000 (by decide) (by decide), bd_s, if_pos h1, xm_l, cn_r (-10000) 10000 (by decide) (by decide), bd_s, if_pos h2, xm_l, cn_r (-10000) 10000 (by decide) (by decide), bd_s, if_pos h3, xm_l, a1, bd_s, r1, bd_s]
  exact ⟨ρ, rfl, a2.fk r2 r3⟩
theorem co_observe1 (h1 : ¬ (rng x1 0 1000 = true ∧ rng x2 0 999999 = true)) : f_X11_observe x1 x2 σ = some (.inr xIA, σ) := by
  unfold f_X11_observe
  rw [cn_r 0 1000 (by decide) (by decide), bd_s]
  by_cases q : rng x1 0 1000 = true
  · rw [if_pos q, xm_l, cn_r 0 999999 (by decide) (by decide), bd_s, if_neg (fun e => h1 ⟨q, e⟩), xm_r]
  · rw [if_neg q, xm_r]
theorem co_observe (h : CI σ m W H n hs sc) (h1 : rng x1 0 1000 = true) (h2 : rng x2 0 999999 = true) : ∃ τ, f_X11_observe x1 x2 σ = some (.inl (N4 n), τ) ∧ CO σ τ (mObs m W H n x1 x2.toInt64) W H n (push hs m) sc := by
  obtain ⟨w, rfl, w1, w2, w3⟩ := rng_lo (a := 0) (b := 1000) h1
  obtain ⟨s, rfl, s1, s2, s3⟩ := rng_lo (a := 0) (b := 999999) h2
  obtain ⟨τ, a1, a2, a3⟩ := co_save h
  obtain ⟨ρ, r1, r2, r3⟩ := c_takes (w := w) (x2 := N4 s) (s := s) a2.1.1 w2 (n4_64 (by omega)) (by omega)
  unfold f_X11_observe
  rw [cn_r 0 1000 (by decide) (by decide), bd_s, if_pos h1, xm_l, cn_r 0 999999 (by decide) (by decide), bd_s, if_pos h2, xm_l, a1, bd_s, r1, bd_s, (cs_W r2).2.2, n4_64 (by omega)]
  exact ⟨ρ, rfl, a2.fk r2 r3⟩
theorem co_correct1 (h : CI σ m W H n hs sc) (h1 : rng x1 0 ((n : Int) - 1) = false) : f_X11_correct x1 σ = some (.inr xIO, σ) := by
  unfold f_X11_correct
  rw [c_needRay h.1, bd_s, if_neg (bf h1), xm_r]
theorem co_correct2 {r : Nat} (h : CI σ m W H n hs sc) (hr : r < n) (h2 : m (139 + 4 * r) = -1) : f_X11_correct (N4 r) σ = some (.inr xIS, σ) := by
  have hn := h.1.1.1.2.2.2.2.2.2.2
  unfold f_X11_correct
  rw [c_needRay h.1, bd_s, if_pos (rng_i hr (by omega)), xm_l, c_needObs h.1 hr, bd_s, if_pos h2, xm_r]
theorem co_correct {r : Nat} (h : CI σ m W H n hs sc) (hr : r < n) (h2 : ¬ m (139 + 4 * r) = -1) : ∃ τ, f_X11_correct (N4 r) σ = some (.inl (N4 (chg m (mCor m W H r) 8 (W * H))), τ) ∧ CO σ τ (mCor m W H r) W H n (push hs m) sc := by
  have hn := h.1.1.1.2.2.2.2.2.2.2
  obtain ⟨τ, a1, a2, a3⟩ := co_save h
  obtain ⟨ρ, r1, r2, r3, -⟩ := c_project a2.1.1 hr
  unfold f_X11_correct
  rw [c_needRay h.1, bd_s, if_pos (rng_i hr (by omega)), xm_l, c_needObs h.1 hr, bd_s, if_neg h2, xm_l, a1, bd_s, r1, bd_s]
  exact ⟨ρ, rfl, a2.fk r2 r3⟩
theorem co_sweep1 (h1 : rng x1 1 20 = false) : f_X11_sweep x1 σ = some (.inr xIA, σ) := by
  unfold f_X11_sweep
  rw [cn_r 1 20 (by decide) (by decide), bd_s, if_neg (bf h1), xm_r]
theorem co_sweep {k : Nat} (h : CI σ m W H n hs sc) (hk : 1 ≤ k) (hk2 : k ≤ 20) : ∃ τ, f_X11_sweep (N4 k) σ = some (.inl (N4 (swpC m W H n k)), τ) ∧ CO σ τ (swpK m W H n k) W H n (push hs m) sc := by
  have h1 : rng (N4 k) 1 20 = true := by unfold rng; rw [n4_int (by omega), decide_eq_true_eq]; omega
  obtain ⟨τ, a1, a2, a3⟩ := co_save h
  obtain ⟨ρ, r1, r2, r3⟩ := c_sweeps a2.1.1 hk2
  unfold f_X11_sweep
  rw [cn_r 1 20 (by decide) (by decide), bd_s, if_pos h1, xm_l, a1, bd_s, r1, bd_s]
  exact ⟨ρ, rfl, a2.fk r2 r3⟩
theorem co_smooth1 (h1 : rng x1 1 100 = false) : f_X11_smooth x1 σ = some (.inr xIA, σ) := by
  unfold f_X11_smooth
  rw [cn_r 1 100 (by decide) (by decide), bd_s, if_neg (bf h1), xm_r]
theorem co_smooth {k : Nat} (h : CI σ m W H n hs sc) (hk : 1 ≤ k) (hk2 : k ≤ 100) : ∃ τ, f_X11_smooth (N4 k) σ = some (.inl (N4 (chg m (mSmo m W (W * H) k) 8 (W * H))), τ) ∧ CO σ τ (mSmo m W (W * H) k) W H n (push hs m) sc := by
  have h1 : rng (N4 k) 1 100 = true := by unfold rng; rw [n4_int (by omega), decide_eq_true_eq]; omega
  obtain ⟨τ, a1, a2, a3⟩ := co_save h
  obtain ⟨ρ, r1, r2, r3⟩ := c_smooth a2.1.1 hk hk2
  unfold f_X11_smooth
  rw [cn_r 1 100 (by decide) (by decide), bd_s, if_pos h1, xm_l, a1, bd_s, r1, bd_s]
  exact ⟨ρ, rfl, a2.fk r2 r3⟩
theorem co_fill (h : CI σ m W H n hs sc) : ∃ τ, f_X11_fill σ = some (N4 (chg m (mFil m W H n) 8 (W * H)), τ) ∧ CO σ τ (mFil m W H n) W H n (push hs m) sc := by
  obtain ⟨τ, a1, a2, a3⟩ := co_save h
  obtain ⟨ρ, r1, r2, r3⟩ := c_fillG a2.1.1
  unfold f_X11_fill
  rw [a1, bd_s, r1, bd_s]
  exact ⟨ρ, rfl, a2.fk r2 r3⟩
end CFACE2
