/-! ===== the class carries out its script ===== -/
section CRUN
variable {σ τ : Mem} {W H n : Nat} {m : Nat → Int64} {hs : List (Nat → Int64)} {sc : List Nat} {x1 x2 x3 : Int32}
theorem c_isRow {x : Int32} (h : CS σ m W H n) : f_X11_isRow x σ = some (if rng x 0 ((H : Int) - 1) = true then 1 else 0) := by
  have hn := h.1.1.2.2.2.2.2.2.1
  unfold f_X11_isRow
  rw [(cs_W h).2.1, cn_k (by omega), bd_s, gd_b]
theorem c_isCell {x : Int32} (h : CS σ m W H n) : f_X11_isCell x σ = some (if rng x 0 (((W * H : Nat) : Int) - 1) = true then 1 else 0) := by
  have hK := h.1.1.K
  unfold f_X11_isCell
  rw [c_cells h, bd_s, cn_k (by omega), bd_s, gd_b]
theorem c_isRay {x : Int32} (h : CS σ m W H n) : f_X11_isRay x σ = some (if rng x 0 ((n : Int) - 1) = true then 1 else 0) := by
  have hn := h.1.1.2.2.2.2.2.2.2
  unfold f_X11_isRay
  rw [(cs_W h).2.2, cn_k (by omega), bd_s, gd_b]
theorem c_append {a b : Nat} (h : CS σ m W H n) (a1 : a < H) (b1 : b < H) (hn : n < 16) : ∃ τ, f_X11_appendRay (N4 a) (N4 b) σ = some τ ∧ CS τ (mAdd m n (N8 a) (N8 b)) W H (n + 1) ∧ Fk σ τ := by
  have hH := h.1.1.2.2.2.2.2.2.1
  obtain ⟨s1, s2, s3, s4, s5⟩ := h.2.1
  have e7 := (cs_W h).2.2
  obtain ⟨ρ, r1, r2, r3, r4⟩ := c_forget (σ := setI (setI (setL (setI (setI σ 4 n (N4 a)) 5 n (N4 b)) 6 n (-1)) 7 n 1) 1 7 (N4 (n + 1)))
  have hI : ∀ q, q ≠ 1 → (q < 4 ∨ 7 < q) → q ≠ 144 → ρ.1 q = σ.1 q := fun q h1 h2 h3 => by
    rw [r2 q h3, mI_p h1, mI_p (by omega), mL_I, mI_p (by omega), mI_p (by omega)]
  have hL : ∀ q, q ≠ 6 → ρ.2 q = σ.2 q := fun q h1 => by
    rw [r3]
    show (setL (setI (setI σ 4 n (N4 a)) 5 n (N4 b)) 6 n (-1)).2 q = _
    rw [mL_p h1]; rfl
  have hm : ∀ j, j ≠ 7 → j ≠ 136 + 4 * n → j ≠ 137 + 4 * n → j ≠ 138 + 4 * n → j ≠ 139 + 4 * n → mAdd m n (N8 a) (N8 b) j = m j := fun j g1 g2 g3 g4 g5 => by
    unfold mAdd vp_updL
    rw [if_neg g1, if_neg g5, if_neg g4, if_neg g3, if_neg g2]
  have hC : CS ρ (mAdd m n (N8 a) (N8 b)) W H (n + 1) := by
    refine ⟨val_add h.1 a1 b1 hn, ⟨fun j hj => ?_, ?_, ?_, fun c hc => ?_, fun q hq => ?_⟩, h.2.2.1.of (fun q g1 g2 => hI q (by omega) (by omega) (by omega)) h.1.1.K.2, cch_0 r4 (by omega)⟩
    · rw [hm j (by omega) (by omega) (by omega) (by omega) (by omega), r2 1 (by omega), mI_j (by omega), mI_p (by omega), mL_I, mI_p (by omega), mI_p (by omega)]
      exact s1 j hj
    · rw [hm 6 (by omega) (by omega) (by omega) (by omega) (by omega), hL 1 (by omega)]; exact s2
    · rw [r2 1 (by omega), mI_e, n4_64 (by omega)]
      unfold mAdd
      exact if_pos rfl
    · rw [hm _ (by omega) (by omega) (by omega) (by omega) (by omega), hm _ (by omega) (by omega) (by omega) (by omega) (by omega), hI (1 + 1) (by omega) (by omega) (by omega), hI (1 + 2) (by omega) (by omega) (by omega)]
      exact s4 c hc
    · obtain ⟨g1, g2, g3, g4⟩ := s5 q hq
      show _ = (ρ.1 4 q).toInt64 ∧ _ = (ρ.1 5 q).toInt64 ∧ _ = (ρ.1 7 q).toInt64 ∧ _ = ρ.2 6 q
      have k4 : ρ.1 4 q = if q = n then N4 a else σ.1 4 q := by
        rw [r2 4 (by omega), mI_p (by omega), mI_p (by omega), mL_I, mI_p (by omega)]
        by_cases x : q = n
        · rw [if_pos x, x, mI_e]
        · rw [if_neg x, mI_j x]
      have k5 : ρ.1 5 q = if q = n then N4 b else σ.1 5 q := by
        rw [r2 5 (by omega), mI_p (by omega), mI_p (by omega), mL_I]
        by_cases x : q = n
        · rw [if_pos x, x, mI_e]
        · rw [if_neg x, mI_j x, mI_p (by omega)]
      have k7 : ρ.1 7 q = if q = n then 1 else σ.1 7 q := by
        rw [r2 7 (by omega), mI_p (by omega)]
        by_cases x : q = n
        · rw [if_pos x, x, mI_e]
        · rw [if_neg x, mI_j x, mL_I, mI_p (by omega), mI_p (by omega)]
      have k6 : ρ.2 6 q = if q = n then -1 else σ.2 6 q := by
        rw [r3]
        show (setL (setI (setI σ 4 n (N4 a)) 5 n (N4 b)) 6 n (-1)).2 6 q = _
        by_cases x : q = n
        · rw [if_pos x, x, mL_e]
        · rw [if_neg x, mL_j x]; rfl
      rw [k4, k5, k7, k6]
      by_cases x : q = n
      · rw [if_pos x, if_pos x, if_pos x, if_pos x, x, n4_64 (by omega), n4_64 (by omega)]
        unfold mAdd vp_updL
        refine ⟨?_, ?_, ?_, ?_⟩
        · rw [if_neg (by omega), if_neg (by omega), if_neg (by omega), if_neg (by omega), if_pos rfl]
        · rw [if_neg (by omega), if_neg (by omega), if_neg (by omega), if_pos rfl]
        · rw [if_neg (by omega), if_neg (by omega), if_pos rfl]; decide
        · rw [if_neg (by omega), if_pos rfl]
      · rw [if_neg x, if_neg x, if_neg x, if_neg x, hm _ (by omega) (by omega) (by omega) (by omega) (by omega), hm _ (by omega) (by omega) (by omega) (by omega) (by omega), hm _ (by omega) (by omega) (by omega) (by omega) (by omega), hm _ (by omega) (by omega) (by omega) (by omega) (by omega)]
        exact ⟨g1, g2, g3, g4⟩
  have hF : Fk σ ρ := by
    refine ⟨fun q j hq => ?_, fun q j hq => ?_⟩
    · rw [hI q (by unfold ckI at hq; omega) (by unfold ckI at hq; omega) (by unfold ckI at hq; omega)]
    · rw [hL q (by unfold ckI at hq; omega)]
  unfold f_X11_appendRay
  rw [e7, gd_inb (by omega) (by omega), gd_inb (by omega) (by omega), gd_inb (by omega) (by omega), gd_inb (by omega) (by omega), bd_s, n4_nat (by omega), n4_succ, r1, bd_s]
  exact ⟨ρ, rfl, hC, hF⟩
theorem cs_used {r : Nat} (h : CS σ m W H n) (hr : r < n) (hx : x2 = 0 ∨ x2 = 1) : CS (setI σ 7 r x2) (mUse m r x2) W H n := by
  have hn := h.1.1.2.2.2.2.2.2.2
  obtain ⟨s1, s2, s3, s4, s5⟩ := h.2.1
  have e : ∀ j, j ≠ 138 + 4 * r → mUse m r x2 j = m j := fun j hj => if_neg hj
  have e8 : mUse m r x2 (138 + 4 * r) = x2.toInt64 := by
    show (if 138 + 4 * r = 138 + 4 * r then _ else _) = _
    rw [if_pos rfl]
    rcases hx with rfl | rfl
    · decide
    · decide
  have hC : CS (setI σ 7 r x2) (mUse m r x2) W H n := by
    refine ⟨val_use h.1 (by omega), ⟨fun j hj => by rw [e j (by omega), mI_p (by omega)]; exact s1 j hj, by rw [e 6 (by omega)]; exact s2, by rw [e 7 (by omega), mI_p (by omega)]; exact s3, fun c hc => by rw [e _ (by omega), e _ (by omega), mI_p (by omega), mI_p (by omega)]; exact s4 c hc, fun q hq => ?_⟩, h.2.2.1.of (fun q a b => mI_p (by omega)) h.1.1.K.2, cch_congr h.1 (fun c hc => e _ (by omega)) (fun r hr => ⟨e _ (by omega), e _ (by omega)⟩) (cch_of h.2.2.2 (fun q _ _ => mI_p (by omega)) rfl hn)⟩
    obtain ⟨a, b, c, d⟩ := s5 q hq
    refine ⟨by rw [e _ (by omega), mI_p (by omega)]; exact a, by rw [e _ (by omega), mI_p (by omega)]; exact b, ?_, by rw [e _ (by omega)]; exact d⟩
    show _ = ((setI σ 7 r x2).1 7 q).toInt64
    by_cases x : q = r
    · rw [x, mI_e, e8]
    · rw [mI_j x, e _ (by omega)]; exact c
  exact hC
/-! what may be carried out -/
theorem rng_k {c k : Nat} (hc : c < 2147483648) : (rng (N4 c) 0 ((k : Int) - 1) = true) ↔ c < k := by rw [rng_n hc]; omega
theorem c_pos0 {a b : Nat} (h : CS σ m W H n) (ha : a < 1000000) (hb : b < 1000000) : f_X11_isPossible (N4 0) (N4 a) (N4 b) σ = some (if a < H ∧ b < H ∧ n < 16 then 1 else 0) := by
  have hn := h.1.1.2.2.2.2.2.2.2
  unfold f_X11_isPossible f_X11_hasRoomForRay
  rw [gd_inb (by omega) (by omega), gd_inb (by omega) (by omega), if_pos (show swOf (N4 0) = 1 by decide), c_isRow h, bd_s]
  by_cases q1 : rng (N4 a) 0 ((H : Int) - 1) = true
  · rw [if_neg (b4_t q1), c_isRow h, bd_s]
    by_cases q2 : rng (N4 b) 0 ((H : Int) - 1) = true
    · rw [if_neg (b4_t q2), (cs_W h).2.2]
      by_cases q3 : n < 16
      · rw [if_neg (show ¬ (16 : Int32) ≤ N4 n from fun q => by have := (n4_le (a := 16) (by omega) (by omega)).mp q; omega), bd_s, if_neg (by decide), if_pos ⟨(rng_k (by omega)).mp q1, (rng_k (by omega)).mp q2, q3⟩]
      · rw [if_pos (show (16 : Int32) ≤ N4 n from (n4_le (a := 16) (by omega) (by omega)).mpr (by omega)), bd_s, if_pos rfl, if_neg (fun y => q3 y.2.2)]
    · rw [if_pos (b4_f q2), if_neg (fun y => q2 ((rng_k (by omega)).mpr y.2.1))]
  · rw [if_pos (b4_f q1), if_neg (fun y => q1 ((rng_k (by omega)).mpr y.1))]
theorem c_pos12 {a b w : Nat} (hw : w = 1 ∨ w = 2) (h : CS σ m W H n) (ha : a < 1000000) (hb : b < 1000000) : f_X11_isPossible (N4 w) (N4 a) (N4 b) σ = some (if a < W * H ∧ 1 ≤ b ∧ b ≤ 100000 then 1 else 0) := by
  have key : (bd (f_X11_isCell (N4 a) σ) (fun q14 => if q14 = 0 then some (0 : Int32) else bd (f_X11_isWithin (N4 b) 1 100000 σ) (fun q17 => if q17 = 0 then some 0 else some 1))) = some (if a < W * H ∧ 1 ≤ b ∧ b ≤ 100000 then 1 else 0) := by
    rw [c_isCell h, bd_s]
    by_cases q1 : rng (N4 a) 0 (((W * H : Nat) : Int) - 1) = true
    · rw [if_neg (b4_t q1), cn_w (a := 1) (b := 100000) (by decide) (by decide), bd_s]
      by_cases q2 : rng (N4 b) 1 100000 = true
      · have := (rng_n (by omega)).mp q2
        rw [if_neg (b4_t q2), if_pos ⟨(rng_k (by omega)).mp q1, by omega, by omega⟩]
      · rw [if_pos (b4_f q2), if_neg (fun y => q2 ((rng_n (by omega)).mpr (by omega)))]
    · rw [if_pos (b4_f q1), if_neg (fun y => q1 ((rng_k (by omega)).mpr y.1))]
  unfold f_X11_isPossible
  rcases hw with rfl | rfl
  · rw [gd_inb (by omega) (by omega), gd_inb (by omega) (by omega), if_neg (show ¬ swOf (N4 1) = 1 by decide), if_pos (show swOf (N4 1) = 2 by decide)]
    exact key
  · rw [gd_inb (by omega) (by omega), gd_inb (by omega) (by omega), if_neg (show ¬ swOf (N4 2) = 1 by decide), if_neg (show ¬ swOf (N4 2) = 2 by decide), if_pos (show swOf (N4 2) = 3 by decide)]
    exact key
theorem c_pos3 {a : Nat} (ha : a < 1000000) : f_X11_isPossible (N4 3) (N4 a) x3 σ = some (if a ≤ 1000 then 1 else 0) := by
  unfold f_X11_isPossible
  rw [gd_inb (by omega) (by omega), gd_inb (by omega) (by omega), if_neg (show ¬ swOf (N4 3) = 1 by decide), if_neg (show ¬ swOf (N4 3) = 2 by decide), if_neg (show ¬ swOf (N4 3) = 3 by decide), if_pos (show swOf (N4 3) = 4 by decide), cn_w (a := 0) (b := 1000) (by decide) (by decide), bd_s, gd_b]
  by_cases q : a ≤ 1000
  · rw [if_pos q, if_pos ((rng_n (by omega)).mpr (by omega))]
  · rw [if_neg q, if_neg (fun y => by have := (rng_n (by omega)).mp y; omega)]
theorem c_pos4 {a : Nat} (ha : a < 1000000) : f_X11_isPossible (N4 4) (N4 a) x3 σ = some (if 1 ≤ a ∧ a ≤ 20 then 1 else 0) := by
  unfold f_X11_isPossible
  rw [gd_inb (by omega) (by omega), gd_inb (by omega) (by omega), if_neg (show ¬ swOf (N4 4) = 1 by decide), if_neg (show ¬ swOf (N4 4) = 2 by decide), if_neg (show ¬ swOf (N4 4) = 3 by decide), if_neg (show ¬ swOf (N4 4) = 4 by decide), if_pos (show swOf (N4 4) = 5 by decide), cn_w (a := 1) (b := 20) (by decide) (by decide), bd_s, gd_b]
  by_cases q : 1 ≤ a ∧ a ≤ 20
  · rw [if_pos q, if_pos ((rng_n (by omega)).mpr (by omega))]
  · rw [if_neg q, if_neg (fun y => by have := (rng_n (by omega)).mp y; omega)]
theorem c_pos5 {a : Nat} (ha : a < 1000000) : f_X11_isPossible (N4 5) (N4 a) x3 σ = some (if 1 ≤ a ∧ a ≤ 100 then 1 else 0) := by
  unfold f_X11_isPossible
  rw [gd_inb (by omega) (by omega), gd_inb (by omega) (by omega), if_neg (show ¬ swOf (N4 5) = 1 by decide), if_neg (show ¬ swOf (N4 5) = 2 by decide), if_neg (show ¬ swOf (N4 5) = 3 by decide), if_neg (show ¬ swOf (N4 5) = 4 by decide), if_neg (show ¬ swOf (N4 5) = 5 by decide), if_pos (show swOf (N4 5) = 6 by decide), cn_w (a := 1) (b := 100) (by decide) (by decide), bd_s, gd_b]
  by_cases q : 1 ≤ a ∧ a ≤ 100
  · rw [if_pos q, if_pos ((rng_n (by omega)).mpr (by omega))]
  · rw [if_neg q, if_neg (fun y => by have := (rng_n (by omega)).mp y; omega)]
theorem c_pos6 : f_X11_isPossible (N4 6) x2 x3 σ = some 1 := by
  unfold f_X11_isPossible
  rw [gd_inb (by omega) (by omega), gd_inb (by omega) (by omega), if_neg (show ¬ swOf (N4 6) = 1 by decide), if_neg (show ¬ swOf (N4 6) = 2 by decide), if_neg (show ¬ swOf (N4 6) = 3 by decide), if_neg (show ¬ swOf (N4 6) = 4 by decide), if_neg (show ¬ swOf (N4 6) = 5 by decide), if_neg (show ¬ swOf (N4 6) = 6 by decide), if_pos (show swOf (N4 6) = 7 by decide)]
theorem c_pos7 {a : Nat} (h : CS σ m W H n) (ha : a < 1000000) : f_X11_isPossible (N4 7) (N4 a) x3 σ = some (if a < n then 1 else 0) := by
  unfold f_X11_isPossible
  rw [gd_inb (by omega) (by omega), gd_inb (by omega) (by omega), if_neg (show ¬ swOf (N4 7) = 1 by decide), if_neg (show ¬ swOf (N4 7) = 2 by decide), if_neg (show ¬ swOf (N4 7) = 3 by decide), if_neg (show ¬ swOf (N4 7) = 4 by decide), if_neg (show ¬ swOf (N4 7) = 5 by decide), if_neg (show ¬ swOf (N4 7) = 6 by decide), if_neg (show ¬ swOf (N4 7) = 7 by decide), c_isRay h, bd_s, gd_b]
  by_cases q : a < n
  · rw [if_pos q, if_pos ((rng_k (by omega)).mpr q)]
  · rw [if_neg q, if_neg (fun y => q ((rng_k (by omega)).mp y))]
end CRUN
