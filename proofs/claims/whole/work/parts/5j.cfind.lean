/-! ===== the class's state; its ways ===== -/
/-- the State at the place k says what m says -/
def Sm (σ : Mem) (k : Nat) (m : Nat → Int64) : Prop :=
  (∀ j, j < 6 → m j = (σ.1 k j).toInt64) ∧ m 6 = σ.2 k 6 ∧ m 7 = (σ.1 k 7).toInt64 ∧ (∀ c, c < 64 → m (8 + c) = (σ.1 (k + 1) c).toInt64 ∧ m (72 + c) = (σ.1 (k + 2) c).toInt64) ∧ ∀ r, r < 16 → m (136 + 4 * r) = (σ.1 (k + 3) r).toInt64 ∧ m (137 + 4 * r) = (σ.1 (k + 4) r).toInt64 ∧ m (138 + 4 * r) = (σ.1 (k + 6) r).toInt64 ∧ m (139 + 4 * r) = σ.2 (k + 5) r
theorem i64_n4 {x : Int32} {v : Nat} (h : N8 v = x.toInt64) : x = N4 v := by
  rw [← Int32.toInt32_toInt64 x, ← h, n8_32]
theorem i64_r {x : Int32} {y : Int64} (h : y = x.toInt64) : y.toInt32 = x := by rw [h, Int32.toInt32_toInt64]
def CW (τ : Mem) (m : Nat → Int64) (W H r : Nat) : Prop := τ.2 146 r = wtm m W H r ∧ τ.1 147 r = N4 (wlr m W H r).length ∧ (∀ i, i < (wlr m W H r).length → τ.1 (149 + 1 * r) i = N4 ((wlr m W H r).getD ((wlr m W H r).length - 1 - i) 0)) ∧ ∀ c, c < 64 → τ.1 (166 + 1 * r) c = N4 (wln m W H r c)
def Cch (σ : Mem) (m : Nat → Int64) (W H n : Nat) : Prop := ∀ r, r < n → σ.1 144 r ≠ 0 → CW σ m W H r
/-- the class's present state -/
def CS (σ : Mem) (m : Nat → Int64) (W H n : Nat) : Prop := Val m W H n ∧ Sm σ 1 m ∧ Grd σ W H ∧ Cch σ m W H n
/-- what the class's questions write -/
def cqI (q _j : Nat) : Prop := 140 ≤ q ∧ q ≤ 181
abbrev Fc := Fz cqI cqI
theorem Sm.of {σ τ : Mem} {k : Nat} {m : Nat → Int64} (h : Sm σ k m) (hI : ∀ q, k ≤ q → q ≤ k + 6 → τ.1 q = σ.1 q) (hL : ∀ q, k ≤ q → q ≤ k + 6 → τ.2 q = σ.2 q) : Sm τ k m := by
  obtain ⟨h1, h2, h3, h4, h5⟩ := h
  refine ⟨fun j hj => by rw [hI k (by omega) (by omega)]; exact h1 j hj, by rw [hL k (by omega) (by omega)]; exact h2, by rw [hI k (by omega) (by omega)]; exact h3, fun c hc => ?_, fun r hr => ?_⟩
  · rw [hI (k + 1) (by omega) (by omega), hI (k + 2) (by omega) (by omega)]; exact h4 c hc
  · rw [hI (k + 3) (by omega) (by omega), hI (k + 4) (by omega) (by omega), hI (k + 6) (by omega) (by omega), hL (k + 5) (by omega) (by omega)]; exact h5 r hr
theorem Grd.of {σ τ : Mem} {W H : Nat} (h : Grd σ W H) (hI : ∀ q, 8 ≤ q → q < 140 → τ.1 q = σ.1 q) (hK : W * H ≤ 64) : Grd τ W H := by
  refine ⟨by rw [hI 8 (by omega) (by omega)]; exact h.1, fun c hc => ⟨by rw [hI 9 (by omega) (by omega)]; exact (h.2 c hc).1, fun i hi => ?_⟩⟩
  rw [hI (11 + 1 * c) (by omega) (by omega), hI (76 + 1 * c) (by omega) (by omega)]
  exact (h.2 c hc).2 i hi
theorem Fc.i {σ τ : Mem} (h : Fc σ τ) : (∀ q, q < 140 ∨ 181 < q → τ.1 q = σ.1 q) ∧ (∀ q, q < 140 ∨ 181 < q → τ.2 q = σ.2 q) := ⟨fun q hq => h.rowI (fun j => by unfold cqI; omega), fun q hq => h.row (fun j => by unfold cqI; omega)⟩
theorem CS.q {σ τ : Mem} {m : Nat → Int64} {W H n : Nat} (h : CS σ m W H n) (f : Fc σ τ) (hc : Cch τ m W H n) : CS τ m W H n := by
  obtain ⟨h1, h2, h3, h4⟩ := h
  exact ⟨h1, h2.of (fun q _ _ => f.i.1 q (by omega)) (fun q _ _ => f.i.2 q (by omega)), h3.of (fun q _ _ => f.i.1 q (by omega)) h1.1.K.2, hc⟩
section CST
variable {σ : Mem} {W H n : Nat} {m : Nat → Int64}
theorem cs_W (h : CS σ m W H n) : σ.1 1 0 = N4 W ∧ σ.1 1 1 = N4 H ∧ σ.1 1 7 = N4 n := by
  obtain ⟨⟨⟨d0, d1, d7, -⟩, -⟩, ⟨s1, s2, s3, -⟩, -⟩ := h
  exact ⟨i64_n4 (by rw [← d0]; exact s1 0 (by omega)), i64_n4 (by rw [← d1]; exact s1 1 (by omega)), i64_n4 (by rw [← d7]; exact s3)⟩
theorem c_cells (h : CS σ m W H n) : f_X7_cellCount σ = some (N4 (W * H)) := by
  obtain ⟨h1, h2, h3⟩ := cs_W h
  unfold f_X7_cellCount
  rw [h1, h2, n4_mul]
theorem cs_slow (h : CS σ m W H n) : ∀ c, c < 64 → σ.1 2 c = N4 (slw m 8 c).toNat ∧ slw m 8 c = ((slw m 8 c).toNat : Int) := fun c hc => by
  have h1 := h.1.2.1 c hc
  refine ⟨i64_n4 ?_, by omega⟩
  rw [z8_n, Int.toNat_of_nonneg (by omega)]
  show Z8 (m (8 + c)).toInt = _
  rw [z8_of]
  exact (h.2.1.2.2.2.1 c hc).1
theorem cs_true (h : CS σ m W H n) : ∀ c, c < 64 → σ.1 3 c = N4 (slw m 72 c).toNat ∧ slw m 72 c = ((slw m 72 c).toNat : Int) := fun c hc => by
  have h1 := h.1.2.2.1 c hc
  refine ⟨i64_n4 ?_, by omega⟩
  rw [z8_n, Int.toNat_of_nonneg (by omega)]
  show Z8 (m (72 + c)).toInt = _
  rw [z8_of]
  exact (h.2.1.2.2.2.1 c hc).2
theorem c_source {r : Nat} (h : CS σ m W H n) (hr : r < n) : f_X7_sourceCell (N4 r) σ = some (N4 (frc m W r)) := by
  have hn := h.1.1.2.2.2.2.2.2.2
  have hH := h.1.1.2.2.2.2.2.2.1
  obtain ⟨a, b, e1, e2, e3, e4⟩ := h.1.2.2.2.1 r hr
  have q := (h.2.1.2.2.2.2 r (by omega)).1
  rw [e1] at q
  unfold f_X7_sourceCell frc
  rw [gd_inb (by omega) (by omega), n4_nat (by omega), (cs_W h).1, i64_n4 q, n4_mul, e1, n8_nat (by omega), Nat.mul_comm]
theorem c_receiver {r : Nat} (h : CS σ m W H n) (hr : r < n) : f_X7_receiverCell (N4 r) σ = some (N4 (toc m W r)) := by
  have hn := h.1.1.2.2.2.2.2.2.2
  have hH := h.1.1.2.2.2.2.2.2.1
  have hW := h.1.1.2.2.2.1
  obtain ⟨a, b, e1, e2, e3, e4⟩ := h.1.2.2.2.1 r hr
  have q := (h.2.1.2.2.2.2 r (by omega)).2.1
  rw [e3] at q
  unfold f_X7_receiverCell toc
  rw [gd_inb (by omega) (by omega), n4_nat (by omega), (cs_W h).1, i64_n4 q, n4_mul, n4_add, show (1 : Int32) = N4 1 from rfl, n4_sub (by omega), e3, n8_nat (by omega), Nat.mul_comm]
theorem c_forget : ∃ τ, f_X9_forgetAll σ = some τ ∧ (∀ q, q ≠ 144 → τ.1 q = σ.1 q) ∧ τ.2 = σ.2 ∧ ∀ r, r < 16 → τ.1 144 r = 0 := by
  obtain ⟨τ, a1, a2⟩ := loopU (fun k i τ => f_X9_forgetAll_2 k (N4 i) τ) 16 (fun i τ => (∀ q, q ≠ 144 → τ.1 q = σ.1 q) ∧ τ.2 = σ.2 ∧ ∀ r, r < i → τ.1 144 r = 0) (fun τ => (∀ q, q ≠ 144 → τ.1 q = σ.1 q) ∧ τ.2 = σ.2 ∧ ∀ r, r < 16 → τ.1 144 r = 0) (by
      intro k τ hP
      refine ⟨τ, ?_, hP⟩
      show f_X9_forgetAll_2 (k + 1) (N4 16) τ = some τ
      rw [f_X9_forgetAll_2, if_pos (show (16 : Int32) ≤ N4 16 from (n4_le (a := 16) (by omega) (by omega)).mpr (Nat.le_refl _))]) (by
      intro k i τ hi hP
      show ∃ a', f_X9_forgetAll_2 (k + 1) (N4 i) τ = _ ∧ _
      rw [f_X9_forgetAll_2, if_neg (show ¬ (16 : Int32) ≤ N4 i from fun q => by have := (n4_le (a := 16) (by omega) (by omega)).mp q; omega), gd_inb (by omega) (by omega), n4_nat (by omega), n4_succ]
      refine ⟨_, rfl, fun q hq => by rw [mI_p hq]; exact hP.1 q hq, hP.2.1, fun r hr => ?_⟩
      by_cases e : r = i
      · rw [e, mI_e]
      · rw [mI_j e]; exact hP.2.2 r (by omega)) 100000 0 σ (by omega) (by omega) ⟨fun _ _ => rfl, rfl, fun r hr => by omega⟩
  refine ⟨τ, ?_, a2⟩
  unfold f_X9_forgetAll
  have a1' : f_X9_forgetAll_2 100000 0 σ = some τ := a1
  rw [a1', bd_s]
theorem c_fill {x0 A : Nat} {v : Int32} (hs : shA x0 1 (aln x0) = true) (ha : aln x0 = A) (hA : A ≤ 64) : ∃ τ, f_J7_fill_53178 x0 v σ = some τ ∧ (∀ q, q ≠ x0 → τ.1 q = σ.1 q) ∧ τ.2 = σ.2 ∧ ∀ c, c < A → τ.1 x0 c = v := by
  obtain ⟨τ, a1, a2⟩ := loopU (fun k i τ => f_J7_fill_53178_5 x0 v (Int32.ofNat (aln x0)) k (N4 i) τ) A (fun i τ => (∀ q, q ≠ x0 → τ.1 q = σ.1 q) ∧ τ.2 = σ.2 ∧ ∀ c, c < i → τ.1 x0 c = v) (fun τ => (∀ q, q ≠ x0 → τ.1 q = σ.1 q) ∧ τ.2 = σ.2 ∧ ∀ c, c < A → τ.1 x0 c = v) (by
      intro k τ hP
      refine ⟨τ, ?_, hP⟩
      show f_J7_fill_53178_5 x0 v (Int32.ofNat (aln x0)) (k + 1) (N4 A) τ = some τ
      rw [f_J7_fill_53178_5, ha, if_pos (show Int32.ofNat A ≤ N4 A from (n4_le (a := A) (by omega) (by omega)).mpr (Nat.le_refl _))]) (by
      intro k i τ hi hP
      show ∃ a', f_J7_fill_53178_5 x0 v (Int32.ofNat (aln x0)) (k + 1) (N4 i) τ = _ ∧ _
      rw [f_J7_fill_53178_5, gd_t hs, ha, if_neg (show ¬ Int32.ofNat A ≤ N4 i from fun q => by have := (n4_le (a := A) (by omega) (by omega)).mp q; omega), gd_inb (by omega) (by omega), n4_nat (by omega), n4_succ]
      refine ⟨_, rfl, fun q hq => by rw [mI_p hq]; exact hP.1 q hq, hP.2.1, fun c hc => ?_⟩
      by_cases e : c = i
      · rw [e, mI_e]
      · rw [mI_j e]; exact hP.2.2 c (by omega)) 100000 0 σ (by omega) (by omega) ⟨fun _ _ => rfl, rfl, fun c hc => by omega⟩
  refine ⟨τ, ?_, a2⟩
  unfold f_J7_fill_53178
  have a1' : f_J7_fill_53178_5 x0 v (Int32.ofNat (aln x0)) 100000 0 σ = some τ := a1
  rw [gd_t hs, a1', bd_s]
theorem c_turn {x0 A k : Nat} (hs : shA x0 1 (aln x0) = true) (ha : aln x0 = A) (hA : A ≤ 64) (hk : k ≤ A) : ∃ τ, f_X11_turnRound x0 (N4 k) σ = some τ ∧ (∀ q, q ≠ x0 → τ.1 q = σ.1 q) ∧ τ.2 = σ.2 ∧ ∀ i, i < k → τ.1 x0 i = σ.1 x0 (k - 1 - i) := by
  obtain ⟨τ, a1, a2⟩ := loopU (fun q i τ => f_X11_turnRound_2 x0 (N4 k) q (N4 i) τ) (k / 2) (fun i τ => (∀ q, q ≠ x0 → τ.1 q = σ.1 q) ∧ τ.2 = σ.2 ∧ ∀ j, j < k → τ.1 x0 j = if j < i ∨ k - 1 - j < i then σ.1 x0 (k - 1 - j) else σ.1 x0 j) (fun τ => (∀ q, q ≠ x0 → τ.1 q = σ.1 q) ∧ τ.2 = σ.2 ∧ ∀ j, j < k → τ.1 x0 j = σ.1 x0 (k - 1 - j)) (by
      intro q τ hP
      refine ⟨τ, ?_, hP.1, hP.2.1, fun j hj => ?_⟩
      · show f_X11_turnRound_2 x0 (N4 k) (q + 1) (N4 (k / 2)) τ = some τ
        rw [f_X11_turnRound_2, show (2 : Int32) = N4 2 from rfl, n4_div (by omega) (by omega), if_pos ((n4_le (by omega) (by omega)).mpr (Nat.le_refl _))]
      · rw [hP.2.2 j hj]
        by_cases e : j < k / 2 ∨ k - 1 - j < k / 2
        · rw [if_pos e]
        · rw [if_neg e, show k - 1 - j = j by omega]) (by
      intro q i τ hi hP
      obtain ⟨p1, p2, p3⟩ := hP
      show ∃ a', f_X11_turnRound_2 x0 (N4 k) (q + 1) (N4 i) τ = _ ∧ _
      rw [f_X11_turnRound_2, show (2 : Int32) = N4 2 from rfl, n4_div (by omega) (by omega), if_neg (fun e => by have := (n4_le (by omega) (by omega)).mp e; omega), gd_t hs, ha, gd_inb (by omega) (by omega), gd_t (by rw [← ha]; exact hs), show (1 : Int32) = N4 1 from rfl, n4_sub (by omega), n4_sub (by omega), gd_inb (by omega) (by omega), gd_t (by rw [← ha]; exact hs), gd_inb (by omega) (by omega), gd_t (by rw [← ha]; exact hs), gd_inb (by omega) (by omega), n4_nat (by omega), n4_nat (by omega), n4_add]
      refine ⟨_, rfl, fun q hq => by rw [mI_p hq, mI_p hq]; exact p1 q hq, p2, fun j hj => ?_⟩
      have e1 := p3 i (by omega)
      have e2 := p3 (k - 1 - i) (by omega)
      rw [if_neg (by omega)] at e1 e2
      by_cases c1 : j = k - 1 - i
      · rw [c1, mI_e, if_pos (by omega), e1, show k - 1 - (k - 1 - i) = i by omega]
      · rw [mI_j c1]
        by_cases c2 : j = i
        · rw [c2, mI_e, if_pos (by omega), e2]
        · rw [mI_j c2, p3 j hj]
          by_cases c3 : j < i ∨ k - 1 - j < i
          · rw [if_pos c3, if_pos (by omega)]
          · rw [if_neg c3, if_neg (by omega)]) 100000 0 σ (by omega) (by omega) ⟨fun _ _ => rfl, rfl, fun j hj => by rw [if_neg (by omega)]⟩
  refine ⟨τ, ?_, a2⟩
  unfold f_X11_turnRound
  have a1' : f_X11_turnRound_2 x0 (N4 k) 100000 0 σ = some τ := a1
  rw [a1', bd_s]
end CST
