/-! ===== the class: slope, rounding, sums over neighbours ===== -/
theorem sum8_setD {f : Nat → Int64} {d : Nat → Bool} {b : Nat} (hd : d b = false) : ∀ K, b < K → sum8 (fun c => if setD d b c = true then f c else 0) K = sum8 (fun c => if d c = true then f c else 0) K + f b := by
  have low : ∀ K, K ≤ b → sum8 (fun c => if setD d b c = true then f c else 0) K = sum8 (fun c => if d c = true then f c else 0) K := fun K hK => sum8_congr fun i hi => by
    rw [show setD d b i = d i from if_neg (by omega)]
  intro K
  induction K with
  | zero => intro h; omega
  | succ K ih =>
    intro h
    simp only [sum8]
    by_cases e : K = b
    · rw [e, low b (Nat.le_refl b), show setD d b b = true from if_pos rfl, hd, if_pos rfl, if_neg (by decide), Int64.add_zero]
    · rw [ih (by omega), show setD d b K = d K from if_neg e, Int64.add_assoc, Int64.add_assoc, Int64.add_comm (f b)]
theorem sumN_setD {f : Nat → Nat} {d : Nat → Bool} {b : Nat} (hd : d b = false) : ∀ K, b < K → sumN (fun c => if setD d b c = true then f c else 0) K = sumN (fun c => if d c = true then f c else 0) K + f b := by
  have low : ∀ K, K ≤ b → sumN (fun c => if setD d b c = true then f c else 0) K = sumN (fun c => if d c = true then f c else 0) K := fun K => by
    induction K with
    | zero => intro _; rfl
    | succ K ih =>
      intro hK
      simp only [sumN]
      rw [ih (by omega), show setD d b K = d K from if_neg (by omega)]
  intro K
  induction K with
  | zero => intro h; omega
  | succ K ih =>
    intro h
    simp only [sumN]
    by_cases e : K = b
    · rw [e, low b (Nat.le_refl b), show setD d b b = true from if_pos rfl, hd, if_pos rfl, if_neg (by decide)]
      omega
    · rw [ih (by omega), show setD d b K = d K from if_neg e]
      omega
theorem cnt_setD2 {p : Nat → Bool} {d : Nat → Bool} {b : Nat} (hd : d b = false) : ∀ K, b < K → cnt (fun c => setD d b c && p c) K = cnt (fun c => d c && p c) K + if p b = true then 1 else 0 := by
  have low : ∀ K, K ≤ b → cnt (fun c => setD d b c && p c) K = cnt (fun c => d c && p c) K := fun K hK => cnt_congr fun i hi => by
    rw [show setD d b i = d i from if_neg (by omega)]
  intro K
  induction K with
  | zero => intro h; omega
  | succ K ih =>
    intro h
    simp only [cnt]
    by_cases e : K = b
    · have hb : setD d b b = true := if_pos rfl
      rw [e, low b (Nat.le_refl b)]
      simp only [hb, hd, Bool.true_and, Bool.false_and]
      simp
    · have hb : setD d b K = d K := if_neg e
      rw [ih (by omega)]
      simp only [hb]
      omega
section CCHG2
variable {σ : Mem} {W H n : Nat} {m m' : Nat → Int64}
theorem c_incl18 {y : Nat} {x1 x2 x3 x4 : Int32} (h : CS σ m W H n) (hy : y < H) (h2 : 1 ≤ x2.toInt ∧ x2.toInt ≤ 100000) (h3 : -10000 ≤ x3.toInt ∧ x3.toInt ≤ 10000) (h4 : -10000 ≤ x4.toInt ∧ x4.toInt ≤ 10000) {σ0 : Mem} (hI : ∀ q, q ≠ 184 → σ0.1 q = σ.1 q) (hL : σ0.2 = σ.2) (hp : ∀ k, k < W * y → (σ0.1 184 k).toInt64 = slpV W x2.toInt64 x3.toInt64 x4.toInt64 k) :
    ∃ τ, f_X1_incline_18 x1 x2 x3 x4 (N4 y) 100000 (N4 0) σ0 = some τ ∧ (∀ q, q ≠ 184 → τ.1 q = σ.1 q) ∧ τ.2 = σ.2 ∧ ∀ k, k < W * (y + 1) → (τ.1 184 k).toInt64 = slpV W x2.toInt64 x3.toInt64 x4.toInt64 k := by
  have hK := h.1.1.K
  have hW := h.1.1.2.2.2.1
  have hW8 := h.1.1.2.2.2.2.1
  have hH8 := h.1.1.2.2.2.2.2.2.1
  have hyW : W * (y + 1) ≤ W * H := Nat.mul_le_mul_left W hy
  rw [Nat.mul_add, Nat.mul_one] at hyW
  obtain ⟨w0, -, -⟩ := cs_W h
  obtain ⟨τ, a1, a2, a3, a4⟩ := loopU (fun k i τ => f_X1_incline_18 x1 x2 x3 x4 (N4 y) k (N4 i) τ) W (fun i τ => (∀ q, q ≠ 184 → τ.1 q = σ.1 q) ∧ τ.2 = σ.2 ∧ ∀ k, k < W * y + i → (τ.1 184 k).toInt64 = slpV W x2.toInt64 x3.toInt64 x4.toInt64 k) (fun τ => (∀ q, q ≠ 184 → τ.1 q = σ.1 q) ∧ τ.2 = σ.2 ∧ ∀ k, k < W * y + W → (τ.1 184 k).toInt64 = slpV W x2.toInt64 x3.toInt64 x4.toInt64 k) (by
      intro k τ hP
      refine ⟨τ, ?_, hP⟩
      show f_X1_incline_18 x1 x2 x3 x4 (N4 y) (k + 1) (N4 W) τ = some τ
      rw [f_X1_incline_18, hP.1 1 (by omega), w0, if_pos ((n4_le (by omega) (by omega)).mpr (Nat.le_refl _))]) (by
      intro k i τ hi hP
      obtain ⟨p1, p2, p3⟩ := hP
      obtain ⟨r, r1, r2⟩ := c_clamp (σ := τ) ((x2 + x3 * N4 i + x4 * N4 y).toInt64) 1 100000
      have hmod : (W * y + i) % W = i := by rw [Nat.mul_add_mod, Nat.mod_eq_of_lt hi]
      have hdiv : (W * y + i) / W = y := by rw [Nat.mul_add_div (by omega), Nat.div_eq_of_lt hi, Nat.add_zero]
      show ∃ a', f_X1_incline_18 x1 x2 x3 x4 (N4 y) (k + 1) (N4 i) τ = _ ∧ _
      rw [f_X1_incline_18, p1 1 (by omega), w0, if_neg (fun q => by have := (n4_le (by omega) (by omega)).mp q; omega), r1, bd_s, n4_mul, n4_add, gd_inb (by omega) (by omega), n4_nat (by omega), n4_succ]
      refine ⟨_, rfl, fun q hq => by rw [mI_p hq]; exact p1 q hq, p2, fun c hc => ?_⟩
      by_cases e : c = W * y + i
      · rw [e, mI_e, r2, lin64 h2 h3 h4 (by omega) (by omega)]
        unfold slpV
        rw [hmod, hdiv]
        rfl
      · rw [mI_j e]; exact p3 c (by omega)) 100000 0 σ0 (by omega) (by omega) ⟨hI, hL, fun k hk => hp k (by omega)⟩
  exact ⟨τ, a1, a2, a3, fun k hk => a4 k (by rw [Nat.mul_add, Nat.mul_one] at hk; exact hk)⟩
theorem c_incline {x : Nat} {x1 x2 x3 x4 : Int32} (h : CS σ m W H n) (hsel : (x1 = 0 → x = 8) ∧ (x1 ≠ 0 → x = 72)) (h2 : rng x2 1 100000 = true) (h3 : rng x3 (-10000) 10000 = true) (h4 : rng x4 (-10000) 10000 = true) :
    ∃ τ, f_X1_incline x1 x2 x3 x4 σ = some (N4 (chg m (mSlp m x W (W * H) x2.toInt64 x3.toInt64 x4.toInt64) x (W * H)), τ) ∧ CS τ (mSlp m x W (W * H) x2.toInt64 x3.toInt64 x4.toInt64) W H n ∧ Fk σ τ := by
  have hK := h.1.1.K
  have hH8 := h.1.1.2.2.2.2.2.2.1
  unfold rng at h2 h3 h4
  rw [decide_eq_true_eq] at h2 h3 h4
  obtain ⟨-, w1, -⟩ := cs_W h
  have hx : x = 8 ∨ x = 72 := by
    by_cases e : x1 = 0
    · exact Or.inl (hsel.1 e)
    · exact Or.inr (hsel.2 e)
  obtain ⟨τ, a1, a2, a3, a4⟩ := loopU (fun k y τ => f_X1_incline_3 x1 x2 x3 x4 k (N4 y) τ) H (fun y τ => (∀ q, q ≠ 184 → τ.1 q = σ.1 q) ∧ τ.2 = σ.2 ∧ ∀ k, k < W * y → (τ.1 184 k).toInt64 = slpV W x2.toInt64 x3.toInt64 x4.toInt64 k) (fun τ => (∀ q, q ≠ 184 → τ.1 q = σ.1 q) ∧ τ.2 = σ.2 ∧ ∀ k, k < W * H → (τ.1 184 k).toInt64 = slpV W x2.toInt64 x3.toInt64 x4.toInt64 k) (by
      intro k τ hP
      refine ⟨τ, ?_, hP⟩
      show f_X1_incline_3 x1 x2 x3 x4 (k + 1) (N4 H) τ = some τ
      rw [f_X1_incline_3, hP.1 1 (by omega), w1, if_pos ((n4_le (by omega) (by omega)).mpr (Nat.le_refl _))]) (by
      intro k y τ hy hP
      obtain ⟨ρ, r1, r2⟩ := c_incl18 (x1 := x1) h hy h2 h3 h4 hP.1 hP.2.1 hP.2.2
      show ∃ a', f_X1_incline_3 x1 x2 x3 x4 (k + 1) (N4 y) τ = _ ∧ _
      have r1' : f_X1_incline_18 x1 x2 x3 x4 (N4 y) 100000 0 τ = some ρ := r1
      rw [f_X1_incline_3, hP.1 1 (by omega), w1, if_neg (fun q => by have := (n4_le (by omega) (by omega)).mp q; omega), r1', bd_s, n4_succ]
      exact ⟨ρ, rfl, r2⟩) 100000 0 σ (by omega) (by omega) ⟨fun _ _ => rfl, rfl, fun k hk => by omega⟩
  have hF : Fk σ τ := ⟨fun q j hq => by rw [a2 q (fun e => hq (by unfold ckI; omega))], fun q j _ => by rw [a3]⟩
  have hCS : CS τ m W H n := ⟨h.1, h.2.1.of (fun q _ _ => a2 q (by omega)) (fun q _ _ => by rw [a3]), h.2.2.1.of (fun q _ _ => a2 q (by omega)) hK.2, cch_of h.2.2.2 (fun q _ _ => a2 q (by omega)) (by rw [a3]) h.1.1.2.2.2.2.2.2.2⟩
  have a1' : f_X1_incline_3 x1 x2 x3 x4 100000 0 σ = some τ := a1
  have hV' : Val (mFx m (slpV W x2.toInt64 x3.toInt64 x4.toInt64) x (W * H)) W H n := val_slp (a := x2.toInt64) (b := x3.toInt64) (c := x4.toInt64) h.1 hx
  unfold f_X1_incline
  rw [a1', bd_s]
  by_cases e : x1 = 0
  · have ex := hsel.1 e
    obtain ⟨ρ, b1, b2, b3⟩ := c_takeOver (x1 := 2) (Or.inl ⟨ex, rfl⟩) hCS (fun c hc => (a4 c hc).symm) hV'
    rw [if_pos e, b1, bd_s]
    exact ⟨ρ, rfl, b2, hF.trans b3⟩
  · have ex := hsel.2 e
    obtain ⟨ρ, b1, b2, b3⟩ := c_takeOver (x1 := 3) (Or.inr ⟨ex, rfl⟩) hCS (fun c hc => (a4 c hc).symm) hV'
    rw [if_neg e, b1, bd_s]
    exact ⟨ρ, rfl, b2, hF.trans b3⟩
/-! rounding -/
theorem xor_sign {x y : Int64} (hy : 0 ≤ y) : (0 ≤ x ^^^ y) ↔ 0 ≤ x := by
  have h0 : (0 : Int64).toInt = 0 := by decide
  have key : ∀ z : Int64, (0 ≤ z) ↔ z.toBitVec.msb = false := fun z => by
    rw [Int64.le_iff_toInt_le, h0, BitVec.msb_eq_toInt]
    simp
  rw [key] at hy
  rw [key, key, Int64.toBitVec_xor, BitVec.msb_xor, hy]
  simp
theorem c_rq {a : Int64} {B : Nat} (hB : 0 < B) (hB2 : B < 2305843009213693952) : f_X11_roundedQuotient a (N8 B) σ = some (rnd8 a (N8 B)) := by
  have h0 : (0 : Int64).toInt = 0 := by decide
  unfold f_X11_roundedQuotient rnd8
  rw [if_neg (show ¬ N8 B ≤ 0 from fun e => by have := (n8_le (b := 0) (by omega) (by omega)).mp e; omega)]
  unfold f_J9_floorDiv_f86c9
  rw [gd_t (nz8_n hB (by omega)), Int64.mul_assoc ((2 * a + N8 B) / (2 * N8 B)) 2 (N8 B)]
  have ey : 2 * N8 B = N8 (2 * B) := by rw [show (2 : Int64) = N8 2 from rfl, n8_mul]
  generalize 2 * a + N8 B = x
  rw [ey]
  have hy : (N8 (2 * B)).toInt = ((2 * B : Nat) : Int) := n8_int (by omega)
  have hy0 : (0 : Int64) ≤ N8 (2 * B) := by rw [Int64.le_iff_toInt_le, h0, hy]; omega
  have hne : N8 (2 * B) ≠ -1 := fun e => by
    rw [e] at hy
    have : (-1 : Int64).toInt = -1 := by decide
    omega
  have hd : (x / N8 (2 * B)).toInt = x.toInt.tdiv ((2 * B : Nat) : Int) := by rw [Int64.toInt_div_of_ne_right _ _ hne, hy]
  have hx1 := x.le_toInt
  have hx2 := x.toInt_lt
  have htm := Int.mul_tdiv_add_tmod x.toInt ((2 * B : Nat) : Int)
  have hBp : (0 : Int) < ((2 * B : Nat) : Int) := by omega
  rw [Int.mul_comm] at htm
  have hmul : (x.toInt.tdiv ((2 * B : Nat) : Int) * ((2 * B : Nat) : Int) ≤ x.toInt ∧ 0 ≤ x.toInt.tdiv ((2 * B : Nat) : Int) * ((2 * B : Nat) : Int) ∧ 0 ≤ x.toInt) ∨ (x.toInt ≤ x.toInt.tdiv ((2 * B : Nat) : Int) * ((2 * B : Nat) : Int) ∧ x.toInt.tdiv ((2 * B : Nat) : Int) * ((2 * B : Nat) : Int) ≤ 0 ∧ x.toInt < 0) := by
    rcases Int.lt_or_le x.toInt 0 with c | c
    · refine Or.inr ⟨?_, ?_, c⟩
      · have h1 : (-x.toInt).tmod ((2 * B : Nat) : Int) = -(x.toInt.tmod ((2 * B : Nat) : Int)) := Int.neg_tmod _ _
        have h2 : 0 ≤ (-x.toInt).tmod ((2 * B : Nat) : Int) := Int.tmod_nonneg _ (by omega)
        omega
      · have h1 : (-x.toInt).tmod ((2 * B : Nat) : Int) = -(x.toInt.tmod ((2 * B : Nat) : Int)) := Int.neg_tmod _ _
        have h2 : (-x.toInt).tmod ((2 * B : Nat) : Int) ≤ -x.toInt := by
          have := Int.mul_tdiv_add_tmod (-x.toInt) ((2 * B : Nat) : Int)
          have h3 : 0 ≤ (-x.toInt).tdiv ((2 * B : Nat) : Int) := Int.tdiv_nonneg (by omega) (by omega)
          have h4 : 0 ≤ ((2 * B : Nat) : Int) * (-x.toInt).tdiv ((2 * B : Nat) : Int) := Int.mul_nonneg (by omega) h3
          omega
        omega
    · refine Or.inl ⟨?_, ?_, c⟩
      · have h2 : 0 ≤ x.toInt.tmod ((2 * B : Nat) : Int) := Int.tmod_nonneg _ c
        omega
      · exact Int.mul_nonneg (Int.tdiv_nonneg c (by omega)) (by omega)
  have hp : (x / N8 (2 * B) * N8 (2 * B)).toInt = x.toInt.tdiv ((2 * B : Nat) : Int) * ((2 * B : Nat) : Int) := by
    rw [Int64.toInt_mul, hd, hy]
    exact Int.bmod_eq_of_le (by omega) (by omega)
  by_cases c : (0 : Int64) ≤ x
  · have hc : 0 ≤ x.toInt := by rw [Int64.le_iff_toInt_le, h0] at c; exact c
    rw [if_pos ((xor_sign hy0).mpr c), if_pos (Int64.le_iff_toInt_le.mpr (by rw [hp]; omega))]
    rfl
  · have hc : x.toInt < 0 := by rw [Int64.le_iff_toInt_le, h0] at c; omega
    rw [if_neg (fun e => c ((xor_sign hy0).mp e))]
    by_cases d : x / N8 (2 * B) * N8 (2 * B) = x
    · rw [if_pos d, if_pos (by rw [d]; exact Int64.le_refl _)]
      rfl
    · rw [if_neg d, if_neg (fun e => d (by
        rw [Int64.le_iff_toInt_le, hp] at e
        apply Int64.toInt.inj
        rw [hp]; omega))]
      rfl
end CCHG2
