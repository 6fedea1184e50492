/-! ===== the reference's changes of many cells: slope, observe, correct, smooth, fill ===== -/
def held8 (a lo hi : Int64) : Int64 := if lo ≤ a then (if a ≤ hi then a else hi) else lo
def rnd8 (a b : Int64) : Int64 := if (2 * a + b) / (2 * b) * 2 * b ≤ 2 * a + b then (2 * a + b) / (2 * b) else (2 * a + b) / (2 * b) - 1
theorem m_held (a lo hi : Int64) (σ : Mem) : f_X12_held a lo hi σ = some (held8 a lo hi) := by
  unfold f_X12_held held8
  split
  · split <;> rfl
  · rfl
theorem m_rounded {a b : Int64} {σ : Mem} (h : nz8 (2 * b) = true) : f_X12_rounded a b σ = some (rnd8 a b) := by
  unfold f_X12_rounded rnd8
  rw [gd_t h]
  split <;> rfl
theorem nz8_n {k : Nat} (h : 0 < k) (h2 : k < 4611686018427387904) : nz8 (2 * N8 k) = true := by
  have : ¬ (2 * N8 k = 0) := fun q => by
    rw [show (2 : Int64) = N8 2 from rfl, n8_mul] at q
    have := (n8_eq (b := 0) (by omega) (by omega)).mp q
    omega
  simp [nz8, this]
theorem m_change {k : Nat} {v : Int64} {σ : Mem} (h : k < 200) : f_X12_change (N4 k) v σ = some (N4 (if (!decide (σ.2 225 k = v)) = true then 1 else 0), setL σ 225 k v) := by
  unfold f_X12_change
  rw [gd_inb h (by omega), n4_nat (by omega)]
  by_cases e : σ.2 225 k = v
  · rw [if_pos e, gd_inb h (by omega), if_neg (by simp [e])]; rfl
  · rw [if_neg e, gd_inb h (by omega), if_pos (by simp [e])]; rfl
/-- the first i places from x as in m', else m -/
def mix (m m' : Nat → Int64) (x i : Nat) : Nat → Int64 := fun j => if x ≤ j ∧ j < x + i then m' j else m j
theorem mix_0 (m m' : Nat → Int64) (x : Nat) : mix m m' x 0 = m := by
  funext j
  exact if_neg (by omega)
theorem mix_at (m m' : Nat → Int64) (x i : Nat) : mix m m' x i (x + i) = m (x + i) := if_neg (by omega)
theorem mix_s (m m' : Nat → Int64) (x i : Nat) : vp_updL (mix m m' x i) (x + i) (m' (x + i)) = mix m m' x (i + 1) := by
  funext j
  unfold vp_updL mix
  by_cases e : j = x + i
  · rw [if_pos e, if_pos (by omega), e]
  · rw [if_neg e]
    by_cases q : x ≤ j ∧ j < x + i
    · rw [if_pos q, if_pos (by omega)]
    · rw [if_neg q, if_neg (by omega)]
theorem mix_n {m m' : Nat → Int64} {x i : Nat} (h : m' (x + i) = m (x + i)) : mix m m' x (i + 1) = mix m m' x i := by
  rw [← mix_s, h]
  funext j
  unfold vp_updL
  by_cases e : j = x + i
  · rw [if_pos e, e, mix_at]
  · rw [if_neg e]
theorem mix_K {m m' : Nat → Int64} {x K : Nat} (h : ∀ j, ¬ (x ≤ j ∧ j < x + K) → m' j = m j) : mix m m' x K = m' := by
  funext j
  unfold mix
  by_cases q : x ≤ j ∧ j < x + K
  · rw [if_pos q]
  · rw [if_neg q, h j q]
theorem mix_lo {m m' : Nat → Int64} {x i j : Nat} (h : j < x ∨ x + i ≤ j) : mix m m' x i j = m j := if_neg (by omega)
def chg (m m' : Nat → Int64) (x K : Nat) : Nat := cnt (fun c => !decide (m (x + c) = m' (x + c))) K
theorem dm_of {m m' : Nat → Int64} {W H n : Nat} (h : Dm m W H n) (h0 : m' 0 = m 0) (h1 : m' 1 = m 1) (h7 : m' 7 = m 7) : Dm m' W H n := ⟨h0.trans h.1, h1.trans h.2.1, h7.trans h.2.2.1, h.2.2.2⟩
section MCHG
variable {σ : Mem} {W H n : Nat} {hs : List (Nat → Int64)} {sc : List Nat} {x1 x2 x3 x4 : Int32}
/-! slope -/
def slpV (W : Nat) (a b c : Int64) (k : Nat) : Int64 := held8 (a + b * N8 (k % W) + c * N8 (k / W)) 1 100000
def mSlp (m : Nat → Int64) (x W K : Nat) (a b c : Int64) : Nat → Int64 := fun j => if x ≤ j ∧ j < x + K then slpV W a b c (j - x) else m j
theorem m_slope_loop {σ0 : Mem} {x : Nat} (h : Dm (σ.2 225) W H n) (hx : 8 ≤ x) (hx2 : x + 64 ≤ 200) (hsel : (x1 = 0 → x = 8) ∧ (x1 ≠ 0 → x = 72)) (hM : MO σ σ0 (σ.2 225) hs sc) :
    ∃ q, f_X12_slope_69 x1 x2 x3 x4 100000 (N4 0) (N4 0) σ0 = some q ∧ q.1 = N4 (chg (σ.2 225) (mSlp (σ.2 225) x W (W * H) x2.toInt64 x3.toInt64 x4.toInt64) x (W * H)) ∧ MO σ q.2 (mSlp (σ.2 225) x W (W * H) x2.toInt64 x3.toInt64 x4.toInt64) hs sc := by
  have hK := h.K
  have hW := h.2.2.2.1
  have hW8 := h.2.2.2.2.1
  generalize hm' : mSlp (σ.2 225) x W (W * H) x2.toInt64 x3.toInt64 x4.toInt64 = m'
  have hval : ∀ i, i < W * H → m' (x + i) = slpV W x2.toInt64 x3.toInt64 x4.toInt64 i := fun i hi => by
    rw [← hm']; unfold mSlp
    rw [if_pos (by omega), Nat.add_sub_cancel_left]
  have hout : ∀ j, ¬ (x ≤ j ∧ j < x + W * H) → m' j = σ.2 225 j := fun j hj => by
    rw [← hm']; exact if_neg hj
  have hd : ∀ i, Dm (mix (σ.2 225) m' x i) W H n := fun i => dm_of h (mix_lo (by omega)) (mix_lo (by omega)) (mix_lo (by omega))
  refine loopU (fun k i (a : Int32 × Mem) => f_X12_slope_69 x1 x2 x3 x4 k a.1 (N4 i) a.2) (W * H) (fun i a => a.1 = N4 (chg (σ.2 225) m' x i) ∧ MO σ a.2 (mix (σ.2 225) m' x i) hs sc) (fun q => q.1 = N4 (chg (σ.2 225) m' x (W * H)) ∧ MO σ q.2 m' hs sc) ?_ ?_ 100000 0 (N4 0, σ0) (by omega) (by omega) ⟨rfl, by rw [mix_0]; exact hM⟩
  · rintro k ⟨a, τ⟩ ⟨p1, p2⟩
    refine ⟨(a, τ), ?_, p1, by rw [mix_K hout] at p2; exact p2⟩
    show f_X12_slope_69 x1 x2 x3 x4 (k + 1) a (N4 (W * H)) τ = some (a, τ)
    rw [f_X12_slope_69, m_cells (p2.dm (hd _)), bd_s, if_pos ((n4_le (by omega) (by omega)).mpr (Nat.le_refl _))]
  · rintro k i ⟨a, τ⟩ hi ⟨p1, p2⟩
    have hdt := p2.dm (hd i)
    have i1 : i % W < 64 := Nat.lt_of_le_of_lt (Nat.mod_le i W) (by omega)
    have i2 : i / W < 64 := Nat.lt_of_le_of_lt (Nat.div_le_self i W) (by omega)
    have hat : τ.2 225 (x + i) = σ.2 225 (x + i) := by rw [p2.1, mix_at]
    have hnew : MO σ (setL τ 225 (x + i) (m' (x + i))) (mix (σ.2 225) m' x (i + 1)) hs sc := by
      have := p2.l (j := x + i) (v := m' (x + i))
      rw [mix_s] at this
      exact this
    have hcn : N4 (chg (σ.2 225) m' x i) + N4 (if (!decide (σ.2 225 (x + i) = m' (x + i))) = true then 1 else 0) = N4 (chg (σ.2 225) m' x (i + 1)) := by
      rw [n4_add]; rfl
    show ∃ a', f_X12_slope_69 x1 x2 x3 x4 (k + 1) a (N4 i) τ = _ ∧ _
    rw [f_X12_slope_69, m_cells hdt, bd_s, if_neg (fun q => by have := (n4_le (by omega) (by omega)).mp q; omega), m_columns hdt, bd_s, gd_nz4 (by omega) (by omega), bd_s, gd_nz4 (by omega) (by omega), n4_mod (by omega) (by omega), n4_div (by omega) (by omega), n4_64 (by omega), n4_64 (by omega), m_held, bd_s, bd_s]
    have hv : held8 (x2.toInt64 + x3.toInt64 * N8 (i % W) + x4.toInt64 * N8 (i / W)) 1 100000 = m' (x + i) := (hval i hi).symm
    rw [hv]
    by_cases e : x1 = 0
    · have ex := hsel.1 e
      rw [if_pos e, show (8 : Int32) = N4 x by rw [ex]; rfl, n4_add, m_change (by omega), bd_s, n4_succ, hat]
      refine ⟨(a + N4 (if (!decide (σ.2 225 (x + i) = m' (x + i))) = true then 1 else 0), setL τ 225 (x + i) (m' (x + i))), rfl, ?_, hnew⟩
      show a + _ = _
      rw [show a = N4 (chg (σ.2 225) m' x i) from p1, hcn]
    · have ex := hsel.2 e
      rw [if_neg e, show (72 : Int32) = N4 x by rw [ex]; rfl, n4_add, m_change (by omega), bd_s, n4_succ, hat]
      refine ⟨(a + N4 (if (!decide (σ.2 225 (x + i) = m' (x + i))) = true then 1 else 0), setL τ 225 (x + i) (m' (x + i))), rfl, ?_, hnew⟩
      show a + _ = _
      rw [show a = N4 (chg (σ.2 225) m' x i) from p1, hcn]
theorem mo_slope1 (h1 : ¬ (rng x2 1 100000 = true ∧ rng x3 (-10000) 10000 = true ∧ rng x4 (-10000) 10000 = true)) : f_X12_slope x1 x2 x3 x4 σ = some (0, setI σ 224 5 1) := by
  unfold f_X12_slope
  rw [inr 1 100000 rfl rfl, bd_s]
  by_cases h : rng x2 1 100000 = true
  · rw [if_neg (b4_t h), inr (-10000) 10000 rfl rfl, bd_s]
    by_cases h' : rng x3 (-10000) 10000 = true
    · rw [if_neg (b4_t h'), inr (-10000) 10000 rfl rfl, bd_s, if_pos (b4_f (fun q => h1 ⟨h, h', q⟩)), mI_e, if_neg (by decide)]
    · rw [if_pos (b4_f h'), mI_e, if_neg (by decide)]
  · rw [if_pos (b4_f h), mI_e, if_neg (by decide)]
theorem mo_slope {x : Nat} (h : Dm (σ.2 225) W H n) (hI : MInv σ hs sc) (hsel : (x1 = 0 → x = 8) ∧ (x1 ≠ 0 → x = 72)) (h1 : rng x2 1 100000 = true) (h2 : rng x3 (-10000) 10000 = true) (h3 : rng x4 (-10000) 10000 = true) : ∃ τ, f_X12_slope x1 x2 x3 x4 σ = some (N4 (chg (σ.2 225) (mSlp (σ.2 225) x W (W * H) x2.toInt64 x3.toInt64 x4.toInt64) x (W * H)), τ) ∧ MO σ τ (mSlp (σ.2 225) x W (W * H) x2.toInt64 x3.toInt64 x4.toInt64) (push hs (σ.2 225)) sc := by
  have hx : x = 8 ∨ x = 72 := by
    by_cases e : x1 = 0
    · exact Or.inl (hsel.1 e)
    · exact Or.inr (hsel.2 e)
  obtain ⟨τ, a1, a2⟩ := m_keep0 hI
  obtain ⟨⟨q1, q2⟩, b1, b2, b3⟩ := m_slope_loop (x2 := x2) (x3 := x3) (x4 := x4) h (by omega) (by omega) hsel a2
  obtain rfl : q1 = _ := b2
  unfold f_X12_slope
  rw [inr 1 100000 rfl rfl, bd_s, if_neg (b4_t h1), inr (-10000) 10000 rfl rfl, bd_s, if_neg (b4_t h2), inr (-10000) 10000 rfl rfl, bd_s, if_neg (b4_t h3), mI_e, if_pos rfl, a1, bd_s, show (0 : Int32) = N4 0 from rfl, b1, bd_s]
  exact ⟨q2, rfl, b3⟩
/-! observe -/
def nxt (t : Int64) : Int64 := 1103515245 * t + 12345 - (1103515245 * t + 12345) / 2147483648 * 2147483648
def tns (seed : Int64) : Nat → Int64
  | 0 => seed
  | k + 1 => nxt (tns seed k)
def noi (t : Int64) (w : Int32) : Int64 := 1000 * (t / 65536 - t / 65536 / (2 * w + 1).toInt64 * (2 * w + 1).toInt64 - w.toInt64)
noncomputable def obsV (m : Nat → Int64) (W H : Nat) (w : Int32) (seed : Int64) (r : Nat) : Int64 := held8 (Z8 (dsl m W H 72 (frc m W r) (toc m W r)) + noi (tns seed (r + 1)) w) 0 1000000000000000
noncomputable def mObs (m : Nat → Int64) (W H k : Nat) (w : Int32) (seed : Int64) : Nat → Int64 := fun j => if 139 ≤ j ∧ j < 139 + 4 * k ∧ (j - 139) % 4 = 0 then obsV m W H w seed ((j - 139) / 4) else m j
theorem mObs_o {m : Nat → Int64} {k : Nat} {w : Int32} {seed : Int64} {j : Nat} (h : j < 139 ∨ (j - 139) % 4 ≠ 0) : mObs m W H k w seed j = m j := if_neg (by omega)
theorem frc_of {m m' : Nat → Int64} {r : Nat} (h : m' (136 + 4 * r) = m (136 + 4 * r)) : frc m' W r = frc m W r := by unfold frc; rw [h]
theorem toc_of {m m' : Nat → Int64} {r : Nat} (h : m' (137 + 4 * r) = m (137 + 4 * r)) : toc m' W r = toc m W r := by unfold toc; rw [h]
theorem ra_of {m m' : Nat → Int64} (h : Ra m H n) (h0 : ∀ r, r < n → m' (136 + 4 * r) = m (136 + 4 * r) ∧ m' (137 + 4 * r) = m (137 + 4 * r)) : Ra m' H n := fun r hr => by
  obtain ⟨a, b, c⟩ := h r hr
  exact ⟨a, b, by rw [(h0 r hr).1, (h0 r hr).2]; exact c⟩
theorem slw_of {m m' : Nat → Int64} {x K : Nat} (h : ∀ c, c < K → m' (x + c) = m (x + c)) : ∀ c, c < K → slw m' x c = slw m x c := fun c hc => by unfold slw; rw [h c hc]
theorem m_takes {σ0 : Mem} {seed : Int32} (hV : Val (σ.2 225) W H n) (hw : nz8 (2 * x1 + 1).toInt64 = true) (hM : MO σ σ0 (σ.2 225) hs sc) : ∃ τ, f_X12_takes x1 seed σ0 = some (N4 n, τ) ∧ MO σ τ (mObs (σ.2 225) W H n x1 seed.toInt64) hs sc := by
  have h := hV.1
  have hn := h.2.2.2.2.2.2.2
  have hK := h.K
  generalize hsd : seed.toInt64 = sd
  have hd : ∀ i, Dm (mObs (σ.2 225) W H i x1 sd) W H n := fun i => dm_of h (mObs_o (by omega)) (mObs_o (by omega)) (mObs_o (by omega))
  have hR : ∀ i, Ra (mObs (σ.2 225) W H i x1 sd) H n := fun i => ra_of hV.2.2.2.1 (fun r hr => ⟨mObs_o (by omega), mObs_o (by omega)⟩)
  have hs72 : ∀ i c, c < W * H → slw (mObs (σ.2 225) W H i x1 sd) 72 c = slw (σ.2 225) 72 c := fun i => slw_of (fun c hc => mObs_o (by omega))
  have key := loopU (fun k i (a : Int64 × Mem) => f_X12_takes_6 x1 k a.1 (N4 i) a.2) n (fun i a => a.1 = tns sd i ∧ MO σ a.2 (mObs (σ.2 225) W H i x1 sd) hs sc) (fun τ => MO σ τ (mObs (σ.2 225) W H n x1 sd) hs sc) ?_ ?_ 100000 0 (sd, σ0) (by omega) (by omega) ⟨rfl, ?_⟩
  · obtain ⟨τ, a1, a2⟩ := key
    have a1' : f_X12_takes_6 x1 100000 sd (N4 0) σ0 = some τ := a1
    unfold f_X12_takes
    rw [hsd, show (0 : Int32) = N4 0 from rfl, a1', bd_s, show (7 : Int32).toNatClampNeg = 7 from rfl, (a2.dm (hd n)).2.2.1, n8_32]
    exact ⟨τ, rfl, a2⟩
  · rintro k ⟨a, τ⟩ ⟨p1, p2⟩
    refine ⟨τ, ?_, p2⟩
    show f_X12_takes_6 x1 (k + 1) a (N4 n) τ = some τ
    rw [f_X12_takes_6, if_pos ((n8_rays (p2.dm (hd n)) (by omega)).mpr (Nat.le_refl n))]
  · rintro k i ⟨a, τ⟩ hi ⟨p1, p2⟩
    have hdt := p2.dm (hd i)
    have hRt : Ra (τ.2 225) H n := by rw [p2.1]; exact hR i
    have hst : Slo (W * H) (slw (τ.2 225) 72) := fun c hc => by rw [p2.1, hs72 i c hc]; exact hV.s72 c hc
    obtain ⟨o1, o2, o3⟩ := hRt.lt hdt hi
    obtain ⟨ρ, r1, r2, r3, r4⟩ := m_spread (x := 72) hdt (by omega) hst o1
    have hdr : Dm (ρ.2 225) W H n := by rw [r2.dm]; exact hdt
    have hRr : Ra (ρ.2 225) H n := by rw [r2.dm]; exact hRt
    have ef : frc (τ.2 225) W i = frc (σ.2 225) W i := by rw [p2.1]; exact frc_of (mObs_o (by omega))
    have et : toc (τ.2 225) W i = toc (σ.2 225) W i := by rw [p2.1]; exact toc_of (mObs_o (by omega))
    have ed : dist W (W * H) (slw (τ.2 225) 72) (frc (σ.2 225) W i) = dsl (σ.2 225) W H 72 (frc (σ.2 225) W i) := by
      rw [p2.1]; exact dist_congr (hs72 i)
    have hlab := r4 _ o2
    have et2 : toc (σ.2 225) W i < W * H := by rw [← et]; exact o2
    rw [ef, ed, et] at hlab
    have p1' : a = tns sd i := p1
    show ∃ a', f_X12_takes_6 x1 (k + 1) a (N4 i) τ = _ ∧ _
    rw [f_X12_takes_6, if_neg (fun q => by have := (n8_rays hdt (by omega)).mp q; omega)]
    unfold f_X12_next
    rw [bd_s, m_first hdt hRt hi, bd_s, show (72 : Int32) = N4 72 from rfl, r1, bd_s, gd_t hw, m_last hdr hRr hi, bd_s, r2.dm, et, gd_inb (by omega) (by omega), n4_nat (by omega), hlab, m_held, bd_s, show (3 : Int32) = N4 3 from rfl, m_put (by omega) (by omega), bd_s, n4_succ, p1']
    refine ⟨(nxt (tns sd i), _), rfl, rfl, ?_⟩
    have hq : MO σ ρ (mObs (σ.2 225) W H i x1 sd) hs sc := p2.q r2.w.q
    have hv := hq.l (j := 136 + 4 * i + 3) (v := obsV (σ.2 225) W H x1 sd i)
    have hu : vp_updL (mObs (σ.2 225) W H i x1 sd) (136 + 4 * i + 3) (obsV (σ.2 225) W H x1 sd i) = mObs (σ.2 225) W H (i + 1) x1 sd := by
      funext j
      unfold vp_updL mObs
      by_cases e : j = 136 + 4 * i + 3
      · rw [if_pos e, if_pos (by omega), show (j - 139) / 4 = i by omega]
      · rw [if_neg e]
        by_cases q : 139 ≤ j ∧ j < 139 + 4 * i ∧ (j - 139) % 4 = 0
        · rw [if_pos q, if_pos (by omega)]
        · rw [if_neg q, if_neg (by omega)]
    rw [hu] at hv
    exact hv
  · have : mObs (σ.2 225) W H 0 x1 sd = σ.2 225 := by
      funext j
      exact if_neg (by omega)
    show MO σ σ0 (mObs (σ.2 225) W H 0 x1 sd) hs sc
    rw [this]; exact hM
theorem m_isNoise : f_X12_isNoise x1 x2 σ = some (if rng x1 0 1000 = true ∧ rng x2 0 999999 = true then 1 else 0) := by
  unfold f_X12_isNoise
  rw [inr 0 1000 rfl rfl, bd_s]
  by_cases h : rng x1 0 1000 = true
  · rw [if_neg (b4_t h), inr 0 999999 rfl rfl, bd_s]
    by_cases h' : rng x2 0 999999 = true
    · have hh : rng x1 0 1000 = true ∧ rng x2 0 999999 = true := ⟨h, h'⟩
      rw [if_neg (b4_t h'), if_pos hh]
    · rw [if_pos (b4_f h'), if_neg (fun q => h' q.2)]
  · rw [if_pos (b4_f h), if_neg (fun q => h q.1)]
theorem nz_w {w : Nat} (h : w ≤ 1000) : nz8 (2 * N4 w + 1).toInt64 = true ∧ (2 * N4 w + 1).toInt64 = N8 (2 * w + 1) := by
  have e : (2 * N4 w + 1).toInt64 = N8 (2 * w + 1) := by
    rw [show (2 : Int32) = N4 2 from rfl, n4_mul, n4_succ, n4_64 (by omega)]
  refine ⟨?_, e⟩
  rw [e]
  have : ¬ (N8 (2 * w + 1) = 0) := fun q => by
    have := (n8_eq (b := 0) (by omega) (by omega)).mp q
    omega
  simp [nz8, this]
theorem mo_observe1 (h1 : ¬ (rng x1 0 1000 = true ∧ rng x2 0 999999 = true)) : f_X12_observe x1 x2 σ = some (0, setI σ 224 5 1) := by
  unfold f_X12_observe
  rw [m_isNoise, bd_s, if_pos (b4_f h1), mI_e, if_neg (by decide)]
theorem mo_observe (hV : Val (σ.2 225) W H n) (hI : MInv σ hs sc) (h1 : rng x1 0 1000 = true) (h2 : rng x2 0 999999 = true) : ∃ τ, f_X12_observe x1 x2 σ = some (N4 n, τ) ∧ MO σ τ (mObs (σ.2 225) W H n x1 x2.toInt64) (push hs (σ.2 225)) sc := by
  have hh : rng x1 0 1000 = true ∧ rng x2 0 999999 = true := ⟨h1, h2⟩
  obtain ⟨w, rfl, w2, -⟩ := rng_n4 (k := 1001) h1
  obtain ⟨τ, a1, a2⟩ := m_keep0 hI
  obtain ⟨ρ, b1, b2⟩ := m_takes (seed := x2) hV (nz_w (w := w) (by omega)).1 a2
  unfold f_X12_observe
  rw [m_isNoise, bd_s, if_neg (b4_t hh), mI_e, if_pos rfl, a1, bd_s, b1, bd_s]
  exact ⟨ρ, rfl, b2⟩
end MCHG
