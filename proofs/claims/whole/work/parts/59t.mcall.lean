/-! ===== what holds of a row of 200; the reference's simple calls ===== -/
def Bnd (m : Nat → Int64) : Prop := ∃ lo hi re od s : Nat, m 2 = N8 lo ∧ m 3 = N8 hi ∧ 1 ≤ lo ∧ lo ≤ hi ∧ hi ≤ 100000 ∧ m 4 = N8 re ∧ 1 ≤ re ∧ re ≤ 2000 ∧ m 5 = N8 od ∧ od ≤ 3 ∧ m 6 = N8 s ∧ s < 2147483648
def Usd (m : Nat → Int64) : Prop := ∀ r, r < 16 → m (138 + 4 * r) = N8 0 ∨ m (138 + 4 * r) = N8 1
def Tim (m : Nat → Int64) : Prop := ∀ r, r < 16 → ∃ z : Int, m (139 + 4 * r) = Z8 z ∧ -1 ≤ z ∧ z ≤ 100000000000
def Val (m : Nat → Int64) (W H n : Nat) : Prop := Dm m W H n ∧ Slo 64 (slw m 8) ∧ Slo 64 (slw m 72) ∧ Ra m H n ∧ Bnd m ∧ Usd m ∧ Tim m
theorem Slo.mono {K K' : Nat} {s : Nat → Int} (h : Slo K' s) (hk : K ≤ K') : Slo K s := fun c hc => h c (by omega)
theorem Val.s8 {m : Nat → Int64} {W H n : Nat} (h : Val m W H n) : Slo (W * H) (slw m 8) := h.2.1.mono h.1.K.2
theorem Val.s72 {m : Nat → Int64} {W H n : Nat} (h : Val m W H n) : Slo (W * H) (slw m 72) := h.2.2.1.mono h.1.K.2
/-- a call of the reference came to m', hs', sc' without a throw -/
def MO (σ τ : Mem) (m' : Nat → Int64) (hs' : List (Nat → Int64)) (sc' : List Nat) : Prop := τ.2 225 = m' ∧ MInv τ hs' sc' ∧ Mfr σ τ ∧ τ.1 224 5 = 0
theorem b4_t {c : Prop} [Decidable c] (h : c) : ¬ ((if c then (1 : Int32) else 0) = 0) := fun q => b4_z.mp q h
theorem b4_f {c : Prop} [Decidable c] (h : ¬ c) : ((if c then (1 : Int32) else 0) = 0) := b4_z.mpr h
theorem bf {b : Bool} (h : b = false) : ¬ b = true := by rw [h]; decide
theorem m_keep0 {σ : Mem} {hs : List (Nat → Int64)} {sc : List Nat} (h : MInv σ hs sc) : ∃ τ, f_X12_keep (setI σ 224 5 0) = some τ ∧ MO σ τ (σ.2 225) (push hs (σ.2 225)) sc := by
  obtain ⟨τ, a1, a2, a3⟩ := m_keep (h.code (v := 0))
  refine ⟨τ, a1, a2.row (fun j => by unfold mkL; omega), a3, ?_, ?_⟩
  · exact (Mfr.rfl.i (by omega)).trans (Fz.mfr a2 (fun q j => by unfold mkI; omega) (fun q j => by unfold mkL; omega))
  · rw [a2.1 224 5 (by unfold mkI; omega), mI_e]
theorem MO.l {σ τ : Mem} {m' : Nat → Int64} {hs' : List (Nat → Int64)} {sc' : List Nat} {j : Nat} {v : Int64} (h : MO σ τ m' hs' sc') : MO σ (setL τ 225 j v) (vp_updL m' j v) hs' sc' := by
  obtain ⟨h1, h2, h3, h4⟩ := h
  refine ⟨?_, h2.m, h3.l (by omega), h4⟩
  rw [← h1]
  simp [setL, repL]
theorem MO.c {σ τ : Mem} {m' : Nat → Int64} {hs' : List (Nat → Int64)} {sc' : List Nat} (h : MO σ τ m' hs' sc') : MO σ (setI τ 224 5 0) m' hs' sc' :=
  ⟨h.1, h.2.1.code, h.2.2.1.i (by omega), mI_e⟩
theorem MO.q {σ τ ρ : Mem} {m' : Nat → Int64} {hs' : List (Nat → Int64)} {sc' : List Nat} (h : MO σ τ m' hs' sc') (f : Fq τ ρ) : MO σ ρ m' hs' sc' :=
  ⟨f.m.trans h.1, h.2.1.q f, h.2.2.1.trans f.mfr, (f.1 224 5 (by unfold mqI; omega)).trans h.2.2.2⟩
theorem MO.q0 {σ τ : Mem} {hs : List (Nat → Int64)} {sc : List Nat} (h : MInv σ hs sc) (f : Fq (setI σ 224 5 0) τ) : MO σ τ (σ.2 225) hs sc :=
  ⟨f.m, h.code.q f, (Mfr.rfl.i (by omega)).trans f.mfr, (f.1 224 5 (by unfold mqI; omega)).trans mI_e⟩
section MCALL
variable {σ : Mem} {W H n : Nat} {hs : List (Nat → Int64)} {sc : List Nat} {x1 x2 x3 x4 : Int32}
/-! setCell, setTrue -/
theorem m_lay {x c : Nat} (h : Dm (σ.2 225) W H n) (hx : x + 64 ≤ 200) (hc : c < W * H) (hv : rng x3 1 100000 = true) : f_X12_lay (N4 x) (N4 c) x3 σ = some ((σ.2 225 (x + c)).toInt32, setL (setI σ 224 5 0) 225 (x + c) x3.toInt64) := by
  have hK := h.K
  have hr : rng (N4 c) 0 (((W * H : Nat) : Int) - 1) = true := by
    unfold rng
    rw [n4_int (by omega), decide_eq_true_eq]
    omega
  unfold f_X12_lay
  rw [m_isCell h, bd_s, if_neg (b4_t hr), m_isSlow, bd_s, if_neg (b4_t hv), mI_e, if_pos rfl, n4_add, gd_inb (by omega) (by omega), gd_inb (by omega) (by omega), n4_nat (by omega), mI_L]
theorem m_lay1 {x : Nat} (h : Dm (σ.2 225) W H n) (h1 : rng x2 0 (((W * H : Nat) : Int) - 1) = false) : f_X12_lay (N4 x) x2 x3 σ = some (0, setI σ 224 5 1) := by
  unfold f_X12_lay
  rw [m_isCell h, bd_s, if_pos (b4_f (bf h1)), mI_e, if_neg (by decide)]
theorem m_lay2 {x : Nat} (h : Dm (σ.2 225) W H n) (h1 : rng x2 0 (((W * H : Nat) : Int) - 1) = true) (h2 : rng x3 1 100000 = false) : f_X12_lay (N4 x) x2 x3 σ = some (0, setI σ 224 5 2) := by
  unfold f_X12_lay
  rw [m_isCell h, bd_s, if_neg (b4_t h1), m_isSlow, bd_s, if_pos (b4_f (bf h2)), mI_e, if_neg (by decide)]
theorem mo_setCell1 (h : Dm (σ.2 225) W H n) (h1 : rng x1 0 (((W * H : Nat) : Int) - 1) = false) : f_X12_setCell x1 x2 σ = some (0, setI σ 224 5 1) := by
  unfold f_X12_setCell
  rw [m_isCell h, bd_s, if_pos (b4_f (bf h1)), mI_e, if_neg (by decide)]
theorem mo_setCell2 (h : Dm (σ.2 225) W H n) (h1 : rng x1 0 (((W * H : Nat) : Int) - 1) = true) (h2 : rng x2 1 100000 = false) : f_X12_setCell x1 x2 σ = some (0, setI σ 224 5 2) := by
  unfold f_X12_setCell
  rw [m_isCell h, bd_s, if_neg (b4_t h1), m_isSlow, bd_s, if_pos (b4_f (bf h2)), mI_e, if_neg (by decide)]
theorem mo_setCell {c : Nat} (h : Dm (σ.2 225) W H n) (hI : MInv σ hs sc) (hc : c < W * H) (h1 : x1 = N4 c) (h2 : rng x2 1 100000 = true) : ∃ τ, f_X12_setCell x1 x2 σ = some ((σ.2 225 (8 + c)).toInt32, τ) ∧ MO σ τ (vp_updL (σ.2 225) (8 + c) x2.toInt64) (push hs (σ.2 225)) sc := by
  have hK := h.K
  have hr : rng (N4 c) 0 (((W * H : Nat) : Int) - 1) = true := by
    unfold rng
    rw [n4_int (by omega), decide_eq_true_eq]
    omega
  obtain ⟨τ, a1, a2⟩ := m_keep0 hI
  have hd : Dm (τ.2 225) W H n := by rw [a2.1]; exact h
  rw [h1]
  unfold f_X12_setCell
  rw [m_isCell h, bd_s, if_neg (b4_t hr), m_isSlow, bd_s, if_neg (b4_t h2), mI_e, if_pos rfl, a1, bd_s, show (8 : Int32) = N4 8 from rfl, m_lay hd (by omega) hc h2, bd_s, a2.1]
  exact ⟨_, rfl, a2.c.l⟩
theorem mo_setTrue1 (h : Dm (σ.2 225) W H n) (h1 : rng x1 0 (((W * H : Nat) : Int) - 1) = false) : f_X12_setTrue x1 x2 σ = some (0, setI σ 224 5 1) := by
  unfold f_X12_setTrue
  rw [m_isCell h, bd_s, if_pos (b4_f (bf h1)), mI_e, if_neg (by decide)]
theorem mo_setTrue2 (h : Dm (σ.2 225) W H n) (h1 : rng x1 0 (((W * H : Nat) : Int) - 1) = true) (h2 : rng x2 1 100000 = false) : f_X12_setTrue x1 x2 σ = some (0, setI σ 224 5 2) := by
  unfold f_X12_setTrue
  rw [m_isCell h, bd_s, if_neg (b4_t h1), m_isSlow, bd_s, if_pos (b4_f (bf h2)), mI_e, if_neg (by decide)]
theorem mo_setTrue {c : Nat} (h : Dm (σ.2 225) W H n) (hI : MInv σ hs sc) (hc : c < W * H) (h1 : x1 = N4 c) (h2 : rng x2 1 100000 = true) : ∃ τ, f_X12_setTrue x1 x2 σ = some ((σ.2 225 (72 + c)).toInt32, τ) ∧ MO σ τ (vp_updL (σ.2 225) (72 + c) x2.toInt64) (push hs (σ.2 225)) sc := by
  have hK := h.K
  have hr : rng (N4 c) 0 (((W * H : Nat) : Int) - 1) = true := by
    unfold rng
    rw [n4_int (by omega), decide_eq_true_eq]
    omega
  obtain ⟨τ, a1, a2⟩ := m_keep0 hI
  have hd : Dm (τ.2 225) W H n := by rw [a2.1]; exact h
  rw [h1]
  unfold f_X12_setTrue
  rw [m_isCell h, bd_s, if_neg (b4_t hr), m_isSlow, bd_s, if_neg (b4_t h2), mI_e, if_pos rfl, a1, bd_s, show (72 : Int32) = N4 72 from rfl, m_lay hd (by omega) hc h2, bd_s, a2.1]
  exact ⟨_, rfl, a2.c.l⟩
/-! begin -/
def mBeg (m : Nat → Int64) (c r : Int64) : Nat → Int64 := fun j => if 8 ≤ j ∧ j < 136 then 1000 else vp_updL (vp_updL (vp_updL m 0 c) 1 r) 7 0 j
theorem m_beginAnew (x1 x2 : Int32) (σ : Mem) : ∃ τ, f_X12_beginAnew x1 x2 σ = some τ ∧ τ.1 = σ.1 ∧ (∀ q, q ≠ 225 → τ.2 q = σ.2 q) ∧ τ.2 225 = mBeg (σ.2 225) x1.toInt64 x2.toInt64 := by
  obtain ⟨τ, a1, a2, a3, a4⟩ := loopU (fun k i τ => f_X12_beginAnew_27 k (N4 (8 + i)) τ) 128 (fun i τ => τ.1 = σ.1 ∧ (∀ q, q ≠ 225 → τ.2 q = σ.2 q) ∧ τ.2 225 = fun j => if 8 ≤ j ∧ j < 8 + i then 1000 else vp_updL (vp_updL (vp_updL (σ.2 225) 0 x1.toInt64) 1 x2.toInt64) 7 0 j) (fun τ => τ.1 = σ.1 ∧ (∀ q, q ≠ 225 → τ.2 q = σ.2 q) ∧ τ.2 225 = mBeg (σ.2 225) x1.toInt64 x2.toInt64) (by
      intro k τ hP
      refine ⟨τ, ?_, hP⟩
      show f_X12_beginAnew_27 (k + 1) (N4 136) τ = some τ
      rw [f_X12_beginAnew_27, if_pos (show (136 : Int32) ≤ N4 136 from (n4_le (a := 136) (by omega) (by omega)).mpr (Nat.le_refl _))]) (by
      intro k i τ hi hP
      obtain ⟨p1, p2, p3⟩ := hP
      show ∃ a', f_X12_beginAnew_27 (k + 1) (N4 (8 + i)) τ = _ ∧ _
      rw [f_X12_beginAnew_27, if_neg (fun q => by have := (n4_le (a := 136) (by omega) (by omega)).mp q; omega), gd_inb (by omega) (by omega), n4_nat (by omega), n4_succ]
      refine ⟨_, rfl, p1, fun q hq => (mL_p hq).trans (p2 q hq), ?_⟩
      funext j
      by_cases e : j = 8 + i
      · rw [e, mL_e, if_pos (by omega)]
      · rw [mL_j e, p3]
        show (if 8 ≤ j ∧ j < 8 + i then (1000 : Int64) else _) = _
        by_cases q : 8 ≤ j ∧ j < 8 + i
        · rw [if_pos q, if_pos (by omega)]
        · rw [if_neg q, if_neg (by omega)]) 100000 0 (setL (setL (setL σ 225 0 x1.toInt64) 225 1 x2.toInt64) 225 7 0) (by omega) (by omega) ⟨rfl, fun q hq => by rw [mL_p hq, mL_p hq, mL_p hq], by
      funext j
      rw [if_neg (by omega)]
      simp [setL, repL]⟩
  refine ⟨τ, ?_, a2, a3, a4⟩
  unfold f_X12_beginAnew
  have a1' : f_X12_beginAnew_27 100000 (N4 8) (setL (setL (setL σ 225 0 x1.toInt64) 225 1 x2.toInt64) 225 7 0) = some τ := a1
  rw [show (8 : Int32) = N4 8 from rfl, show (0 : Int32).toNatClampNeg = 0 from rfl, show (1 : Int32).toNatClampNeg = 1 from rfl, show (7 : Int32).toNatClampNeg = 7 from rfl, a1', bd_s]
theorem mo_begin1 (h1 : ¬ (rng x1 2 8 = true ∧ rng x2 2 8 = true)) : f_X12_begin x1 x2 σ = some (0, setI σ 224 5 1) := by
  unfold f_X12_begin
  rw [inr 2 8 rfl rfl, bd_s]
  by_cases h : rng x1 2 8 = true
  · rw [if_neg (b4_t h), inr 2 8 rfl rfl, bd_s, if_pos (b4_f (fun q => h1 ⟨h, q⟩)), mI_e, if_neg (by decide)]
  · rw [if_pos (b4_f h), mI_e, if_neg (by decide)]
theorem mo_begin {c r : Nat} (hI : MInv σ hs sc) (h1 : x1 = N4 c) (h2 : x2 = N4 r) (c1 : 2 ≤ c) (c2 : c ≤ 8) (r1 : 2 ≤ r) (r2 : r ≤ 8) : ∃ τ, f_X12_begin x1 x2 σ = some (N4 (c * r), τ) ∧ MO σ τ (mBeg (σ.2 225) (N8 c) (N8 r)) (push hs (σ.2 225)) sc := by
  have hr1 : rng (N4 c) 2 8 = true := by unfold rng; rw [n4_int (by omega), decide_eq_true_eq]; omega
  have hr2 : rng (N4 r) 2 8 = true := by unfold rng; rw [n4_int (by omega), decide_eq_true_eq]; omega
  obtain ⟨τ, a1, a2⟩ := m_keep0 hI
  obtain ⟨ρ, b1, b2, b3, b4⟩ := m_beginAnew (N4 c) (N4 r) τ
  rw [a2.1, n4_64 (by omega), n4_64 (by omega)] at b4
  have hd : Dm (ρ.2 225) c r 0 := by
    rw [b4]
    refine ⟨?_, ?_, ?_, c1, c2, r1, r2, Nat.zero_le _⟩
    · simp [mBeg, vp_updL]
    · simp [mBeg, vp_updL]
    · simp [mBeg, vp_updL]; rfl
  rw [h1, h2]
  unfold f_X12_begin
  rw [inr 2 8 rfl rfl, bd_s, if_neg (b4_t hr1), inr 2 8 rfl rfl, bd_s, if_neg (b4_t hr2), mI_e, if_pos rfl, a1, bd_s, b1, bd_s, m_cells hd, bd_s]
  refine ⟨ρ, rfl, b4, ?_, ?_, ?_⟩
  · exact a2.2.1.of (by rw [b2]) (by rw [b2]) (b3 226 (by omega)) (by rw [b2])
  · exact a2.2.2.1.trans ⟨fun q _ => by rw [b2], fun q hq => b3 q (by omega), by rw [b2]⟩
  · rw [b2]; exact a2.2.2.2
end MCALL
