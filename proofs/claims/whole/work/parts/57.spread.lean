/-! ===== the reference: dimensions, moves, least times to all cells ===== -/
theorem z8_add (a b : Int) : Z8 a + Z8 b = Z8 (a + b) := (Int64.ofInt_add a b).symm
theorem z8_sub (a b : Int) : Z8 a - Z8 b = Z8 (a - b) := (Int64.ofInt_sub a b).symm
theorem z8_mul (a b : Int) : Z8 a * Z8 b = Z8 (a * b) := (Int64.ofInt_mul a b).symm
theorem z8_int {a : Int} (h1 : -9223372036854775808 ≤ a) (h2 : a < 9223372036854775808) : (Z8 a).toInt = a := Int64.toInt_ofInt_of_le h1 h2
theorem z8_le {a b : Int} (ha : -9223372036854775808 ≤ a) (ha' : a < 9223372036854775808) (hb : -9223372036854775808 ≤ b) (hb' : b < 9223372036854775808) : (Z8 a ≤ Z8 b) ↔ a ≤ b := by
  rw [Int64.le_iff_toInt_le, z8_int ha ha', z8_int hb hb']
theorem z8_lt {a b : Int} (ha : -9223372036854775808 ≤ a) (ha' : a < 9223372036854775808) (hb : -9223372036854775808 ≤ b) (hb' : b < 9223372036854775808) : (Z8 a < Z8 b) ↔ a < b := by
  rw [Int64.lt_iff_toInt_lt, z8_int ha ha', z8_int hb hb']
theorem z8_eq {a b : Int} (ha : -9223372036854775808 ≤ a) (ha' : a < 9223372036854775808) (hb : -9223372036854775808 ≤ b) (hb' : b < 9223372036854775808) : (Z8 a = Z8 b) ↔ a = b := by
  rw [← Int64.toInt_inj, z8_int ha ha', z8_int hb hb']
theorem z8_n (n : Nat) : N8 n = Z8 (n : Int) := Int64.ofInt_eq_ofNat.symm
theorem z8_of (x : Int64) : Z8 x.toInt = x := Int64.ofInt_toInt x
theorem b4_in (a lo hi : Int64) (σ : Mem) : f_X12_in a lo hi σ = some (if lo ≤ a ∧ a ≤ hi then 1 else 0) := by
  unfold f_X12_in
  by_cases h1 : a < lo
  · rw [if_pos h1, if_neg (fun h => absurd h1 (Int64.not_lt.mpr h.1))]
  · rw [if_neg h1]
    by_cases h2 : hi < a
    · rw [if_pos h2, if_neg (fun h => absurd h2 (Int64.not_lt.mpr h.2))]
    · rw [if_neg h2, if_pos ⟨Int64.not_lt.mp h1, Int64.not_lt.mp h2⟩]
/-- the dimensions of a row of 200: columns, rows, rays -/
def Dm (m : Nat → Int64) (W H n : Nat) : Prop := m 0 = N8 W ∧ m 1 = N8 H ∧ m 7 = N8 n ∧ 2 ≤ W ∧ W ≤ 8 ∧ 2 ≤ H ∧ H ≤ 8 ∧ n ≤ 16
def slw (m : Nat → Int64) (base : Nat) : Nat → Int := fun c => (m (base + c)).toInt
theorem Dm.K {m : Nat → Int64} {W H n : Nat} (h : Dm m W H n) : 4 ≤ W * H ∧ W * H ≤ 64 := by
  obtain ⟨-, -, -, h1, h2, h3, h4, -⟩ := h
  exact ⟨Nat.mul_le_mul h1 h3, Nat.mul_le_mul h2 h4⟩
theorem m_columns {σ : Mem} {W H n : Nat} (h : Dm (σ.2 225) W H n) : f_X12_columns σ = some (N4 W) := by
  unfold f_X12_columns
  rw [show (0 : Int32).toNatClampNeg = 0 from rfl, h.1, n8_32]
theorem m_rows {σ : Mem} {W H n : Nat} (h : Dm (σ.2 225) W H n) : f_X12_rows σ = some (N4 H) := by
  unfold f_X12_rows
  rw [show (1 : Int32).toNatClampNeg = 1 from rfl, h.2.1, n8_32]
theorem m_cells {σ : Mem} {W H n : Nat} (h : Dm (σ.2 225) W H n) : f_X12_cells σ = some (N4 (W * H)) := by
  unfold f_X12_cells
  rw [m_columns h, bd_s, m_rows h, bd_s, n4_mul]
theorem n4_subI {a b : Nat} (ha : a < 1073741824) (hb : b < 1073741824) : (N4 a - N4 b).toInt = (a : Int) - b := by
  rw [Int32.toInt_sub, n4_int (by omega), n4_int (by omega)]
  exact Int.bmod_eq_of_le (by omega) (by omega)
theorem in_11 {a b : Nat} (ha : a < 1073741824) (hb : b < 1073741824) : ((-1 : Int64) ≤ (N4 a - N4 b).toInt64 ∧ (N4 a - N4 b).toInt64 ≤ (1 : Int64)) ↔ (a ≤ b + 1 ∧ b ≤ a + 1) := by
  rw [Int64.le_iff_toInt_le, Int64.le_iff_toInt_le, Int32.toInt_toInt64, n4_subI ha hb, show (-1 : Int64).toInt = -1 from rfl, show (1 : Int64).toInt = 1 from rfl]
  omega
theorem sub_0 {a b : Nat} (ha : a < 1073741824) (hb : b < 1073741824) : (N4 a - N4 b = 0) ↔ a = b := by
  rw [← Int32.toInt_inj, n4_subI ha hb, show (0 : Int32).toInt = 0 from rfl]
  omega
theorem m_move {σ : Mem} {W H n a b : Nat} (h : Dm (σ.2 225) W H n) (ha : a < 200) (hb : b < 200) : f_X12_move (N4 a) (N4 b) σ = some (N4 (mv W a b)) := by
  have hW := h.2.2.2.1
  have hW8 := h.2.2.2.2.1
  have a1 : a % W < 200 := Nat.lt_of_le_of_lt (Nat.mod_le a W) ha
  have b1 : b % W < 200 := Nat.lt_of_le_of_lt (Nat.mod_le b W) hb
  have a2 : a / W < 200 := Nat.lt_of_le_of_lt (Nat.div_le_self a W) ha
  have b2 : b / W < 200 := Nat.lt_of_le_of_lt (Nat.div_le_self b W) hb
  unfold f_X12_move
  simp only [m_columns h, bd_s]
  rw [gd_nz4 (by omega) (by omega), gd_nz4 (by omega) (by omega), gd_nz4 (by omega) (by omega), gd_nz4 (by omega) (by omega), n4_mod (by omega) (by omega), n4_mod (by omega) (by omega), n4_div (by omega) (by omega), n4_div (by omega) (by omega), b4_in, bd_s]
  unfold mv
  by_cases e : a = b
  · rw [if_pos e, if_pos ((in_11 (by omega) (by omega)).mpr (by rw [e]; omega)), if_neg (by decide), b4_in, bd_s, if_pos ((in_11 (by omega) (by omega)).mpr (by rw [e]; omega)), if_neg (by decide), if_pos (by rw [e])]
    rfl
  · rw [if_neg e]
    have e' : ¬ N4 a = N4 b := fun q => e ((n4_eq (by omega) (by omega)).mp q)
    by_cases h1 : a % W ≤ b % W + 1 ∧ b % W ≤ a % W + 1
    · rw [if_pos ((in_11 (by omega) (by omega)).mpr h1), if_neg (by decide), b4_in, bd_s]
      by_cases h2 : a / W ≤ b / W + 1 ∧ b / W ≤ a / W + 1
      · have hh : a % W ≤ b % W + 1 ∧ b % W ≤ a % W + 1 ∧ a / W ≤ b / W + 1 ∧ b / W ≤ a / W + 1 := ⟨h1.1, h1.2, h2.1, h2.2⟩
        rw [if_pos ((in_11 (by omega) (by omega)).mpr h2), if_neg (by decide), if_neg e', if_pos hh]
        by_cases h3 : a % W = b % W
        · rw [if_pos ((sub_0 (by omega) (by omega)).mpr h3), if_pos (Or.inl h3)]
          rfl
        · rw [if_neg (fun q => h3 ((sub_0 (by omega) (by omega)).mp q))]
          by_cases h4 : a / W = b / W
          · rw [if_pos ((sub_0 (by omega) (by omega)).mpr h4), if_pos (Or.inr h4)]
            rfl
          · rw [if_neg (fun q => h4 ((sub_0 (by omega) (by omega)).mp q)), if_neg (fun q => q.elim h3 h4)]
            rfl
      · rw [if_neg (fun q => h2 ((in_11 (by omega) (by omega)).mp q)), if_pos rfl, if_neg (fun q => h2 ⟨q.2.2.1, q.2.2.2⟩)]
        rfl
    · rw [if_neg (fun q => h1 ((in_11 (by omega) (by omega)).mp q)), if_pos rfl, if_neg (fun q => h1 ⟨q.1, q.2.1⟩)]
      rfl
/-! spread: frames and steps -/
def FrS (σ τ : Mem) : Prop := (∀ q, q ≠ 229 → τ.1 q = σ.1 q) ∧ (∀ q, q ≠ 228 → τ.2 q = σ.2 q)
theorem FrS.rfl {σ : Mem} : FrS σ σ := ⟨fun _ _ => Eq.refl _, fun _ _ => Eq.refl _⟩
theorem FrS.trans {σ τ ρ : Mem} (h : FrS σ τ) (h' : FrS τ ρ) : FrS σ ρ := ⟨fun q hq => (h'.1 q hq).trans (h.1 q hq), fun q hq => (h'.2 q hq).trans (h.2 q hq)⟩
theorem FrS.i {σ τ : Mem} {j : Nat} {v : Int32} (h : FrS σ τ) : FrS σ (setI τ 229 j v) := ⟨fun q hq => (mI_p hq).trans (h.1 q hq), fun q hq => h.2 q hq⟩
theorem FrS.l {σ τ : Mem} {j : Nat} {v : Int64} (h : FrS σ τ) : FrS σ (setL τ 228 j v) := ⟨fun q hq => h.1 q hq, fun q hq => (mL_p hq).trans (h.2 q hq)⟩
theorem FrS.dm {σ τ : Mem} (h : FrS σ τ) : τ.2 225 = σ.2 225 := h.2 225 (by decide)
def FAR : Int := 1000000000000000
theorem spread_init {W H n o : Nat} {x2 : Int32} {σ : Mem} (h : Dm (σ.2 225) W H n) (ho : o < W * H) : ∃ τ, f_X12_spread_2 (N4 o) x2 100000 (N4 0) σ = some τ ∧ FrS σ τ ∧ ∀ c, c < W * H → τ.2 228 c = Z8 (if c = o then 0 else FAR) ∧ τ.1 229 c = N4 0 := by
  have hK := h.K
  refine loopU (fun n i τ => f_X12_spread_2 (N4 o) x2 n (N4 i) τ) (W * H) (fun i τ => FrS σ τ ∧ ∀ c, c < i → τ.2 228 c = Z8 (if c = o then 0 else FAR) ∧ τ.1 229 c = N4 0) (fun τ => FrS σ τ ∧ ∀ c, c < W * H → τ.2 228 c = Z8 (if c = o then 0 else FAR) ∧ τ.1 229 c = N4 0) ?_ ?_ 100000 0 σ (by omega) (by omega) ⟨FrS.rfl, fun c hc => by omega⟩
  · intro n' τ hP
    have hd : Dm (τ.2 225) W H n := by rw [hP.1.dm]; exact h
    refine ⟨τ, ?_, hP⟩
    show f_X12_spread_2 (N4 o) x2 (n' + 1) (N4 (W * H)) τ = some τ
    rw [f_X12_spread_2, m_cells hd, bd_s, if_pos ((n4_le (by omega) (by omega)).mpr (Nat.le_refl _))]
  · intro n' i τ hi hP
    have hd : Dm (τ.2 225) W H n := by rw [hP.1.dm]; exact h
    show ∃ a', f_X12_spread_2 (N4 o) x2 (n' + 1) (N4 i) τ = _ ∧ _
    rw [f_X12_spread_2, m_cells hd, bd_s, if_neg (fun q => by have := (n4_le (by omega) (by omega)).mp q; omega)]
    by_cases e : i = o
    · rw [if_pos (by rw [e]), gd_inb (by omega) (by omega), gd_inb (by omega) (by omega), n4_nat (by omega), n4_succ]
      refine ⟨_, rfl, (hP.1.l).i, fun c hc => ?_⟩
      by_cases ec : c = i
      · subst ec
        rw [mI_L, mL_e, mI_e, if_pos e]
        exact ⟨rfl, rfl⟩
      · rw [mI_L, mL_j ec, mI_j ec, mL_I]
        exact hP.2 c (by omega)
    · rw [if_neg (fun q => e ((n4_eq (by omega) (by omega)).mp q)), gd_inb (by omega) (by omega), gd_inb (by omega) (by omega), n4_nat (by omega), n4_succ]
      refine ⟨_, rfl, (hP.1.l).i, fun c hc => ?_⟩
      by_cases ec : c = i
      · subst ec
        rw [mI_L, mL_e, mI_e, if_neg e]
        exact ⟨rfl, rfl⟩
      · rw [mI_L, mL_j ec, mI_j ec, mL_I]
        exact hP.2 c (by omega)
/-- labels ℓ, done marks d -/
def Lab (K : Nat) (σ : Mem) (ℓ : Nat → Int) (d : Nat → Bool) : Prop := ∀ c, c < K → σ.2 228 c = Z8 (ℓ c) ∧ σ.1 229 c = (if d c = true then N4 1 else N4 0) ∧ 0 ≤ ℓ c ∧ ℓ c ≤ FAR
theorem spread_best {W H n : Nat} {x2 x3 : Int32} {σ : Mem} (h : Dm (σ.2 225) W H n) {ℓ : Nat → Int} {d : Nat → Bool} (hl : Lab (W * H) σ ℓ d) {u : Nat} (hu : u < W * H) (hud : d u = false) : ∃ b, f_X12_spread_57 x2 x3 σ 100000 (-1) (N4 0) = some (N4 b) ∧ b < W * H ∧ d b = false ∧ ∀ c, c < W * H → d c = false → ℓ b ≤ ℓ c := by
  have hK := h.K
  have key := loopU (fun n i (a : Int32) => f_X12_spread_57 x2 x3 σ n a (N4 i)) (W * H) (fun i a => (a = -1 ∧ ∀ c, c < i → d c = true) ∨ ∃ b, b < i ∧ a = N4 b ∧ d b = false ∧ ∀ c, c < i → d c = false → ℓ b ≤ ℓ c) (fun a => (a = -1 ∧ ∀ c, c < W * H → d c = true) ∨ ∃ b, b < W * H ∧ a = N4 b ∧ d b = false ∧ ∀ c, c < W * H → d c = false → ℓ b ≤ ℓ c) ?_ ?_ 100000 0 (-1) (by omega) (by omega) (Or.inl ⟨rfl, fun c hc => by omega⟩)
  · obtain ⟨r, h1, h2⟩ := key
    rcases h2 with ⟨-, h2⟩ | ⟨b, b1, b2, b3, b4⟩
    · rw [h2 u hu] at hud; cases hud
    · exact ⟨b, by rw [h1, b2], b1, b3, b4⟩
  · intro n' a hP
    refine ⟨a, ?_, hP⟩
    show f_X12_spread_57 x2 x3 σ (n' + 1) a (N4 (W * H)) = some a
    rw [f_X12_spread_57, m_cells h, bd_s, if_pos ((n4_le (by omega) (by omega)).mpr (Nat.le_refl _))]
  · intro n' i a hi hP
    obtain ⟨l1, l2, l3, l4⟩ := hl i hi
    show ∃ a', f_X12_spread_57 x2 x3 σ (n' + 1) a (N4 i) = _ ∧ _
    rw [f_X12_spread_57, m_cells h, bd_s, if_neg (fun q => by have := (n4_le (by omega) (by omega)).mp q; omega), gd_inb (by omega) (by omega), n4_nat (by omega), l2, n4_succ]
    by_cases hd : d i = true
    · rw [if_pos hd, if_neg (by decide)]
      refine ⟨a, rfl, ?_⟩
      rcases hP with ⟨p1, p2⟩ | ⟨b, b1, b2, b3, b4⟩
      · refine Or.inl ⟨p1, fun c hc => ?_⟩
        by_cases e : c = i
        · rw [e]; exact hd
        · exact p2 c (by omega)
      · refine Or.inr ⟨b, by omega, b2, b3, fun c hc hdc => ?_⟩
        by_cases e : c = i
        · rw [e, hd] at hdc; cases hdc
        · exact b4 c (by omega) hdc
    · have hd' : d i = false := eq_false_of_ne_true hd
      rw [if_neg hd, if_pos (show N4 0 = (0 : Int32) from rfl)]
      rcases hP with ⟨p1, p2⟩ | ⟨b, b1, b2, b3, b4⟩
      · rw [if_pos p1]
        refine ⟨_, rfl, Or.inr ⟨i, by omega, rfl, hd', fun c hc hdc => ?_⟩⟩
        by_cases e : c = i
        · rw [e]; exact Int.le_refl _
        · rw [p2 c (by omega)] at hdc; cases hdc
      · obtain ⟨m1, -, m3, m4⟩ := hl b (by omega)
        have hF : FAR = 1000000000000000 := rfl
        rw [if_neg (by rw [b2]; exact n4_neg (by omega)), gd_inb (by omega) (by omega), b2, gd_inb (by omega) (by omega), n4_nat (by omega), m1, l1]
        by_cases hle : ℓ b ≤ ℓ i
        · rw [if_pos ((z8_le (by omega) (by omega) (by omega) (by omega)).mpr hle)]
          refine ⟨_, rfl, Or.inr ⟨b, by omega, rfl, b3, fun c hc hdc => ?_⟩⟩
          by_cases e : c = i
          · rw [e]; exact hle
          · exact b4 c (by omega) hdc
        · rw [if_neg (fun q => hle ((z8_le (by omega) (by omega) (by omega) (by omega)).mp q))]
          refine ⟨_, rfl, Or.inr ⟨i, by omega, rfl, hd', fun c hc hdc => ?_⟩⟩
          by_cases e : c = i
          · rw [e]; exact Int.le_refl _
          · have := b4 c (by omega) hdc
            omega
/-- what relaxing from b makes of the labels -/
def rlx (W : Nat) (s ℓ : Nat → Int) (b : Nat) : Nat → Int := fun c => if mv W b c ≠ 0 ∧ ℓ b + wt W s b c < ℓ c then ℓ b + wt W s b c else ℓ c
theorem rlx_self (W : Nat) (s ℓ : Nat → Int) (b : Nat) : rlx W s ℓ b b = ℓ b := if_neg (fun q => q.1 (mv_self W b))
theorem spread_reach {W H n b x : Nat} {σ : Mem} (h : Dm (σ.2 225) W H n) (hx : x + 64 ≤ 200) (hs : Slo (W * H) (slw (σ.2 225) x)) {ℓ : Nat → Int} {d : Nat → Bool} (hl : Lab (W * H) σ ℓ d) (hb : b < W * H) : ∃ τ, f_X12_reachFrom (N4 b) (N4 x) σ = some τ ∧ FrS σ τ ∧ Lab (W * H) τ (rlx W (slw (σ.2 225) x) ℓ b) d := by
  have hK := h.K
  have hF : FAR = 1000000000000000 := rfl
  generalize hsd : slw (σ.2 225) x = s at hs ⊢
  have hsv : ∀ c, σ.2 225 (x + c) = Z8 (s c) := fun c => by rw [← hsd]; exact (z8_of _).symm
  have key := loopU (fun n i τ => f_X12_reachFrom_2 (N4 b) (N4 x) n (N4 i) τ) (W * H) (fun i τ => FrS σ τ ∧ τ.1 = σ.1 ∧ ∀ c, c < W * H → τ.2 228 c = Z8 (if c < i then rlx W s ℓ b c else ℓ c)) (fun τ => FrS σ τ ∧ τ.1 = σ.1 ∧ ∀ c, c < W * H → τ.2 228 c = Z8 (rlx W s ℓ b c)) ?_ ?_ 100000 0 σ (by omega) (by omega) ⟨FrS.rfl, rfl, fun c hc => by rw [if_neg (by omega)]; exact (hl c hc).1⟩
  · obtain ⟨τ, h1, h2, h3, h4⟩ := key
    refine ⟨τ, ?_, h2, fun c hc => ?_⟩
    · unfold f_X12_reachFrom
      rw [show (0 : Int32) = N4 0 from rfl, h1, bd_s]
    · obtain ⟨-, l2, l3, l4⟩ := hl c hc
      refine ⟨h4 c hc, by rw [h3]; exact l2, ?_, ?_⟩
      · unfold rlx
        split
        · have := (hl b hb).2.2.1
          have := wt_bd0 (W := W) hs hb hc
          omega
        · exact l3
      · unfold rlx
        split <;> omega
  · intro n' τ hP
    have hd : Dm (τ.2 225) W H n := by rw [hP.1.dm]; exact h
    refine ⟨τ, ?_, hP.1, hP.2.1, fun c hc => by rw [hP.2.2 c hc, if_pos hc]⟩
    show f_X12_reachFrom_2 (N4 b) (N4 x) (n' + 1) (N4 (W * H)) τ = some τ
    rw [f_X12_reachFrom_2, m_cells hd, bd_s, if_pos ((n4_le (by omega) (by omega)).mpr (Nat.le_refl _))]
  · intro n' i τ hi hP
    obtain ⟨p1, p2, p3⟩ := hP
    have hd : Dm (τ.2 225) W H n := by rw [p1.dm]; exact h
    obtain ⟨-, -, l3, l4⟩ := hl i hi
    obtain ⟨-, -, b3, b4⟩ := hl b hb
    have hw := wt_bd0 (W := W) hs hb hi
    have hmv : mv W b i < 2000 := by rcases mv_cases W b i with e | e | e <;> omega
    have hbv : τ.2 228 b = Z8 (ℓ b) := by
      rw [p3 b hb]
      split
      · rw [rlx_self]
      · rfl
    have hiv : τ.2 228 i = Z8 (ℓ i) := by rw [p3 i hi, if_neg (by omega)]
    have hits : Z8 (ℓ b) + (N4 (mv W b i)).toInt64 * (τ.2 225 (x + b) + τ.2 225 (x + i)) = Z8 (ℓ b + wt W s b i) := by
      rw [p1.dm, hsv, hsv, n4_64 (by omega), z8_n, z8_add, z8_mul, z8_add]
      rfl
    show ∃ a', f_X12_reachFrom_2 (N4 b) (N4 x) (n' + 1) (N4 i) τ = _ ∧ _
    rw [f_X12_reachFrom_2, m_cells hd, bd_s, if_neg (fun q => by have := (n4_le (by omega) (by omega)).mp q; omega), m_move hd (by omega) (by omega), bd_s, gd_inb (by omega) (by omega), n4_add, gd_inb (by omega) (by omega), n4_add, gd_inb (by omega) (by omega)]
    simp only [gd_inb (show i < 64 by omega) (show 64 < 2147483648 by omega), n4_nat (show i < 2147483648 by omega), n4_nat (show b < 2147483648 by omega), n4_nat (show x + b < 2147483648 by omega), n4_nat (show x + i < 2147483648 by omega), hbv, hits, hiv, bd_s]
    rw [n4_succ]
    have same : ∀ v : Int64, v = Z8 (rlx W s ℓ b i) → FrS σ (setL τ 228 i v) ∧ (setL τ 228 i v).1 = σ.1 ∧ ∀ c, c < W * H → (setL τ 228 i v).2 228 c = Z8 (if c < i + 1 then rlx W s ℓ b c else ℓ c) := fun v hv => by
      refine ⟨p1.l, p2, fun c hc => ?_⟩
      by_cases ec : c = i
      · subst ec
        rw [mL_e, if_pos (by omega), hv]
      · rw [mL_j ec, p3 c hc]
        by_cases hci : c < i
        · rw [if_pos hci, if_pos (by omega)]
        · rw [if_neg hci, if_neg (by omega)]
    by_cases hm : mv W b i = 0
    · rw [if_pos (by rw [hm]; decide)]
      exact ⟨_, rfl, same _ (by unfold rlx; rw [if_neg (fun q => q.1 hm)])⟩
    · rw [if_neg (fun q => hm (by have := (n4_le (a := mv W b i) (b := 0) (by omega) (by omega)).mp q; omega))]
      by_cases hle : ℓ i ≤ ℓ b + wt W s b i
      · rw [if_pos ((z8_le (by omega) (by omega) (by omega) (by omega)).mpr hle)]
        exact ⟨_, rfl, same _ (by unfold rlx; rw [if_neg (fun q => by omega)])⟩
      · rw [if_neg (fun q => hle ((z8_le (by omega) (by omega) (by omega) (by omega)).mp q))]
        exact ⟨_, rfl, same _ (by unfold rlx; rw [if_pos ⟨hm, by omega⟩])⟩
