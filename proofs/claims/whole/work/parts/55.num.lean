/-! ===== LAYER 2. numbers: small naturals as machine ints; loops with fuel; reading a memory that was written ===== -/
def N4 (n : Nat) : Int32 := Int32.ofNat n
def N8 (n : Nat) : Int64 := Int64.ofNat n
def Z8 (z : Int) : Int64 := Int64.ofInt z
theorem n4_nat {i : Nat} (h : i < 2147483648) : (N4 i).toNatClampNeg = i := Int32.toNatClampNeg_ofNat_of_lt h
theorem n4_int {i : Nat} (h : i < 2147483648) : (N4 i).toInt = (i : Int) := Int32.toInt_ofNat_of_lt h
theorem n8_nat {i : Nat} (h : i < 9223372036854775808) : (N8 i).toNatClampNeg = i := Int64.toNatClampNeg_ofNat_of_lt h
theorem n8_int {i : Nat} (h : i < 9223372036854775808) : (N8 i).toInt = (i : Int) := Int64.toInt_ofNat_of_lt h
theorem n4_add (a b : Nat) : N4 a + N4 b = N4 (a + b) := (Int32.ofNat_add a b).symm
theorem n4_mul (a b : Nat) : N4 a * N4 b = N4 (a * b) := (Int32.ofNat_mul a b).symm
theorem n4_sub {a b : Nat} (h : b ≤ a) : N4 a - N4 b = N4 (a - b) := (Int32.ofNat_sub a b h).symm
theorem n8_add (a b : Nat) : N8 a + N8 b = N8 (a + b) := (Int64.ofNat_add a b).symm
theorem n8_mul (a b : Nat) : N8 a * N8 b = N8 (a * b) := (Int64.ofNat_mul a b).symm
theorem n8_sub {a b : Nat} (h : b ≤ a) : N8 a - N8 b = N8 (a - b) := (Int64.ofNat_sub a b h).symm
theorem n4_le {a b : Nat} (ha : a < 2147483648) (hb : b < 2147483648) : (N4 a ≤ N4 b) ↔ a ≤ b := Int32.ofNat_le_iff_le ha hb
theorem n4_lt {a b : Nat} (ha : a < 2147483648) (hb : b < 2147483648) : (N4 a < N4 b) ↔ a < b := Int32.ofNat_lt_iff_lt ha hb
theorem n4_eq {a b : Nat} (ha : a < 2147483648) (hb : b < 2147483648) : (N4 a = N4 b) ↔ a = b := by
  refine ⟨fun h => ?_, fun h => by rw [h]⟩
  have := congrArg Int32.toNatClampNeg h
  rwa [n4_nat ha, n4_nat hb] at this
theorem n8_le {a b : Nat} (ha : a < 9223372036854775808) (hb : b < 9223372036854775808) : (N8 a ≤ N8 b) ↔ a ≤ b := Int64.ofNat_le_iff_le ha hb
theorem n8_lt {a b : Nat} (ha : a < 9223372036854775808) (hb : b < 9223372036854775808) : (N8 a < N8 b) ↔ a < b := Int64.ofNat_lt_iff_lt ha hb
theorem n8_eq {a b : Nat} (ha : a < 9223372036854775808) (hb : b < 9223372036854775808) : (N8 a = N8 b) ↔ a = b := by
  refine ⟨fun h => ?_, fun h => by rw [h]⟩
  have := congrArg Int64.toNatClampNeg h
  rwa [n8_nat ha, n8_nat hb] at this
theorem n4_div {a b : Nat} (ha : a < 2147483648) (hb : b < 2147483648) : N4 a / N4 b = N4 (a / b) := (Int32.ofNat_div ha hb).symm
theorem n4_mod {a b : Nat} (ha : a < 2147483648) (hb : b < 2147483648) : N4 a - N4 a / N4 b * N4 b = N4 (a % b) := by
  rw [n4_div ha hb, n4_mul, n4_sub (Nat.div_mul_le_self a b)]
  congr 1
  have := Nat.div_add_mod a b
  rw [Nat.mul_comm] at this
  omega
theorem n8_div {a b : Nat} (ha : a < 9223372036854775808) (hb : b < 9223372036854775808) : N8 a / N8 b = N8 (a / b) := (Int64.ofNat_div ha hb).symm
theorem n8_mod {a b : Nat} (ha : a < 9223372036854775808) (hb : b < 9223372036854775808) : N8 a - N8 a / N8 b * N8 b = N8 (a % b) := by
  rw [n8_div ha hb, n8_mul, n8_sub (Nat.div_mul_le_self a b)]
  congr 1
  have := Nat.div_add_mod a b
  rw [Nat.mul_comm] at this
  omega
theorem n4_64 {i : Nat} (h : i < 2147483648) : (N4 i).toInt64 = N8 i := by
  apply Int64.toInt.inj
  rw [Int32.toInt_toInt64, n4_int h, n8_int (by omega)]
theorem n8_32 (i : Nat) : (N8 i).toInt32 = N4 i := Int64.toInt32_ofNat'
theorem n4_dec {i : Nat} (h : 0 < i) : N4 i + (-1) = N4 (i - 1) := by
  rw [show (-1 : Int32) = -N4 1 from rfl, show N4 i + -N4 1 = N4 i - N4 1 from (Int32.sub_eq_add_neg _ _).symm, n4_sub (by omega)]
theorem n4_neg {i : Nat} (h : i < 2147483648) : ¬ N4 i = (-1 : Int32) := fun q => by
  have := congrArg Int32.toInt q
  rw [n4_int h] at this
  have h1 : (-1 : Int32).toInt = -1 := by decide
  omega
theorem n4_nlt {i : Nat} (h : i < 2147483648) : ¬ N4 i < (0 : Int32) := fun q => by
  have := Int32.lt_iff_toInt_lt.mp q
  rw [n4_int h] at this
  have h1 : (0 : Int32).toInt = 0 := by decide
  omega
theorem k4 : (0 : Int32) = N4 0 ∧ (1 : Int32) = N4 1 ∧ (2 : Int32) = N4 2 ∧ (3 : Int32) = N4 3 ∧ (4 : Int32) = N4 4 ∧ (5 : Int32) = N4 5 ∧ (6 : Int32) = N4 6 ∧ (7 : Int32) = N4 7 ∧ (8 : Int32) = N4 8 ∧ (9 : Int32) = N4 9 ∧ (16 : Int32) = N4 16 ∧ (64 : Int32) = N4 64 ∧ (72 : Int32) = N4 72 ∧ (90 : Int32) = N4 90 ∧ (120 : Int32) = N4 120 ∧ (136 : Int32) = N4 136 ∧ (200 : Int32) = N4 200 ∧ (600 : Int32) = N4 600 ∧ (1000 : Int32) = N4 1000 ∧ (1414 : Int32) = N4 1414 ∧ (100000 : Int32) = N4 100000 :=
  ⟨rfl, rfl, rfl, rfl, rfl, rfl, rfl, rfl, rfl, rfl, rfl, rfl, rfl, rfl, rfl, rfl, rfl, rfl, rfl, rfl, rfl⟩
theorem n4_succ (i : Nat) : N4 i + 1 = N4 (i + 1) := n4_add i 1
theorem n4_ne0 {i : Nat} (h : i ≠ 0) (hi : i < 2147483648) : ¬ N4 i = (0 : Int32) := fun q => h ((n4_eq (b := 0) hi (by omega)).mp q)
theorem n4_inb {i n : Nat} (h : i < n) (hn : n < 2147483648) : inb (N4 i) n = true := by
  unfold inb
  rw [n4_nat (by omega)]
  simp [n4_nlt (show i < 2147483648 by omega), h]
theorem gd_t {α : Type} {b : Bool} {x : Option α} (h : b = true) : gd b x = x := by rw [h]; rfl
theorem gd_inb {α : Type} {i n : Nat} {x : Option α} (h : i < n) (hn : n < 2147483648) : gd (inb (N4 i) n) x = x := gd_t (n4_inb h hn)
theorem bd_s {α β : Type} {a : α} {f : α → Option β} : bd (some a) f = f a := rfl
theorem gd_nz4 {α : Type} {i : Nat} {x : Option α} (h : 0 < i) (hn : i < 2147483648) : gd (nz4 (N4 i)) x = x := by
  refine gd_t ?_
  have : ¬ N4 i = 0 := fun q => by
    have := (n4_eq hn (by omega : 0 < 2147483648)).mp q
    omega
  simp [nz4, this]
theorem gd_bz {α : Type} {x : Option α} : gd (bz (N4 0)) x = x ∧ gd (bz (N4 1)) x = x := ⟨gd_t (by decide), gd_t (by decide)⟩
/-! loops -/
theorem loopM {α β : Type} (f : Nat → α → Option β) (μ : α → Nat) (P : α → Prop) (Q : β → Prop)
    (step : ∀ n a, P a → (∃ b, f (n + 1) a = some b ∧ Q b) ∨ (∃ a', f (n + 1) a = f n a' ∧ P a' ∧ μ a' < μ a)) : ∀ n a, μ a < n → P a → ∃ b, f n a = some b ∧ Q b := by
  intro n
  induction n with
  | zero => intro a h; omega
  | succ n ih =>
    intro a h hP
    rcases step n a hP with h1 | ⟨a', h1, h2, h3⟩
    · exact h1
    · rw [h1]
      exact ih a' (by omega) h2
theorem loopB {α β : Type} (f : Nat → Nat → α → Option β) (N : Nat) (P : Nat → α → Prop) (Q : β → Prop)
    (step : ∀ n i a, i ≤ N → P i a → (∃ b, f (n + 1) i a = some b ∧ Q b) ∨ (i < N ∧ ∃ a', f (n + 1) i a = f n (i + 1) a' ∧ P (i + 1) a')) : ∀ n i a, i ≤ N → N < n + i → P i a → ∃ b, f n i a = some b ∧ Q b := by
  intro n
  induction n with
  | zero => intro i a h1 h2; omega
  | succ n ih =>
    intro i a hi hn hP
    rcases step n i a hi hP with h1 | ⟨h0, a', h1, h2⟩
    · exact h1
    · rw [h1]
      exact ih (i + 1) a' (by omega) (by omega) h2
theorem loopU {α β : Type} (f : Nat → Nat → α → Option β) (N : Nat) (P : Nat → α → Prop) (Q : β → Prop)
    (stop : ∀ n a, P N a → ∃ b, f (n + 1) N a = some b ∧ Q b)
    (step : ∀ n i a, i < N → P i a → ∃ a', f (n + 1) i a = f n (i + 1) a' ∧ P (i + 1) a') : ∀ n i a, i ≤ N → N < n + i → P i a → ∃ b, f n i a = some b ∧ Q b :=
  loopB f N P Q fun n i a hi hP => by
    by_cases h : i = N
    · subst h
      exact Or.inl (stop n a hP)
    · exact Or.inr ⟨by omega, step n i a (by omega) hP⟩
/-- a loop whose way is a function of the counter -/
theorem loopF {α β : Type} (f : Nat → Nat → α → Option β) (N : Nat) (g : Nat → α) (r : β)
    (stop : ∀ n, f (n + 1) N (g N) = some r) (step : ∀ n i, i < N → f (n + 1) i (g i) = f n (i + 1) (g (i + 1))) : ∀ n i, i ≤ N → N < n + i → f n i (g i) = some r := by
  intro n i hi hn
  obtain ⟨b, h1, h2⟩ := loopU f N (fun i a => a = g i) (fun b => b = r) (fun n a h => ⟨r, by rw [h, stop], rfl⟩) (fun n i a h1 h2 => ⟨g (i + 1), by rw [h2, step n i h1], rfl⟩) n i (g i) hi hn rfl
  rw [h1, h2]
/-! memory -/
theorem mI_L {σ : Mem} {p j : Nat} {v : Int32} : (setI σ p j v).2 = σ.2 := rfl
theorem mL_I {σ : Mem} {p j : Nat} {v : Int64} : (setL σ p j v).1 = σ.1 := rfl
theorem mI_e {σ : Mem} {p j : Nat} {v : Int32} : (setI σ p j v).1 p j = v := by simp [setI, repI, upd]
theorem mL_e {σ : Mem} {p j : Nat} {v : Int64} : (setL σ p j v).2 p j = v := by simp [setL, repL, vp_updL]
theorem mI_j {σ : Mem} {p j k : Nat} {v : Int32} (h : k ≠ j) : (setI σ p j v).1 p k = σ.1 p k := by simp [setI, repI, upd, h]
theorem mL_j {σ : Mem} {p j k : Nat} {v : Int64} (h : k ≠ j) : (setL σ p j v).2 p k = σ.2 p k := by simp [setL, repL, vp_updL, h]
theorem mI_p {σ : Mem} {p q j : Nat} {v : Int32} (h : q ≠ p) : (setI σ p j v).1 q = σ.1 q := by simp [setI, repI, h]
theorem mL_p {σ : Mem} {p q j : Nat} {v : Int64} (h : q ≠ p) : (setL σ p j v).2 q = σ.2 q := by simp [setL, repL, h]
theorem mI_r {σ : Mem} {p q : Nat} {f : Nat → Int32} (h : q ≠ p) : (repI σ p f).1 q = σ.1 q := by simp [repI, h]
theorem mL_r {σ : Mem} {p q : Nat} {f : Nat → Int64} (h : q ≠ p) : (repL σ p f).2 q = σ.2 q := by simp [repL, h]
theorem mI_re {σ : Mem} {p : Nat} {f : Nat → Int32} : (repI σ p f).1 p = f := by simp [repI]
theorem mL_re {σ : Mem} {p : Nat} {f : Nat → Int64} : (repL σ p f).2 p = f := by simp [repL]
theorem mI_rL {σ : Mem} {p : Nat} {f : Nat → Int32} : (repI σ p f).2 = σ.2 := rfl
theorem mL_rI {σ : Mem} {p : Nat} {f : Nat → Int64} : (repL σ p f).1 = σ.1 := rfl
theorem mI_w {σ : Mem} {p j q k : Nat} {v : Int32} : (setI σ p j v).1 q k = if q = p ∧ k = j then v else σ.1 q k := by
  by_cases h : q = p
  · subst h
    by_cases h2 : k = j
    · subst h2; simp [mI_e]
    · simp [mI_j h2, h2]
  · simp [mI_p h, h]
theorem mL_w {σ : Mem} {p j q k : Nat} {v : Int64} : (setL σ p j v).2 q k = if q = p ∧ k = j then v else σ.2 q k := by
  by_cases h : q = p
  · subst h
    by_cases h2 : k = j
    · subst h2; simp [mL_e]
    · simp [mL_j h2, h2]
  · simp [mL_p h, h]
/-! counts and sums up to a bound -/
def cnt (p : Nat → Bool) : Nat → Nat
  | 0 => 0
  | k + 1 => cnt p k + (if p k = true then 1 else 0)
def sum8 (f : Nat → Int64) : Nat → Int64
  | 0 => 0
  | k + 1 => sum8 f k + f k
theorem cnt_le (p : Nat → Bool) (k : Nat) : cnt p k ≤ k := by
  induction k with
  | zero => exact Nat.le_refl 0
  | succ k ih => simp only [cnt]; split <;> omega
theorem cnt_congr {p q : Nat → Bool} {k : Nat} (h : ∀ i, i < k → p i = q i) : cnt p k = cnt q k := by
  induction k with
  | zero => rfl
  | succ k ih => simp only [cnt]; rw [ih (fun i hi => h i (by omega)), h k (by omega)]
theorem sum8_congr {f g : Nat → Int64} {k : Nat} (h : ∀ i, i < k → f i = g i) : sum8 f k = sum8 g k := by
  induction k with
  | zero => rfl
  | succ k ih => simp only [sum8]; rw [ih (fun i hi => h i (by omega)), h k (by omega)]
