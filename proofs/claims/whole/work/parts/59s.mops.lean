/-! ===== states, histories, scripts; the reference's simple calls ===== -/
def rng (x : Int32) (lo hi : Int) : Bool := decide (lo ≤ x.toInt ∧ x.toInt ≤ hi)
theorem rng_n4 {x : Int32} {k : Nat} (h : rng x 0 ((k : Int) - 1) = true) : ∃ c, x = N4 c ∧ c < k ∧ c < 2147483648 := by
  unfold rng at h
  rw [decide_eq_true_eq] at h
  have h1 := x.toInt_lt
  refine ⟨x.toInt.toNat, ?_, by omega, by omega⟩
  rw [← Int32.toInt_inj, n4_int (by omega)]
  omega
theorem in_rng {x : Int32} {lo hi : Int64} {σ : Mem} : f_X12_in x.toInt64 lo hi σ = some (if rng x lo.toInt hi.toInt = true then 1 else 0) := by
  rw [b4_in]
  unfold rng
  simp only [Int64.le_iff_toInt_le, Int32.toInt_toInt64, decide_eq_true_eq]
theorem inr {x : Int32} {lo hi : Int64} {σ : Mem} (a b : Int) (ha : lo.toInt = a) (hb : hi.toInt = b) : f_X12_in x.toInt64 lo hi σ = some (if rng x a b = true then 1 else 0) := by
  rw [in_rng, ha, hb]
theorem gd_b {α : Type} {c : Prop} [Decidable c] {x : Option α} : gd (bz (if c then 1 else 0)) x = x := by
  by_cases h : c
  · rw [if_pos h]; exact gd_t (by decide)
  · rw [if_neg h]; exact gd_t (by decide)
theorem b4_z {c : Prop} [Decidable c] : ((if c then (1 : Int32) else 0) = 0) ↔ ¬ c := by
  by_cases h : c
  · rw [if_pos h]; simp [h]
  · rw [if_neg h]; simp [h]
theorem n4m1 {K : Nat} (h : 1 ≤ K) (h2 : K < 2147483648) : (N4 K - 1).toInt64.toInt = (K : Int) - 1 := by
  rw [show (1 : Int32) = N4 1 from rfl, n4_sub h, Int32.toInt_toInt64, n4_int (by omega)]
  omega
theorem m_isCell {W H n : Nat} {x : Int32} {σ : Mem} (h : Dm (σ.2 225) W H n) : f_X12_isCell x σ = some (if rng x 0 (((W * H : Nat) : Int) - 1) = true then 1 else 0) := by
  have hK := h.K
  unfold f_X12_isCell
  rw [m_cells h, bd_s, in_rng, bd_s, gd_b, n4m1 (by omega) (by omega)]
  rfl
theorem m_isRow {W H n : Nat} {x : Int32} {σ : Mem} (h : Dm (σ.2 225) W H n) : f_X12_isRow x σ = some (if rng x 0 ((H : Int) - 1) = true then 1 else 0) := by
  have hH := h.2.2.2.2.2.1
  have hH8 := h.2.2.2.2.2.2.1
  unfold f_X12_isRow
  rw [m_rows h, bd_s, in_rng, bd_s, gd_b, n4m1 (by omega) (by omega)]
  rfl
theorem m_isRay {W H n : Nat} {x : Int32} {σ : Mem} (h : Dm (σ.2 225) W H n) : f_X12_isRay x σ = some (if rng x 0 ((n : Int) - 1) = true then 1 else 0) := by
  have hn := h.2.2.2.2.2.2.2
  unfold f_X12_isRay
  rw [show (7 : Int32).toNatClampNeg = 7 from rfl, in_rng, bd_s, gd_b, h.2.2.1]
  have : (N8 n - 1).toInt = (n : Int) - 1 := by
    rw [show (1 : Int64) = Z8 1 from rfl, z8_n, z8_sub, z8_int (by omega) (by omega)]
  rw [this]
  rfl
theorem m_isSlow {x : Int32} {σ : Mem} : f_X12_isSlowness x σ = some (if rng x 1 100000 = true then 1 else 0) := by
  unfold f_X12_isSlowness
  rw [in_rng, bd_s, gd_b]
  rfl
/-! histories and scripts -/
def zr : Nat → Int64 := fun _ => 0
def push (hs : List (Nat → Int64)) (m : Nat → Int64) : List (Nat → Int64) := (if hs.length = 4 then hs.drop 1 else hs) ++ [m]
def MHist (σ : Mem) (hs : List (Nat → Int64)) : Prop := hs.length ≤ 4 ∧ σ.1 224 2 = N4 hs.length ∧ ∀ k, k < hs.length → ∀ j, j < 200 → σ.2 226 (200 * k + j) = (hs.getD k zr) j
def MScr (σ : Mem) (sc : List Nat) : Prop := sc.length ≤ 120 ∧ (∀ i, i < sc.length → sc.getD i 0 < 128) ∧ σ.1 224 4 = N4 sc.length ∧ ∀ i, i < sc.length → σ.1 227 i = N4 (sc.getD i 0)
def MInv (σ : Mem) (hs : List (Nat → Int64)) (sc : List Nat) : Prop := MHist σ hs ∧ MScr σ sc
/-- what the reference's calls leave alone -/
def Mfr (σ τ : Mem) : Prop := (∀ q, q < 224 ∨ q = 238 → τ.1 q = σ.1 q) ∧ (∀ q, q < 224 ∨ q = 239 → τ.2 q = σ.2 q) ∧ τ.1 224 19 = σ.1 224 19
theorem Mfr.rfl {σ : Mem} : Mfr σ σ := ⟨fun _ _ => Eq.refl _, fun _ _ => Eq.refl _, Eq.refl _⟩
theorem Mfr.trans {σ τ ρ : Mem} (h : Mfr σ τ) (h' : Mfr τ ρ) : Mfr σ ρ := ⟨fun q hq => (h'.1 q hq).trans (h.1 q hq), fun q hq => (h'.2.1 q hq).trans (h.2.1 q hq), h'.2.2.trans h.2.2⟩
theorem Mfr.i {σ τ : Mem} {p j : Nat} {v : Int32} (h : Mfr σ τ) (hp : 224 ≤ p ∧ p ≠ 238 ∧ (p ≠ 224 ∨ j ≠ 19)) : Mfr σ (setI τ p j v) := ⟨fun q hq => (mI_p (by omega)).trans (h.1 q hq), fun q hq => h.2.1 q hq, by rw [mI_w, if_neg (by omega)]; exact h.2.2⟩
theorem Mfr.l {σ τ : Mem} {p j : Nat} {v : Int64} (h : Mfr σ τ) (hp : 224 ≤ p ∧ p ≠ 239) : Mfr σ (setL τ p j v) := ⟨fun q hq => h.1 q hq, fun q hq => (mL_p (by omega)).trans (h.2.1 q hq), h.2.2⟩
theorem Fz.mfr {a b : Nat → Nat → Prop} {σ τ : Mem} (h : Fz a b σ τ) (ha : ∀ q j, a q j → 224 ≤ q ∧ q ≠ 238 ∧ (q ≠ 224 ∨ j ≠ 19)) (hb : ∀ q j, b q j → 224 ≤ q ∧ q ≠ 239) : Mfr σ τ :=
  ⟨fun q hq => h.rowI (fun j x => by have := ha q j x; omega), fun q hq => h.row (fun j x => by have := hb q j x; omega), h.1 224 19 (fun x => by have := ha _ _ x; omega)⟩
theorem Fq.mfr {σ τ : Mem} (h : Fq σ τ) : Mfr σ τ := Fz.mfr h (fun q j => by unfold mqI; omega) (fun q j => by unfold mqL; omega)
theorem MInv.of {σ τ : Mem} {hs : List (Nat → Int64)} {sc : List Nat} (h : MInv σ hs sc) (h2 : τ.1 224 2 = σ.1 224 2) (h4 : τ.1 224 4 = σ.1 224 4) (h6 : τ.2 226 = σ.2 226) (h7 : τ.1 227 = σ.1 227) : MInv τ hs sc := by
  obtain ⟨⟨a1, a2, a3⟩, b1, b2, b3, b4⟩ := h
  exact ⟨⟨a1, h2.trans a2, fun k hk j hj => by rw [h6]; exact a3 k hk j hj⟩, b1, b2, h4.trans b3, fun i hi => by rw [h7]; exact b4 i hi⟩
theorem MInv.q {σ τ : Mem} {hs : List (Nat → Int64)} {sc : List Nat} (h : MInv σ hs sc) (f : Fq σ τ) : MInv τ hs sc :=
  h.of (f.1 224 2 (by unfold mqI; omega)) (f.1 224 4 (by unfold mqI; omega)) (f.row (fun j => by unfold mqL; omega)) (f.rowI (fun j => by unfold mqI; omega))
theorem MInv.code {σ : Mem} {hs : List (Nat → Int64)} {sc : List Nat} {v : Int32} (h : MInv σ hs sc) : MInv (setI σ 224 5 v) hs sc :=
  h.of (mI_j (by omega)) (mI_j (by omega)) rfl (mI_p (by omega))
theorem MInv.m {σ : Mem} {hs : List (Nat → Int64)} {sc : List Nat} {j : Nat} {v : Int64} (h : MInv σ hs sc) : MInv (setL σ 225 j v) hs sc :=
  h.of rfl rfl (mL_p (by omega)) rfl
theorem keep_copy {σ : Mem} {k : Nat} (h2 : σ.1 224 2 = N4 k) (hk : k < 4) : ∃ τ, f_X12_keep_51 100000 (N4 0) σ = some τ ∧ τ.1 = σ.1 ∧ (∀ q, q ≠ 226 → τ.2 q = σ.2 q) ∧ (∀ j, j < 200 → τ.2 226 (200 * k + j) = σ.2 225 j) ∧ ∀ j, j < 200 * k → τ.2 226 j = σ.2 226 j := by
  refine loopU (fun n i τ => f_X12_keep_51 n (N4 i) τ) 200 (fun i τ => τ.1 = σ.1 ∧ (∀ q, q ≠ 226 → τ.2 q = σ.2 q) ∧ (∀ j, j < i → τ.2 226 (200 * k + j) = σ.2 225 j) ∧ ∀ j, j < 200 * k → τ.2 226 j = σ.2 226 j) (fun τ => τ.1 = σ.1 ∧ (∀ q, q ≠ 226 → τ.2 q = σ.2 q) ∧ (∀ j, j < 200 → τ.2 226 (200 * k + j) = σ.2 225 j) ∧ ∀ j, j < 200 * k → τ.2 226 j = σ.2 226 j) ?_ ?_ 100000 0 σ (by omega) (by omega) ⟨rfl, fun _ _ => rfl, fun j hj => by omega, fun _ _ => rfl⟩
  · intro n τ hP
    refine ⟨τ, ?_, hP⟩
    show f_X12_keep_51 (n + 1) (N4 200) τ = some τ
    rw [f_X12_keep_51, if_pos (show (200 : Int32) ≤ N4 200 from (n4_le (a := 200) (by omega) (by omega)).mpr (Nat.le_refl _))]
  · intro n i τ hi hP
    obtain ⟨p1, p2, p3, p4⟩ := hP
    show ∃ a', f_X12_keep_51 (n + 1) (N4 i) τ = _ ∧ _
    rw [f_X12_keep_51, if_neg (fun q => by have := (n4_le (a := 200) (by omega) (by omega)).mp q; omega), gd_inb (by omega) (by omega), p1, h2, show (200 : Int32) = N4 200 from rfl, n4_mul, n4_add, gd_inb (by omega) (by omega), n4_nat (by omega), n4_nat (by omega), n4_succ]
    refine ⟨_, rfl, p1, fun q hq => (mL_p hq).trans (p2 q hq), fun j hj => ?_, fun j hj => ?_⟩
    · by_cases e : j = i
      · rw [e, mL_e, p2 225 (by omega)]
      · rw [mL_j (by omega)]; exact p3 j (by omega)
    · rw [mL_j (by omega)]; exact p4 j hj
theorem keep_shift {σ : Mem} : ∃ τ, f_X12_keep_10 100000 (N4 0) σ = some τ ∧ τ.1 = σ.1 ∧ (∀ q, q ≠ 226 → τ.2 q = σ.2 q) ∧ (∀ j, j < 600 → τ.2 226 j = σ.2 226 (j + 200)) := by
  have key := loopU (fun n i τ => f_X12_keep_10 n (N4 i) τ) 600 (fun i τ => τ.1 = σ.1 ∧ (∀ q, q ≠ 226 → τ.2 q = σ.2 q) ∧ (∀ j, j < i → τ.2 226 j = σ.2 226 (j + 200)) ∧ ∀ j, i ≤ j → τ.2 226 j = σ.2 226 j) (fun τ => τ.1 = σ.1 ∧ (∀ q, q ≠ 226 → τ.2 q = σ.2 q) ∧ (∀ j, j < 600 → τ.2 226 j = σ.2 226 (j + 200))) ?_ ?_ 100000 0 σ (by omega) (by omega) ⟨rfl, fun _ _ => rfl, fun j hj => by omega, fun _ _ => rfl⟩
  · exact key
  · intro n τ hP
    refine ⟨τ, ?_, hP.1, hP.2.1, hP.2.2.1⟩
    show f_X12_keep_10 (n + 1) (N4 600) τ = some τ
    rw [f_X12_keep_10, if_pos (show (600 : Int32) ≤ N4 600 from (n4_le (a := 600) (by omega) (by omega)).mpr (Nat.le_refl _))]
  · intro n i τ hi hP
    obtain ⟨p1, p2, p3, p4⟩ := hP
    show ∃ a', f_X12_keep_10 (n + 1) (N4 i) τ = _ ∧ _
    rw [f_X12_keep_10, if_neg (fun q => by have := (n4_le (a := 600) (by omega) (by omega)).mp q; omega), show (200 : Int32) = N4 200 from rfl, n4_add, gd_inb (by omega) (by omega), gd_inb (by omega) (by omega), n4_nat (by omega), n4_nat (by omega), n4_succ]
    refine ⟨_, rfl, p1, fun q hq => (mL_p hq).trans (p2 q hq), fun j hj => ?_, fun j hj => ?_⟩
    · by_cases e : j = i
      · rw [e, mL_e, p4 _ (by omega)]
      · rw [mL_j (by omega)]; exact p3 j (by omega)
    · rw [mL_j (by omega)]; exact p4 j (by omega)
theorem push_len {hs : List (Nat → Int64)} {m : Nat → Int64} (h : hs.length ≤ 4) : (push hs m).length = (if hs.length = 4 then 4 else hs.length + 1) ∧ (push hs m).length ≤ 4 := by
  unfold push
  by_cases e : hs.length = 4
  · rw [if_pos e, if_pos e, List.length_append, List.length_drop, List.length_singleton]; omega
  · rw [if_neg e, if_neg e, List.length_append, List.length_singleton]; omega
theorem push_get {hs : List (Nat → Int64)} {m : Nat → Int64} (h : hs.length ≤ 4) (k : Nat) (hk : k < (push hs m).length) : (push hs m).getD k zr = if k + 1 = (push hs m).length then m else if hs.length = 4 then hs.getD (k + 1) zr else hs.getD k zr := by
  have hl := (push_len (m := m) h).1
  unfold push at hk hl ⊢
  by_cases e : hs.length = 4
  · simp only [if_pos e] at hk hl ⊢
    by_cases q : k = 3
    · subst q
      rw [if_pos (by rw [hl]), List.getD_eq_getElem?_getD, List.getElem?_append_right (by rw [List.length_drop]; omega), List.length_drop, e]
      rfl
    · rw [hl] at hk
      rw [if_neg (by rw [hl]; omega), List.getD_eq_getElem?_getD, List.getElem?_append_left (by rw [List.length_drop]; omega), List.getElem?_drop, List.getD_eq_getElem?_getD, Nat.add_comm 1 k]
  · simp only [if_neg e] at hk hl ⊢
    by_cases q : k = hs.length
    · subst q
      rw [if_pos (by rw [hl]), List.getD_eq_getElem?_getD, List.getElem?_append_right (Nat.le_refl _), Nat.sub_self]
      rfl
    · rw [hl] at hk
      rw [if_neg (by rw [hl]; omega), List.getD_eq_getElem?_getD, List.getElem?_append_left (by omega), List.getD_eq_getElem?_getD]
/-- what keeping writes -/
def mkI (q j : Nat) : Prop := q = 224 ∧ j = 2
def mkL (q _j : Nat) : Prop := q = 226
theorem m_keep {σ : Mem} {hs : List (Nat → Int64)} {sc : List Nat} (h : MInv σ hs sc) : ∃ τ, f_X12_keep σ = some τ ∧ Fz mkI mkL σ τ ∧ MInv τ (push hs (σ.2 225)) sc := by
  obtain ⟨⟨a1, a2, a3⟩, b1, b2, b3, b4⟩ := h
  obtain ⟨l1, l2⟩ := push_len (m := σ.2 225) a1
  have lg := push_get (m := σ.2 225) a1
  unfold f_X12_keep
  rw [a2]
  by_cases e : hs.length = 4
  · rw [if_pos (show N4 hs.length = 4 by rw [e]; rfl), show (0 : Int32) = N4 0 from rfl]
    obtain ⟨τ, c1, c2, c3, c4⟩ := keep_shift (σ := σ)
    rw [c1, bd_s, show τ.1 224 2 - 1 = N4 3 by rw [c2, a2, e]; rfl]
    obtain ⟨ρ, d1, d2, d3, d4, d5⟩ := keep_copy (σ := setI τ 224 2 (N4 3)) (k := 3) mI_e (by omega)
    rw [d1, bd_s, d2, mI_e]
    rw [if_pos e] at l1
    refine ⟨_, rfl, ⟨fun q j hq => ?_, fun q j hq => ?_⟩, ⟨l2, by rw [mI_e, l1]; rfl, fun k hk j hj => ?_⟩, b1, b2, ?_, fun i hi => ?_⟩
    · rw [mI_w, if_neg (fun x => hq ⟨x.1, x.2⟩), d2, mI_w, if_neg (fun x => hq ⟨x.1, x.2⟩), c2]
    · show ρ.2 q j = _
      rw [d3 q (fun x => hq x)]
      show τ.2 q j = _
      rw [c3 q (fun x => hq x)]
    · rw [lg k hk]
      show ρ.2 226 (200 * k + j) = _
      rw [l1] at hk ⊢
      by_cases q : k = 3
      · subst q
        rw [if_pos rfl, d4 j hj]
        show τ.2 225 j = _
        rw [c3 225 (by omega)]
      · rw [if_neg (by omega), if_pos e, d5 _ (by omega)]
        show τ.2 226 (200 * k + j) = _
        rw [c4 _ (by omega), show 200 * k + j + 200 = 200 * (k + 1) + j by omega]
        exact a3 (k + 1) (by omega) j hj
    · rw [mI_j (by omega), d2, mI_j (by omega), c2]; exact b3
    · rw [mI_p (by omega), d2, mI_p (by omega), c2]; exact b4 i hi
  · rw [if_neg (show ¬ N4 hs.length = 4 from fun q => e ((n4_eq (b := 4) (by omega) (by omega)).mp q)), show (0 : Int32) = N4 0 from rfl]
    obtain ⟨ρ, d1, d2, d3, d4, d5⟩ := keep_copy (σ := σ) (k := hs.length) a2 (by omega)
    rw [d1, bd_s, d2, a2, n4_succ]
    rw [if_neg e] at l1
    refine ⟨_, rfl, ⟨fun q j hq => ?_, fun q j hq => ?_⟩, ⟨l2, by rw [mI_e, l1], fun k hk j hj => ?_⟩, b1, b2, ?_, fun i hi => ?_⟩
    · rw [mI_w, if_neg (fun x => hq ⟨x.1, x.2⟩), d2]
    · show ρ.2 q j = _
      rw [d3 q (fun x => hq x)]
    · rw [lg k hk]
      show ρ.2 226 (200 * k + j) = _
      rw [l1] at hk ⊢
      by_cases q : k = hs.length
      · rw [if_pos (by omega), q, d4 j hj]
      · rw [if_neg (by omega), if_neg e, d5 _ (by omega)]
        exact a3 k (by omega) j hj
    · rw [mI_j (by omega), d2]; exact b3
    · rw [mI_p (by omega), d2]; exact b4 i hi
