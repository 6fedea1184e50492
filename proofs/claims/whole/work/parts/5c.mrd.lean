/-! ===== the reference reads its script ===== -/
/-- what reading writes -/
def mpI (q j : Nat) : Prop := q = 238 ∨ (q = 224 ∧ (j = 18 ∨ j = 19))
def mpL (_q _j : Nat) : Prop := False
def m8I (q j : Nat) : Prop := q = 224 ∧ j = 18
section MRD
variable {σ : Mem} {W H n : Nat} {hs : List (Nat → Int64)} {sc : List Nat} {m : Nat → Int64}
theorem MScr.of {τ : Mem} (h : MScr σ sc) (h4 : τ.1 224 4 = σ.1 224 4) (h7 : τ.1 227 = σ.1 227) : MScr τ sc := by
  obtain ⟨b1, b2, b3, b4⟩ := h
  exact ⟨b1, b2, h4.trans b3, fun i hi => by rw [h7]; exact b4 i hi⟩
theorem MScr.p {τ : Mem} (h : MScr σ sc) (f : Fz mpI mpL σ τ) : MScr τ sc := h.of (f.1 224 4 (by unfold mpI; omega)) (f.rowI (fun j => by unfold mpI; omega))
theorem m8_p {τ : Mem} (f : Fz m8I mpL σ τ) : Fz mpI mpL σ τ := f.mono (fun q j => by unfold m8I mpI; omega) (fun _ _ x => x)
theorem m_here {i : Nat} (h : MScr σ sc) (hi : σ.1 224 18 = N4 i) (hl : i ≤ sc.length) : f_X12_here σ = some (if i < sc.length then N4 (bat sc i) else -1) := by
  obtain ⟨b1, b2, b3, b4⟩ := h
  unfold f_X12_here
  rw [b3, hi]
  by_cases q : i < sc.length
  · rw [if_neg (fun e => by have := (n4_le (by omega) (by omega)).mp e; omega), if_pos q, gd_inb (by omega) (by omega), n4_nat (by omega), b4 i q]
    rfl
  · rw [if_pos ((n4_le (by omega) (by omega)).mpr (by omega)), if_neg q]
theorem m_spaces {i : Nat} (h : MScr σ sc) (hi : σ.1 224 18 = N4 i) (hl : i ≤ sc.length) : ∃ τ, f_X12_spaces σ = some (if nSp sc i = i then N4 0 else N4 1, τ) ∧ Fz m8I mpL σ τ ∧ τ.1 224 18 = N4 (nSp sc i) := by
  obtain ⟨b1, b2, b3, b4⟩ := h
  obtain ⟨g1, g2, g3, g4⟩ := nSp_s hl b1
  obtain ⟨τ, a1, a2, a3⟩ := loopU (fun k j τ => f_X12_spaces_5 (N4 i) k τ) (nSp sc i) (fun j τ => i ≤ j ∧ Fz m8I mpL σ τ ∧ τ.1 224 18 = N4 j) (fun τ => Fz m8I mpL σ τ ∧ τ.1 224 18 = N4 (nSp sc i)) (by
      intro k τ hP
      obtain ⟨p0, p1, p2⟩ := hP
      have hM : MScr τ sc := MScr.p ⟨b1, b2, b3, b4⟩ (m8_p p1)
      refine ⟨τ, ?_, p1, p2⟩
      show f_X12_spaces_5 (N4 i) (k + 1) τ = some τ
      rw [f_X12_spaces_5, m_here hM p2 g2, bd_s]
      by_cases q : nSp sc i < sc.length
      · have h32 := g3 q
        simp only [isSp, decide_eq_false_iff_not] at h32
        have := b2 _ q
        rw [if_pos q, if_neg (show ¬ N4 (bat sc (nSp sc i)) = 32 from fun e => h32 ((n4_eq (b := 32) (by unfold bat; omega) (by omega)).mp e))]
      · rw [if_neg q, if_neg (by decide)]) (by
      intro k j τ hj hP
      obtain ⟨p0, p1, p2⟩ := hP
      have hM : MScr τ sc := MScr.p ⟨b1, b2, b3, b4⟩ (m8_p p1)
      have h32 := g4 j p0 hj
      simp only [isSp, decide_eq_true_eq] at h32
      show ∃ a', f_X12_spaces_5 (N4 i) (k + 1) τ = _ ∧ _
      rw [f_X12_spaces_5, m_here hM p2 (by omega), bd_s, if_pos (show j < sc.length by omega), h32, if_pos (show N4 32 = 32 from rfl), p2, n4_succ]
      exact ⟨_, rfl, by omega, p1.i ⟨rfl, rfl⟩, mI_e⟩) 100000 i σ g1 (by omega) ⟨Nat.le_refl i, Fz.rfl, hi⟩
  unfold f_X12_spaces
  rw [hi, a1, bd_s, a3]
  by_cases q : nSp sc i = i
  · rw [if_pos ((n4_le (by omega) (by omega)).mpr (by omega)), if_pos q]
    exact ⟨τ, rfl, a2, a3⟩
  · rw [if_neg (fun e => q (by have := (n4_le (by omega) (by omega)).mp e; omega)), if_neg q]
    exact ⟨τ, rfl, a2, a3⟩
theorem in_n4 {c lo hi : Nat} (hc : c < 2147483648) (hlo : lo < 2147483648) (hhi : hi < 2147483648) : f_X12_in (N4 c).toInt64 (N8 lo) (N8 hi) σ = some (if lo ≤ c ∧ c ≤ hi then 1 else 0) := by
  rw [b4_in, n4_64 hc]
  simp only [n8_le (show lo < 9223372036854775808 by omega) (show c < 9223372036854775808 by omega), n8_le (show c < 9223372036854775808 by omega) (show hi < 9223372036854775808 by omega)]
theorem in_m1 {lo hi : Nat} (hlo : lo < 2147483648) : f_X12_in (-1 : Int32).toInt64 (N8 lo) (N8 hi) σ = some 0 := by
  rw [b4_in, if_neg]
  intro q
  have := Int64.le_iff_toInt_le.mp q.1
  rw [n8_int (by omega), Int32.toInt_toInt64, show (-1 : Int32).toInt = -1 from rfl] at this
  omega
theorem here_in {i lo hi : Nat} {p : List Nat → Nat → Bool} (hb : ∀ x, x < sc.length → bat sc x < 128) (hp : ∀ j, p sc j = decide (lo ≤ bat sc j ∧ bat sc j ≤ hi)) (hlo : lo < 200) (hhi : hi < 200) : f_X12_in (if i < sc.length then N4 (bat sc i) else -1 : Int32).toInt64 (N8 lo) (N8 hi) σ = some (if i < sc.length ∧ p sc i = true then 1 else 0) := by
  by_cases q : i < sc.length
  · have := hb i q
    rw [if_pos q, in_n4 (by omega) (by omega) (by omega)]
    simp only [hp, decide_eq_true_eq, q, true_and]
  · rw [if_neg q, in_m1 (by omega), if_neg (fun e => q e.1)]
theorem MScr.b (h : MScr σ sc) : ∀ x, x < sc.length → bat sc x < 128 := h.2.1
/-! a word -/
theorem wcode_63 {i k : Nat} (hb : ∀ x, x < sc.length → bat sc x < 128) (h : i + k ≤ sc.length) (hk : k ≤ 6) : wcode sc i k < 4398046511104 := by
  have h1 := wcode_lt (j := i) hb k h
  have h2 : 128 ^ k ≤ 128 ^ 6 := Nat.pow_le_pow_right (by omega) hk
  have : 128 ^ 6 = 4398046511104 := by decide
  omega
theorem m_word {i : Nat} {x1 : Int32} (h : MScr σ sc) (hi : σ.1 224 18 = N4 i) (hl : i ≤ sc.length) : ∃ q, f_X12_readWord_7 x1 (N4 i) 100000 0 σ = some q ∧ Fz m8I mpL σ q.2 ∧ q.2.1 224 18 = N4 (nLe sc i) ∧ (nLe sc i - i ≤ 6 → q.1 = N8 (wcode sc i (nLe sc i - i))) := by
  have hb := h.b
  obtain ⟨b1, b2, b3, b4⟩ := h
  obtain ⟨g1, g2, g3, g4⟩ := nLe_s hl b1
  refine loopU (fun k j (a : Int64 × Mem) => f_X12_readWord_7 x1 (N4 i) k a.1 a.2) (nLe sc i) (fun j a => i ≤ j ∧ Fz m8I mpL σ a.2 ∧ a.2.1 224 18 = N4 j ∧ (j - i ≤ 6 → a.1 = N8 (wcode sc i (j - i)))) (fun a => Fz m8I mpL σ a.2 ∧ a.2.1 224 18 = N4 (nLe sc i) ∧ (nLe sc i - i ≤ 6 → a.1 = N8 (wcode sc i (nLe sc i - i)))) ?_ ?_ 100000 i (0, σ) g1 (by omega) ⟨Nat.le_refl i, Fz.rfl, hi, fun _ => by rw [Nat.sub_self]; rfl⟩
  · rintro k ⟨a, τ⟩ ⟨p0, p1, p2, p3⟩
    have hM : MScr τ sc := MScr.p ⟨b1, b2, b3, b4⟩ (m8_p p1)
    refine ⟨(a, τ), ?_, p1, p2, p3⟩
    show f_X12_readWord_7 x1 (N4 i) (k + 1) a τ = some (a, τ)
    rw [f_X12_readWord_7, m_here hM p2 g2, bd_s, show (97 : Int64) = N8 97 from rfl, show (122 : Int64) = N8 122 from rfl, here_in (p := isLe) hb (fun _ => rfl) (by omega) (by omega), bd_s, if_pos (b4_f (fun e => by rw [g3 e.1] at e; cases e.2))]
  · rintro k j ⟨a, τ⟩ hj ⟨p0, p1, p2, p3⟩
    have hM : MScr τ sc := MScr.p ⟨b1, b2, b3, b4⟩ (m8_p p1)
    have hle := g4 j p0 hj
    have hcc : j < sc.length ∧ isLe sc j = true := ⟨by omega, hle⟩
    have hbj := hb j (by omega)
    have p2' : τ.1 224 18 = N4 j := p2
    show ∃ a' : Int64 × Mem, f_X12_readWord_7 x1 (N4 i) (k + 1) a τ = _ ∧ _
    rw [f_X12_readWord_7, m_here hM p2 (by omega), bd_s, show (97 : Int64) = N8 97 from rfl, show (122 : Int64) = N8 122 from rfl, here_in (p := isLe) hb (fun _ => rfl) (by omega) (by omega), bd_s, if_neg (b4_t hcc), p2', n4_sub p0, n4_succ]
    by_cases q : 6 ≤ j - i
    · rw [if_pos (show (6 : Int32) ≤ N4 (j - i) from (n4_le (a := 6) (by omega) (by omega)).mpr q)]
      exact ⟨(_, _), rfl, by omega, p1.i ⟨rfl, rfl⟩, mI_e, fun e => by omega⟩
    · rw [if_neg (show ¬ (6 : Int32) ≤ N4 (j - i) from fun e => q ((n4_le (a := 6) (by omega) (by omega)).mp e)), bd_s, if_pos (show j < sc.length by omega)]
      refine ⟨(_, _), rfl, by omega, p1.i ⟨rfl, rfl⟩, mI_e, fun e => ?_⟩
      show a * 128 + (N4 (bat sc j)).toInt64 = _
      rw [show a = N8 (wcode sc i (j - i)) from p3 (by omega), show (128 : Int64) = N8 128 from rfl, n4_64 (by omega), n8_mul, n8_add, show j + 1 - i = (j - i) + 1 by omega]
      show _ = N8 (wcode sc i (j - i) * 128 + bat sc (i + (j - i)))
      rw [show i + (j - i) = j by omega]
theorem m_kind {c : Nat} (hc : c < 9223372036854775808) : f_X12_kindOf (N8 c) σ = some (if kd c = 8 then -1 else N4 (kd c)) := by
  have e : ∀ k, k < 9223372036854775808 → (N8 c = N8 k ↔ c = k) := fun k hk => n8_eq hc hk
  unfold f_X12_kindOf kd
  rw [show (1880313 : Int64) = N8 1880313 from rfl, show (1931749 : Int64) = N8 1931749 from rfl, show (209286764 : Int64) = N8 209286764 from rfl, show (245152485 : Int64) = N8 245152485 from rfl, show (244872677 : Int64) = N8 244872677 from rfl, show (31121306352 : Int64) = N8 31121306352 from rfl, show (3980863994472 : Int64) = N8 3980863994472 from rfl, show (215643756 : Int64) = N8 215643756 from rfl]
  simp only [e 1880313 (by omega), e 1931749 (by omega), e 209286764 (by omega), e 245152485 (by omega), e 244872677 (by omega), e 31121306352 (by omega), e 3980863994472 (by omega), e 215643756 (by omega)]
  by_cases h1 : c = 1880313
  · simp only [h1]; rfl
  · simp only [if_neg h1]
    by_cases h2 : c = 1931749
    · simp only [h2]; rfl
    · simp only [if_neg h2]
      by_cases h3 : c = 209286764
      · simp only [h3]; rfl
      · simp only [if_neg h3]
        by_cases h4 : c = 245152485
        · simp only [h4]; rfl
        · simp only [if_neg h4]
          by_cases h5 : c = 244872677
          · simp only [h5]; rfl
          · simp only [if_neg h5]
            by_cases h6 : c = 31121306352
            · simp only [h6]; rfl
            · simp only [if_neg h6]
              by_cases h7 : c = 3980863994472
              · simp only [h7]; rfl
              · simp only [if_neg h7]
                by_cases h8 : c = 215643756
                · simp only [h8]; rfl
                · simp only [if_neg h8]; rfl
theorem m_readWord {i row : Nat} (h : MScr σ sc) (hi : σ.1 224 18 = N4 i) (hl : i ≤ sc.length) (hr : row < 90) : ∃ τ, f_X12_readWord (N4 row) σ = some (if wkd sc i = 8 then N4 0 else N4 1, τ) ∧ Fz mpI mpL σ τ ∧ (∀ j, j ≠ row → τ.1 238 j = σ.1 238 j) ∧ τ.1 224 19 = σ.1 224 19 ∧ τ.1 224 18 = N4 (if wkd sc i = 8 then i else nLe sc i) ∧ (wkd sc i ≠ 8 → τ.1 238 row = N4 (wkd sc i)) := by
  have hb := h.b
  have b1 := h.1
  obtain ⟨g1, g2, g3, g4⟩ := nLe_s hl b1
  obtain ⟨⟨q1, q2⟩, a1, a2, a3, a4⟩ := m_word (x1 := N4 row) h hi hl
  have a3' : q2.1 224 18 = N4 (nLe sc i) := a3
  have F2 := m8_p a2
  have a2' : Fz m8I mpL σ q2 := a2
  have e19 : q2.1 224 19 = σ.1 224 19 := a2'.1 224 19 (by unfold m8I; omega)
  have e238 : q2.1 238 = σ.1 238 := a2'.rowI (fun j => by unfold m8I; omega)
  unfold f_X12_readWord
  rw [hi, a1, bd_s, a3']
  by_cases q : nLe sc i = i
  · have hw : wkd sc i = 8 := by unfold wkd; rw [if_pos (Or.inl q)]
    rw [if_pos (by rw [q]), if_pos hw, if_pos hw]
    exact ⟨q2, rfl, F2, fun j _ => by rw [e238], e19, by rw [a3', q], fun e => absurd hw e⟩
  · rw [if_neg (fun e => q ((n4_eq (by omega) (by omega)).mp e)), n4_sub g1]
    by_cases q6 : nLe sc i - i ≤ 6
    · have hw : wkd sc i = kd (wcode sc i (nLe sc i - i)) := by unfold wkd; rw [if_neg (by omega)]
      have hc := wcode_63 (i := i) (k := nLe sc i - i) hb (by omega) q6
      have hkl := kd_le (wcode sc i (nLe sc i - i))
      rw [if_pos (show N4 (nLe sc i - i) ≤ 6 from (n4_le (b := 6) (by omega) (by omega)).mpr q6), show q1 = N8 (wcode sc i (nLe sc i - i)) from a4 q6, m_kind (by omega), bd_s, ← hw, gd_inb (by omega) (by omega), gd_inb (by omega) (by omega), gd_inb (by omega) (by omega), gd_inb (by omega) (by omega), n4_nat (by omega), mI_e]
      by_cases q8 : wkd sc i = 8
      · rw [if_pos q8, if_pos q8, if_pos q8, if_pos rfl, mI_p (by omega), mI_e, if_pos rfl]
        refine ⟨_, rfl, (F2.i (by unfold mpI; omega)).i (by unfold mpI; omega), fun j hj => ?_, ?_, mI_e, fun e => absurd q8 e⟩
        · rw [mI_p (by omega), mI_j hj, e238]
        · rw [mI_j (by omega), mI_p (by omega), e19]
      · rw [if_neg q8, if_neg q8, if_neg q8, if_neg (n4_neg (by omega)), mI_p (by omega), mI_e, if_neg (n4_neg (by omega))]
        refine ⟨_, rfl, (F2.i (by unfold mpI; omega)).i (by unfold mpI; omega), fun j hj => ?_, ?_, ?_, fun _ => ?_⟩
        · rw [mI_p (by omega), mI_j hj, e238]
        · rw [mI_j (by omega), mI_p (by omega), e19]
        · rw [mI_e, mI_p (by omega)]; exact a3'
        · rw [mI_p (by omega), mI_e]
    · have hw : wkd sc i = 8 := by unfold wkd; rw [if_pos (Or.inr (by omega))]
      rw [if_neg (show ¬ N4 (nLe sc i - i) ≤ 6 from fun e => q6 ((n4_le (b := 6) (by omega) (by omega)).mp e)), gd_inb (by omega) (by omega), gd_inb (by omega) (by omega), gd_inb (by omega) (by omega), gd_inb (by omega) (by omega), n4_nat (by omega), mI_e, if_pos rfl, mI_p (by omega), mI_e, if_pos rfl, if_pos hw, if_pos hw]
      refine ⟨_, rfl, (F2.i (by unfold mpI; omega)).i (by unfold mpI; omega), fun j hj => ?_, ?_, mI_e, fun e => absurd hw e⟩
      · rw [mI_p (by omega), mI_j hj, e238]
      · rw [mI_j (by omega), mI_p (by omega), e19]
/-! a number -/
theorem dval_bd {i : Nat} (hd : ∀ j, i ≤ j → j < i + 6 → isDg sc j = true → bat sc j ≤ 57) : ∀ k, k ≤ 6 → (∀ j, i ≤ j → j < i + k → isDg sc j = true) → dval sc i k < 10 ^ k
  | 0, _, _ => by simp [dval]
  | k + 1, h, h2 => by
    have := dval_bd hd k (by omega) (fun j a b => h2 j a (by omega))
    have := hd (i + k) (by omega) (by omega) (h2 (i + k) (by omega) (by omega))
    unfold dval
    rw [Nat.pow_succ]
    omega
theorem dg_57 {j : Nat} (h : isDg sc j = true) : 48 ≤ bat sc j ∧ bat sc j ≤ 57 := by
  simpa [isDg] using h
theorem m_digits {i : Nat} {x1 : Int32} (h : MScr σ sc) (hi : σ.1 224 18 = N4 i) (hl : i ≤ sc.length) : ∃ τ, f_X12_readNumber_16 x1 (N4 i) 100000 0 σ = some (N4 (dval sc i (eDg sc i - i)), τ) ∧ Fz m8I mpL σ τ ∧ τ.1 224 18 = N4 (eDg sc i) := by
  have hb := h.b
  obtain ⟨b1, b2, b3, b4⟩ := h
  obtain ⟨g1, g2, g3, g4, g5⟩ := eDg_s hl b1
  obtain ⟨⟨q1, q2⟩, c1, c2, c3, c4⟩ := loopU (fun k j (a : Int32 × Mem) => f_X12_readNumber_16 x1 (N4 i) k a.1 a.2) (eDg sc i) (fun j a => i ≤ j ∧ Fz m8I mpL σ a.2 ∧ a.2.1 224 18 = N4 j ∧ a.1 = N4 (dval sc i (j - i))) (fun a => Fz m8I mpL σ a.2 ∧ a.2.1 224 18 = N4 (eDg sc i) ∧ a.1 = N4 (dval sc i (eDg sc i - i))) (by
      rintro k ⟨a, τ⟩ ⟨p0, p1, p2, p3⟩
      have hM : MScr τ sc := MScr.p ⟨b1, b2, b3, b4⟩ (m8_p p1)
      have p2' : τ.1 224 18 = N4 (eDg sc i) := p2
      refine ⟨(a, τ), ?_, p1, p2, p3⟩
      show f_X12_readNumber_16 x1 (N4 i) (k + 1) a τ = some (a, τ)
      rw [f_X12_readNumber_16, p2', show (6 : Int32) = N4 6 from rfl, n4_add]
      by_cases q : i + 6 ≤ eDg sc i
      · rw [if_pos ((n4_le (by omega) (by omega)).mpr q)]
      · rw [if_neg (fun e => q ((n4_le (by omega) (by omega)).mp e)), m_here hM p2 g2, bd_s, show (48 : Int64) = N8 48 from rfl, show (57 : Int64) = N8 57 from rfl, here_in (p := isDg) hb (fun _ => rfl) (by omega) (by omega), bd_s, if_pos (b4_f (fun e => by rw [g4 (by omega) e.1] at e; cases e.2))]) (by
      rintro k j ⟨a, τ⟩ hj ⟨p0, p1, p2, p3⟩
      have hM : MScr τ sc := MScr.p ⟨b1, b2, b3, b4⟩ (m8_p p1)
      have hdg := g5 j p0 hj
      have hcc : j < sc.length ∧ isDg sc j = true := ⟨by omega, hdg⟩
      have h48 := dg_57 hdg
      have p2' : τ.1 224 18 = N4 j := p2
      have p3' : a = N4 (dval sc i (j - i)) := p3
      show ∃ a' : Int32 × Mem, f_X12_readNumber_16 x1 (N4 i) (k + 1) a τ = _ ∧ _
      rw [f_X12_readNumber_16, p2', show (6 : Int32) = N4 6 from rfl, n4_add, if_neg (fun e => by have := (n4_le (by omega) (by omega)).mp e; omega), m_here hM p2 (by omega), bd_s, show (48 : Int64) = N8 48 from rfl, show (57 : Int64) = N8 57 from rfl, here_in (p := isDg) hb (fun _ => rfl) (by omega) (by omega), bd_s, if_neg (b4_t hcc), bd_s, if_pos (show j < sc.length by omega), n4_succ, p3', show (10 : Int32) = N4 10 from rfl, show (48 : Int32) = N4 48 from rfl, n4_mul, n4_add, n4_sub (by omega)]
      refine ⟨(_, _), rfl, by omega, p1.i ⟨rfl, rfl⟩, mI_e, ?_⟩
      show N4 _ = N4 _
      rw [show j + 1 - i = (j - i) + 1 by omega]
      show _ = N4 (10 * dval sc i (j - i) + (bat sc (i + (j - i)) - 48))
      rw [show i + (j - i) = j by omega]
      congr 1
      omega) 100000 i (0, σ) g1 (by omega) ⟨Nat.le_refl i, Fz.rfl, hi, by rw [Nat.sub_self]; rfl⟩
  obtain rfl : q1 = _ := c4
  exact ⟨q2, c1, c2, c3⟩
theorem m_readNumber {i row : Nat} (h : MScr σ sc) (hi : σ.1 224 18 = N4 i) (hl : i ≤ sc.length) (hr : row < 90) : ∃ τ, f_X12_readNumber (N4 row) σ = some (if (sNum sc i).1 = true then N4 1 else N4 0, τ) ∧ Fz mpI mpL σ τ ∧ (∀ j, j ≠ row → τ.1 238 j = σ.1 238 j) ∧ τ.1 224 19 = σ.1 224 19 ∧ τ.1 224 18 = N4 (sNum sc i).2.1 ∧ ((sNum sc i).1 = true → τ.1 238 row = N4 (sNum sc i).2.2) := by
  have hb := h.b
  have b1 := h.1
  obtain ⟨s1, s2, -⟩ := nSp_s hl b1
  obtain ⟨τ, a1, a2, a3⟩ := m_spaces h hi hl
  have e19 : τ.1 224 19 = σ.1 224 19 := a2.1 224 19 (by unfold m8I; omega)
  have e238 : τ.1 238 = σ.1 238 := a2.rowI (fun j => by unfold m8I; omega)
  unfold f_X12_readNumber sNum
  rw [a1, bd_s]
  by_cases q : nSp sc i = i
  · rw [if_pos q, if_pos (show N4 0 = 0 from rfl), if_pos q]
    exact ⟨τ, rfl, m8_p a2, fun j _ => by rw [e238], e19, by rw [a3, q], fun e => nomatch e⟩
  · obtain ⟨g1, g2, g3, g4, g5⟩ := eDg_s s2 b1
    obtain ⟨ρ, c1, c2, c3⟩ := m_digits (x1 := N4 row) (h.p (m8_p a2)) a3 s2
    have F2 : Fz mpI mpL σ ρ := (m8_p a2).trans (m8_p c2)
    have f19 : ρ.1 224 19 = σ.1 224 19 := (c2.1 224 19 (by unfold m8I; omega)).trans e19
    have f238 : ρ.1 238 = σ.1 238 := (c2.rowI (fun j => by unfold m8I; omega)).trans e238
    have hF3 : Fz mpI mpL σ (setI ρ 238 row (N4 (dval sc (nSp sc i) (eDg sc (nSp sc i) - nSp sc i)))) := F2.i (by unfold mpI; omega)
    have h18 : (setI ρ 238 row (N4 (dval sc (nSp sc i) (eDg sc (nSp sc i) - nSp sc i)))).1 224 18 = N4 (eDg sc (nSp sc i)) := (congrFun (mI_p (by omega)) 18).trans c3
    have fin : ∀ b : Bool, Fz mpI mpL σ (setI ρ 238 row (N4 (dval sc (nSp sc i) (eDg sc (nSp sc i) - nSp sc i)))) ∧ (∀ j, j ≠ row → (setI ρ 238 row (N4 (dval sc (nSp sc i) (eDg sc (nSp sc i) - nSp sc i)))).1 238 j = σ.1 238 j) ∧ (setI ρ 238 row (N4 (dval sc (nSp sc i) (eDg sc (nSp sc i) - nSp sc i)))).1 224 19 = σ.1 224 19 ∧ (setI ρ 238 row (N4 (dval sc (nSp sc i) (eDg sc (nSp sc i) - nSp sc i)))).1 224 18 = N4 (eDg sc (nSp sc i)) ∧ (b = true → (setI ρ 238 row (N4 (dval sc (nSp sc i) (eDg sc (nSp sc i) - nSp sc i)))).1 238 row = N4 (dval sc (nSp sc i) (eDg sc (nSp sc i) - nSp sc i))) := fun b =>
      ⟨hF3, fun j hj => by rw [mI_j hj, f238], by rw [mI_p (by omega)]; exact f19, h18, fun _ => mI_e⟩
    rw [if_neg q, if_neg (show ¬ N4 1 = 0 by decide), a3]
    have c1' : f_X12_readNumber_16 (N4 row) (N4 (nSp sc i)) 100000 0 τ = _ := c1
    rw [c1', bd_s, gd_inb (by omega) (by omega), n4_nat (by omega), h18, if_neg q]
    by_cases q1 : nSp sc i < eDg sc (nSp sc i)
    · rw [if_neg (fun e => by have := (n4_le (by omega) (by omega)).mp e; omega), m_here (h.p hF3) h18 g2, bd_s, show (48 : Int64) = N8 48 from rfl, show (57 : Int64) = N8 57 from rfl, here_in (p := isDg) hb (fun _ => rfl) (by omega) (by omega), bd_s]
      by_cases q2 : eDg sc (nSp sc i) < sc.length ∧ isDg sc (eDg sc (nSp sc i)) = true
      · have hf : (decide (nSp sc i < eDg sc (nSp sc i)) && !(decide (eDg sc (nSp sc i) < sc.length) && isDg sc (eDg sc (nSp sc i)))) = false := by simp [q2.1, q2.2]
        rw [if_neg (b4_t q2), hf]
        exact ⟨_, rfl, fin false⟩
      · have hf : (decide (nSp sc i < eDg sc (nSp sc i)) && !(decide (eDg sc (nSp sc i) < sc.length) && isDg sc (eDg sc (nSp sc i)))) = true := by
          rw [Bool.and_eq_true, decide_eq_true_eq, Bool.not_eq_true', Bool.and_eq_false_iff, decide_eq_false_iff_not]
          refine ⟨q1, ?_⟩
          by_cases e : eDg sc (nSp sc i) < sc.length
          · exact Or.inr (eq_false_of_ne_true (fun x => q2 ⟨e, x⟩))
          · exact Or.inl e
        rw [if_pos (b4_f q2), hf]
        exact ⟨_, rfl, fin true⟩
    · have hf : (decide (nSp sc i < eDg sc (nSp sc i)) && !(decide (eDg sc (nSp sc i) < sc.length) && isDg sc (eDg sc (nSp sc i)))) = false := by simp [q1]
      rw [if_pos ((n4_le (by omega) (by omega)).mpr (by omega)), hf]
      exact ⟨_, rfl, fin false⟩
end MRD
