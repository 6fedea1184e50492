/-! ===== the class reads words ===== -/
def lcode (g : Nat → Nat) : Nat → Nat
  | 0 => 0
  | k + 1 => lcode g k * 128 + g k
theorem lcode_inj {g g' : Nat → Nat} : ∀ K L, (∀ t, t < K → 1 ≤ g t ∧ g t < 128) → (∀ t, t < L → 1 ≤ g' t ∧ g' t < 128) → lcode g K = lcode g' L → K = L ∧ ∀ t, t < K → g t = g' t
  | 0, 0, _, _, _ => ⟨rfl, fun t ht => absurd ht (Nat.not_lt_zero t)⟩
  | 0, L + 1, _, h2, e => by
    have := h2 L (by omega)
    have e' : 0 = lcode g' L * 128 + g' L := e
    omega
  | K + 1, 0, h1, _, e => by
    have := h1 K (by omega)
    have e' : lcode g K * 128 + g K = 0 := e
    omega
  | K + 1, L + 1, h1, h2, e => by
    have a := h1 K (by omega)
    have b := h2 L (by omega)
    have e' : lcode g K * 128 + g K = lcode g' L * 128 + g' L := e
    obtain ⟨i1, i2⟩ := lcode_inj K L (fun t ht => h1 t (by omega)) (fun t ht => h2 t (by omega)) (by omega)
    refine ⟨by omega, fun t ht => ?_⟩
    by_cases q : t = K
    · rw [q]
      have : g' K = g' L := by rw [i1]
      omega
    · exact i2 t (by omega)
theorem wcode_l (sc : List Nat) (i : Nat) : ∀ k, wcode sc i k = lcode (fun t => bat sc (i + t)) k
  | 0 => rfl
  | k + 1 => by
    show wcode sc i k * 128 + bat sc (i + k) = _
    rw [wcode_l sc i k]
    rfl
theorem lcode_c {g g' : Nat → Nat} : ∀ k, (∀ t, t < k → g t = g' t) → lcode g k = lcode g' k
  | 0, _ => rfl
  | k + 1, h => by
    show lcode g k * 128 + g k = lcode g' k * 128 + g' k
    rw [lcode_c k (fun t ht => h t (by omega)), h k (by omega)]
def wL (w : Nat) : List Nat := (wBy.getD w []).map Int32.toNatClampNeg
def kOf (w : Nat) : Nat := [0, 2, 3, 4, 5, 6, 7, 1].getD w 8
def wOf (k : Nat) : Nat := [0, 7, 1, 2, 3, 4, 5, 6].getD k 8
def kcd (k : Nat) : Nat := [1880313, 1931749, 209286764, 245152485, 244872677, 31121306352, 3980863994472, 215643756].getD k 0
theorem wL_f : ∀ w, w < 8 → (wLe.getD w 0 = (wL w).length ∧ 3 ≤ (wL w).length ∧ (wL w).length ≤ 6 ∧ lcode (fun t => (wL w).getD t 0) (wL w).length = kcd (kOf w) ∧ kd (kcd (kOf w)) = kOf w ∧ kOf w < 8 ∧ wOf (kOf w) = w) := by decide +kernel
theorem wL_b : ∀ w, w < 8 → ∀ j, j < 6 → ((wL w).length ≤ j ∨ ((wBy.getD w []).getD j 0 = N4 ((wL w).getD j 0) ∧ 1 ≤ (wL w).getD j 0 ∧ (wL w).getD j 0 < 128)) := by decide +kernel
theorem kOf_w : ∀ k, k < 8 → (kOf (wOf k) = k ∧ wOf k < 8) := by decide
theorem kd_inv (c : Nat) (h : kd c ≠ 8) : c = kcd (kd c) := by
  revert h
  unfold kd
  repeat' split
  all_goals intro h
  all_goals first | exact absurd rfl h | assumption
section CSCR1
variable {σ τ : Mem} {sc : List Nat}
/-- what the reading of a script writes -/
def c6I (q j : Nat) : Prop := q = 219 ∧ j = 6
def csrI (q j : Nat) : Prop := (q = 219 ∧ (j = 5 ∨ j = 6)) ∨ q = 221 ∨ q = 222 ∨ q = 223
theorem CScr.p (h : CScr σ sc) (f : Fz csrI noL σ τ) : CScr τ sc :=
  ⟨h.1, h.2.1, by rw [f.1 219 1 (by unfold csrI; omega)]; exact h.2.2.1, fun i hi => by rw [f.1 220 i (by unfold csrI; omega)]; exact h.2.2.2 i hi⟩
theorem c6_p (f : Fz c6I noL σ τ) : Fz csrI noL σ τ := f.mono (fun q j => by unfold c6I csrI; omega) (fun _ _ h => h)
theorem c_spaces {i : Nat} (h : CScr σ sc) (hi : σ.1 219 6 = N4 i) (hl : i ≤ sc.length) : ∃ τ, f_X5_skipSpaces σ = some (if nSp sc i = i then 0 else 1, τ) ∧ Fz c6I noL σ τ ∧ τ.1 219 6 = N4 (nSp sc i) := by
  have b1 := h.1
  obtain ⟨s1, s2, s3, s4⟩ := nSp_s hl h.1
  have hb : ∀ τ, Fz c6I noL σ τ → ∀ j, j < sc.length → τ.1 219 1 = N4 sc.length ∧ (τ.1 220 j = 32 ↔ isSp sc j = true) := fun τ f j hj => by
    have h' := h.p (c6_p f)
    refine ⟨h'.2.2.1, ?_⟩
    rw [h'.2.2.2 j hj]
    have := h.2.1 j hj
    unfold isSp bat
    rw [decide_eq_true_eq]
    exact n4_eq (b := 32) (by omega) (by omega)
  obtain ⟨τ, a1, a2, a3⟩ := loopU (fun k i τ => f_X5_skipSpaces_5 (σ.1 219 6) k τ) (nSp sc i) (fun j τ => i ≤ j ∧ τ.1 219 6 = N4 j ∧ Fz c6I noL σ τ) (fun τ => τ.1 219 6 = N4 (nSp sc i) ∧ Fz c6I noL σ τ) (by
      intro k τ hP
      refine ⟨τ, ?_, hP.2⟩
      have h19 := (h.p (c6_p hP.2.2)).2.2.1
      rw [f_X5_skipSpaces_5, h19, hP.2.1]
      by_cases e : nSp sc i = sc.length
      · rw [if_pos ((n4_le (by omega) (by omega)).mpr (by omega))]
      · rw [if_neg (fun q => by have := (n4_le (by omega) (by omega)).mp q; omega), gd_inb (by omega) (by omega), n4_nat (by omega), if_neg (fun q => by have := ((hb τ hP.2.2 _ (by omega)).2.mp q); rw [s3 (by omega)] at this; cases this)]) (by
      intro k j τ hj hP
      obtain ⟨p0, p1, p2⟩ := hP
      have h19 := (h.p (c6_p p2)).2.2.1
      show ∃ a', f_X5_skipSpaces_5 (σ.1 219 6) (k + 1) τ = _ ∧ _
      rw [f_X5_skipSpaces_5, h19, p1, if_neg (fun q => by have := (n4_le (by omega) (by omega)).mp q; omega), gd_inb (by omega) (by omega), n4_nat (by omega), if_pos ((hb τ p2 j (by omega)).2.mpr (s4 j p0 hj)), n4_succ]
      exact ⟨_, rfl, by omega, mI_e, p2.i (by unfold c6I; omega)⟩) 100000 i σ s1 (by omega) ⟨Nat.le_refl i, hi, Fz.rfl⟩
  unfold f_X5_skipSpaces
  rw [a1, bd_s, a2, hi]
  refine ⟨τ, ?_, a3, a2⟩
  by_cases e : nSp sc i = i
  · rw [if_pos e, if_pos ((n4_le (by omega) (by omega)).mpr (by omega))]
  · rw [if_neg e, if_neg (fun q => by have := (n4_le (by omega) (by omega)).mp q; omega)]
theorem c_letters {i : Nat} (h : CScr σ sc) (hi : σ.1 219 6 = N4 i) (hl : i ≤ sc.length) : ∃ τ, f_X5_skipLetters σ = some τ ∧ Fz c6I noL σ τ ∧ τ.1 219 6 = N4 (nLe sc i) := by
  have b1 := h.1
  obtain ⟨s1, s2, s3, s4⟩ := nLe_s hl h.1
  have hb : ∀ τ, Fz c6I noL σ τ → ∀ j, j < sc.length → (¬ τ.1 220 j < 97 ∧ ¬ 122 < τ.1 220 j ↔ isLe sc j = true) := fun τ f j hj => by
    have h' := h.p (c6_p f)
    rw [h'.2.2.2 j hj]
    have := h.2.1 j hj
    have e1 : N4 (sc.getD j 0) < 97 ↔ sc.getD j 0 < 97 := n4_lt (b := 97) (by omega) (by omega)
    have e2 : 122 < N4 (sc.getD j 0) ↔ 122 < sc.getD j 0 := n4_lt (a := 122) (by omega) (by omega)
    unfold isLe bat
    rw [decide_eq_true_eq, e1, e2]
    omega
  obtain ⟨τ, a1, a2, a3⟩ := loopU (fun k i τ => f_X5_skipLetters_0 k τ) (nLe sc i) (fun j τ => i ≤ j ∧ τ.1 219 6 = N4 j ∧ Fz c6I noL σ τ) (fun τ => τ.1 219 6 = N4 (nLe sc i) ∧ Fz c6I noL σ τ) (by
      intro k τ hP
      refine ⟨τ, ?_, hP.2⟩
      have h19 := (h.p (c6_p hP.2.2)).2.2.1
      rw [f_X5_skipLetters_0, h19, hP.2.1]
      by_cases e : nLe sc i = sc.length
      · rw [if_pos ((n4_le (by omega) (by omega)).mpr (by omega))]
      · rw [if_neg (fun q => by have := (n4_le (by omega) (by omega)).mp q; omega), gd_inb (by omega) (by omega), gd_inb (by omega) (by omega), n4_nat (by omega)]
        by_cases c1 : τ.1 220 (nLe sc i) < 97
        · rw [if_pos c1]
        · rw [if_neg c1]
          by_cases c2 : 122 < τ.1 220 (nLe sc i)
          · rw [if_pos c2]
          · have := (hb τ hP.2.2 _ (by omega)).mp ⟨c1, c2⟩
            rw [s3 (by omega)] at this
            cases this) (by
      intro k j τ hj hP
      obtain ⟨p0, p1, p2⟩ := hP
      have h19 := (h.p (c6_p p2)).2.2.1
      obtain ⟨c1, c2⟩ := (hb τ p2 j (by omega)).mpr (s4 j p0 hj)
      show ∃ a', f_X5_skipLetters_0 (k + 1) τ = _ ∧ _
      rw [f_X5_skipLetters_0, h19, p1, if_neg (fun q => by have := (n4_le (by omega) (by omega)).mp q; omega), gd_inb (by omega) (by omega), gd_inb (by omega) (by omega), n4_nat (by omega), if_neg c1, if_neg c2, n4_succ]
      exact ⟨_, rfl, by omega, mI_e, p2.i (by unfold c6I; omega)⟩) 100000 i σ s1 (by omega) ⟨Nat.le_refl i, hi, Fz.rfl⟩
  unfold f_X5_skipLetters
  rw [a1, bd_s]
  exact ⟨τ, rfl, a3, a2⟩
/-- the text from a, b - a bytes of it, is the word w -/
def TX (sc : List Nat) (a b w : Nat) : Prop := (wL w).length = b - a ∧ ∀ t, t < (wL w).length → bat sc (a + t) = (wL w).getD t 0
theorem c_text {a b w : Nat} (h : CScr σ sc) (hw : w < 8) (hab : a ≤ b) (hb : b ≤ sc.length) : ∃ r, f_X5_isText (N4 w) (N4 a) (N4 b) σ = some r ∧ ((r = 1 ∧ TX sc a b w) ∨ (r = 0 ∧ ¬ TX sc a b w)) := by
  have b1 := h.1
  obtain ⟨l1, l2, l3, -⟩ := wL_f w hw
  have hlen : f_J0_length_8abf5 (N4 w) σ = some (N4 (wL w).length) := by
    unfold f_J0_length_8abf5 sLen
    rw [gd_inb hw (by omega), n4_nat (by omega), l1]
    rfl
  unfold f_X5_isText
  rw [gd_inb hw (by omega), hlen, bd_s, n4_sub hab]
  by_cases e : (wL w).length = b - a
  · rw [if_pos (by rw [e])]
    obtain ⟨r, r1, r2⟩ := loopB (fun k i (_ : Unit) => f_X5_isText_19 (N4 w) (N4 a) σ k (N4 i)) (wL w).length (fun i _ => ∀ t, t < i → bat sc (a + t) = (wL w).getD t 0) (fun r => (r = .inr () ∧ ∀ t, t < (wL w).length → bat sc (a + t) = (wL w).getD t 0) ∨ (r = .inl 0 ∧ ¬ ∀ t, t < (wL w).length → bat sc (a + t) = (wL w).getD t 0)) (by
        intro k i _ hi hP
        show (∃ r, f_X5_isText_19 (N4 w) (N4 a) σ (k + 1) (N4 i) = some r ∧ _) ∨ (_ ∧ ∃ a', f_X5_isText_19 (N4 w) (N4 a) σ (k + 1) (N4 i) = _ ∧ _)
        rw [f_X5_isText_19, gd_inb hw (by omega), hlen, bd_s]
        by_cases q : i = (wL w).length
        · rw [if_pos ((n4_le (by omega) (by omega)).mpr (by omega))]
          exact Or.inl ⟨_, rfl, Or.inl ⟨rfl, by rw [← q]; exact hP⟩⟩
        · have hc : f_J0_charAt_5068e (N4 w) (N4 i) σ = some (N4 ((wL w).getD i 0)) := by
            rcases wL_b w hw i (by omega) with u | u
            · omega
            · unfold f_J0_charAt_5068e sChr
              rw [gd_inb hw (by omega), n4_nat (by omega), l1, gd_inb (by omega) (by omega), n4_nat (by omega), u.1]
          have hlt : (wL w).getD i 0 < 128 := by
            rcases wL_b w hw i (by omega) with u | u
            · omega
            · exact u.2.2
          have hsb := h.2.1 (a + i) (by omega)
          rw [if_neg (fun y => by have := (n4_le (by omega) (by omega)).mp y; omega), n4_add, gd_inb (by omega) (by omega), gd_inb hw (by omega), hc, bd_s, n4_nat (by omega), h.2.2.2 (a + i) (by omega)]
          by_cases y : sc.getD (a + i) 0 = (wL w).getD i 0
          · rw [if_pos (by rw [y]), n4_succ]
            refine Or.inr ⟨by omega, (), rfl, fun t ht => ?_⟩
            by_cases z : t = i
            · rw [z]; exact y
            · exact hP t (by omega)
          · rw [if_neg (fun z => y ((n4_eq (by omega) (by omega)).mp z))]
            exact Or.inl ⟨_, rfl, Or.inr ⟨rfl, fun z => y (z i (by omega))⟩⟩) 100000 0 () (by omega) (by omega) (fun t ht => absurd ht (Nat.not_lt_zero t))
    have r1' : f_X5_isText_19 (N4 w) (N4 a) σ 100000 0 = some r := r1
    rw [r1', bd_s]
    rcases r2 with ⟨rfl, g⟩ | ⟨rfl, g⟩
    · exact ⟨1, rfl, Or.inl ⟨rfl, e, g⟩⟩
    · exact ⟨0, rfl, Or.inr ⟨rfl, fun y => g y.2⟩⟩
  · rw [if_neg (fun y => e ((n4_eq (by omega) (by omega)).mp y))]
    exact ⟨0, rfl, Or.inr ⟨rfl, fun y => e y.1⟩⟩
theorem tx_wkd {i w : Nat} (h : CScr σ sc) (hw : w < 8) (hl : i ≤ sc.length) : TX sc i (nLe sc i) w ↔ wkd sc i = kOf w := by
  obtain ⟨s1, s2, s3, s4⟩ := nLe_s hl h.1
  obtain ⟨l1, l2, l3, l4, l5, l6, l7⟩ := wL_f w hw
  constructor
  · rintro ⟨t1, t2⟩
    unfold wkd
    rw [if_neg (by omega), ← t1, wcode_l, lcode_c _ t2, l4, l5]
  · intro e
    unfold wkd at e
    by_cases q : nLe sc i = i ∨ 6 < nLe sc i - i
    · rw [if_pos q] at e
      omega
    · rw [if_neg q] at e
      have h1 := kd_inv _ (show kd (wcode sc i (nLe sc i - i)) ≠ 8 by rw [e]; omega)
      rw [e, ← l4, wcode_l] at h1
      obtain ⟨g1, g2⟩ := lcode_inj _ _ (fun t ht => by
        have := s4 (i + t) (by omega) (by omega)
        unfold isLe at this
        rw [decide_eq_true_eq] at this
        omega) (fun t ht => by
        rcases wL_b w hw t (by omega) with u | u
        · omega
        · exact u.2) h1
      exact ⟨g1.symm, fun t ht => g2 t (by omega)⟩
theorem c_word {i : Nat} (h : CScr σ sc) (hl : i ≤ sc.length) : f_X5_wordBetween (N4 i) (N4 (nLe sc i)) σ = some (if wkd sc i = 8 then -1 else N4 (wOf (wkd sc i))) := by
  obtain ⟨s1, s2, s3, s4⟩ := nLe_s hl h.1
  obtain ⟨r, r1, r2⟩ := loopB (fun k j (_ : Unit) => f_X5_wordBetween_2 (N4 i) (N4 (nLe sc i)) σ k (N4 j)) 8 (fun j _ => ∀ w, w < j → wkd sc i ≠ kOf w) (fun r => (r = .inr () ∧ ∀ w, w < 8 → wkd sc i ≠ kOf w) ∨ (∃ w, w < 8 ∧ r = .inl (N4 w) ∧ wkd sc i = kOf w)) (by
      intro k j _ hj hP
      show (∃ r, f_X5_wordBetween_2 (N4 i) (N4 (nLe sc i)) σ (k + 1) (N4 j) = some r ∧ _) ∨ (_ ∧ ∃ a', f_X5_wordBetween_2 (N4 i) (N4 (nLe sc i)) σ (k + 1) (N4 j) = _ ∧ _)
      rw [f_X5_wordBetween_2]
      by_cases e : j = 8
      · rw [if_pos (show (8 : Int32) ≤ N4 j by rw [e]; decide)]
        exact Or.inl ⟨_, rfl, Or.inl ⟨rfl, by rw [← e]; exact hP⟩⟩
      · obtain ⟨v, v1, v2⟩ := c_text (a := i) (b := nLe sc i) (w := j) h (by omega) s1 s2
        rw [if_neg (show ¬ (8 : Int32) ≤ N4 j from fun y => by have := (n4_le (a := 8) (by omega) (by omega)).mp y; omega), gd_inb (by omega) (by omega), gd_inb (by omega) (by omega), v1, bd_s]
        rcases v2 with ⟨rfl, g⟩ | ⟨rfl, g⟩
        · rw [if_neg (by decide), gd_inb (by omega) (by omega)]
          exact Or.inl ⟨_, rfl, Or.inr ⟨j, by omega, rfl, (tx_wkd h (by omega) hl).mp g⟩⟩
        · rw [if_pos rfl, n4_succ]
          refine Or.inr ⟨by omega, (), rfl, fun w hw => ?_⟩
          by_cases z : w = j
          · rw [z]; exact fun y => g ((tx_wkd h (by omega) hl).mpr y)
          · exact hP w (by omega)) 100000 0 () (by omega) (by omega) (fun w hw => absurd hw (Nat.not_lt_zero w))
  have r1' : f_X5_wordBetween_2 (N4 i) (N4 (nLe sc i)) σ 100000 0 = some r := r1
  unfold f_X5_wordBetween
  rw [r1', bd_s]
  have hle : wkd sc i ≤ 8 := by
    unfold wkd; split
    · exact Nat.le_refl _
    · exact kd_le _
  rcases r2 with ⟨rfl, g⟩ | ⟨w, hw, rfl, g⟩
  · have : wkd sc i = 8 := by
      rcases Nat.lt_or_ge (wkd sc i) 8 with q | q
      · obtain ⟨a, b⟩ := kOf_w _ q
        exact absurd a.symm (g _ b)
      · omega
    rw [if_pos this]
    rfl
  · obtain ⟨-, -, -, -, -, l6, l7⟩ := wL_f w hw
    rw [if_neg (by omega), g, l7]
    rfl
end CSCR1
