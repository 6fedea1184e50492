/-! ===== orders of rays; the reference's sweeps ===== -/
def insP (w : Nat → Int64) (o : Nat → Nat) (r : Nat) : Nat → Nat
  | 0 => 0
  | k + 1 => if w (o k) < w r then insP w o r k else k + 1
def insF (w : Nat → Int64) (o : Nat → Nat) (n r : Nat) : Nat → Nat := fun i => if i < insP w o r n then o i else if i = insP w o r n then r else o (i - 1)
theorem insP_le (w : Nat → Int64) (o : Nat → Nat) (r : Nat) : ∀ k, insP w o r k ≤ k
  | 0 => Nat.le_refl 0
  | k + 1 => by
    unfold insP
    split
    · have := insP_le w o r k; omega
    · exact Nat.le_refl _
def qs (act : Nat → Bool) (j : Nat) : Nat := fstN (fun i => act i && decide (cnt act i = j)) 16 0
def ordO (w : Nat → Int64) (act : Nat → Bool) : Nat → Nat → Nat
  | 0 => fun _ => 0
  | j + 1 => insF w (ordO w act j) j (qs act j)
theorem cnt_mono (p : Nat → Bool) {i k : Nat} (h : i ≤ k) : cnt p i ≤ cnt p k := by
  induction k with
  | zero => obtain rfl : i = 0 := by omega
            exact Nat.le_refl _
  | succ k ih =>
    by_cases e : i = k + 1
    · rw [e]; exact Nat.le_refl _
    · have := ih (by omega)
      simp only [cnt]; omega
theorem cnt_step {p : Nat → Bool} {i : Nat} (h : p i = true) : cnt p (i + 1) = cnt p i + 1 := by simp [cnt, h]
theorem cnt_stay {p : Nat → Bool} {i : Nat} (h : p i = false) : cnt p (i + 1) = cnt p i := by simp [cnt, h]
theorem qs_at {act : Nat → Bool} {i : Nat} (hi : i < 16) (h : act i = true) : qs act (cnt act i) = i := by
  refine fstN_uniq (Nat.zero_le _) (by omega) (by simp [h]) (fun j _ hj => ?_)
  by_cases e : act j = true
  · have h1 := cnt_step e
    have h2 := cnt_mono act (show j + 1 ≤ i by omega)
    simp only [e, Bool.true_and, decide_eq_false_iff_not]
    omega
  · simp [eq_false_of_ne_true e]
theorem qs_ex {act : Nat → Bool} {k : Nat} : ∀ {j : Nat}, j < cnt act k → ∃ i, i < k ∧ act i = true ∧ cnt act i = j := by
  induction k with
  | zero => intro j h; simp [cnt] at h
  | succ k ih =>
    intro j h
    by_cases e : act k = true
    · rw [cnt_step e] at h
      by_cases q : j = cnt act k
      · exact ⟨k, by omega, e, q.symm⟩
      · obtain ⟨i, i1, i2⟩ := ih (by omega : j < cnt act k)
        exact ⟨i, by omega, i2⟩
    · rw [cnt_stay (eq_false_of_ne_true e)] at h
      obtain ⟨i, i1, i2⟩ := ih h
      exact ⟨i, by omega, i2⟩
theorem ord_mem {w : Nat → Int64} {act : Nat → Bool} (P : Nat → Prop) : ∀ j, (∀ t, t < j → P (qs act t)) → ∀ t, t < j → P (ordO w act j t) := by
  intro j
  induction j with
  | zero => intro _ t ht; omega
  | succ j ih =>
    intro h t ht
    have ih' := ih (fun t ht => h t (by omega))
    have hp := insP_le w (ordO w act j) (qs act j) j
    unfold ordO insF
    by_cases q1 : t < insP w (ordO w act j) (qs act j) j
    · rw [if_pos q1]; exact ih' t (by omega)
    · rw [if_neg q1]
      by_cases q2 : t = insP w (ordO w act j) (qs act j) j
      · rw [if_pos q2]; exact h j (by omega)
      · rw [if_neg q2]; exact ih' (t - 1) (by omega)
/-- the order holds active rays below i, where j of them are -/
theorem ord_act {w : Nat → Int64} {act : Nat → Bool} {i : Nat} (hi : i ≤ 16) : ∀ t, t < cnt act i → ordO w act (cnt act i) t < i ∧ act (ordO w act (cnt act i) t) = true := by
  refine ord_mem (fun r => r < i ∧ act r = true) (cnt act i) (fun t ht => ?_)
  obtain ⟨a, a1, a2, a3⟩ := qs_ex ht
  rw [← a3, qs_at (by omega) a2]
  exact ⟨a1, a2⟩
def abs8 (v : Int64) : Int64 := if 0 ≤ v then v else -v
noncomputable def wgt (m : Nat → Int64) (W H r : Nat) : Int64 := if m 5 = 1 then N8 r else if m 5 = 2 then abs8 (m (139 + 4 * r) - wtm m W H r) else 0
theorem m_abs (v : Int64) (σ : Mem) : f_X12_abs v σ = some (abs8 v) := by
  unfold f_X12_abs abs8
  split <;> rfl
def msI (q j : Nat) : Prop := q = 229 ∨ q = 230 ∨ q = 231 ∨ q = 234 ∨ q = 236 ∨ (q = 224 ∧ j = 9)
def msL (q j : Nat) : Prop := q = 228 ∨ q = 235 ∨ (q = 224 ∧ j = 11)
section MSWP
variable {σ : Mem} {W H n : Nat} {hs : List (Nat → Int64)} {sc : List Nat} {x1 x2 x3 x4 : Int32} {m : Nat → Int64}
theorem MO.s {τ ρ : Mem} {m' : Nat → Int64} {hs' : List (Nat → Int64)} {sc' : List Nat} (h : MO σ τ m' hs' sc') (f : Fz msI msL τ ρ) : MO σ ρ m' hs' sc' :=
  ⟨(f.row (fun j => by unfold msL; omega)).trans h.1, h.2.1.of (f.1 224 2 (by unfold msI; omega)) (f.1 224 4 (by unfold msI; omega)) (f.row (fun j => by unfold msL; omega)) (f.rowI (fun j => by unfold msI; omega)),
    h.2.2.1.trans (Fz.mfr f (fun q j => by unfold msI; omega) (fun q j => by unfold msL; omega)), (f.1 224 5 (by unfold msI; omega)).trans h.2.2.2⟩
theorem FrS.s {τ : Mem} (h : FrS σ τ) : Fz msI msL σ τ := ⟨fun q j hq => by rw [h.1 q (fun e => hq (Or.inl e))], fun q j hq => by rw [h.2 q (fun e => hq (Or.inl e))]⟩
theorem m_ins {w : Nat → Int64} {o : Nat → Nat} {k r : Nat} (hk : k < 16) (hr : r < 16) (ho : ∀ t, t < k → σ.1 234 t = N4 (o t) ∧ o t < 16 ∧ σ.2 235 (o t) = w (o t)) (hw : σ.2 235 r = w r) :
    ∃ τ, f_X12_arrange_74 x1 (N4 r) 100000 (N4 k) σ = some (N4 (insP w o r k), τ) ∧ τ.2 = σ.2 ∧ (∀ q, q ≠ 234 → τ.1 q = σ.1 q) ∧ (∀ i, i < insP w o r k → τ.1 234 i = N4 (o i)) ∧ ∀ i, insP w o r k < i → i ≤ k → τ.1 234 i = N4 (o (i - 1)) := by
  have key := loopM (fun q (a : Int32 × Mem) => f_X12_arrange_74 x1 (N4 r) q a.1 a.2) (fun a => a.1.toNatClampNeg)
    (fun a => ∃ j, j ≤ k ∧ a.1 = N4 j ∧ insP w o r j = insP w o r k ∧ a.2.2 = σ.2 ∧ (∀ q, q ≠ 234 → a.2.1 q = σ.1 q) ∧ (∀ i, i < j → a.2.1 234 i = N4 (o i)) ∧ ∀ i, j < i → i ≤ k → a.2.1 234 i = N4 (o (i - 1)))
    (fun b => b.1 = N4 (insP w o r k) ∧ b.2.2 = σ.2 ∧ (∀ q, q ≠ 234 → b.2.1 q = σ.1 q) ∧ (∀ i, i < insP w o r k → b.2.1 234 i = N4 (o i)) ∧ ∀ i, insP w o r k < i → i ≤ k → b.2.1 234 i = N4 (o (i - 1))) ?_ 100000 (N4 k, σ) ?_ ?_
  · obtain ⟨⟨b1, b2⟩, c1, c2, c3⟩ := key
    obtain rfl : b1 = _ := c2
    exact ⟨b2, c1, c3⟩
  · rintro q ⟨a, τ⟩ ⟨j, j1, j2, j3, j4, j5, j6, j7⟩
    obtain rfl : a = N4 j := j2
    have j4' : τ.2 = σ.2 := j4
    show (∃ b, f_X12_arrange_74 x1 (N4 r) (q + 1) (N4 j) τ = some b ∧ _) ∨ (∃ a' : Int32 × Mem, f_X12_arrange_74 x1 (N4 r) (q + 1) (N4 j) τ = _ ∧ _)
    rw [f_X12_arrange_74]
    by_cases e : j = 0
    · refine Or.inl ⟨(N4 j, τ), ?_, ?_, j4, j5, ?_, ?_⟩
      · rw [if_pos (show N4 j ≤ 0 by rw [e]; decide)]
      · show N4 j = _
        rw [← j3, e]; rfl
      · rw [← j3, e]; intro i hi; unfold insP at hi; omega
      · rw [← j3, e]; unfold insP; intro i h1 h2; exact j7 i (by omega) h2
    · obtain ⟨t, rfl⟩ : ∃ t, j = t + 1 := ⟨j - 1, by omega⟩
      obtain ⟨h1, h2, h3⟩ := ho t (by omega)
      have hjt : τ.1 234 t = N4 (o t) := j6 t (by omega)
      rw [if_neg (show ¬ N4 (t + 1) ≤ 0 from fun q => by have := (n4_le (b := 0) (by omega) (by omega)).mp q; omega), show (1 : Int32) = N4 1 from rfl, n4_sub (by omega), Nat.add_sub_cancel, gd_inb (by omega) (by omega), n4_nat (by omega), hjt, gd_inb (by omega) (by omega), gd_inb (by omega) (by omega), n4_nat (by omega), n4_nat (by omega), j4', hw, h3]
      by_cases c : w (o t) < w r
      · refine Or.inr ⟨(N4 t, setI τ 234 (t + 1) (N4 (o t))), ?_, ⟨t, by omega, rfl, ?_, j4, ?_, ?_, ?_⟩, ?_⟩
        · rw [if_neg (fun q => absurd c (Int64.not_lt.mpr q)), gd_inb (by omega) (by omega), gd_inb (by omega) (by omega), n4_nat (by omega), show N4 (t + 1) + -N4 1 = N4 t from (n4_dec (i := t + 1) (by omega))]
        · rw [← j3]; conv => rhs; unfold insP
          rw [if_pos c]
        · intro q hq; exact (mI_p hq).trans (j5 q hq)
        · intro i hi; show (setI τ 234 (t + 1) _).1 234 i = _; rw [mI_j (by omega)]; exact j6 i (by omega)
        · intro i hi1 hi2
          show (setI τ 234 (t + 1) _).1 234 i = _
          by_cases e2 : i = t + 1
          · rw [e2, mI_e]; rfl
          · rw [mI_j e2]; exact j7 i (by omega) hi2
        · show (N4 t).toNatClampNeg < (N4 (t + 1)).toNatClampNeg
          rw [n4_nat (by omega), n4_nat (by omega)]; omega
      · have e3 : insP w o r k = t + 1 := by rw [← j3]; unfold insP; rw [if_neg c]
        refine Or.inl ⟨(N4 (t + 1), τ), ?_, ?_, j4, j5, ?_, ?_⟩
        · rw [if_pos (Int64.not_lt.mp c)]
        · rw [e3]
        · rw [e3]; exact j6
        · rw [e3]; exact j7
  · show (N4 k).toNatClampNeg < 100000
    rw [n4_nat (by omega)]; omega
  · exact ⟨k, Nat.le_refl k, rfl, rfl, rfl, fun _ _ => rfl, fun i hi => (ho i hi).1, fun i h1 h2 => by omega⟩
noncomputable def ordM (m : Nat → Int64) (W H n : Nat) : Nat → Nat := ordO (wgt m W H) (actR m) (cnt (actR m) n)
theorem m_arrange {σ0 : Mem} (hV : Val m W H n) (hM : MO σ σ0 m hs sc) : ∃ τ, f_X12_arrange σ0 = some (N4 (cnt (actR m) n), τ) ∧ MO σ τ m hs sc ∧ ∀ t, t < cnt (actR m) n → τ.1 234 t = N4 (ordM m W H n t) := by
  have h := hV.1
  have hn := h.2.2.2.2.2.2.2
  have key := loopU (fun k i (a : Int32 × Mem) => f_X12_arrange_4 k a.1 (N4 i) a.2) n (fun i a => a.1 = N4 (cnt (actR m) i) ∧ MO σ a.2 m hs sc ∧ ∀ t, t < cnt (actR m) i → a.2.1 234 t = N4 (ordO (wgt m W H) (actR m) (cnt (actR m) i) t) ∧ a.2.2 235 (ordO (wgt m W H) (actR m) (cnt (actR m) i) t) = wgt m W H (ordO (wgt m W H) (actR m) (cnt (actR m) i) t))
    (fun b => b.1 = N4 (cnt (actR m) n) ∧ MO σ b.2 m hs sc ∧ ∀ t, t < cnt (actR m) n → b.2.1 234 t = N4 (ordM m W H n t)) ?_ ?_ 100000 0 (N4 0, σ0) (by omega) (by omega) ⟨rfl, hM, fun t ht => by simp [cnt] at ht⟩
  · obtain ⟨⟨b1, b2⟩, c1, c2, c3, c4⟩ := key
    obtain rfl : b1 = _ := c2
    have c1' : f_X12_arrange_4 100000 (N4 0) (N4 0) σ0 = _ := c1
    unfold f_X12_arrange
    rw [show (0 : Int32) = N4 0 from rfl, c1', bd_s]
    exact ⟨b2, rfl, c3, c4⟩
  · rintro k ⟨a, τ⟩ ⟨p1, p2, p3⟩
    refine ⟨(a, τ), ?_, p1, p2, fun t ht => (p3 t ht).1⟩
    show f_X12_arrange_4 (k + 1) a (N4 n) τ = some (a, τ)
    rw [f_X12_arrange_4, if_pos ((n8_rays (p2.dm h) (by omega)).mpr (Nat.le_refl n))]
  · rintro k i ⟨a, τ⟩ hi ⟨p1, p2, p3⟩
    have hd := p2.dm h
    have p1' : a = N4 (cnt (actR m) i) := p1
    have p2' : MO σ τ m hs sc := p2
    show ∃ a', f_X12_arrange_4 (k + 1) a (N4 i) τ = _ ∧ _
    rw [f_X12_arrange_4, if_neg (fun q => by have := (n8_rays hd (by omega)).mp q; omega), m_isActive (by omega), bd_s, p2'.1, n4_succ]
    by_cases q : actR m i = true
    · have hq := qs_at (by omega) q
      have hc1 := cnt_step q
      have hcl := cnt_le (actR m) i
      have hoa := ord_act (w := wgt m W H) (act := actR m) (i := i) (by omega)
      -- from a memory where the weight of i is written
      have fin : ∀ ρ, MO σ ρ m hs sc → (∀ t, t < cnt (actR m) i → ρ.1 234 t = N4 (ordO (wgt m W H) (actR m) (cnt (actR m) i) t) ∧ ρ.2 235 (ordO (wgt m W H) (actR m) (cnt (actR m) i) t) = wgt m W H (ordO (wgt m W H) (actR m) (cnt (actR m) i) t)) →
          ∃ a' : Int32 × Mem, (bd (f_X12_arrange_74 a (N4 i) 100000 a (setL ρ 235 i (wgt m W H i))) fun q19 => gd (inb q19.1 16) (f_X12_arrange_4 k (a + 1) (N4 (i + 1)) (setI q19.2 234 q19.1.toNatClampNeg (N4 i)))) = f_X12_arrange_4 k a'.1 (N4 (i + 1)) a'.2 ∧ a'.1 = N4 (cnt (actR m) (i + 1)) ∧ MO σ a'.2 m hs sc ∧ ∀ t, t < cnt (actR m) (i + 1) → a'.2.1 234 t = N4 (ordO (wgt m W H) (actR m) (cnt (actR m) (i + 1)) t) ∧ a'.2.2 235 (ordO (wgt m W H) (actR m) (cnt (actR m) (i + 1)) t) = wgt m W H (ordO (wgt m W H) (actR m) (cnt (actR m) (i + 1)) t) := by
        intro ρ hρ hρo
        obtain ⟨μ, s1, s2, s3, s4, s5⟩ := m_ins (x1 := a) (σ := setL ρ 235 i (wgt m W H i)) (w := wgt m W H) (o := ordO (wgt m W H) (actR m) (cnt (actR m) i)) (k := cnt (actR m) i) (r := i) (by omega) (by omega)
          (fun t ht => ⟨(hρo t ht).1, by have := (hoa t ht).1; omega, by rw [mL_j (by have := (hoa t ht).1; omega)]; exact (hρo t ht).2⟩) mL_e
        have hip := insP_le (wgt m W H) (ordO (wgt m W H) (actR m) (cnt (actR m) i)) i (cnt (actR m) i)
        rw [← p1'] at s1
        rw [s1, bd_s, gd_inb (by omega) (by omega), n4_nat (by omega)]
        refine ⟨(_, _), rfl, ?_, ?_, ?_⟩
        · show a + 1 = _
          rw [p1', n4_succ, hc1]
        · have f0 : Fz msI msL ρ (setI μ 234 (insP (wgt m W H) (ordO (wgt m W H) (actR m) (cnt (actR m) i)) i (cnt (actR m) i)) (N4 i)) := by
            refine Fz.i ⟨fun q j hq => ?_, fun q j hq => ?_⟩ (by unfold msI; omega)
            · rw [s3 q (fun e => hq (by unfold msI; omega))]; rfl
            · rw [s2]; exact congrFun (mL_p (fun e => hq (by unfold msL; omega))) j
          exact hρ.s f0
        · intro t ht
          have e2 : ordO (wgt m W H) (actR m) (cnt (actR m) (i + 1)) = insF (wgt m W H) (ordO (wgt m W H) (actR m) (cnt (actR m) i)) (cnt (actR m) i) i := by
            rw [hc1]
            show insF (wgt m W H) (ordO (wgt m W H) (actR m) (cnt (actR m) i)) (cnt (actR m) i) (qs (actR m) (cnt (actR m) i)) = _
            rw [hq]
          rw [hc1] at ht
          rw [e2]
          have wq : ∀ v, v = i ∨ (∃ t, t < cnt (actR m) i ∧ v = ordO (wgt m W H) (actR m) (cnt (actR m) i) t) → (setI μ 234 (insP (wgt m W H) (ordO (wgt m W H) (actR m) (cnt (actR m) i)) i (cnt (actR m) i)) (N4 i)).2 235 v = wgt m W H v := by
            intro v hv
            rw [mI_L, s2]
            rcases hv with rfl | ⟨t, ht, rfl⟩
            · exact mL_e
            · rw [mL_j (by have := (hoa t ht).1; omega)]; exact (hρo t ht).2
          unfold insF
          by_cases q1 : t < insP (wgt m W H) (ordO (wgt m W H) (actR m) (cnt (actR m) i)) i (cnt (actR m) i)
          · rw [if_pos q1]
            refine ⟨?_, wq _ (Or.inr ⟨t, by omega, rfl⟩)⟩
            show (setI μ 234 _ (N4 i)).1 234 t = _
            rw [mI_j (by omega)]; exact s4 t q1
          · rw [if_neg q1]
            by_cases q2 : t = insP (wgt m W H) (ordO (wgt m W H) (actR m) (cnt (actR m) i)) i (cnt (actR m) i)
            · rw [if_pos q2]
              refine ⟨?_, wq _ (Or.inl rfl)⟩
              show (setI μ 234 _ (N4 i)).1 234 t = _
              rw [q2, mI_e]
            · rw [if_neg q2]
              refine ⟨?_, wq _ (Or.inr ⟨t - 1, by omega, rfl⟩)⟩
              show (setI μ 234 _ (N4 i)).1 234 t = _
              rw [mI_j q2]; exact s5 t (by omega) (by omega)
      rw [if_neg (fun e => by rw [act_b.mp e] at q; cases q), show (5 : Int32).toNatClampNeg = 5 from rfl]
      by_cases o1 : m 5 = 1
      · have hw : wgt m W H i = N8 i := by unfold wgt; rw [if_pos o1]
        rw [if_pos o1, gd_inb (by omega) (by omega), n4_nat (by omega), n4_64 (by omega), ← hw]
        exact fin τ p2 p3
      · rw [if_neg o1]
        by_cases o2 : m 5 = 2
        · have hw : wgt m W H i = abs8 (m (139 + 4 * i) - wtm m W H i) := by unfold wgt; rw [if_neg o1, if_pos o2]
          obtain ⟨ρ, r1, r2⟩ := m_residualOf hd (by rw [p2'.1]; exact hV.2.2.2.1) hi (by rw [p2'.1]; exact hV.s8)
          rw [p2'.1] at r1
          rw [if_pos o2, r1, bd_s, m_abs, bd_s, gd_inb (by omega) (by omega), n4_nat (by omega), ← hw]
          refine fin ρ (p2.s r2.s) (fun t ht => ?_)
          rw [r2.1 234 (by omega), r2.2 235 (by omega)]
          exact p3 t ht
        · have hw : wgt m W H i = 0 := by unfold wgt; rw [if_neg o1, if_neg o2]
          rw [if_neg o2, gd_inb (by omega) (by omega), n4_nat (by omega), ← hw]
          exact fin τ p2 p3
    · have q' := eq_false_of_ne_true q
      rw [if_pos (act_b.mpr q')]
      refine ⟨(a, τ), rfl, ?_, p2, ?_⟩
      · rw [cnt_stay q']; exact p1
      · rw [cnt_stay q']; exact p3
end MSWP
