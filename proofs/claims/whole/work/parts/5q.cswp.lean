/-! ===== the class sweeps ===== -/
theorem insP_all {w : Nat → Int64} {o : Nat → Nat} {r : Nat} : ∀ k, (∀ t, t < k → ¬ w (o t) < w r) → insP w o r k = k
  | 0, _ => rfl
  | k + 1, h => by unfold insP; rw [if_neg (h k (by omega))]
theorem insP_none {w : Nat → Int64} {o : Nat → Nat} {r : Nat} : ∀ k, (∀ t, t < k → w (o t) < w r) → insP w o r k = 0
  | 0, _ => rfl
  | k + 1, h => by unfold insP; rw [if_pos (h k (by omega)), insP_none k (fun t ht => h t (by omega))]
theorem ord_const {w : Nat → Int64} {act : Nat → Bool} (hw : ∀ a b, ¬ w a < w b) : ∀ j t, t < j → ordO w act j t = qs act t
  | 0, t, ht => by omega
  | j + 1, t, ht => by
    show insF w (ordO w act j) j (qs act j) t = _
    unfold insF
    rw [insP_all j (fun t _ => hw _ _)]
    by_cases e : t < j
    · rw [if_pos e]; exact ord_const hw j t e
    · rw [if_neg e, if_pos (by omega), show t = j by omega]
theorem qs_lt {act : Nat → Bool} {k a b : Nat} (hk : k ≤ 16) (hab : a < b) (hb : b < cnt act k) : qs act a < qs act b ∧ qs act b < k := by
  obtain ⟨i, i1, i2, i3⟩ := qs_ex (show a < cnt act k by omega)
  obtain ⟨j, j1, j2, j3⟩ := qs_ex hb
  rw [← i3, ← j3, qs_at (by omega) i2, qs_at (by omega) j2]
  refine ⟨?_, j1⟩
  rcases Nat.lt_or_ge i j with q | q
  · exact q
  · have := cnt_mono act q
    omega
theorem ord_desc {w : Nat → Int64} {act : Nat → Bool} {k : Nat} (hk : k ≤ 16) (hw : ∀ a b, a < b → b < 16 → w a < w b) : ∀ j, j ≤ cnt act k → ∀ t, t < j → ordO w act j t = qs act (j - 1 - t)
  | 0, _, t, ht => by omega
  | j + 1, hj, t, ht => by
    have hlt : ∀ t, t < j → ordO w act j t < qs act j := ord_mem (fun r => r < qs act j) j (fun t ht => (qs_lt hk ht (by omega)).1)
    have hqj : qs act j < k := by
      obtain ⟨i, i1, i2, i3⟩ := qs_ex (show j < cnt act k by omega)
      rw [← i3, qs_at (by omega) i2]; exact i1
    show insF w (ordO w act j) j (qs act j) t = _
    unfold insF
    rw [insP_none j (fun t ht => hw _ _ (hlt t ht) (by omega)), if_neg (by omega)]
    by_cases e : t = 0
    · rw [if_pos e, e]; rfl
    · rw [if_neg e, ord_desc hk hw j (by omega) (t - 1) (by omega)]
      congr 1
      omega
section CSWP
variable {σ : Mem} {W H n : Nat} {m m' : Nat → Int64}
theorem cs_ord (h : CS σ m W H n) : ∃ od : Nat, σ.1 1 5 = N4 od ∧ m 5 = N8 od ∧ od ≤ 3 := by
  obtain ⟨lo, hi, re, od, s, a1, a2, a3, a4, a5, a6, a7, a8, a9, a10, a11, a12⟩ := h.1.2.2.2.2.1
  exact ⟨od, i64_n4 (by rw [← a9]; exact h.2.1.1 5 (by omega)), a9, a10⟩
/-- the class's queue before it is arranged: rays and misfits -/
theorem c_queue21 {b : Bool} (h : CS σ m W H n) : ∃ τ, f_X8_queueActive_21 (if b = true then 1 else 0) 100000 (N4 0) (N4 0) σ = some (N4 (cnt (actR m) n), τ) ∧ CS τ m W H n ∧ Fk σ τ ∧ ∀ t, t < cnt (actR m) n → τ.1 187 t = N4 (qs (actR m) t) ∧ τ.2 188 t = if b = true then resA m W H (qs (actR m) t) else 0 := by
  have hn := h.1.1.2.2.2.2.2.2.2
  obtain ⟨⟨q1, τ⟩, a1, a2, a3⟩ := loopU (fun k i (a : Int32 × Mem) => f_X8_queueActive_21 (if b = true then 1 else 0) k a.1 (N4 i) a.2) n (fun i a => a.1 = N4 (cnt (actR m) i) ∧ CS a.2 m W H n ∧ Fk σ a.2 ∧ ∀ t, t < cnt (actR m) i → a.2.1 187 t = N4 (qs (actR m) t) ∧ a.2.2 188 t = if b = true then resA m W H (qs (actR m) t) else 0)
    (fun a => a.1 = N4 (cnt (actR m) n) ∧ CS a.2 m W H n ∧ Fk σ a.2 ∧ ∀ t, t < cnt (actR m) n → a.2.1 187 t = N4 (qs (actR m) t) ∧ a.2.2 188 t = if b = true then resA m W H (qs (actR m) t) else 0) (by
      rintro k ⟨a, τ⟩ ⟨p1, p2, p3⟩
      refine ⟨(a, τ), ?_, p1, p2, p3⟩
      show f_X8_queueActive_21 _ (k + 1) a (N4 n) τ = some (a, τ)
      rw [f_X8_queueActive_21, (cs_W p2).2.2, if_pos ((n4_le (by omega) (by omega)).mpr (Nat.le_refl _))]) (by
      rintro k i ⟨a, τ⟩ hi ⟨p1, p2, p3, p4⟩
      have p1' : a = N4 (cnt (actR m) i) := p1
      show ∃ a' : Int32 × Mem, f_X8_queueActive_21 _ (k + 1) a (N4 i) τ = _ ∧ _
      rw [f_X8_queueActive_21, (cs_W p2).2.2, if_neg (fun q => by have := (n4_le (by omega) (by omega)).mp q; omega), c_isActive p2 (by omega), bd_s, n4_succ, p1']
      by_cases q : actR m i = true
      · have hq := qs_at (by omega : i < 16) q
        have hc1 := cnt_step q
        have hcl := cnt_le (actR m) i
        have hp2 : CS (setI τ 187 (cnt (actR m) i) (N4 i)) m W H n := cs_scr p2 (fun q hq => mI_p (by omega)) (fun q _ => rfl)
        have fin : ∀ ρ v, CS ρ m W H n → Fk (setI τ 187 (cnt (actR m) i) (N4 i)) ρ → ρ.1 187 = (setI τ 187 (cnt (actR m) i) (N4 i)).1 187 → ρ.2 188 = τ.2 188 → v = (if b = true then resA m W H i else 0) → ∃ a' : Int32 × Mem, f_X8_queueActive_21 (if b = true then 1 else 0) k (N4 (cnt (actR m) i) + 1) (N4 (i + 1)) (setL ρ 188 (cnt (actR m) i) v) = f_X8_queueActive_21 (if b = true then 1 else 0) k a'.1 (N4 (i + 1)) a'.2 ∧ a'.1 = N4 (cnt (actR m) (i + 1)) ∧ CS a'.2 m W H n ∧ Fk σ a'.2 ∧ ∀ t, t < cnt (actR m) (i + 1) → a'.2.1 187 t = N4 (qs (actR m) t) ∧ a'.2.2 188 t = if b = true then resA m W H (qs (actR m) t) else 0 := by
          intro ρ v hρ hF e1 e2 hv
          refine ⟨(_, _), rfl, by show N4 _ + 1 = _; rw [n4_succ, hc1], cs_scr hρ (fun q _ => rfl) (fun q hq => mL_p (by omega)), Fz.l ((p3.i (by unfold ckI; omega)).trans hF) (by unfold ckI; omega), fun t ht => ?_⟩
          rw [hc1] at ht
          show ρ.1 187 t = _ ∧ (setL ρ 188 (cnt (actR m) i) v).2 188 t = _
          by_cases e : t = cnt (actR m) i
          · rw [e, e1, mI_e, mL_e, hq]; exact ⟨rfl, hv⟩
          · rw [e1, mI_j e, mL_j e, e2]; exact p4 t (by omega)
        rw [if_neg (fun e => by rw [act_b.mp e] at q; cases q), gd_inb (by omega) (by omega), n4_nat (by omega)]
        by_cases hb : b = true
        · rw [if_pos hb, if_neg (show ¬ (1 : Int32) = 0 by decide), gd_inb (by omega) (by omega), n4_nat (by omega)]
          obtain ⟨ρ, r1, r2, r3⟩ := c_misfit hp2 hi
          rw [r1, bd_s, gd_inb (by omega) (by omega), bd_s, r3]
          have := fin ρ (resA m W H i) (CQ.cs hp2 r2) (Fc.k r2.1) (r2.1.i.1 187 (by omega)) (r2.1.i.2 188 (by omega)) (by rw [if_pos hb])
          rw [if_pos hb] at this
          exact this
        · rw [if_neg hb, if_pos rfl, gd_inb (by omega) (by omega)]
          have := fin (setI τ 187 (cnt (actR m) i) (N4 i)) 0 hp2 Fz.rfl rfl rfl (by rw [if_neg hb])
          rw [if_neg hb] at this
          exact this
      · have q' := eq_false_of_ne_true q
        rw [if_pos (act_b.mpr q')]
        refine ⟨(N4 (cnt (actR m) i), τ), rfl, ?_, p2, p3, ?_⟩
        · rw [cnt_stay q']
        · rw [cnt_stay q']; exact p4) 100000 0 (N4 0, σ) (by omega) (by omega) ⟨rfl, h, Fz.rfl, fun t ht => by simp [cnt] at ht⟩
  obtain rfl : q1 = _ := a2
  exact ⟨τ, a1, a3⟩
theorem c_queue (h : CS σ m W H n) : ∃ τ, f_X8_queueActive σ = some (N4 (cnt (actR m) n), τ) ∧ CS τ m W H n ∧ Fk σ τ ∧ ∀ t, t < cnt (actR m) n → τ.1 187 t = N4 (qs (actR m) t) ∧ τ.2 188 t = if m 5 = 2 then resA m W H (qs (actR m) t) else 0 := by
  obtain ⟨od, o1, o2, o3⟩ := cs_ord h
  unfold f_X8_queueActive
  rw [o1]
  have hq : (m 5 = 2) ↔ od = 2 := by rw [o2]; exact n8_eq (b := 2) (by omega) (by omega)
  by_cases e : od = 2
  · obtain ⟨τ, a1, a2⟩ := c_queue21 (b := true) h
    have a1' : f_X8_queueActive_21 1 100000 0 0 σ = _ := a1
    rw [if_pos (show N4 od = 2 by rw [e]; rfl), a1', bd_s]
    simp only [if_pos (hq.mpr e)]
    exact ⟨τ, rfl, a2⟩
  · obtain ⟨τ, a1, a2⟩ := c_queue21 (b := false) h
    have a1' : f_X8_queueActive_21 0 100000 0 0 σ = _ := a1
    rw [if_neg (show ¬ N4 od = 2 from fun y => e ((n4_eq (b := 2) (by omega) (by omega)).mp y)), a1', bd_s]
    simp only [if_neg (fun y => e (hq.mp y))]
    exact ⟨τ, rfl, a2⟩
/-! sorting by misfits -/
theorem c_ins {w : Nat → Int64} {o : Nat → Nat} {k r : Nat} {x1 : Int32} (hk : k < 16) (ho : ∀ t, t < k → σ.1 187 t = N4 (o t) ∧ σ.2 188 t = w (o t)) :
    ∃ τ, f_X8_sortByMisfit_25 x1 (N4 k) (N4 r) (w r) 100000 (N4 k) σ = some (N4 (insP w o r k), τ) ∧ (∀ q, q ≠ 187 → τ.1 q = σ.1 q) ∧ (∀ q, q ≠ 188 → τ.2 q = σ.2 q) ∧ (∀ i, i < insP w o r k ∨ k < i → τ.1 187 i = σ.1 187 i ∧ τ.2 188 i = σ.2 188 i) ∧ ∀ i, insP w o r k < i → i ≤ k → τ.1 187 i = N4 (o (i - 1)) ∧ τ.2 188 i = w (o (i - 1)) := by
  have key := loopM (fun q (a : Int32 × Mem) => f_X8_sortByMisfit_25 x1 (N4 k) (N4 r) (w r) q a.1 a.2) (fun a => a.1.toNatClampNeg)
    (fun a => ∃ j, j ≤ k ∧ a.1 = N4 j ∧ insP w o r j = insP w o r k ∧ (∀ q, q ≠ 187 → a.2.1 q = σ.1 q) ∧ (∀ q, q ≠ 188 → a.2.2 q = σ.2 q) ∧ (∀ i, i ≤ j ∨ k < i → (i = j → j < k → True) ∧ (i ≠ j ∨ j = k → a.2.1 187 i = σ.1 187 i ∧ a.2.2 188 i = σ.2 188 i)) ∧ ∀ i, j < i → i ≤ k → a.2.1 187 i = N4 (o (i - 1)) ∧ a.2.2 188 i = w (o (i - 1)))
    (fun b => b.1 = N4 (insP w o r k) ∧ (∀ q, q ≠ 187 → b.2.1 q = σ.1 q) ∧ (∀ q, q ≠ 188 → b.2.2 q = σ.2 q) ∧ (∀ i, i < insP w o r k ∨ k < i → b.2.1 187 i = σ.1 187 i ∧ b.2.2 188 i = σ.2 188 i) ∧ ∀ i, insP w o r k < i → i ≤ k → b.2.1 187 i = N4 (o (i - 1)) ∧ b.2.2 188 i = w (o (i - 1))) ?_ 100000 (N4 k, σ) ?_ ?_
  · obtain ⟨⟨b1, b2⟩, c1, c2, c3⟩ := key
    obtain rfl : b1 = _ := c2
    exact ⟨b2, c1, c3⟩
  · rintro q ⟨a, τ⟩ ⟨j, j1, j2, j3, j4, j5, j6, j7⟩
    obtain rfl : a = N4 j := j2
    show (∃ b, f_X8_sortByMisfit_25 x1 (N4 k) (N4 r) (w r) (q + 1) (N4 j) τ = some b ∧ _) ∨ (∃ a' : Int32 × Mem, f_X8_sortByMisfit_25 x1 (N4 k) (N4 r) (w r) (q + 1) (N4 j) τ = _ ∧ _)
    rw [f_X8_sortByMisfit_25]
    by_cases e : j = 0
    · refine Or.inl ⟨(N4 j, τ), ?_, ?_, j4, j5, ?_, ?_⟩
      · rw [if_pos (show N4 j ≤ 0 by rw [e]; decide)]
      · show N4 j = _
        rw [← j3, e]; rfl
      · rw [← j3, e]
        intro i hi
        have : insP w o r 0 = 0 := rfl
        exact (j6 i (by omega)).2 (by omega)
      · rw [← j3, e]; unfold insP; intro i h1 h2; exact j7 i (by omega) h2
    · obtain ⟨t, rfl⟩ : ∃ t, j = t + 1 := ⟨j - 1, by omega⟩
      obtain ⟨h1, h2⟩ := ho t (by omega)
      have hjt := (j6 t (by omega)).2 (by omega)
      have g1 : τ.1 187 t = N4 (o t) := hjt.1.trans h1
      have g2 : τ.2 188 t = w (o t) := hjt.2.trans h2
      rw [if_neg (show ¬ N4 (t + 1) ≤ 0 from fun q => by have := (n4_le (b := 0) (by omega) (by omega)).mp q; omega), show N4 (t + 1) - 1 = N4 t from n4_sub (a := t + 1) (b := 1) (by omega), gd_inb (by omega) (by omega), n4_nat (by omega), g2]
      by_cases c : w (o t) < w r
      · rw [if_neg (fun q => absurd c (Int64.not_lt.mpr q)), gd_inb (by omega) (by omega), gd_inb (by omega) (by omega), gd_inb (by omega) (by omega), gd_inb (by omega) (by omega), bd_s, n4_nat (by omega), mL_I, g1, n4_dec (by omega), Nat.add_sub_cancel]
        refine Or.inr ⟨(N4 t, _), rfl, ⟨t, by omega, rfl, ?_, fun q hq => ?_, fun q hq => ?_, fun i hi => ⟨fun _ _ => trivial, fun hne => ?_⟩, fun i hi1 hi2 => ?_⟩, ?_⟩
        · rw [← j3]; conv => rhs; unfold insP
          rw [if_pos c]
        · show (setI (setL τ 188 (t + 1) _) 187 (t + 1) _).1 q = _
          rw [mI_p hq]; exact j4 q hq
        · show (setI (setL τ 188 (t + 1) _) 187 (t + 1) _).2 q = _
          rw [mI_L, mL_p hq]; exact j5 q hq
        · show (setI (setL τ 188 (t + 1) _) 187 (t + 1) _).1 187 i = _ ∧ (setI (setL τ 188 (t + 1) _) 187 (t + 1) _).2 188 i = _
          rw [mI_j (by omega), mI_L, mL_j (by omega)]
          exact (j6 i (by omega)).2 (by omega)
        · show (setI (setL τ 188 (t + 1) _) 187 (t + 1) _).1 187 i = _ ∧ (setI (setL τ 188 (t + 1) _) 187 (t + 1) _).2 188 i = _
          by_cases e2 : i = t + 1
          · rw [e2, mI_e, mI_L, mL_e]; exact ⟨rfl, rfl⟩
          · rw [mI_j e2, mI_L, mL_j e2]; exact j7 i (by omega) hi2
        · show (N4 t).toNatClampNeg < t + 1
          rw [n4_nat (by omega)]; omega
      · have e3 : insP w o r k = t + 1 := by rw [← j3]; unfold insP; rw [if_neg c]
        refine Or.inl ⟨(N4 (t + 1), τ), ?_, ?_, j4, j5, ?_, ?_⟩
        · rw [if_pos (Int64.not_lt.mp c)]
        · rw [e3]
        · rw [e3]; intro i hi; exact (j6 i (by omega)).2 (by omega)
        · rw [e3]; exact j7
  · show (N4 k).toNatClampNeg < 100000
    rw [n4_nat (by omega)]; omega
  · exact ⟨k, Nat.le_refl k, rfl, rfl, fun _ _ => rfl, fun _ _ => rfl, fun i _ => ⟨fun _ _ => trivial, fun _ => ⟨rfl, rfl⟩⟩, fun i h1 h2 => by omega⟩
theorem c_sort {w : Nat → Int64} {act : Nat → Bool} {c : Nat} (hc : c ≤ 16) (hq : ∀ t, t < c → σ.1 187 t = N4 (qs act t) ∧ σ.2 188 t = w (qs act t)) :
    ∃ τ, f_X8_sortByMisfit (N4 c) σ = some τ ∧ (∀ q, q ≠ 187 → τ.1 q = σ.1 q) ∧ (∀ q, q ≠ 188 → τ.2 q = σ.2 q) ∧ ∀ t, t < c → τ.1 187 t = N4 (ordO w act c t) := by
  unfold f_X8_sortByMisfit
  by_cases c0 : c = 0
  · rw [c0, show (100000 : Nat) = 99999 + 1 from rfl, f_X8_sortByMisfit_2, if_pos (by decide), bd_s]
    exact ⟨σ, rfl, fun _ _ => rfl, fun _ _ => rfl, fun t ht => by omega⟩
  · obtain ⟨τ, a1, a2, a3, a4⟩ := loopU (fun q i τ => f_X8_sortByMisfit_2 (N4 c) q (N4 i) τ) c (fun i τ => (∀ q, q ≠ 187 → τ.1 q = σ.1 q) ∧ (∀ q, q ≠ 188 → τ.2 q = σ.2 q) ∧ 1 ≤ i ∧ (∀ t, t < i → τ.1 187 t = N4 (ordO w act i t) ∧ τ.2 188 t = w (ordO w act i t)) ∧ ∀ t, i ≤ t → t < c → τ.1 187 t = N4 (qs act t) ∧ τ.2 188 t = w (qs act t))
      (fun τ => (∀ q, q ≠ 187 → τ.1 q = σ.1 q) ∧ (∀ q, q ≠ 188 → τ.2 q = σ.2 q) ∧ ∀ t, t < c → τ.1 187 t = N4 (ordO w act c t)) (by
        intro q τ hP
        refine ⟨τ, ?_, hP.1, hP.2.1, fun t ht => (hP.2.2.2.1 t ht).1⟩
        show f_X8_sortByMisfit_2 (N4 c) (q + 1) (N4 c) τ = some τ
        rw [f_X8_sortByMisfit_2, if_pos ((n4_le (by omega) (by omega)).mpr (Nat.le_refl _))]) (by
        intro q i τ hi hP
        obtain ⟨p1, p2, p0, p3, p4⟩ := hP
        obtain ⟨g1, g2⟩ := p4 i (Nat.le_refl i) hi
        have hip := insP_le w (ordO w act i) (qs act i) i
        obtain ⟨ρ, r1, r2, r3, r4, r5⟩ := c_ins (σ := τ) (w := w) (o := ordO w act i) (k := i) (r := qs act i) (x1 := N4 c) (by omega) p3
        show ∃ a', f_X8_sortByMisfit_2 (N4 c) (q + 1) (N4 i) τ = _ ∧ _
        rw [f_X8_sortByMisfit_2, if_neg (fun e => by have := (n4_le (by omega) (by omega)).mp e; omega), gd_inb (by omega) (by omega), gd_inb (by omega) (by omega), n4_nat (by omega), g1, g2, r1, bd_s, gd_inb (by omega) (by omega), gd_inb (by omega) (by omega), n4_nat (by omega), n4_succ]
        refine ⟨_, rfl, fun q hq => by rw [mI_p hq, mL_I, r2 q hq]; exact p1 q hq, fun q hq => by rw [mI_L, mL_p hq, r3 q hq]; exact p2 q hq, by omega, fun t ht => ?_, fun t ht htc => ?_⟩
        · have eo : ordO w act (i + 1) t = insF w (ordO w act i) i (qs act i) t := rfl
          rw [eo]
          unfold insF
          by_cases q1 : t < insP w (ordO w act i) (qs act i) i
          · rw [if_pos q1, mI_j (by omega), mI_L, mL_j (by omega), mL_I, (r4 t (Or.inl q1)).1, (r4 t (Or.inl q1)).2]
            exact p3 t (by omega)
          · rw [if_neg q1]
            by_cases q2 : t = insP w (ordO w act i) (qs act i) i
            · rw [if_pos q2, q2, mI_e, mI_L, mL_e]; exact ⟨rfl, rfl⟩
            · rw [if_neg q2, mI_j q2, mI_L, mL_j q2, mL_I]
              exact r5 t (by omega) (by omega)
        · rw [mI_j (by omega), mI_L, mL_j (by omega), mL_I, (r4 t (Or.inr (by omega))).1, (r4 t (Or.inr (by omega))).2]
          exact p4 t (by omega) htc) 100000 1 σ (by omega) (by omega) ⟨fun _ _ => rfl, fun _ _ => rfl, Nat.le_refl 1, fun t ht => by
          have : t = 0 := by omega
          rw [this]
          exact hq 0 (by omega), fun t _ htc => hq t htc⟩
    have a1' : f_X8_sortByMisfit_2 (N4 c) 100000 1 σ = some τ := a1
    rw [a1', bd_s]
    exact ⟨τ, rfl, a2, a3, a4⟩
end CSWP
