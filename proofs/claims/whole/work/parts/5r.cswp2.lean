/-! ===== the class draws lots, arranges, sweeps ===== -/
section CSWP2
variable {σ : Mem} {W H n : Nat} {m m' : Nat → Int64}
theorem fk_r {τ : Mem} (hI : ∀ q, q ≠ 187 → τ.1 q = σ.1 q) (hL : ∀ q, q ≠ 188 → τ.2 q = σ.2 q) : Fk σ τ :=
  ⟨fun q j hq => by rw [hI q (by unfold ckI at hq; omega)], fun q j hq => by rw [hL q (by unfold ckI at hq; omega)]⟩
theorem cs_seed {s : Nat} (h : CS σ m W H n) (hs : s < 2147483648) : CS (setL σ 1 6 (N8 s)) (vp_updL m 6 (N8 s)) W H n := by
  have e : ∀ j, j ≠ 6 → vp_updL m 6 (N8 s) j = m j := fun j hj => if_neg hj
  obtain ⟨s1, s2, s3, s4, s5⟩ := h.2.1
  have hc := cch_of (τ := setL σ 1 6 (N8 s)) h.2.2.2 (fun q _ _ => rfl) (mL_p (by omega)) h.1.1.2.2.2.2.2.2.2
  refine ⟨val_s h.1 hs, ⟨fun j hj => by rw [e j (by omega)]; exact s1 j hj, ?_, by rw [e 7 (by omega)]; exact s3, fun c hc => by rw [e _ (by omega), e _ (by omega)]; exact s4 c hc, fun q hq => ?_⟩, h.2.2.1, cch_congr h.1 (fun c hc => e _ (by omega)) (fun q hq => ⟨e _ (by omega), e _ (by omega)⟩) hc⟩
  · rw [mL_e]; exact if_pos rfl
  · obtain ⟨a, b, c, d⟩ := s5 q hq
    refine ⟨by rw [e _ (by omega)]; exact a, by rw [e _ (by omega)]; exact b, by rw [e _ (by omega)]; exact c, ?_⟩
    rw [e _ (by omega)]
    show _ = (setL σ 1 6 (N8 s)).2 6 q
    rw [mL_p (by omega)]; exact d
theorem c_shift {d a : Nat} {x1 x4 : Int32} (hda : d ≤ a) (ha : a < 16) : ∃ τ, f_X8_drawLots_54 x1 (N4 d) x4 100000 (N4 a) σ = some τ ∧ (∀ q, q ≠ 187 → τ.1 q = σ.1 q) ∧ τ.2 = σ.2 ∧ ∀ i, τ.1 187 i = if d < i ∧ i ≤ a then σ.1 187 (i - 1) else σ.1 187 i := by
  refine loopM (fun q (y : Int32 × Mem) => f_X8_drawLots_54 x1 (N4 d) x4 q y.1 y.2) (fun y => y.1.toNatClampNeg)
    (fun y => ∃ j, d ≤ j ∧ j ≤ a ∧ y.1 = N4 j ∧ (∀ q, q ≠ 187 → y.2.1 q = σ.1 q) ∧ y.2.2 = σ.2 ∧ ∀ i, y.2.1 187 i = if j < i ∧ i ≤ a then σ.1 187 (i - 1) else σ.1 187 i)
    (fun τ => (∀ q, q ≠ 187 → τ.1 q = σ.1 q) ∧ τ.2 = σ.2 ∧ ∀ i, τ.1 187 i = if d < i ∧ i ≤ a then σ.1 187 (i - 1) else σ.1 187 i) ?_ 100000 (N4 a, σ) ?_ ?_
  · rintro q ⟨y, τ⟩ ⟨j, j1, j2, j3, j4, j5, j6⟩
    obtain rfl : y = N4 j := j3
    show (∃ b, f_X8_drawLots_54 x1 (N4 d) x4 (q + 1) (N4 j) τ = some b ∧ _) ∨ (∃ a' : Int32 × Mem, f_X8_drawLots_54 x1 (N4 d) x4 (q + 1) (N4 j) τ = _ ∧ _)
    rw [f_X8_drawLots_54]
    by_cases e : j = d
    · rw [if_pos ((n4_le (by omega) (by omega)).mpr (by omega))]
      exact Or.inl ⟨τ, rfl, j4, j5, by rw [← e]; exact j6⟩
    · rw [if_neg (fun x => by have := (n4_le (by omega) (by omega)).mp x; omega), show N4 j - 1 = N4 (j - 1) from n4_sub (a := j) (b := 1) (by omega), gd_inb (by omega) (by omega), gd_inb (by omega) (by omega), n4_nat (by omega), n4_nat (by omega), n4_dec (by omega)]
      have hj := j6 (j - 1)
      rw [if_neg (by omega)] at hj
      have hj' : τ.1 187 (j - 1) = σ.1 187 (j - 1) := hj
      rw [hj']
      refine Or.inr ⟨(N4 (j - 1), _), rfl, ⟨j - 1, by omega, by omega, rfl, fun q hq => ?_, ?_, fun i => ?_⟩, ?_⟩
      · show (setI τ 187 j _).1 q = _
        rw [mI_p hq]; exact j4 q hq
      · show (setI τ 187 j _).2 = _
        rw [mI_L]; exact j5
      · show (setI τ 187 j _).1 187 i = _
        by_cases e2 : i = j
        · rw [e2, mI_e, if_pos (by omega)]
        · rw [mI_j e2]
          have := j6 i
          by_cases c : j < i ∧ i ≤ a
          · rw [if_pos c] at this
            rw [if_pos (by omega)]; exact this
          · rw [if_neg c] at this
            rw [if_neg (by omega)]; exact this
      · show (N4 (j - 1)).toNatClampNeg < j
        rw [n4_nat (by omega)]; omega
  · show (N4 a).toNatClampNeg < 100000
    rw [n4_nat (by omega)]; omega
  · exact ⟨a, hda, Nat.le_refl a, rfl, fun _ _ => rfl, rfl, fun i => by rw [if_neg (by omega)]⟩
theorem c_lots {c s : Nat} {o : Nat → Nat} (h : CS σ m W H n) (hc : c ≤ 16) (hs6 : m 6 = N8 s) (hsl : s < 2147483648) (ho : ∀ t, t < c → σ.1 187 t = N4 (o t)) :
    ∃ τ, f_X8_drawLots (N4 c) σ = some τ ∧ CS τ (vp_updL m 6 (N8 (itN s c))) W H n ∧ Fk σ τ ∧ ∀ t, t < c → τ.1 187 t = N4 (drO c s o t) := by
  have key := loopU (fun k i τ => f_X8_drawLots_2 (N4 c) k (N4 i) τ) c (fun i τ => CS τ (vp_updL m 6 (N8 (itN s i))) W H n ∧ Fk σ τ ∧ (∀ t, t < i → τ.1 187 t = N4 (drO c s o t)) ∧ ∀ t, t < c - i → τ.1 187 (i + t) = N4 (drL c s o i t)) (fun τ => CS τ (vp_updL m 6 (N8 (itN s c))) W H n ∧ Fk σ τ ∧ ∀ t, t < c → τ.1 187 t = N4 (drO c s o t)) ?_ ?_ 100000 0 σ (by omega) (by omega) ⟨by rw [show itN s 0 = s from rfl, upd_self hs6]; exact h, Fz.rfl, fun t ht => by omega, fun t ht => by rw [Nat.zero_add]; exact ho t (by omega)⟩
  · obtain ⟨τ, b1, b2⟩ := key
    have b1' : f_X8_drawLots_2 (N4 c) 100000 0 σ = some τ := b1
    unfold f_X8_drawLots
    rw [b1', bd_s]
    exact ⟨τ, rfl, b2⟩
  · intro k τ hP
    refine ⟨τ, ?_, hP.1, hP.2.1, hP.2.2.1⟩
    show f_X8_drawLots_2 (N4 c) (k + 1) (N4 c) τ = some τ
    rw [f_X8_drawLots_2, if_pos ((n4_le (by omega) (by omega)).mpr (Nat.le_refl _))]
  · intro k i τ hi hP
    obtain ⟨p1, p2, p3, p4⟩ := hP
    have hlt := itN_lt hsl i
    have hd := dat_lt (n := c) (s := s) hi
    have e6 : τ.2 1 6 = N8 (itN s i) := by rw [← p1.2.1.2.1]; exact if_pos rfl
    have eat : (N8 (nxN (itN s i)) / N8 65536 - N8 (nxN (itN s i)) / N8 65536 / N8 (c - i) * N8 (c - i)).toInt32 = N4 (dat c s i) := by
      have : nxN (itN s i) < 2147483648 := nxN_lt _
      have h2 : nxN (itN s i) / 65536 ≤ nxN (itN s i) := Nat.div_le_self _ _
      rw [n8_div (by omega) (by omega), n8_mod (by omega) (by omega), n8_32]
      rfl
    have enz : nz8 (N8 (c - i)) = true := by
      have : ¬ N8 (c - i) = 0 := fun q => by
        have := (n8_eq (b := 0) (by omega) (by omega)).mp q
        omega
      simp [nz8, this]
    have hCa : CS (setL τ 1 6 (N8 (nxN (itN s i)))) (vp_updL m 6 (N8 (itN s (i + 1)))) W H n := by
      have h1 := cs_seed p1 (nxN_lt (itN s i))
      rw [upd_upd] at h1
      exact h1
    obtain ⟨ρ, r1, r2, r3, r4⟩ := c_shift (σ := setL τ 1 6 (N8 (nxN (itN s i)))) (x1 := N4 c) (x4 := N4 (drL c s o i (dat c s i))) (d := i) (a := i + dat c s i) (by omega) (by omega)
    have hnx : (1103515245 * N8 (itN s i) + 12345 - (1103515245 * N8 (itN s i) + 12345) / 2147483648 * 2147483648) = N8 (nxN (itN s i)) := nxt_n hlt
    show ∃ a', f_X8_drawLots_2 (N4 c) (k + 1) (N4 i) τ = _ ∧ _
    rw [f_X8_drawLots_2, if_neg (fun q => by have := (n4_le (by omega) (by omega)).mp q; omega)]
    unfold f_X11_nextChance f_X11_leadingPart
    rw [bd_s, bd_s, e6, hnx, mL_e, n4_sub (by omega), n4_64 (by omega), gd_t enz, show (65536 : Int64) = N8 65536 from rfl, eat, n4_add, gd_inb (by omega) (by omega), n4_nat (by omega), mL_I, p4 _ hd, r1, bd_s, gd_inb (by omega) (by omega), n4_nat (by omega), n4_succ]
    have f1 : ∀ q, q ≠ 187 → (setI ρ 187 i (N4 (drL c s o i (dat c s i)))).1 q = τ.1 q := fun q hq => by rw [mI_p hq, r2 q hq, mL_I]
    have f2 : (setI ρ 187 i (N4 (drL c s o i (dat c s i)))).2 = (setL τ 1 6 (N8 (nxN (itN s i)))).2 := by rw [mI_L, r3]
    refine ⟨_, rfl, cs_scr hCa (fun q hq => f1 q (by omega)) (fun q hq => by rw [f2]), ?_, fun t ht => ?_, fun t ht => ?_⟩
    · exact (p2.l (by unfold ckI; omega)).trans (fk_r (σ := setL τ 1 6 (N8 (nxN (itN s i)))) (fun q hq => f1 q hq) (fun q hq => by rw [f2]))
    · by_cases e : t = i
      · rw [e, mI_e]; rfl
      · rw [mI_j e, r4 t, if_neg (by omega)]; exact p3 t (by omega)
    · rw [mI_j (by omega), r4, show drL c s o (i + 1) t = if t < dat c s i then drL c s o i t else drL c s o i (t + 1) from rfl]
      by_cases e : t < dat c s i
      · rw [if_pos e, if_pos (by omega), show i + 1 + t - 1 = i + t by omega]
        exact p4 t (by omega)
      · rw [if_neg e, if_neg (by omega), show i + 1 + t = i + (t + 1) by omega]
        exact p4 (t + 1) (by omega)
/-- the order's effect on the queue -/
noncomputable def ordS (m : Nat → Int64) (W H n : Nat) : Nat → Nat := if m 5 = 3 then drO (cnt (actR m) n) (m 6).toNatClampNeg (ordM m W H n) else ordM m W H n
noncomputable def sdS (m : Nat → Int64) (n : Nat) : Nat → Int64 := if m 5 = 3 then vp_updL m 6 (N8 (itN (m 6).toNatClampNeg (cnt (actR m) n))) else m
theorem c_arrange (h : CS σ m W H n) (hq : ∀ t, t < cnt (actR m) n → σ.1 187 t = N4 (qs (actR m) t) ∧ σ.2 188 t = if m 5 = 2 then resA m W H (qs (actR m) t) else 0) :
    ∃ τ, f_X8_arrange (N4 (cnt (actR m) n)) σ = some τ ∧ CS τ (sdS m n) W H n ∧ Fk σ τ ∧ ∀ t, t < cnt (actR m) n → τ.1 187 t = N4 (ordS m W H n t) := by
  have hn := h.1.1.2.2.2.2.2.2.2
  have hcl := cnt_le (actR m) n
  obtain ⟨od, o1, o2, o3⟩ := cs_ord h
  have h8 : ∀ k, k < 10 → ((m 5 = N8 k) ↔ od = k) := fun k hk => by rw [o2]; exact n8_eq (by omega) (by omega)
  have h4 : ∀ k, k < 10 → ((N4 od = N4 k) ↔ od = k) := fun k hk => n4_eq (by omega) (by omega)
  unfold f_X8_arrange ordS sdS
  rw [o1]
  by_cases e1 : od = 1
  · have m1 : m 5 = 1 := (h8 1 (by omega)).mpr e1
    have m3 : ¬ m 5 = 3 := fun x => by have := (h8 3 (by omega)).mp x; omega
    obtain ⟨τ, a1, a2, a3, a4⟩ := c_turn (σ := σ) (x0 := 187) (A := 16) (k := cnt (actR m) n) (by decide +kernel) (by decide +kernel) (by omega) (by omega)
    rw [if_pos (show N4 od = 1 from (h4 1 (by omega)).mpr e1), a1, bd_s, if_neg m3, if_neg m3]
    refine ⟨τ, rfl, cs_scr h (fun q hq => a2 q (by omega)) (fun q _ => by rw [a3]), fk_r a2 (fun q _ => by rw [a3]), fun t ht => ?_⟩
    have hw : ∀ a, wgt m W H a = N8 a := fun a => by unfold wgt; rw [if_pos m1]
    rw [a4 t ht, (hq _ (by omega)).1, show ordM m W H n t = ordO (wgt m W H) (actR m) (cnt (actR m) n) t from rfl, ord_desc hn (fun a b hab hb => by rw [hw, hw]; exact (n8_lt (by omega) (by omega)).mpr hab) _ (Nat.le_refl _) t ht]
  · have m1 : ¬ m 5 = 1 := fun x => e1 ((h8 1 (by omega)).mp x)
    rw [if_neg (show ¬ N4 od = 1 from fun x => e1 ((h4 1 (by omega)).mp x))]
    by_cases e2 : od = 2
    · have m2 : m 5 = 2 := (h8 2 (by omega)).mpr e2
      have m3 : ¬ m 5 = 3 := fun x => by have := (h8 3 (by omega)).mp x; omega
      have hw : ∀ a, wgt m W H a = resA m W H a := fun a => by unfold wgt; rw [if_neg m1, if_pos m2]; rfl
      obtain ⟨τ, a1, a2, a3, a4⟩ := c_sort (σ := σ) (w := wgt m W H) (act := actR m) (c := cnt (actR m) n) (by omega) (fun t ht => ⟨(hq t ht).1, by rw [(hq t ht).2, if_pos m2, hw]⟩)
      rw [if_pos (show N4 od = 2 from (h4 2 (by omega)).mpr e2), a1, bd_s, if_neg m3, if_neg m3]
      exact ⟨τ, rfl, cs_scr h (fun q hq => a2 q (by omega)) (fun q hq => a3 q (by omega)), fk_r a2 a3, a4⟩
    · have m2 : ¬ m 5 = 2 := fun x => e2 ((h8 2 (by omega)).mp x)
      have hw : ∀ a, wgt m W H a = 0 := fun a => by unfold wgt; rw [if_neg m1, if_neg m2]
      have hoc : ∀ t, t < cnt (actR m) n → ordM m W H n t = qs (actR m) t := fun t ht => ord_const (fun a b => by rw [hw, hw]; decide) _ t ht
      rw [if_neg (show ¬ N4 od = 2 from fun x => e2 ((h4 2 (by omega)).mp x))]
      by_cases e3 : od = 3
      · have m3 : m 5 = 3 := (h8 3 (by omega)).mpr e3
        obtain ⟨lo, hi', re, od', s, b1, b2, b3, b4, b5, b6, b7, b8, b9, b10, b11, b12⟩ := h.1.2.2.2.2.1
        obtain ⟨τ, a1, a2, a3, a4⟩ := c_lots (c := cnt (actR m) n) (o := ordM m W H n) h (by omega) b11 b12 (fun t ht => by rw [hoc t ht]; exact (hq t ht).1)
        rw [if_pos (show N4 od = 3 from (h4 3 (by omega)).mpr e3), a1, bd_s, if_pos m3, if_pos m3, b11, n8_nat (by omega)]
        exact ⟨τ, rfl, a2, a3, a4⟩
      · have m3 : ¬ m 5 = 3 := fun x => e3 ((h8 3 (by omega)).mp x)
        rw [if_neg (show ¬ N4 od = 3 from fun x => e3 ((h4 3 (by omega)).mp x)), if_neg m3, if_neg m3]
        exact ⟨σ, rfl, h, Fz.rfl, fun t ht => by rw [hoc t ht]; exact (hq t ht).1⟩
theorem c_corK {c : Nat} {o : Nat → Nat} {x1 x2 x3 : Int32} (h : CS σ m W H n) (hc : c ≤ 16) (ho : ∀ t, t < c → σ.1 187 t = N4 (o t) ∧ o t < n) : ∃ τ, f_X8_makeSweeps_24 x1 x2 x3 (N4 c) 100000 (N4 0) σ = some τ ∧ CS τ (corK m W H o c) W H n ∧ Fk σ τ := by
  have hn := h.1.1.2.2.2.2.2.2.2
  refine loopU (fun k i τ => f_X8_makeSweeps_24 x1 x2 x3 (N4 c) k (N4 i) τ) c (fun i τ => CS τ (corK m W H o i) W H n ∧ Fk σ τ ∧ τ.1 187 = σ.1 187) (fun τ => CS τ (corK m W H o c) W H n ∧ Fk σ τ) ?_ ?_ 100000 0 σ (by omega) (by omega) ⟨h, Fz.rfl, rfl⟩
  · intro k τ hP
    refine ⟨τ, ?_, hP.1, hP.2.1⟩
    show f_X8_makeSweeps_24 x1 x2 x3 (N4 c) (k + 1) (N4 c) τ = some τ
    rw [f_X8_makeSweeps_24, if_pos ((n4_le (by omega) (by omega)).mpr (Nat.le_refl _))]
  · intro k i τ hi hP
    obtain ⟨p1, p2, p3⟩ := hP
    obtain ⟨h1, h2⟩ := ho i hi
    obtain ⟨ρ, r1, r2, r3, r4, r5⟩ := c_project p1 h2
    show ∃ a', f_X8_makeSweeps_24 x1 x2 x3 (N4 c) (k + 1) (N4 i) τ = _ ∧ _
    rw [f_X8_makeSweeps_24, if_neg (fun q => by have := (n4_le (by omega) (by omega)).mp q; omega), gd_inb (by omega) (by omega), n4_nat (by omega), p3, h1, r1, bd_s, n4_succ]
    exact ⟨ρ, rfl, r2, p2.trans r3, r4.trans p3⟩
theorem c_sweeps {k : Nat} (h : CS σ m W H n) (hk : k ≤ 20) : ∃ τ, f_X8_makeSweeps (N4 k) σ = some (N4 (swpC m W H n k), τ) ∧ CS τ (swpK m W H n k) W H n ∧ Fk σ τ := by
  have hn := h.1.1.2.2.2.2.2.2.2
  have key := loopU (fun q i (a : Int32 × Mem) => f_X8_makeSweeps_4 (N4 k) q a.1 (N4 i) a.2) k (fun i a => a.1 = N4 (swpC m W H n i) ∧ CS a.2 (swpK m W H n i) W H n ∧ Fk σ a.2) (fun b => b.1 = N4 (swpC m W H n k) ∧ CS b.2 (swpK m W H n k) W H n ∧ Fk σ b.2) ?_ ?_ 100000 0 (N4 0, σ) (by omega) (by omega) ⟨rfl, h, Fz.rfl⟩
  · obtain ⟨⟨b1, b2⟩, c1, c2, c3⟩ := key
    obtain rfl : b1 = _ := c2
    have c1' : f_X8_makeSweeps_4 (N4 k) 100000 0 0 σ = _ := c1
    unfold f_X8_makeSweeps
    rw [c1', bd_s]
    exact ⟨b2, rfl, c3⟩
  · rintro q ⟨a, τ⟩ ⟨p1, p2⟩
    refine ⟨(a, τ), ?_, p1, p2⟩
    show f_X8_makeSweeps_4 (N4 k) (q + 1) a (N4 k) τ = some (a, τ)
    rw [f_X8_makeSweeps_4, if_pos ((n4_le (by omega) (by omega)).mpr (Nat.le_refl _))]
  · rintro q i ⟨a, τ⟩ hi ⟨p1, p2, p3⟩
    have p1' : a = N4 (swpC m W H n i) := p1
    have hcl := cnt_le (actR (swpK m W H n i)) n
    have hol := ordM_lt (m := swpK m W H n i) (W := W) (H := H) hn
    obtain ⟨ρ, r1, r2, r3, r4⟩ := c_queue p2
    obtain ⟨μ, u1, u2, u3, u4⟩ := c_arrange r2 r4
    have hsum : a + N4 (cnt (actR (swpK m W H n i)) n) = N4 (swpC m W H n (i + 1)) := by rw [p1', n4_add]; rfl
    have hos : ∀ t, t < cnt (actR (swpK m W H n i)) n → ordS (swpK m W H n i) W H n t < n := fun t ht => by
      unfold ordS
      split
      · exact drO_mem (fun r => r < n) (fun t ht => (hol t ht).1) t ht
      · exact (hol t ht).1
    obtain ⟨ν, v1, v2, v3⟩ := c_corK (x1 := N4 k) (x2 := a) (x3 := N4 i) u2 (by omega) (fun t ht => ⟨u4 t ht, hos t ht⟩)
    have v1' : f_X8_makeSweeps_24 (N4 k) a (N4 i) (N4 (cnt (actR (swpK m W H n i)) n)) 100000 0 μ = some ν := v1
    have hsw : corK (sdS (swpK m W H n i) n) W H (ordS (swpK m W H n i) W H n) (cnt (actR (swpK m W H n i)) n) = swpK m W H n (i + 1) := by
      show _ = swp1 (swpK m W H n i) W H n
      unfold swp1 sdS ordS
      by_cases e : swpK m W H n i 5 = 3
      · rw [if_pos e, if_pos e, if_pos e]
      · rw [if_neg e, if_neg e, if_neg e]
    rw [hsw] at v2
    show ∃ a', f_X8_makeSweeps_4 (N4 k) (q + 1) a (N4 i) τ = _ ∧ _
    rw [f_X8_makeSweeps_4, if_neg (fun q => by have := (n4_le (by omega) (by omega)).mp q; omega), r1, bd_s]
    show ∃ a', (bd (f_X8_arrange (N4 (cnt (actR (swpK m W H n i)) n)) ρ) fun q4 => bd (f_X8_makeSweeps_24 (N4 k) a (N4 i) (N4 (cnt (actR (swpK m W H n i)) n)) 100000 0 q4) fun q6 => f_X8_makeSweeps_4 (N4 k) q (a + N4 (cnt (actR (swpK m W H n i)) n)) (N4 i + 1) q6) = _ ∧ _
    rw [u1, bd_s, v1', bd_s, hsum, n4_succ]
    exact ⟨(_, _), rfl, rfl, v2, ((p3.trans r3).trans u3).trans v3⟩
end CSWP2
