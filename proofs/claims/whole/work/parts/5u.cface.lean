/-! ===== the class's calls: what is asked of the words, the reading calls ===== -/
theorem xm_l {α β : Type} {v : α} {σ : Mem} {f : α → Option ((β ⊕ String) × Mem)} : xm (.inl v) σ f = f v := rfl
theorem xm_r {α β : Type} {e : String} {σ : Mem} {f : α → Option ((β ⊕ String) × Mem)} : xm (.inr e) σ f = some (.inr e, σ) := rfl
def CScr (σ : Mem) (sc : List Nat) : Prop := sc.length ≤ 120 ∧ (∀ i, i < sc.length → sc.getD i 0 < 128) ∧ σ.1 219 1 = N4 sc.length ∧ ∀ i, i < sc.length → σ.1 220 i = N4 (sc.getD i 0)
/-- the class at m, with its history and its script -/
def CI (σ : Mem) (m : Nat → Int64) (W H n : Nat) (hs : List (Nat → Int64)) (sc : List Nat) : Prop := CS σ m W H n ∧ CHist σ hs ∧ CScr σ sc
def Cfr (σ τ : Mem) : Prop := ∀ q, 224 ≤ q → τ.1 q = σ.1 q ∧ τ.2 q = σ.2 q
/-- a call of the class left the rows of the reference alone and came to m' -/
def CO (σ τ : Mem) (m : Nat → Int64) (W H n : Nat) (hs : List (Nat → Int64)) (sc : List Nat) : Prop := CI τ m W H n hs sc ∧ Cfr σ τ
section CFACE
variable {σ τ : Mem} {W H n W' H' n' : Nat} {m m' : Nat → Int64} {hs hs' : List (Nat → Int64)} {sc : List Nat}
theorem CScr.of (h : CScr σ sc) (hI : ∀ q, 219 ≤ q → q < 224 → τ.1 q = σ.1 q) : CScr τ sc :=
  ⟨h.1, h.2.1, by rw [hI 219 (by omega) (by omega)]; exact h.2.2.1, by rw [hI 220 (by omega) (by omega)]; exact h.2.2.2⟩
theorem Cfr.trans {ρ : Mem} (a : Cfr σ τ) (b : Cfr τ ρ) : Cfr σ ρ := fun q hq => ⟨(b q hq).1.trans (a q hq).1, (b q hq).2.trans (a q hq).2⟩
theorem Cfr.of (hI : ∀ q, 224 ≤ q → τ.1 q = σ.1 q) (hL : ∀ q, 224 ≤ q → τ.2 q = σ.2 q) : Cfr σ τ := fun q hq => ⟨hI q hq, hL q hq⟩
theorem Cfr.fk (hF : Fk σ τ) : Cfr σ τ := Cfr.of (fun q hq => hF.rowI (fun j => by unfold ckI; omega)) (fun q hq => hF.row (fun j => by unfold ckI; omega))
theorem CO.refl (h : CI σ m W H n hs sc) : CO σ σ m W H n hs sc := ⟨h, fun _ _ => ⟨rfl, rfl⟩⟩
theorem ci_fk (h : CI σ m W H n hs sc) (hC : CS τ m' W' H' n') (hF : Fk σ τ) : CO σ τ m' W' H' n' hs sc :=
  ⟨⟨hC, h.2.1.of (fun q _ _ => hF.rowI (fun j => by unfold ckI; omega)) (fun q _ _ => hF.row (fun j => by unfold ckI; omega)), h.2.2.of (fun q _ _ => hF.rowI (fun j => by unfold ckI; omega))⟩, Cfr.fk hF⟩
theorem ci_q (h : CI σ m W H n hs sc) (q : CQ σ τ m W H n) : CO σ τ m W H n hs sc := ci_fk h (CQ.cs h.1 q) (Fc.k q.1)
theorem co_save (h : CI σ m W H n hs sc) : ∃ τ, f_X3_save 1 σ = some τ ∧ CO σ τ m W H n (push hs m) sc ∧ ∀ q, q < 189 → τ.1 q = σ.1 q ∧ τ.2 q = σ.2 q := by
  obtain ⟨τ, a1, a2, a3⟩ := c_save h.1.2.1 h.1.1.2.2.2.2.2.1 h.2.1
  exact ⟨τ, a1, ⟨⟨cs_scr h.1 (fun q hq => (a3 q (by omega)).1) (fun q hq => (a3 q (by omega)).2), a2, h.2.2.of (fun q _ _ => (a3 q (by omega)).1)⟩, fun q hq => a3 q (by omega)⟩, fun q hq => a3 q (by omega)⟩
theorem CO.fk {ρ : Mem} (h : CO σ τ m W H n hs sc) (hC : CS ρ m' W' H' n') (hF : Fk τ ρ) : CO σ ρ m' W' H' n' hs sc := by
  obtain ⟨a, b⟩ := ci_fk h.1 hC hF
  exact ⟨a, h.2.trans b⟩
/-! what is asked of the words -/
theorem cn_w {x lo hi : Int32} {a b : Int} (ha : lo.toInt = a) (hb : hi.toInt = b) : f_X11_isWithin x lo hi σ = some (if rng x a b = true then 1 else 0) := by
  rw [c_within]
  have e : (lo ≤ x ∧ x ≤ hi) ↔ rng x a b = true := by
    unfold rng
    rw [decide_eq_true_eq, Int32.le_iff_toInt_le, Int32.le_iff_toInt_le, ha, hb]
  by_cases q : rng x a b = true
  · rw [if_pos q, if_pos (e.mpr q)]
  · rw [if_neg q, if_neg (fun y => q (e.mp y))]
theorem cn_r {x lo hi : Int32} (a b : Int) (ha : lo.toInt = a) (hb : hi.toInt = b) : f_X11_needRange x lo hi σ = some (if rng x a b = true then .inl () else .inr xIA) := by
  unfold f_X11_needRange
  rw [cn_w ha hb, bd_s]
  by_cases q : rng x a b = true
  · rw [if_neg (b4_t q), if_pos q]
  · rw [if_pos (b4_f q), if_neg q]
theorem cn_k {x : Int32} {k : Nat} (hk : k < 1073741824) : f_X11_isWithin x 0 (N4 k - 1) σ = some (if rng x 0 ((k : Int) - 1) = true then 1 else 0) :=
  cn_w (by decide) (n4_subI (a := k) (b := 1) hk (by omega))
theorem c_needRay {x : Int32} (h : CS σ m W H n) : f_X11_needRay x σ = some (if rng x 0 ((n : Int) - 1) = true then .inl () else .inr xIO) := by
  have hn := h.1.1.2.2.2.2.2.2.2
  unfold f_X11_needRay f_X11_isRay
  rw [(cs_W h).2.2, cn_k (by omega), bd_s, gd_b, bd_s]
  by_cases q : rng x 0 ((n : Int) - 1) = true
  · rw [if_neg (b4_t q), if_pos q]
  · rw [if_pos (b4_f q), if_neg q]
theorem c_needRow {x : Int32} (h : CS σ m W H n) : f_X11_needRow x σ = some (if rng x 0 ((H : Int) - 1) = true then .inl () else .inr xIO) := by
  have hn := h.1.1.2.2.2.2.2.2.1
  unfold f_X11_needRow f_X11_isRow
  rw [(cs_W h).2.1, cn_k (by omega), bd_s, gd_b, bd_s]
  by_cases q : rng x 0 ((H : Int) - 1) = true
  · rw [if_neg (b4_t q), if_pos q]
  · rw [if_pos (b4_f q), if_neg q]
theorem c_needCell {x : Int32} (h : CS σ m W H n) : f_X11_needCell x σ = some (if rng x 0 (((W * H : Nat) : Int) - 1) = true then .inl () else .inr xIO) := by
  have hK := h.1.1.K
  unfold f_X11_needCell f_X11_isCell
  rw [c_cells h, bd_s, cn_k (by omega), bd_s, gd_b, bd_s]
  by_cases q : rng x 0 (((W * H : Nat) : Int) - 1) = true
  · rw [if_neg (b4_t q), if_pos q]
  · rw [if_pos (b4_f q), if_neg q]
theorem c_needObs {r : Nat} (h : CS σ m W H n) (hr : r < n) : f_X11_needObserved (N4 r) σ = some (if m (139 + 4 * r) = -1 then .inr xIS else .inl ()) := by
  have hn := h.1.1.2.2.2.2.2.2.2
  unfold f_X11_needObserved
  rw [gd_inb (by omega) (by omega), n4_nat (by omega), cs_obs h (by omega)]
  by_cases q : m (139 + 4 * r) = -1
  · rw [if_pos q, if_pos q]
  · rw [if_neg q, if_neg q]
/-! reading -/
variable {x1 x2 x3 x4 : Int32}
theorem co_time1 (h : CI σ m W H n hs sc) (h1 : rng x1 0 ((n : Int) - 1) = false) : f_X11_time x1 x2 σ = some (.inr xIO, σ) := by
  unfold f_X11_time
  rw [c_needRay h.1, bd_s, if_neg (bf h1), xm_r]
theorem co_time2 {r : Nat} (h : CI σ m W H n hs sc) (hr : r < n) (h2 : rng x2 0 1 = false) : f_X11_time (N4 r) x2 σ = some (.inr xIA, σ) := by
  have hn := h.1.1.1.2.2.2.2.2.2.2
  unfold f_X11_time
  rw [c_needRay h.1, bd_s, if_pos (rng_i hr (by omega)), xm_l, cn_r 0 1 (by decide) (by decide), bd_s, if_neg (bf h2), xm_r]
theorem co_time {r w : Nat} (h : CI σ m W H n hs sc) (hr : r < n) (hw : w < 2) : ∃ τ, f_X11_time (N4 r) (N4 w) σ = some (.inl (timV m W H r w), τ) ∧ CO σ τ m W H n hs sc := by
  have hn := h.1.1.1.2.2.2.2.2.2.2
  unfold f_X11_time timV
  rw [c_needRay h.1, bd_s, if_pos (rng_i hr (by omega)), xm_l, cn_r 0 1 (by decide) (by decide), bd_s, if_pos (rng_c (by omega) (by omega)), xm_l]
  have hw1 : (N4 w = N4 1) ↔ w = 1 := n4_eq (by omega) (by omega)
  by_cases e : w = 1
  · rw [if_pos (show N4 w = 1 from hw1.mpr e), gd_inb (by omega) (by omega), n4_nat (by omega), cs_obs h.1 (by omega), if_neg (by omega)]
    exact ⟨σ, rfl, CO.refl h⟩
  · obtain ⟨τ, a1, a2, -⟩ := c_find' h.1 hr
    rw [if_neg (show ¬ N4 w = 1 from fun q => e (hw1.mp q)), a1, bd_s, if_pos (by omega)]
    exact ⟨τ, rfl, ci_q h a2⟩
theorem co_residual1 (h : CI σ m W H n hs sc) (h1 : rng x1 0 ((n : Int) - 1) = false) : f_X11_residual x1 σ = some (.inr xIO, σ) := by
  unfold f_X11_residual
  rw [c_needRay h.1, bd_s, if_neg (bf h1), xm_r]
theorem co_residual2 {r : Nat} (h : CI σ m W H n hs sc) (hr : r < n) (h2 : m (139 + 4 * r) = -1) : f_X11_residual (N4 r) σ = some (.inr xIS, σ) := by
  have hn := h.1.1.1.2.2.2.2.2.2.2
  unfold f_X11_residual
  rw [c_needRay h.1, bd_s, if_pos (rng_i hr (by omega)), xm_l, c_needObs h.1 hr, bd_s, if_pos h2, xm_r]
theorem co_residual {r : Nat} (h : CI σ m W H n hs sc) (hr : r < n) (h2 : ¬ m (139 + 4 * r) = -1) : ∃ τ, f_X11_residual (N4 r) σ = some (.inl (m (139 + 4 * r) - wtm m W H r), τ) ∧ CO σ τ m W H n hs sc := by
  have hn := h.1.1.1.2.2.2.2.2.2.2
  obtain ⟨τ, a1, a2, -⟩ := c_find' h.1 hr
  unfold f_X11_residual
  rw [c_needRay h.1, bd_s, if_pos (rng_i hr (by omega)), xm_l, c_needObs h.1 hr, bd_s, if_neg h2, xm_l, gd_inb (by omega) (by omega), a1, bd_s, n4_nat (by omega), cs_obs h.1 (by omega)]
  exact ⟨τ, rfl, ci_q h a2⟩
theorem co_wayCell1 (h : CI σ m W H n hs sc) (h1 : rng x1 0 ((n : Int) - 1) = false) : f_X11_wayCell x1 x2 σ = some (.inr xIO, σ) := by
  unfold f_X11_wayCell
  rw [c_needRay h.1, bd_s, if_neg (bf h1), xm_r]
theorem co_wayCell2 {r : Nat} (h : CI σ m W H n hs sc) (hr : r < n) (h2 : ¬ 0 ≤ x2) : f_X11_wayCell (N4 r) x2 σ = some (.inr xIA, σ) := by
  have hn := h.1.1.1.2.2.2.2.2.2.2
  unfold f_X11_wayCell
  rw [c_needRay h.1, bd_s, if_pos (rng_i hr (by omega)), xm_l, if_neg h2]
theorem co_wayCell {r i : Nat} (h : CI σ m W H n hs sc) (hr : r < n) (hi : i < 2147483648) : ∃ τ, f_X11_wayCell (N4 r) (N4 i) σ = some (.inl (wcV m W H r i), τ) ∧ CO σ τ m W H n hs sc := by
  have hn := h.1.1.1.2.2.2.2.2.2.2
  obtain ⟨τ, a1, a2, a3⟩ := c_find' h.1 hr
  obtain ⟨⟨w1, w2⟩, -⟩ := sh_way r (by omega)
  have hwl := (wln_bd (c := 0) h.1.1.1 h.1.1.2.2.2.1 hr h.1.1.s8).2.1
  unfold f_X11_wayCell wcV
  rw [c_needRay h.1, bd_s, if_pos (rng_i hr (by omega)), xm_l, if_pos (show (0 : Int32) ≤ N4 i from (n4_le (a := 0) (by omega) hi).mpr (by omega)), a1, bd_s, gd_inb (by omega) (by omega)]
  show ∃ τ', (if τ.1 147 (N4 r).toNatClampNeg ≤ N4 i then some (Sum.inl (-1), τ) else gd (inb (N4 r) 16) (gd (shA (149 + 1 * (N4 r).toNatClampNeg) 1 (aln (149 + 1 * (N4 r).toNatClampNeg))) (gd (inb (N4 i) (aln (149 + 1 * (N4 r).toNatClampNeg))) (some (Sum.inl (τ.1 (149 + 1 * (N4 r).toNatClampNeg) (N4 i).toNatClampNeg), τ))))) = some (Sum.inl _, τ') ∧ _
  rw [n4_nat (by omega), a3.2.1]
  by_cases e : (wlr m W H r).length ≤ i
  · rw [if_pos ((n4_le (by omega) hi).mpr e), if_pos e]
    exact ⟨τ, rfl, ci_q h a2⟩
  · rw [if_neg (fun q => e ((n4_le (by omega) hi).mp q)), if_neg e, gd_inb (by omega) (by omega), gd_t w1, w2, gd_inb (by omega) (by omega), n4_nat (by omega), a3.2.2.1 i (by omega)]
    exact ⟨τ, rfl, ci_q h a2⟩
theorem co_length1 (h : CI σ m W H n hs sc) (h1 : ¬ (rng x1 0 ((n : Int) - 1) = true ∧ rng x2 0 (((W * H : Nat) : Int) - 1) = true)) : f_X11_length x1 x2 σ = some (.inr xIO, σ) := by
  unfold f_X11_length
  rw [c_needRay h.1, bd_s]
  by_cases q : rng x1 0 ((n : Int) - 1) = true
  · rw [if_pos q, xm_l, c_needCell h.1, bd_s, if_neg (fun e => h1 ⟨q, e⟩), xm_r]
  · rw [if_neg q, xm_r]
theorem co_length {r c : Nat} (h : CI σ m W H n hs sc) (hr : r < n) (hc : c < W * H) : ∃ τ, f_X11_length (N4 r) (N4 c) σ = some (.inl (N4 (wln m W H r c)), τ) ∧ CO σ τ m W H n hs sc := by
  have hn := h.1.1.1.2.2.2.2.2.2.2
  have hK := h.1.1.1.K
  obtain ⟨τ, a1, a2, a3⟩ := c_find' h.1 hr
  obtain ⟨-, l1, l2⟩ := sh_way r (by omega)
  unfold f_X11_length
  rw [c_needRay h.1, bd_s, if_pos (rng_i hr (by omega)), xm_l, c_needCell h.1, bd_s, if_pos (rng_i hc (by omega)), xm_l, a1, bd_s, gd_inb (by omega) (by omega), n4_nat (by omega), gd_t l1, l2, gd_inb (by omega) (by omega), n4_nat (by omega), a3.2.2.2 c (by omega)]
  exact ⟨τ, rfl, ci_q h a2⟩
theorem co_cell1 (h : CI σ m W H n hs sc) (h1 : rng x1 0 (((W * H : Nat) : Int) - 1) = false) : f_X11_cell x1 x2 σ = some (.inr xIO, σ) := by
  unfold f_X11_cell
  rw [c_needCell h.1, bd_s, if_neg (bf h1), xm_r]
theorem co_cell2 {c : Nat} (h : CI σ m W H n hs sc) (hc : c < W * H) (h2 : rng x2 0 3 = false) : f_X11_cell (N4 c) x2 σ = some (.inr xIA, σ) := by
  have hK := h.1.1.1.K
  unfold f_X11_cell
  rw [c_needCell h.1, bd_s, if_pos (rng_i hc (by omega)), xm_l, cn_r 0 3 (by decide) (by decide), bd_s, if_neg (bf h2), xm_r]
theorem co_cell {c w : Nat} (h : CI σ m W H n hs sc) (hc : c < W * H) (hw : w < 4) : ∃ τ, f_X11_cell (N4 c) (N4 w) σ = some (.inl (celV m W H n c w), τ) ∧ CO σ τ m W H n hs sc := by
  have hK := h.1.1.1.K
  have hwk : ∀ k, k < 10 → ((N4 w = N4 k) ↔ w = k) := fun k hk => n4_eq (by omega) (by omega)
  obtain ⟨s1, s2, s3, s4, s5⟩ := h.1.2.1
  unfold f_X11_cell celV
  rw [c_needCell h.1, bd_s, if_pos (rng_i hc (by omega)), xm_l, cn_r 0 3 (by decide) (by decide), bd_s, if_pos (rng_c (by omega) (by omega)), xm_l]
  by_cases e0 : w = 0
  · rw [if_pos (show N4 w = 0 from (hwk 0 (by omega)).mpr e0), gd_inb (by omega) (by omega), n4_nat (by omega), if_pos e0, i64_r (s4 c (by omega)).1]
    exact ⟨σ, rfl, CO.refl h⟩
  · rw [if_neg (show ¬ N4 w = 0 from fun q => e0 ((hwk 0 (by omega)).mp q)), if_neg e0]
    by_cases e1 : w = 1
    · rw [if_pos (show N4 w = 1 from (hwk 1 (by omega)).mpr e1), gd_inb (by omega) (by omega), n4_nat (by omega), if_pos e1, i64_r (s4 c (by omega)).2]
      exact ⟨σ, rfl, CO.refl h⟩
    · rw [if_neg (show ¬ N4 w = 1 from fun q => e1 ((hwk 1 (by omega)).mp q)), if_neg e1]
      by_cases e2 : w = 2
      · obtain ⟨τ, a1, a2⟩ := c_coverage (c := c) h.1 (by omega)
        rw [if_pos (show N4 w = 2 from (hwk 2 (by omega)).mpr e2), if_pos e2, a1, bd_s]
        exact ⟨τ, rfl, ci_q h a2⟩
      · obtain ⟨τ, a1, a2⟩ := c_lengthSum (c := c) h.1 (by omega)
        rw [if_neg (show ¬ N4 w = 2 from fun q => e2 ((hwk 2 (by omega)).mp q)), if_neg e2, a1, bd_s]
        exact ⟨τ, rfl, ci_q h a2⟩
theorem co_section1 (h1 : rng x1 0 8 = false) : f_X11_section x1 σ = some (.inr xIA, σ) := by
  unfold f_X11_section
  rw [cn_r 0 8 (by decide) (by decide), bd_s, if_neg (bf h1), xm_r]
theorem co_section {w : Nat} (h : CI σ m W H n hs sc) (hw : w < 9) : ∃ τ, f_X11_section (N4 w) σ = some (.inl (secV m W H n w), τ) ∧ CO σ τ m W H n hs sc := by
  have hwk : ∀ k, k < 10 → ((N4 w = N4 k) ↔ w = k) := fun k hk => n4_eq (by omega) (by omega)
  obtain ⟨s1, s2, s3, s4, s5⟩ := h.1.2.1
  obtain ⟨g1, g2, g3⟩ := cs_W h.1
  unfold f_X11_section secV
  rw [cn_r 0 8 (by decide) (by decide), bd_s, if_pos (rng_c (by omega) (by omega)), xm_l, g1, g2, g3]
  by_cases e0 : w = 0
  · rw [if_pos (show N4 w = 0 from (hwk 0 (by omega)).mpr e0), if_pos e0]
    exact ⟨σ, rfl, CO.refl h⟩
  rw [if_neg (show ¬ N4 w = 0 from fun q => e0 ((hwk 0 (by omega)).mp q)), if_neg e0]
  by_cases e1 : w = 1
  · rw [if_pos (show N4 w = 1 from (hwk 1 (by omega)).mpr e1), if_pos e1]
    exact ⟨σ, rfl, CO.refl h⟩
  rw [if_neg (show ¬ N4 w = 1 from fun q => e1 ((hwk 1 (by omega)).mp q)), if_neg e1]
  by_cases e2 : w = 2
  · rw [if_pos (show N4 w = 2 from (hwk 2 (by omega)).mpr e2), if_pos e2]
    exact ⟨σ, rfl, CO.refl h⟩
  rw [if_neg (show ¬ N4 w = 2 from fun q => e2 ((hwk 2 (by omega)).mp q)), if_neg e2]
  by_cases e3 : w = 3
  · rw [if_pos (show N4 w = 3 from (hwk 3 (by omega)).mpr e3), if_pos e3, c_actives h.1, bd_s]
    exact ⟨σ, rfl, CO.refl h⟩
  rw [if_neg (show ¬ N4 w = 3 from fun q => e3 ((hwk 3 (by omega)).mp q)), if_neg e3]
  by_cases e4 : w = 4
  · obtain ⟨τ, a1, a2⟩ := c_unc h.1
    rw [if_pos (show N4 w = 4 from (hwk 4 (by omega)).mpr e4), if_pos e4, a1, bd_s]
    exact ⟨τ, rfl, ci_q h a2⟩
  rw [if_neg (show ¬ N4 w = 4 from fun q => e4 ((hwk 4 (by omega)).mp q)), if_neg e4, i64_r (s1 (w - 3) (by omega))]
  by_cases e5 : w = 5
  · rw [if_pos (show N4 w = 5 from (hwk 5 (by omega)).mpr e5), e5]
    exact ⟨σ, rfl, CO.refl h⟩
  rw [if_neg (show ¬ N4 w = 5 from fun q => e5 ((hwk 5 (by omega)).mp q))]
  by_cases e6 : w = 6
  · rw [if_pos (show N4 w = 6 from (hwk 6 (by omega)).mpr e6), e6]
    exact ⟨σ, rfl, CO.refl h⟩
  rw [if_neg (show ¬ N4 w = 6 from fun q => e6 ((hwk 6 (by omega)).mp q))]
  by_cases e7 : w = 7
  · rw [if_pos (show N4 w = 7 from (hwk 7 (by omega)).mpr e7), e7]
    exact ⟨σ, rfl, CO.refl h⟩
  rw [if_neg (show ¬ N4 w = 7 from fun q => e7 ((hwk 7 (by omega)).mp q)), show w - 3 = 5 by omega]
  exact ⟨σ, rfl, CO.refl h⟩
theorem co_fit1 (h1 : rng x1 0 4 = false) : f_X11_fit x1 σ = some (.inr xIA, σ) := by
  unfold f_X11_fit
  rw [cn_r 0 4 (by decide) (by decide), bd_s, if_neg (bf h1), xm_r]
theorem co_ray1 (h : CI σ m W H n hs sc) (h1 : rng x1 0 ((n : Int) - 1) = false) : f_X11_ray x1 x2 σ = some (.inr xIO, σ) := by
  unfold f_X11_ray
  rw [c_needRay h.1, bd_s, if_neg (bf h1), xm_r]
theorem co_ray2 {r : Nat} (h : CI σ m W H n hs sc) (hr : r < n) (h2 : rng x2 0 4 = false) : f_X11_ray (N4 r) x2 σ = some (.inr xIA, σ) := by
  have hn := h.1.1.1.2.2.2.2.2.2.2
  unfold f_X11_ray
  rw [c_needRay h.1, bd_s, if_pos (rng_i hr (by omega)), xm_l, cn_r 0 4 (by decide) (by decide), bd_s, if_neg (bf h2), xm_r]
theorem co_ray {r w : Nat} (h : CI σ m W H n hs sc) (hr : r < n) (hw : w < 5) : ∃ τ, f_X11_ray (N4 r) (N4 w) σ = some (.inl (rayV m W H r w), τ) ∧ CO σ τ m W H n hs sc := by
  have hn := h.1.1.1.2.2.2.2.2.2.2
  have hwk : ∀ k, k < 10 → ((N4 w = N4 k) ↔ w = k) := fun k hk => n4_eq (by omega) (by omega)
  obtain ⟨s1, s2, s3, s4, s5⟩ := h.1.2.1
  obtain ⟨b1, b2, b3, b4⟩ := s5 r (by omega)
  unfold f_X11_ray rayV
  rw [c_needRay h.1, bd_s, if_pos (rng_i hr (by omega)), xm_l, cn_r 0 4 (by decide) (by decide), bd_s, if_pos (rng_c (by omega) (by omega)), xm_l]
  by_cases e0 : w = 0
  · rw [if_pos (show N4 w = 0 from (hwk 0 (by omega)).mpr e0), gd_inb (by omega) (by omega), n4_nat (by omega), if_neg (by omega), if_neg (by omega), e0, Nat.add_zero, i64_r b1]
    exact ⟨σ, rfl, CO.refl h⟩
  rw [if_neg (show ¬ N4 w = 0 from fun q => e0 ((hwk 0 (by omega)).mp q))]
  by_cases e1 : w = 1
  · rw [if_pos (show N4 w = 1 from (hwk 1 (by omega)).mpr e1), gd_inb (by omega) (by omega), n4_nat (by omega), if_neg (by omega), if_neg (by omega), e1, show 136 + 4 * r + 1 = 137 + 4 * r by omega, i64_r b2]
    exact ⟨σ, rfl, CO.refl h⟩
  rw [if_neg (show ¬ N4 w = 1 from fun q => e1 ((hwk 1 (by omega)).mp q))]
  by_cases e2 : w = 2
  · rw [if_pos (show N4 w = 2 from (hwk 2 (by omega)).mpr e2), gd_inb (by omega) (by omega), n4_nat (by omega), if_neg (show ¬ w = 4 by omega), if_neg (show ¬ w = 3 by omega), e2, show 136 + 4 * r + 2 = 138 + 4 * r by omega, i64_r b3]
    rcases h.1.1.2.2.2.2.2.1 r (by omega) with u | u
    · rw [b3] at u
      rw [i64_n4 u.symm, if_pos (by decide)]
      exact ⟨σ, rfl, CO.refl h⟩
    · rw [b3] at u
      rw [i64_n4 u.symm, if_neg (by decide)]
      exact ⟨σ, rfl, CO.refl h⟩
  rw [if_neg (show ¬ N4 w = 2 from fun q => e2 ((hwk 2 (by omega)).mp q))]
  by_cases e3 : w = 3
  · rw [if_pos (show N4 w = 3 from (hwk 3 (by omega)).mpr e3), c_isActive h.1 (by omega), bd_s, if_neg (show ¬ w = 4 by omega), if_pos e3]
    by_cases q : actR m r = true
    · rw [if_pos q, if_neg (by decide)]
      exact ⟨σ, rfl, CO.refl h⟩
    · rw [if_neg q, if_pos (by decide)]
      exact ⟨σ, rfl, CO.refl h⟩
  obtain ⟨τ, a1, a2, a3⟩ := c_find' h.1 hr
  rw [if_neg (show ¬ N4 w = 3 from fun q => e3 ((hwk 3 (by omega)).mp q)), a1, bd_s, gd_inb (by omega) (by omega), n4_nat (by omega), a3.2.1, if_pos (show w = 4 by omega)]
  exact ⟨τ, rfl, ci_q h a2⟩
end CFACE
