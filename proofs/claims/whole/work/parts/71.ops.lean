/-! ===== op by op: equal answers, and both stand together again ===== -/
/-- the class's call and the reference's agree at σ: both refuse (code 1 is E1, code 2 is E2), or both answer a, and stand together after -/
def Ans {α : Type} (cls : Mem → Option ((α ⊕ String) × Mem)) (ref : Mem → Option (α × Mem)) (σ : Mem) : Prop :=
  ∃ a τ, cls σ = some (.inl a, τ) ∧ ∀ v, ∃ ρ, ref (setL τ 239 0 v) = some (a, ρ) ∧ (∃ W H n hs sc, JJ ρ W H n hs sc) ∧ ρ.1 224 5 = 0 ∧ ρ.2 239 0 = v
def Agr {α : Type} [OfNat α 0] (cls : Mem → Option ((α ⊕ String) × Mem)) (ref : Mem → Option (α × Mem)) (E1 E2 : String) (σ : Mem) : Prop :=
  (cls σ = some (.inr E1, σ) ∧ ref σ = some (0, setI σ 224 5 1)) ∨ (cls σ = some (.inr E2, σ) ∧ ref σ = some (0, setI σ 224 5 2)) ∨ Ans cls ref σ
def Agr1 {α : Type} [OfNat α 0] (cls : Mem → Option ((α ⊕ String) × Mem)) (ref : Mem → Option (α × Mem)) (E1 : String) (σ : Mem) : Prop :=
  (cls σ = some (.inr E1, σ) ∧ ref σ = some (0, setI σ 224 5 1)) ∨ Ans cls ref σ
/-- for a call that never refuses -/
def AgN {α : Type} (cls ref : Mem → Option (α × Mem)) (σ : Mem) : Prop :=
  ∃ a τ ρ, cls σ = some (a, τ) ∧ ref τ = some (a, ρ) ∧ ∃ W H n hs sc, JJ ρ W H n hs sc
section OPS
variable {σ τ : Mem} {W H n W' H' n' : Nat} {m' : Nat → Int64} {hs hs' : List (Nat → Int64)} {sc sc' : List Nat} {x1 x2 x3 x4 : Int32}
theorem agr_go {α : Type} {cls : Mem → Option ((α ⊕ String) × Mem)} {ref : Mem → Option (α × Mem)} {a : α} (h : JJ σ W H n hs sc) (hc : cls σ = some (.inl a, τ)) (hC : CO σ τ m' W' H' n' hs' sc') (hH : HV hs') (hr : ∀ σ', σ'.2 225 = σ.2 225 → MInv σ' hs sc → ∃ ρ, ref σ' = some (a, ρ) ∧ MO σ' ρ m' hs' sc') : Ans cls ref σ := by
  refine ⟨a, τ, hc, fun v => ?_⟩
  obtain ⟨p1, p2⟩ := JJ.pre (v := v) h hC.2
  obtain ⟨ρ, r1, r2⟩ := hr _ p1 p2
  exact ⟨ρ, r1, ⟨_, _, _, _, _, JJ.mo hC r2 hH⟩, r2.2.2.2, by rw [r2.2.2.1.2.1 239 (Or.inr rfl), mL_e]⟩
theorem ag_setCell (h : JJ σ W H n hs sc) : Agr (f_X11_setCell x1 x2) (f_X12_setCell x1 x2) xIO xIA σ := by
  cases h1 : rng x1 0 (((W * H : Nat) : Int) - 1)
  · exact Or.inl ⟨co_setCell1 h.1 h1, mo_setCell1 h.1.1.1.1 h1⟩
  · cases h2 : rng x2 1 100000
    · exact Or.inr (Or.inl ⟨co_setCell2 h.1 h1 h2, mo_setCell2 h.1.1.1.1 h1 h2⟩)
    · obtain ⟨c, rfl, hc, -⟩ := rng_n4 h1
      obtain ⟨τ, a1, a2⟩ := co_setCell h.1 hc h2
      refine Or.inr (Or.inr (agr_go h a1 a2 (h.2.2.push h.1.1.1) (fun σ' e hM => ?_)))
      obtain ⟨ρ, r1, r2⟩ := mo_setCell (σ := σ') (by rw [e]; exact h.1.1.1.1) hM hc rfl h2
      rw [e] at r1 r2
      exact ⟨ρ, r1, r2⟩
theorem ag_setTrue (h : JJ σ W H n hs sc) : Agr (f_X11_setTrue x1 x2) (f_X12_setTrue x1 x2) xIO xIA σ := by
  cases h1 : rng x1 0 (((W * H : Nat) : Int) - 1)
  · exact Or.inl ⟨co_setTrue1 h.1 h1, mo_setTrue1 h.1.1.1.1 h1⟩
  · cases h2 : rng x2 1 100000
    · exact Or.inr (Or.inl ⟨co_setTrue2 h.1 h1 h2, mo_setTrue2 h.1.1.1.1 h1 h2⟩)
    · obtain ⟨c, rfl, hc, -⟩ := rng_n4 h1
      obtain ⟨τ, a1, a2⟩ := co_setTrue h.1 hc h2
      refine Or.inr (Or.inr (agr_go h a1 a2 (h.2.2.push h.1.1.1) (fun σ' e hM => ?_)))
      obtain ⟨ρ, r1, r2⟩ := mo_setTrue (σ := σ') (by rw [e]; exact h.1.1.1.1) hM hc rfl h2
      rw [e] at r1 r2
      exact ⟨ρ, r1, r2⟩
theorem ag_sweep (h : JJ σ W H n hs sc) : Agr1 (f_X11_sweep x1) (f_X12_sweep x1) xIA σ := by
  cases h1 : rng x1 1 20
  · exact Or.inl ⟨co_sweep1 h1, mo_sweep1 h1⟩
  · obtain ⟨k, rfl, k1, k2, -⟩ := rng_lo (a := 1) (b := 20) h1
    obtain ⟨τ, a1, a2⟩ := co_sweep h.1 k1 k2
    refine Or.inr (agr_go h a1 a2 (h.2.2.push h.1.1.1) (fun σ' e hM => ?_))
    obtain ⟨ρ, r1, r2⟩ := mo_sweep (σ := σ') (by rw [e]; exact h.1.1.1) hM k1 k2
    rw [e] at r1 r2
    exact ⟨ρ, r1, r2⟩
theorem ag_smooth (h : JJ σ W H n hs sc) : Agr1 (f_X11_smooth x1) (f_X12_smooth x1) xIA σ := by
  cases h1 : rng x1 1 100
  · exact Or.inl ⟨co_smooth1 h1, mo_smooth1 h1⟩
  · obtain ⟨k, rfl, k1, k2, -⟩ := rng_lo (a := 1) (b := 100) h1
    obtain ⟨τ, a1, a2⟩ := co_smooth h.1 k1 k2
    refine Or.inr (agr_go h a1 a2 (h.2.2.push h.1.1.1) (fun σ' e hM => ?_))
    obtain ⟨ρ, r1, r2⟩ := mo_smooth (σ := σ') (by rw [e]; exact h.1.1.1) hM k1 k2
    rw [e] at r1 r2
    exact ⟨ρ, r1, r2⟩
theorem ag_observe (h : JJ σ W H n hs sc) : Agr1 (f_X11_observe x1 x2) (f_X12_observe x1 x2) xIA σ := by
  by_cases q : rng x1 0 1000 = true ∧ rng x2 0 999999 = true
  · obtain ⟨τ, a1, a2⟩ := co_observe h.1 q.1 q.2
    refine Or.inr (agr_go h a1 a2 (h.2.2.push h.1.1.1) (fun σ' e hM => ?_))
    obtain ⟨ρ, r1, r2⟩ := mo_observe (σ := σ') (by rw [e]; exact h.1.1.1) hM q.1 q.2
    rw [e] at r2
    exact ⟨ρ, r1, r2⟩
  · exact Or.inl ⟨co_observe1 q, mo_observe1 q⟩
theorem ag_setOrder (h : JJ σ W H n hs sc) : Agr1 (f_X11_setOrder x1 x2 x3) (f_X12_setOrder x1 x2 x3) xIA σ := by
  by_cases q : rng x1 1 2000 = true ∧ rng x2 0 3 = true ∧ rng x3 0 999999 = true
  · obtain ⟨τ, a1, a2⟩ := co_setOrder h.1 q.1 q.2.1 q.2.2
    refine Or.inr (agr_go h a1 a2 (h.2.2.push h.1.1.1) (fun σ' e hM => ?_))
    obtain ⟨ρ, r1, r2⟩ := mo_setOrder (σ := σ') hM q.1 q.2.1 q.2.2
    rw [e] at r1 r2
    exact ⟨ρ, r1, r2⟩
  · exact Or.inl ⟨co_setOrder1 q, mo_setOrder1 q⟩
theorem ag_setBounds (h : JJ σ W H n hs sc) : Agr1 (f_X11_setBounds x1 x2) (f_X12_setBounds x1 x2) xIA σ := by
  by_cases q : rng x1 1 x2.toInt = true ∧ rng x2 1 100000 = true
  · obtain ⟨τ, a1, a2⟩ := co_setBounds h.1 q.1 q.2
    refine Or.inr (agr_go h a1 a2 (h.2.2.push h.1.1.1) (fun σ' e hM => ?_))
    obtain ⟨ρ, r1, r2⟩ := mo_setBounds (σ := σ') (by rw [e]; exact h.1.1.1.1) hM q.1 q.2
    rw [e] at r1 r2
    exact ⟨ρ, r1, r2⟩
  · exact Or.inl ⟨co_setBounds1 q, mo_setBounds1 q⟩
theorem ag_section (h : JJ σ W H n hs sc) : Agr1 (f_X11_section x1) (f_X12_section x1) xIA σ := by
  cases h1 : rng x1 0 8
  · exact Or.inl ⟨co_section1 h1, mo_section1 h1⟩
  · obtain ⟨w, rfl, -, w2, -⟩ := rng_lo (a := 0) (b := 8) h1
    obtain ⟨τ, a1, a2⟩ := co_section h.1 (show w < 9 by omega)
    refine Or.inr (agr_go h a1 a2 h.2.2 (fun σ' e hM => ?_))
    obtain ⟨ρ, r1, r2⟩ := mo_section (σ := σ') (by rw [e]; exact h.1.1.1) hM (show w < 9 by omega)
    rw [e] at r1 r2
    exact ⟨ρ, r1, r2⟩
theorem ag_fit (h : JJ σ W H n hs sc) : Agr1 (f_X11_fit x1) (f_X12_fit x1) xIA σ := by
  cases h1 : rng x1 0 4
  · exact Or.inl ⟨co_fit1 h1, mo_fit1 h1⟩
  · obtain ⟨w, rfl, -, w2, -⟩ := rng_lo (a := 0) (b := 4) h1
    obtain ⟨τ, a1, a2⟩ := co_fit h.1 (show w < 5 by omega)
    refine Or.inr (agr_go h a1 a2 h.2.2 (fun σ' e hM => ?_))
    obtain ⟨ρ, r1, r2⟩ := mo_fit (σ := σ') (by rw [e]; exact h.1.1.1) hM (show w < 5 by omega)
    rw [e] at r1 r2
    exact ⟨ρ, r1, r2⟩
theorem ag_time (h : JJ σ W H n hs sc) : Agr (f_X11_time x1 x2) (f_X12_time x1 x2) xIO xIA σ := by
  have hn := h.1.1.1.1.2.2.2.2.2.2.2
  cases h1 : rng x1 0 ((n : Int) - 1)
  · exact Or.inl ⟨co_time1 h.1 h1, mo_time1 h.1.1.1.1 h1⟩
  · obtain ⟨r, rfl, hr, -⟩ := rng_n4 h1
    cases h2 : rng x2 0 1
    · exact Or.inr (Or.inl ⟨co_time2 h.1 hr h2, mo_time2 h.1.1.1.1 hr h2⟩)
    · obtain ⟨w, rfl, -, w2, -⟩ := rng_lo (a := 0) (b := 1) h2
      obtain ⟨τ, a1, a2⟩ := co_time h.1 hr (show w < 2 by omega)
      refine Or.inr (Or.inr (agr_go h a1 a2 h.2.2 (fun σ' e hM => ?_)))
      obtain ⟨ρ, r1, r2⟩ := mo_time (σ := σ') (by rw [e]; exact h.1.1.1) hM hr (show w < 2 by omega)
      rw [e] at r1 r2
      exact ⟨ρ, r1, r2⟩
theorem ag_ray (h : JJ σ W H n hs sc) : Agr (f_X11_ray x1 x2) (f_X12_ray x1 x2) xIO xIA σ := by
  have hn := h.1.1.1.1.2.2.2.2.2.2.2
  cases h1 : rng x1 0 ((n : Int) - 1)
  · exact Or.inl ⟨co_ray1 h.1 h1, mo_ray1 h.1.1.1.1 h1⟩
  · obtain ⟨r, rfl, hr, -⟩ := rng_n4 h1
    cases h2 : rng x2 0 4
    · exact Or.inr (Or.inl ⟨co_ray2 h.1 hr h2, mo_ray2 h.1.1.1.1 hr h2⟩)
    · obtain ⟨w, rfl, -, w2, -⟩ := rng_lo (a := 0) (b := 4) h2
      obtain ⟨τ, a1, a2⟩ := co_ray h.1 hr (show w < 5 by omega)
      refine Or.inr (Or.inr (agr_go h a1 a2 h.2.2 (fun σ' e hM => ?_)))
      obtain ⟨ρ, r1, r2⟩ := mo_ray (σ := σ') (by rw [e]; exact h.1.1.1) hM hr (show w < 5 by omega)
      rw [e] at r1 r2
      exact ⟨ρ, r1, r2⟩
theorem ag_residual (h : JJ σ W H n hs sc) : Agr (f_X11_residual x1) (f_X12_residual x1) xIO xIS σ := by
  have hn := h.1.1.1.1.2.2.2.2.2.2.2
  cases h1 : rng x1 0 ((n : Int) - 1)
  · exact Or.inl ⟨co_residual1 h.1 h1, mo_residual1 h.1.1.1.1 h1⟩
  · obtain ⟨r, rfl, hr, -⟩ := rng_n4 h1
    by_cases h2 : σ.2 225 (139 + 4 * r) = -1
    · exact Or.inr (Or.inl ⟨co_residual2 h.1 hr h2, mo_residual2 h.1.1.1.1 hr h2⟩)
    · obtain ⟨τ, a1, a2⟩ := co_residual h.1 hr h2
      refine Or.inr (Or.inr (agr_go h a1 a2 h.2.2 (fun σ' e hM => ?_)))
      obtain ⟨ρ, r1, r2⟩ := mo_residual (σ := σ') (by rw [e]; exact h.1.1.1) hM hr (by rw [e]; exact h2)
      rw [e] at r1 r2
      exact ⟨ρ, r1, r2⟩
theorem ag_correct (h : JJ σ W H n hs sc) : Agr (f_X11_correct x1) (f_X12_correct x1) xIO xIS σ := by
  have hn := h.1.1.1.1.2.2.2.2.2.2.2
  cases h1 : rng x1 0 ((n : Int) - 1)
  · exact Or.inl ⟨co_correct1 h.1 h1, mo_correct1 h.1.1.1.1 h1⟩
  · obtain ⟨r, rfl, hr, -⟩ := rng_n4 h1
    by_cases h2 : σ.2 225 (139 + 4 * r) = -1
    · exact Or.inr (Or.inl ⟨co_correct2 h.1 hr h2, mo_correct2 h.1.1.1.1 hr h2⟩)
    · obtain ⟨τ, a1, a2⟩ := co_correct h.1 hr h2
      refine Or.inr (Or.inr (agr_go h a1 a2 (h.2.2.push h.1.1.1) (fun σ' e hM => ?_)))
      obtain ⟨ρ, r1, r2⟩ := mo_correct (σ := σ') (by rw [e]; exact h.1.1.1) hM hr (by rw [e]; exact h2)
      rw [e] at r1 r2
      exact ⟨ρ, r1, r2⟩
theorem ag_length (h : JJ σ W H n hs sc) : Agr1 (f_X11_length x1 x2) (f_X12_length x1 x2) xIO σ := by
  by_cases q : rng x1 0 ((n : Int) - 1) = true ∧ rng x2 0 (((W * H : Nat) : Int) - 1) = true
  · obtain ⟨r, rfl, hr, -⟩ := rng_n4 q.1
    obtain ⟨c, rfl, hc, -⟩ := rng_n4 q.2
    obtain ⟨τ, a1, a2⟩ := co_length h.1 hr hc
    refine Or.inr (agr_go h a1 a2 h.2.2 (fun σ' e hM => ?_))
    obtain ⟨ρ, r1, r2⟩ := mo_length (σ := σ') (by rw [e]; exact h.1.1.1) hM hr hc
    rw [e] at r1 r2
    exact ⟨ρ, r1, r2⟩
  · exact Or.inl ⟨co_length1 h.1 q, mo_length1 h.1.1.1.1 q⟩
theorem ag_least (h : JJ σ W H n hs sc) : Agr1 (f_X11_least x1 x2 x3) (f_X12_least x1 x2 x3) xIO σ := by
  by_cases q : rng x1 0 (((W * H : Nat) : Int) - 1) = true ∧ rng x2 0 (((W * H : Nat) : Int) - 1) = true
  · obtain ⟨r, rfl, hr, -⟩ := rng_n4 q.1
    obtain ⟨c, rfl, hc, -⟩ := rng_n4 q.2
    obtain ⟨τ, a1, a2⟩ := co_least (x3 := x3) h.1 hr hc
    refine Or.inr (agr_go h a1 a2 h.2.2 (fun σ' e hM => ?_))
    obtain ⟨ρ, r1, r2⟩ := mo_least (x3 := x3) (σ := σ') (by rw [e]; exact h.1.1.1) hM hr hc
    rw [e] at r1 r2
    exact ⟨ρ, r1, r2⟩
  · exact Or.inl ⟨co_least1 h.1 q, mo_least1 h.1.1.1.1 q⟩
theorem ag_slope (h : JJ σ W H n hs sc) : Agr1 (f_X11_slope x1 x2 x3 x4) (f_X12_slope x1 x2 x3 x4) xIA σ := by
  by_cases q : rng x2 1 100000 = true ∧ rng x3 (-10000) 10000 = true ∧ rng x4 (-10000) 10000 = true
  · have hsel : (x1 = 0 → (if x1 = 0 then 8 else 72) = 8) ∧ (x1 ≠ 0 → (if x1 = 0 then 8 else 72) = 72) := ⟨fun e => if_pos e, fun e => if_neg e⟩
    obtain ⟨τ, a1, a2⟩ := co_slope h.1 hsel q.1 q.2.1 q.2.2
    refine Or.inr (agr_go h a1 a2 (h.2.2.push h.1.1.1) (fun σ' e hM => ?_))
    obtain ⟨ρ, r1, r2⟩ := mo_slope (σ := σ') (by rw [e]; exact h.1.1.1.1) hM hsel q.1 q.2.1 q.2.2
    rw [e] at r1 r2
    exact ⟨ρ, r1, r2⟩
  · exact Or.inl ⟨co_slope1 q, mo_slope1 q⟩
theorem ag_begin (h : JJ σ W H n hs sc) : Agr1 (f_X11_begin x1 x2) (f_X12_begin x1 x2) xIA σ := by
  by_cases q : rng x1 2 8 = true ∧ rng x2 2 8 = true
  · obtain ⟨a, rfl, c1, c2, -⟩ := rng_lo (a := 2) (b := 8) q.1
    obtain ⟨b, rfl, d1, d2, -⟩ := rng_lo (a := 2) (b := 8) q.2
    obtain ⟨τ, a1, a2⟩ := co_begin h.1 c1 c2 d1 d2
    refine Or.inr (agr_go h a1 a2 (h.2.2.push h.1.1.1) (fun σ' e hM => ?_))
    obtain ⟨ρ, r1, r2⟩ := mo_begin (σ := σ') hM rfl rfl c1 c2 d1 d2
    rw [e] at r2
    exact ⟨ρ, r1, r2⟩
  · exact Or.inl ⟨co_begin1 q, mo_begin1 q⟩
theorem ag_cell (h : JJ σ W H n hs sc) : Agr (f_X11_cell x1 x2) (f_X12_cell x1 x2) xIO xIA σ := by
  cases h1 : rng x1 0 (((W * H : Nat) : Int) - 1)
  · exact Or.inl ⟨co_cell1 h.1 h1, mo_cell1 h.1.1.1.1 h1⟩
  · obtain ⟨c, rfl, hc, -⟩ := rng_n4 h1
    cases h2 : rng x2 0 3
    · exact Or.inr (Or.inl ⟨co_cell2 h.1 hc h2, mo_cell2 h.1.1.1.1 hc h2⟩)
    · obtain ⟨w, rfl, -, w2, -⟩ := rng_lo (a := 0) (b := 3) h2
      obtain ⟨τ, a1, a2⟩ := co_cell h.1 hc (show w < 4 by omega)
      refine Or.inr (Or.inr (agr_go h a1 a2 h.2.2 (fun σ' e hM => ?_)))
      obtain ⟨ρ, r1, r2⟩ := mo_cell (σ := σ') (by rw [e]; exact h.1.1.1) hM hc (show w < 4 by omega)
      rw [e] at r1 r2
      exact ⟨ρ, r1, r2⟩
theorem ag_whatIf (h : JJ σ W H n hs sc) : Agr (f_X11_whatIf x1 x2 x3) (f_X12_whatIf x1 x2 x3) xIO xIA σ := by
  by_cases q : rng x1 0 ((n : Int) - 1) = true ∧ rng x2 0 (((W * H : Nat) : Int) - 1) = true
  · obtain ⟨r, rfl, hr, -⟩ := rng_n4 q.1
    obtain ⟨c, rfl, hc, -⟩ := rng_n4 q.2
    cases h3 : rng x3 1 100000
    · exact Or.inr (Or.inl ⟨co_whatIf2 h.1 hr hc h3, mo_whatIf2 h.1.1.1.1 hr hc h3⟩)
    · obtain ⟨τ, a1, a2⟩ := co_whatIf h.1 hr hc h3
      refine Or.inr (Or.inr (agr_go h a1 a2 h.2.2 (fun σ' e hM => ?_)))
      obtain ⟨ρ, r1, r2⟩ := mo_whatIf (σ := σ') (by rw [e]; exact h.1.1.1) hM hr hc h3
      rw [e] at r1 r2
      exact ⟨ρ, r1, r2⟩
  · exact Or.inl ⟨co_whatIf1 h.1 q, mo_whatIf1 h.1.1.1.1 q⟩
theorem ag_setTime {t : Int64} (h : JJ σ W H n hs sc) : Agr (f_X11_setTime x1 t) (f_X12_setTime x1 t) xIO xIA σ := by
  cases h1 : rng x1 0 ((n : Int) - 1)
  · exact Or.inl ⟨co_setTime1 h.1 h1, mo_setTime1 h.1.1.1.1 h1⟩
  · obtain ⟨r, rfl, hr, -⟩ := rng_n4 h1
    by_cases h2 : -1 ≤ t ∧ t ≤ 100000000000
    · obtain ⟨τ, a1, a2⟩ := co_setTime h.1 hr h2
      refine Or.inr (Or.inr (agr_go h a1 a2 (h.2.2.push h.1.1.1) (fun σ' e hM => ?_)))
      obtain ⟨ρ, r1, r2⟩ := mo_setTime (σ := σ') (by rw [e]; exact h.1.1.1.1) hM hr h2
      rw [e] at r1 r2
      exact ⟨ρ, r1, r2⟩
    · exact Or.inr (Or.inl ⟨co_setTime2 h.1 hr h2, mo_setTime2 h.1.1.1.1 hr h2⟩)
theorem ag_wayCell (h : JJ σ W H n hs sc) : Agr (f_X11_wayCell x1 x2) (f_X12_wayCell x1 x2) xIO xIA σ := by
  cases h1 : rng x1 0 ((n : Int) - 1)
  · exact Or.inl ⟨co_wayCell1 h.1 h1, mo_wayCell1 h.1.1.1.1 h1⟩
  · obtain ⟨r, rfl, hr, -⟩ := rng_n4 h1
    by_cases h2 : 0 ≤ x2
    · have hx : rng x2 ((0 : Nat) : Int) ((2147483647 : Nat) : Int) = true := by
        have a := Int32.le_iff_toInt_le.mp h2
        have b := x2.toInt_lt
        have h0 : (0 : Int32).toInt = 0 := by decide
        unfold rng
        rw [decide_eq_true_eq]
        omega
      obtain ⟨i, rfl, -, -, hi⟩ := rng_lo hx
      obtain ⟨τ, a1, a2⟩ := co_wayCell h.1 hr hi
      refine Or.inr (Or.inr (agr_go h a1 a2 h.2.2 (fun σ' e hM => ?_)))
      obtain ⟨ρ, r1, r2⟩ := mo_wayCell (σ := σ') (by rw [e]; exact h.1.1.1) hM hr hi
      rw [e] at r1 r2
      exact ⟨ρ, r1, r2⟩
    · exact Or.inr (Or.inl ⟨co_wayCell2 h.1 hr h2, mo_wayCell2 h.1.1.1.1 hr h2⟩)
theorem ag_type (h : JJ σ W H n hs sc) : Agr (f_X11_type x1) (f_X12_type x1) xIA xIS σ := by
  cases h1 : rng x1 0 127
  · exact Or.inl ⟨co_type1 h1, mo_type1 h1⟩
  · have hl := h.2.1.2.1
    by_cases h2 : sc.length = 120
    · exact Or.inr (Or.inl ⟨co_type2 h.1 h1 h2, mo_type2 h.2.1 h1 h2⟩)
    · obtain ⟨v, rfl, -, v2, -⟩ := rng_lo (a := 0) (b := 127) h1
      obtain ⟨τ, a1, a2⟩ := co_type h.1 (show v < 128 by omega) (show sc.length < 120 by omega)
      refine Or.inr (Or.inr (agr_go h a1 a2 h.2.2 (fun σ' e hM => ?_)))
      obtain ⟨ρ, r1, r2⟩ := mo_type (σ := σ') hM (show v < 128 by omega) (show sc.length < 120 by omega)
      rw [e] at r2
      exact ⟨ρ, r1, r2⟩
theorem ag_addRay (h : JJ σ W H n hs sc) : Agr (f_X11_addRay x1 x2) (f_X12_addRay x1 x2) xIO xIS σ := by
  have hn := h.1.1.1.1.2.2.2.2.2.2.2
  by_cases q : rng x1 0 ((H : Int) - 1) = true ∧ rng x2 0 ((H : Int) - 1) = true
  · by_cases hf : n = 16
    · have e0 : noRay H n x1 x2 = 2 := by
        unfold noRay
        rw [if_pos q, if_pos hf]
      have b := mo_addRay0 (x1 := x1) (x2 := x2) h.1.1.1.1 (by rw [e0]; decide)
      rw [e0] at b
      exact Or.inr (Or.inl ⟨co_addRay2 h.1 q.1 q.2 hf, b⟩)
    · have e0 : noRay H n x1 x2 = 0 := by
        unfold noRay
        rw [if_pos q, if_neg hf]
      obtain ⟨τ, a1, a2⟩ := co_addRay h.1 q.1 q.2 (show n < 16 by omega)
      refine Or.inr (Or.inr (agr_go h a1 a2 (h.2.2.push h.1.1.1) (fun σ' e hM => ?_)))
      obtain ⟨ρ, r1, r2⟩ := mo_addRay (σ := σ') (by rw [e]; exact h.1.1.1.1) hM e0 (show n < 16 by omega)
      rw [e] at r2
      exact ⟨ρ, r1, r2⟩
  · have e0 : noRay H n x1 x2 = 1 := by
      unfold noRay
      rw [if_neg q]
    have b := mo_addRay0 (x1 := x1) (x2 := x2) h.1.1.1.1 (by rw [e0]; decide)
    rw [e0] at b
    exact Or.inl ⟨co_addRay1 h.1 q, b⟩
theorem ag_setUsed (h : JJ σ W H n hs sc) (hx : x2 = 0 ∨ x2 = 1) : Agr1 (f_X11_setUsed x1 x2) (f_X12_setUsed x1 x2) xIO σ := by
  cases h1 : rng x1 0 ((n : Int) - 1)
  · exact Or.inl ⟨co_setUsed1 h.1 h1, mo_setUsed1 h.1.1.1.1 h1⟩
  · obtain ⟨r, rfl, hr, -⟩ := rng_n4 h1
    obtain ⟨τ, a1, a2⟩ := co_setUsed h.1 hr hx
    refine Or.inr (agr_go h a1 a2 (h.2.2.push h.1.1.1) (fun σ' e hM => ?_))
    obtain ⟨ρ, r1, r2⟩ := mo_setUsed (x2 := x2) (σ := σ') (by rw [e]; exact h.1.1.1.1) hM hr
    rw [e] at r1 r2
    exact ⟨ρ, r1, r2⟩
theorem ag_undo (h : JJ σ W H n hs sc) : Agr1 f_X11_undo f_X12_undo xIS σ := by
  cases hs with
  | nil => exact Or.inl ⟨co_undo1 h.1, mo_undo1 h.2.1⟩
  | cons g gs =>
    have hk : (g :: gs).length = gs.length + 1 := rfl
    have hm : (g :: gs).getD gs.length zr ∈ g :: gs := by
      rw [List.getD_eq_getElem?_getD, List.getElem?_eq_getElem (show gs.length < (g :: gs).length by rw [hk]; omega), Option.getD_some]
      exact List.getElem_mem _
    obtain ⟨W', H', n', hV⟩ := h.2.2 _ hm
    obtain ⟨τ, a1, a2⟩ := co_undo h.1 hk hV
    refine Or.inr (agr_go h a1 a2 (h.2.2.take _) (fun σ' e hM => ?_))
    obtain ⟨ρ, r1, r2⟩ := mo_undo (σ := σ') hM hk
    rw [e] at r2
    exact ⟨ρ, r1, r2⟩
theorem ls_self {σ : Mem} {p j : Nat} : setL σ p j (σ.2 p j) = σ := by
  refine Prod.ext rfl (funext fun q => funext fun i => ?_)
  rw [mL_w]
  split
  · rename_i h
    rw [h.1, h.2]
  · rfl
theorem agn_go {α : Type} {cls ref : Mem → Option (α × Mem)} {a : α} (h : JJ σ W H n hs sc) (hc : cls σ = some (a, τ)) (hC : CO σ τ m' W' H' n' hs' sc') (hH : HV hs') (hr : ∀ σ', σ'.2 225 = σ.2 225 → MInv σ' hs sc → ∃ ρ, ref σ' = some (a, ρ) ∧ MOg σ' ρ m' hs' sc') : AgN cls ref σ := by
  obtain ⟨p1, p2⟩ := JJ.pre (v := τ.2 239 0) h hC.2
  rw [ls_self] at p1 p2
  obtain ⟨ρ, r1, r2⟩ := hr _ p1 p2
  refine ⟨a, τ, ρ, hc, r1, W', H', n', hs', sc', JJ.post (v := τ.2 239 0) hC r2.1 r2.2.1 (fun q hq => (r2.2.2.1 q hq).trans rfl) (fun q hq => ?_) hH⟩
  rw [ls_self]
  exact r2.2.2.2.1 q (Or.inl hq)
theorem ag_fill (h : JJ σ W H n hs sc) : AgN f_X11_fill f_X12_fill σ := by
  obtain ⟨τ, a1, a2⟩ := co_fill h.1
  refine agn_go h a1 a2 (h.2.2.push h.1.1.1) (fun σ' e hM => ?_)
  obtain ⟨ρ, r1, r2⟩ := mo_fill (σ := σ') (by rw [e]; exact h.1.1.1) hM
  rw [e] at r1 r2
  exact ⟨ρ, r1, r2.g⟩
theorem ag_clear (h : JJ σ W H n hs sc) : AgN f_X11_clearScript f_X12_clearScript σ := by
  obtain ⟨τ, a1, a2⟩ := co_clear h.1
  refine agn_go h a1 a2 h.2.2 (fun σ' e hM => ?_)
  obtain ⟨ρ, r1, r2⟩ := mo_clear (σ := σ') hM
  rw [e] at r2
  exact ⟨ρ, r1, r2.g⟩
theorem ag_digest (h : JJ σ W H n hs sc) : AgN f_X11_digest f_X12_digest σ := by
  obtain ⟨τ, a1, a2⟩ := co_digest h.1
  refine agn_go h a1 a2 h.2.2 (fun σ' e hM => ?_)
  obtain ⟨ρ, r1, r2⟩ := mo_digest (σ := σ') (by rw [e]; exact h.1.1.1) hM
  rw [e] at r1 r2
  exact ⟨ρ, r1, r2.g⟩
theorem ag_run (h : JJ σ W H n hs sc) : AgN f_X11_run f_X12_run σ := by
  cases h1 : (sScr sc).1
  · obtain ⟨τ, a1, a2⟩ := co_run1 h.1 h1
    refine agn_go h a1 a2 h.2.2 (fun σ' e hM => ?_)
    obtain ⟨ρ, r1, r2⟩ := mo_run1 (σ := σ') hM h1
    rw [e] at r2
    exact ⟨ρ, r1, r2⟩
  · obtain ⟨τ, a1, a2⟩ := co_run h.1 h1
    refine agn_go h a1 a2 (h.2.2.push h.1.1.1) (fun σ' e hM => ?_)
    obtain ⟨ρ, r1, r2⟩ := mo_run (σ := σ') (by rw [e]; exact h.1.1.1) hM h1
    rw [e] at r1 r2
    exact ⟨ρ, r1, r2⟩
theorem JJ.err {c : Int32} (h : JJ σ W H n hs sc) : JJ (setI σ 224 5 c) W H n hs sc := by
  refine ⟨h.1.low (fun q hq => mI_p (by omega)) (fun q _ => rfl), h.2.1.code (v := c), h.2.2⟩
/-! ===== the law's helpers, as functions ===== -/
/-- the law's helper over an int call: 0 and the answer into out, or the handler's number -/
def hlpI (E1 E2 : String) (f : Mem → Option ((Int32 ⊕ String) × Mem)) (σ : Mem) : Option (Int32 × Mem) :=
  bd (f σ) fun q => match q.1 with
    | .inl v => some (0, setL q.2 239 0 v.toInt64)
    | .inr E => if E = E1 then some (1, q.2) else if E = E2 then some (2, q.2) else none
def hlpL (E1 E2 : String) (f : Mem → Option ((Int64 ⊕ String) × Mem)) (σ : Mem) : Option (Int32 × Mem) :=
  bd (f σ) fun q => match q.1 with
    | .inl v => some (0, setL q.2 239 0 v)
    | .inr E => if E = E1 then some (1, q.2) else if E = E2 then some (2, q.2) else none
/-- what the law sees of one op: the helper gives k, the reference b, the code is k, and where k is 0 the answers are equal -/
def OpI (hlp : Mem → Option (Int32 × Mem)) (ref : Mem → Option (Int32 × Mem)) (σ : Mem) : Prop :=
  ∃ k σ1 b σ2, hlp σ = some (k, σ1) ∧ ref σ1 = some (b, σ2) ∧ σ2.1 224 5 = k ∧ (k = 0 → σ2.2 239 0 = b.toInt64) ∧ ∃ W H n hs sc, JJ σ2 W H n hs sc
def OpL (hlp : Mem → Option (Int32 × Mem)) (ref : Mem → Option (Int64 × Mem)) (σ : Mem) : Prop :=
  ∃ k σ1 b σ2, hlp σ = some (k, σ1) ∧ ref σ1 = some (b, σ2) ∧ σ2.1 224 5 = k ∧ (k = 0 → σ2.2 239 0 = b) ∧ ∃ W H n hs sc, JJ σ2 W H n hs sc
theorem ans_I {E1 E2 : String} {f : Mem → Option ((Int32 ⊕ String) × Mem)} {ref : Mem → Option (Int32 × Mem)} (a : Ans f ref σ) : OpI (hlpI E1 E2 f) ref σ := by
  obtain ⟨v, τ, a1, a2⟩ := a
  obtain ⟨ρ, r1, r2, r3, r4⟩ := a2 v.toInt64
  refine ⟨0, setL τ 239 0 v.toInt64, v, ρ, ?_, r1, r3, fun _ => r4, r2⟩
  unfold hlpI
  rw [a1, bd_s]
theorem ans_L {E1 E2 : String} {f : Mem → Option ((Int64 ⊕ String) × Mem)} {ref : Mem → Option (Int64 × Mem)} (a : Ans f ref σ) : OpL (hlpL E1 E2 f) ref σ := by
  obtain ⟨v, τ, a1, a2⟩ := a
  obtain ⟨ρ, r1, r2, r3, r4⟩ := a2 v
  refine ⟨0, setL τ 239 0 v, v, ρ, ?_, r1, r3, fun _ => r4, r2⟩
  unfold hlpL
  rw [a1, bd_s]
theorem agr_I {E1 E2 : String} {f : Mem → Option ((Int32 ⊕ String) × Mem)} {ref : Mem → Option (Int32 × Mem)} (h : JJ σ W H n hs sc) (hE : E2 ≠ E1) (a : Agr f ref E1 E2 σ) : OpI (hlpI E1 E2 f) ref σ := by
  rcases a with ⟨a1, a2⟩ | ⟨a1, a2⟩ | a
  · refine ⟨1, σ, 0, _, ?_, a2, mI_e, fun q => absurd q (by decide), _, _, _, _, _, h.err⟩
    unfold hlpI
    rw [a1, bd_s]
    exact if_pos rfl
  · refine ⟨2, σ, 0, _, ?_, a2, mI_e, fun q => absurd q (by decide), _, _, _, _, _, h.err⟩
    unfold hlpI
    rw [a1, bd_s]
    exact (if_neg hE).trans (if_pos rfl)
  · exact ans_I a
theorem agr_L {E1 E2 : String} {f : Mem → Option ((Int64 ⊕ String) × Mem)} {ref : Mem → Option (Int64 × Mem)} (h : JJ σ W H n hs sc) (hE : E2 ≠ E1) (a : Agr f ref E1 E2 σ) : OpL (hlpL E1 E2 f) ref σ := by
  rcases a with ⟨a1, a2⟩ | ⟨a1, a2⟩ | a
  · refine ⟨1, σ, 0, _, ?_, a2, mI_e, fun q => absurd q (by decide), _, _, _, _, _, h.err⟩
    unfold hlpL
    rw [a1, bd_s]
    exact if_pos rfl
  · refine ⟨2, σ, 0, _, ?_, a2, mI_e, fun q => absurd q (by decide), _, _, _, _, _, h.err⟩
    unfold hlpL
    rw [a1, bd_s]
    exact (if_neg hE).trans (if_pos rfl)
  · exact ans_L a
theorem agr1_I {E1 : String} {f : Mem → Option ((Int32 ⊕ String) × Mem)} {ref : Mem → Option (Int32 × Mem)} (h : JJ σ W H n hs sc) (a : Agr1 f ref E1 σ) : OpI (hlpI E1 E1 f) ref σ := by
  rcases a with ⟨a1, a2⟩ | a
  · refine ⟨1, σ, 0, _, ?_, a2, mI_e, fun q => absurd q (by decide), _, _, _, _, _, h.err⟩
    unfold hlpI
    rw [a1, bd_s]
    exact if_pos rfl
  · exact ans_I a
theorem agr1_L {E1 : String} {f : Mem → Option ((Int64 ⊕ String) × Mem)} {ref : Mem → Option (Int64 × Mem)} (h : JJ σ W H n hs sc) (a : Agr1 f ref E1 σ) : OpL (hlpL E1 E1 f) ref σ := by
  rcases a with ⟨a1, a2⟩ | a
  · refine ⟨1, σ, 0, _, ?_, a2, mI_e, fun q => absurd q (by decide), _, _, _, _, _, h.err⟩
    unfold hlpL
    rw [a1, bd_s]
    exact if_pos rfl
  · exact ans_L a
end OPS
