/-! ===== the reference runs its script ===== -/
section MRUN3
variable {σ : Mem} {W H n : Nat} {hs : List (Nat → Int64)} {sc : List Nat} {m : Nat → Int64}
theorem val_exC {c : Nat × Nat × Nat} {m' : Nat → Int64} {n' : Nat} (hV : Val m W H n) (h : exC m W H n c = some (m', n')) : Val m' W H n' := by
  have hK := hV.1.K
  have hn := hV.1.2.2.2.2.2.2.2
  obtain ⟨ck, ca, cb⟩ := c
  unfold exC at h
  simp only at h
  by_cases e0 : ck = 0
  · simp only [if_pos e0] at h
    split at h
    · rename_i q
      obtain ⟨rfl, rfl⟩ := Prod.mk.inj (Option.some.inj h)
      exact val_add hV q.1 q.2.1 q.2.2
    · cases h
  · simp only [if_neg e0] at h
    by_cases e1 : ck = 1
    · simp only [if_pos e1] at h
      split at h
      · obtain ⟨rfl, rfl⟩ := Prod.mk.inj (Option.some.inj h)
        exact val_use hV (by omega)
      · cases h
    · simp only [if_neg e1] at h
      by_cases e2 : ck = 2
      · simp only [if_pos e2] at h
        split at h
        · rename_i q
          obtain ⟨rfl, rfl⟩ := Prod.mk.inj (Option.some.inj h)
          exact val_s8 hV (by omega) q.2.1 q.2.2
        · cases h
      · simp only [if_neg e2] at h
        by_cases e3 : ck = 3
        · simp only [if_pos e3] at h
          split at h
          · rename_i q
            obtain ⟨rfl, rfl⟩ := Prod.mk.inj (Option.some.inj h)
            exact val_s72 hV (by omega) q.2.1 q.2.2
          · cases h
        · simp only [if_neg e3] at h
          by_cases e4 : ck = 4
          · simp only [if_pos e4] at h
            split at h
            · rename_i q
              obtain ⟨rfl, rfl⟩ := Prod.mk.inj (Option.some.inj h)
              exact val_obs hV q (by omega)
            · cases h
          · simp only [if_neg e4] at h
            by_cases e5 : ck = 5
            · simp only [if_pos e5] at h
              split at h
              · obtain ⟨rfl, rfl⟩ := Prod.mk.inj (Option.some.inj h)
                exact val_swpK hV _
              · cases h
            · simp only [if_neg e5] at h
              by_cases e6 : ck = 6
              · simp only [if_pos e6] at h
                split at h
                · rename_i q
                  obtain ⟨rfl, rfl⟩ := Prod.mk.inj (Option.some.inj h)
                  exact val_smo hV q.1 q.2
                · cases h
              · simp only [if_neg e6] at h
                obtain ⟨rfl, rfl⟩ := Prod.mk.inj (Option.some.inj h)
                exact val_fil hV
noncomputable def runC (W H : Nat) : List (Nat × Nat × Nat) → (Nat → Int64) → Nat → (Nat → Int64) × Nat × Nat
  | [], m, n => (m, n, 0)
  | c :: t, m, n => match exC m W H n c with
    | none => (m, n, 0)
    | some p => ((runC W H t p.1 p.2).1, (runC W H t p.1 p.2).2.1, (runC W H t p.1 p.2).2.2 + 1)
theorem val_runC : ∀ (l : List (Nat × Nat × Nat)) (m : Nat → Int64) (n : Nat), Val m W H n → Val (runC W H l m n).1 W H (runC W H l m n).2.1
  | [], _, _, h => h
  | c :: t, m, n, h => by
    unfold runC
    cases e : exC m W H n c with
    | none => exact h
    | some p => exact val_runC t p.1 p.2 (val_exC h e)
theorem runC_le : ∀ (l : List (Nat × Nat × Nat)) (m : Nat → Int64) (n : Nat), (runC W H l m n).2.2 ≤ l.length
  | [], _, _ => Nat.le_refl _
  | c :: t, m, n => by
    unfold runC
    cases e : exC m W H n c with
    | none => exact Nat.zero_le _
    | some p =>
      have := runC_le t p.1 p.2
      simp only [List.length_cons]
      omega
def CmdB (c : Nat × Nat × Nat) : Prop := c.1 < 8 ∧ c.2.1 < 1000000 ∧ c.2.2 < 1000000
theorem sNum_v {i : Nat} (h : i ≤ sc.length) (hl : sc.length ≤ 120) : (sNum sc i).2.2 < 1000000 := by
  obtain ⟨h1, h2, -⟩ := nSp_s h hl
  unfold sNum
  by_cases q : nSp sc i = i
  · rw [if_pos q]; show 0 < 1000000; omega
  · rw [if_neg q]
    obtain ⟨g1, g2, g3, g4, g5⟩ := eDg_s h2 hl
    have := dval_bd (sc := sc) (i := nSp sc i) (fun j _ _ hd => (dg_57 hd).2) (eDg sc (nSp sc i) - nSp sc i) (by omega) (fun j a b => g5 j a (by omega))
    have h10 : 10 ^ (eDg sc (nSp sc i) - nSp sc i) ≤ 10 ^ 6 := Nat.pow_le_pow_right (by omega) (by omega)
    have h6 : 10 ^ 6 = 1000000 := by decide
    show dval sc (nSp sc i) (eDg sc (nSp sc i) - nSp sc i) < 1000000
    omega
theorem sNums_v {i : Nat} (h : i ≤ sc.length) (hl : sc.length ≤ 120) (k : Nat) : (sNums sc i k).2.2.1 < 1000000 ∧ (sNums sc i k).2.2.2 < 1000000 := by
  have h1 := sNum_v h hl
  obtain ⟨g1, g2⟩ := sNum_s h hl
  have h2 := sNum_v g2 hl
  match k with
  | 0 => exact ⟨by show 0 < 1000000; omega, by show 0 < 1000000; omega⟩
  | 1 => exact ⟨h1, by show 0 < 1000000; omega⟩
  | k + 2 =>
    have e : sNums sc i (k + 2) = (if (sNum sc i).1 = true then ((sNum sc (sNum sc i).2.1).1, (sNum sc (sNum sc i).2.1).2.1, (sNum sc i).2.2, (sNum sc (sNum sc i).2.1).2.2) else (false, (sNum sc i).2.1, (sNum sc i).2.2, 0)) := rfl
    rw [e]
    by_cases q : (sNum sc i).1 = true
    · rw [if_pos q]; exact ⟨h1, h2⟩
    · rw [if_neg q]; exact ⟨h1, by show 0 < 1000000; omega⟩
theorem sCmd_v {i : Nat} (h : i ≤ sc.length) (hl : sc.length ≤ 120) (hk : (sCmd sc i).1 = true) : CmdB (sCmd sc i).2.2 := by
  obtain ⟨h1, h2, -⟩ := nLe_s h hl
  have hv := sNums_v h2 hl (nmK (wkd sc i))
  have hw : wkd sc i ≤ 8 := by
    unfold wkd; split
    · exact Nat.le_refl _
    · exact kd_le _
  unfold sCmd at hk ⊢
  by_cases q : wkd sc i = 8
  · rw [if_pos q] at hk; cases hk
  · rw [if_neg q] at hk ⊢
    by_cases q1 : (sNums sc (nLe sc i) (nmK (wkd sc i))).1 = true
    · rw [if_pos q1] at hk ⊢
      split at hk
      · rename_i q2
        rw [if_pos q2]
        exact ⟨by show wkd sc i < 8; omega, hv.1, hv.2⟩
      · cases hk
    · rw [if_neg q1] at hk; cases hk
theorem sAll_v (hb : ∀ x, x < sc.length → bat sc x < 128) (hl : sc.length ≤ 120) : ∀ (f i : Nat), i ≤ sc.length → ∀ c, c ∈ (sAll sc f i).2.2 → CmdB c
  | 0, _, _, c, hc => by simp [sAll] at hc
  | f + 1, i, hi, c, hc => by
    have e : sAll sc (f + 1) i = if sc.length ≤ i then (true, i, []) else if (sCmd sc i).1 = true then ((sAll sc f (nSp sc (sCmd sc i).2.1)).1, (sAll sc f (nSp sc (sCmd sc i).2.1)).2.1, (sCmd sc i).2.2 :: (sAll sc f (nSp sc (sCmd sc i).2.1)).2.2) else (false, (sCmd sc i).2.1, []) := rfl
    rw [e] at hc
    by_cases q : sc.length ≤ i
    · rw [if_pos q] at hc; simp at hc
    · rw [if_neg q] at hc
      by_cases q1 : (sCmd sc i).1 = true
      · rw [if_pos q1] at hc
        obtain ⟨c1, c2, -⟩ := sCmd_s hb hi hl
        obtain ⟨s1, s2, -⟩ := nSp_s c2 hl
        rcases List.mem_cons.mp hc with rfl | hc
        · exact sCmd_v hi hl q1
        · exact sAll_v hb hl f _ s2 c hc
      · rw [if_neg q1] at hc; simp at hc
theorem sScr_v (hb : ∀ x, x < sc.length → bat sc x < 128) (hl : sc.length ≤ 120) : ∀ c, c ∈ (sScr sc).2.2 → CmdB c :=
  sAll_v hb hl 200 _ (nSp_s (Nat.zero_le _) hl).2.1
theorem m_run26 : ∀ (q : Nat) (l : List (Nat × Nat × Nat)) (k : Nat) (m : Nat → Int64) (n : Nat) (τ : Mem), l.length < q → k + l.length ≤ 30 → Val m W H n → MO σ τ m hs sc → DCs τ k l → (∀ c, c ∈ l → CmdB c) → τ.1 224 19 = N4 (k + l.length) →
    ∃ ρ, f_X12_run_26 q (N4 k) τ = some (N4 (k + (runC W H l m n).2.2), ρ) ∧ MO5 σ ρ (runC W H l m n).1 hs sc := by
  intro q
  induction q with
  | zero => intro l k m n τ h1; omega
  | succ q ih =>
    intro l k m n τ h1 h2 hV hM hD hc h19
    rw [f_X12_run_26, h19]
    cases l with
    | nil =>
      rw [if_pos ((n4_le (by simp; omega) (by omega)).mpr (by simp))]
      exact ⟨τ, rfl, hM.five⟩
    | cons c t =>
      have hcb := hc c List.mem_cons_self
      rw [List.length_cons] at h1 h2 h19 ⊢
      rw [if_neg (fun e => by have := (n4_le (by omega) (by omega)).mp e; omega)]
      have hD0 : DC τ (3 * k) c := hD 0 (by rw [List.length_cons]; omega)
      obtain ⟨d1, d2⟩ := m_does (t := k) hV hM (by omega) hD0 hcb.1 hcb.2.1 hcb.2.2
      rw [show (3 : Int32) = N4 3 from rfl, n4_mul]
      unfold runC
      cases e : exC m W H n c with
      | none =>
        obtain ⟨ρ, r1, r2⟩ := d2 e
        rw [r1, bd_s, if_pos (show N4 0 = 0 from rfl)]
        exact ⟨ρ, rfl, r2⟩
      | some p =>
        obtain ⟨ρ, r1, r2⟩ := d1 p.1 p.2 (by rw [e])
        rw [r1, bd_s, if_neg (show ¬ N4 1 = 0 by decide), n4_succ]
        have e238 : ρ.1 238 = τ.1 238 := by
          have a1 := r2.2.2.1.1 238 (Or.inr rfl)
          have a2 := hM.2.2.1.1 238 (Or.inr rfl)
          rw [a1, a2]
        have e19 : ρ.1 224 19 = τ.1 224 19 := r2.2.2.1.2.2.trans hM.2.2.1.2.2.symm
        obtain ⟨μ, s1, s2⟩ := ih t (k + 1) p.1 p.2 ρ (by omega) (by omega) (val_exC hV (by rw [e])) r2 (fun i hi => by
          have := hD (i + 1) (by rw [List.length_cons]; omega)
          rw [show k + (i + 1) = k + 1 + i by omega] at this
          exact DC.of (this) (fun j _ => by rw [e238])) (fun c hc' => hc c (List.mem_cons_of_mem _ hc')) (by rw [e19, h19]; congr 1; omega)
        rw [s1]
        refine ⟨μ, ?_, s2⟩
        show some (N4 (k + 1 + _), μ) = some (N4 (k + (_ + 1)), μ)
        rw [show k + 1 + (runC W H t p.1 p.2).2.2 = k + ((runC W H t p.1 p.2).2.2 + 1) by omega]
/-- as MO, the draft and reading aside -/
def MOg (σ τ : Mem) (m' : Nat → Int64) (hs' : List (Nat → Int64)) (sc' : List Nat) : Prop := τ.2 225 = m' ∧ MInv τ hs' sc' ∧ (∀ q, q < 224 → τ.1 q = σ.1 q) ∧ (∀ q, q < 224 ∨ q = 239 → τ.2 q = σ.2 q) ∧ τ.1 224 5 = 0
theorem MO.g {τ : Mem} {m' : Nat → Int64} {hs' : List (Nat → Int64)} {sc' : List Nat} (h : MO σ τ m' hs' sc') : MOg σ τ m' hs' sc' := ⟨h.1, h.2.1, fun q hq => h.2.2.1.1 q (Or.inl hq), h.2.2.1.2.1, h.2.2.2⟩
theorem mo_run1 (hI : MInv σ hs sc) (h1 : (sScr sc).1 = false) : ∃ τ, f_X12_run σ = some (-10 - N4 (sScr sc).2.1, τ) ∧ MOg σ τ (σ.2 225) hs sc := by
  obtain ⟨τ, a1, a2, a3, a4⟩ := m_readAll (σ := setI σ 224 5 0) (hI.code (v := 0)).2
  unfold f_X12_run
  rw [a1, bd_s, if_neg (bf h1), if_pos (show N4 0 = 0 from rfl), a3]
  refine ⟨τ, rfl, a2.row (fun j => by unfold mpL; exact id), ?_, fun q hq => ?_, fun q hq => a2.row (fun j => by unfold mpL; exact id), ?_⟩
  · exact (hI.code (v := 0)).of (a2.1 224 2 (by unfold mpI; omega)) (a2.1 224 4 (by unfold mpI; omega)) (a2.row (fun j => by unfold mpL; exact id)) (a2.rowI (fun j => by unfold mpI; omega))
  · rw [a2.rowI (fun j => by unfold mpI; omega), mI_p (by omega)]
  · rw [a2.1 224 5 (by unfold mpI; omega), mI_e]
theorem mo_run (hV : Val (σ.2 225) W H n) (hI : MInv σ hs sc) (h1 : (sScr sc).1 = true) : ∃ τ, f_X12_run σ = some (N4 (runC W H (sScr sc).2.2 (σ.2 225) n).2.2, τ) ∧ MOg σ τ (runC W H (sScr sc).2.2 (σ.2 225) n).1 (push hs (σ.2 225)) sc := by
  have hb := hI.2.b
  have hl := hI.2.1
  obtain ⟨τ, a1, a2, a3, a4⟩ := m_readAll (σ := setI σ 224 5 0) (hI.code (v := 0)).2
  obtain ⟨w1, w2, w3⟩ := a4 h1
  have hm : τ.2 225 = σ.2 225 := a2.row (fun j => by unfold mpL; exact id)
  have hI1 : MInv τ hs sc := (hI.code (v := 0)).of (a2.1 224 2 (by unfold mpI; omega)) (a2.1 224 4 (by unfold mpI; omega)) (a2.row (fun j => by unfold mpL; exact id)) (a2.rowI (fun j => by unfold mpI; omega))
  have h5 : τ.1 224 5 = 0 := by rw [a2.1 224 5 (by unfold mpI; omega), mI_e]
  obtain ⟨ρ, b1, b2, b3⟩ := m_keep hI1
  rw [hm] at b3
  have hmr : ρ.2 225 = σ.2 225 := (b2.row (fun j => by unfold mkL; omega)).trans hm
  have e238 : ρ.1 238 = τ.1 238 := b2.rowI (fun j => by unfold mkI; omega)
  have hM : MO ρ ρ (σ.2 225) (push hs (σ.2 225)) sc := ⟨hmr, b3, Mfr.rfl, (b2.1 224 5 (by unfold mkI; omega)).trans h5⟩
  obtain ⟨μ, c1, c2, c3, c4⟩ := m_run26 100000 (sScr sc).2.2 0 (σ.2 225) n ρ (by omega) (by omega) hV hM (fun t ht => DC.of (w2 t ht) (fun j _ => by rw [e238])) (sScr_v hb hl) (by rw [b2.1 224 19 (by unfold mkI; omega), w1, Nat.zero_add])
  have c1' : f_X12_run_26 100000 0 ρ = _ := c1
  unfold f_X12_run
  rw [a1, bd_s, if_pos h1, if_neg (show ¬ N4 1 = 0 by decide), b1, bd_s, c1', bd_s, Nat.zero_add]
  refine ⟨_, rfl, c2, c3.code, fun q hq => ?_, fun q hq => ?_, mI_e⟩
  · rw [mI_p (by omega), c4.1 q (Or.inl hq), b2.rowI (fun j => by unfold mkI; omega), a2.rowI (fun j => by unfold mpI; omega), mI_p (by omega)]
  · rw [mI_L, c4.2.1 q hq, b2.row (fun j => by unfold mkL; omega), a2.row (fun j => by unfold mpL; exact id), mI_L]
end MRUN3
