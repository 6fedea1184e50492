/-! ===== the reference reads and runs ===== -/
section MRUN2
variable {σ : Mem} {W H n : Nat} {hs : List (Nat → Int64)} {sc : List Nat} {m : Nat → Int64}
def DCs (τ : Mem) (k : Nat) (l : List (Nat × Nat × Nat)) : Prop := ∀ t, t < l.length → DC τ (3 * (k + t)) (l.getD t (0, 0, 0))
theorem DC.of {τ ρ : Mem} {row : Nat} {c : Nat × Nat × Nat} (h : DC τ row c) (e : ∀ j, j < row + 3 → ρ.1 238 j = τ.1 238 j) : DC ρ row c :=
  ⟨(e _ (by omega)).trans h.1, fun q => (e _ (by omega)).trans (h.2.1 q), fun q => (e _ (by omega)).trans (h.2.2 q)⟩
theorem m_all15 : ∀ (q f i k : Nat) (σ : Mem), sc.length < q + i → sc.length < f + i → MScr σ sc → σ.1 224 18 = N4 i → i ≤ sc.length → σ.1 224 19 = N4 k → 4 * k ≤ i →
    ∃ τ, f_X12_readAll_15 q σ = some (if (sAll sc f i).1 = true then .inr τ else .inl (N4 0, τ)) ∧ Fz mpI mpL σ τ ∧ (∀ j, j < 3 * k → τ.1 238 j = σ.1 238 j) ∧ τ.1 224 18 = N4 (sAll sc f i).2.1 ∧ ((sAll sc f i).1 = true → τ.1 224 19 = N4 (k + (sAll sc f i).2.2.length) ∧ DCs τ k (sAll sc f i).2.2 ∧ 4 * (k + (sAll sc f i).2.2.length) ≤ 120) := by
  intro q
  induction q with
  | zero => intro f i k σ h1; omega
  | succ q ih =>
    intro f i k σ h1 h2 hM hi hl hk h4
    have b1 := hM.1
    have hb := hM.b
    obtain ⟨f', rfl⟩ : ∃ f', f = f' + 1 := ⟨f - 1, by omega⟩
    have hu : sAll sc (f' + 1) i = if sc.length ≤ i then (true, i, []) else if (sCmd sc i).1 = true then ((sAll sc f' (nSp sc (sCmd sc i).2.1)).1, (sAll sc f' (nSp sc (sCmd sc i).2.1)).2.1, (sCmd sc i).2.2 :: (sAll sc f' (nSp sc (sCmd sc i).2.1)).2.2) else (false, (sCmd sc i).2.1, []) := rfl
    rw [f_X12_readAll_15, hM.2.2.1, hi, hu]
    by_cases c : sc.length ≤ i
    · simp only [if_pos c]
      rw [if_pos ((n4_le (by omega) (by omega)).mpr c)]
      exact ⟨σ, rfl, Fz.rfl, fun _ _ => rfl, hi, fun _ => ⟨hk, fun t ht => by simp at ht, by simp; omega⟩⟩
    · simp only [if_neg c]
      rw [if_neg (fun e => c ((n4_le (by omega) (by omega)).mp e))]
      obtain ⟨c1, c2, c3⟩ := sCmd_s hb hl b1
      obtain ⟨τ, a1, a2, a3, a4, a5⟩ := m_cmd hM hi hl hk (by omega)
      rw [a1, bd_s]
      by_cases d : (sCmd sc i).1 = true
      · obtain ⟨d1, -, -⟩ := c3 d
        obtain ⟨u1, u2⟩ := a5 d
        obtain ⟨s1, s2, -⟩ := nSp_s c2 b1
        obtain ⟨ρ, e1, e2, e3⟩ := m_spaces (hM.p a2) a4 c2
        have F := a2.trans (m8_p e2)
        obtain ⟨μ, v1, v2, v3, v4, v5⟩ := ih f' (nSp sc (sCmd sc i).2.1) (k + 1) ρ (by omega) (by omega) (hM.p F) e3 s2 ((e2.1 224 19 (by unfold m8I; omega)).trans u1) (by omega)
        have r238 : ρ.1 238 = τ.1 238 := e2.rowI (fun j => by unfold m8I; omega)
        simp only [if_pos d]
        rw [if_neg (show ¬ N4 1 = 0 by decide), e1, bd_s, v1]
        refine ⟨μ, rfl, F.trans v2, fun j hj => by rw [v3 j (by omega), r238, a3 j hj], v4, fun e => ?_⟩
        obtain ⟨w1, w2, w3⟩ := v5 e
        refine ⟨?_, fun t ht => ?_, ?_⟩
        · rw [w1, List.length_cons]; congr 1; omega
        · match t with
          | 0 => exact u2.of (fun j hj => by rw [v3 j (by omega), r238])
          | t + 1 =>
            have := w2 t (by rw [List.length_cons] at ht; omega)
            rw [show k + 1 + t = k + (t + 1) by omega] at this
            exact this
        · rw [List.length_cons]; omega
      · simp only [if_neg d]
        rw [if_pos (show N4 0 = 0 from rfl)]
        exact ⟨τ, rfl, a2, a3, a4, fun e => nomatch e⟩
/-- the whole script: good, its fault, its commands -/
def sScr (sc : List Nat) : Bool × Nat × List (Nat × Nat × Nat) := sAll sc 200 (nSp sc 0)
theorem m_readAll (h : MScr σ sc) : ∃ τ, f_X12_readAll σ = some (if (sScr sc).1 = true then N4 1 else N4 0, τ) ∧ Fz mpI mpL σ τ ∧ τ.1 224 18 = N4 (sScr sc).2.1 ∧ ((sScr sc).1 = true → τ.1 224 19 = N4 (sScr sc).2.2.length ∧ DCs τ 0 (sScr sc).2.2 ∧ 4 * (sScr sc).2.2.length ≤ 120) := by
  have b1 := h.1
  have F0 : Fz mpI mpL σ (setI (setI σ 224 18 0) 224 19 0) := (Fz.rfl.i (by unfold mpI; omega)).i (by unfold mpI; omega)
  obtain ⟨s1, s2, -⟩ := nSp_s (Nat.zero_le sc.length) b1
  obtain ⟨τ, a1, a2, a3⟩ := m_spaces (σ := setI (setI σ 224 18 0) 224 19 0) (i := 0) (h.p F0) (by rw [mI_j (by omega), mI_e]; rfl) (Nat.zero_le _)
  have F1 := F0.trans (m8_p a2)
  have e19 : τ.1 224 19 = N4 0 := by rw [a2.1 224 19 (by unfold m8I; omega), mI_e]; rfl
  obtain ⟨ρ, b1, b2, b3, b4, b5⟩ := m_all15 100000 200 (nSp sc 0) 0 τ (by omega) (by omega) (h.p F1) a3 s2 e19 (by omega)
  unfold f_X12_readAll
  rw [a1, bd_s, b1, bd_s]
  have hu : sAll sc 200 (nSp sc 0) = sScr sc := rfl
  rw [hu] at b4 b5 ⊢
  refine ⟨ρ, ?_, F1.trans b2, b4, fun e => ?_⟩
  · by_cases c : (sScr sc).1 = true
    · simp only [if_pos c]; rfl
    · simp only [if_neg c]; rfl
  · obtain ⟨w1, w2, w3⟩ := b5 e
    exact ⟨by rw [w1, Nat.zero_add], w2, by omega⟩
/-! commands -/
noncomputable def exC (m : Nat → Int64) (W H n : Nat) (c : Nat × Nat × Nat) : Option ((Nat → Int64) × Nat) :=
  if c.1 = 0 then (if c.2.1 < H ∧ c.2.2 < H ∧ n < 16 then some (mAdd m n (N8 c.2.1) (N8 c.2.2), n + 1) else none)
  else if c.1 = 1 then (if c.2.1 < n then some (mUse m c.2.1 (N4 c.2.2), n) else none)
  else if c.1 = 2 then (if c.2.1 < W * H ∧ 1 ≤ c.2.2 ∧ c.2.2 ≤ 100000 then some (vp_updL m (8 + c.2.1) (N8 c.2.2), n) else none)
  else if c.1 = 3 then (if c.2.1 < W * H ∧ 1 ≤ c.2.2 ∧ c.2.2 ≤ 100000 then some (vp_updL m (72 + c.2.1) (N8 c.2.2), n) else none)
  else if c.1 = 4 then (if c.2.1 ≤ 1000 then some (mObs m W H n (N4 c.2.1) (N8 c.2.1), n) else none)
  else if c.1 = 5 then (if 1 ≤ c.2.1 ∧ c.2.1 ≤ 20 then some (swpK m W H n c.2.1, n) else none)
  else if c.1 = 6 then (if 1 ≤ c.2.1 ∧ c.2.1 ≤ 100 then some (mSmo m W (W * H) c.2.1, n) else none)
  else some (mFil m W H n, n)
/-- as MO, whatever the code -/
def MO5 (σ τ : Mem) (m' : Nat → Int64) (hs' : List (Nat → Int64)) (sc' : List Nat) : Prop := τ.2 225 = m' ∧ MInv τ hs' sc' ∧ Mfr σ τ
theorem MO.five {τ : Mem} {m' : Nat → Int64} {hs' : List (Nat → Int64)} {sc' : List Nat} (h : MO σ τ m' hs' sc') : MO5 σ τ m' hs' sc' := ⟨h.1, h.2.1, h.2.2.1⟩
theorem MO5.c {τ : Mem} {m' : Nat → Int64} {hs' : List (Nat → Int64)} {sc' : List Nat} {v : Int32} (h : MO5 σ τ m' hs' sc') : MO5 σ (setI τ 224 5 v) m' hs' sc' := ⟨h.1, h.2.1.code, h.2.2.i (by omega)⟩
theorem rng_n {c : Nat} {a b : Int} (hc : c < 2147483648) : (rng (N4 c) a b = true) ↔ (a ≤ (c : Int) ∧ (c : Int) ≤ b) := by
  unfold rng
  rw [n4_int hc, decide_eq_true_eq]
theorem chg_le (m m' : Nat → Int64) (x K : Nat) : chg m m' x K ≤ K := cnt_le _ K
theorem swpC_le (m : Nat → Int64) (W H n : Nat) : ∀ k, swpC m W H n k ≤ k * n
  | 0 => by simp [swpC]
  | k + 1 => by
    have := swpC_le m W H n k
    have := cnt_le (actR (swpK m W H n k)) n
    unfold swpC
    rw [Nat.add_mul]
    omega
/-- a value told, not below 0, with the code 0 -/
theorem toldB {v : Nat} {τ : Mem} (hv : v < 2147483648) (h5 : τ.1 224 5 = 0) : (bd (some (N4 v, τ)) fun q9 => if q9.2.1 224 5 = 0 then if q9.1 < (0 : Int32) then some ((0 : Int32), q9.2) else some (1, q9.2) else some (0, q9.2)) = some (N4 1, τ) := by
  show (if τ.1 224 5 = 0 then if N4 v < (0 : Int32) then some ((0 : Int32), τ) else some (1, τ) else some (0, τ)) = _
  rw [if_pos h5, if_neg (n4_nlt hv)]
  rfl
theorem n4_p2 (i : Nat) : N4 i + 2 = N4 (i + 2) := n4_add i 2
theorem m_does {t : Nat} {c : Nat × Nat × Nat} {τ : Mem} (hV : Val m W H n) (hM : MO σ τ m hs sc) (ht : 3 * t + 2 < 90) (hD : DC τ (3 * t) c) (hc8 : c.1 < 8) (hca : c.2.1 < 1000000) (hcb : c.2.2 < 1000000) :
    (∀ m' n', exC m W H n c = some (m', n') → ∃ ρ, f_X12_does (N4 (3 * t)) τ = some (N4 1, ρ) ∧ MO σ ρ m' hs sc) ∧ (exC m W H n c = none → ∃ ρ, f_X12_does (N4 (3 * t)) τ = some (N4 0, ρ) ∧ MO5 σ ρ m hs sc) := by
  have h := hV.1
  have hK := h.K
  have hH := h.2.2.2.2.2.2.1
  have hn := h.2.2.2.2.2.2.2
  have hd := hM.dm h
  obtain ⟨k0, ka, kb⟩ := hD
  obtain ⟨ck, ca, cb⟩ := c
  simp only at k0 ka kb hc8 hca hcb ⊢
  have ne : ∀ j, j < 9 → (N4 ck = N4 j ↔ ck = j) := fun j hj => n4_eq (by omega) (by omega)
  have hbad : ∀ v : Int32, v ≠ 0 → (if (setI τ 224 5 v).1 224 5 = 0 then some ((1 : Int32), setI τ 224 5 v) else some (0, setI τ 224 5 v)) = some (N4 0, setI τ 224 5 v) := fun v hv => by
    rw [mI_e, if_neg hv]; rfl
  unfold f_X12_does
  rw [n4_succ, gd_inb (by omega) (by omega), n4_p2, gd_inb (by omega) (by omega), gd_inb (by omega) (by omega), n4_nat (by omega), n4_nat (by omega), n4_nat (by omega), k0]
  unfold exC
  simp only
  by_cases e0 : ck = 0
  · have ha := ka (by subst e0; decide)
    have hb := kb (by subst e0; decide)
    simp only [if_pos e0]
    rw [if_pos (show N4 ck = 0 by rw [e0]; rfl), ha, hb, m_whyNo hd, bd_s]
    by_cases q : ca < H ∧ cb < H ∧ n < 16
    · have hz : noRay H n (N4 ca) (N4 cb) = 0 := by
        have hh : rng (N4 ca) 0 ((H : Int) - 1) = true ∧ rng (N4 cb) 0 ((H : Int) - 1) = true := ⟨(rng_n (by omega)).mpr (by omega), (rng_n (by omega)).mpr (by omega)⟩
        unfold noRay
        rw [if_pos hh, if_neg (by omega)]
      simp only [if_pos q]
      refine ⟨fun m' n' e => ?_, fun e => (nomatch e)⟩
      obtain ⟨rfl, rfl⟩ := Prod.mk.inj (Option.some.inj e)
      rw [mI_e, if_pos hz, hz]
      have hM0 : MO σ (setI τ 224 5 0) m hs sc := hM.c
      have hA := hM0.add (n := n) (s := (N4 ca).toInt64) (r := (N4 cb).toInt64)
      rw [m_adds (hM0.dm h) q.2.2, toldB (by omega) hA.2.2.2]
      rw [n4_64 (by omega), n4_64 (by omega)] at hA ⊢
      exact ⟨_, rfl, hA⟩
    · have hz : noRay H n (N4 ca) (N4 cb) ≠ 0 := by
        unfold noRay
        by_cases hh : rng (N4 ca) 0 ((H : Int) - 1) = true ∧ rng (N4 cb) 0 ((H : Int) - 1) = true
        · have h1 := (rng_n (by omega)).mp hh.1
          have h2 := (rng_n (by omega)).mp hh.2
          rw [if_pos hh, if_pos (by omega)]; decide
        · rw [if_neg hh]; decide
      simp only [if_neg q]
      refine ⟨fun m' n' e => (nomatch e), fun _ => ?_⟩
      rw [mI_e, if_neg hz, if_neg hz]
      exact ⟨_, rfl, hM.five.c⟩
  · rw [if_neg (show ¬ N4 ck = 0 from fun e => e0 ((ne 0 (by omega)).mp e))]
    simp only [if_neg e0]
    by_cases e1 : ck = 1
    · have ha := ka (by subst e1; decide)
      have hb := kb (by subst e1; decide)
      simp only [if_pos e1]
      rw [if_pos (show N4 ck = 1 by rw [e1]; rfl), ha, hb, m_isRay hd, bd_s]
      by_cases q : ca < n
      · simp only [if_pos q]
        refine ⟨fun m' n' e => ?_, fun e => (nomatch e)⟩
        obtain ⟨rfl, rfl⟩ := Prod.mk.inj (Option.some.inj e)
        have hM0 : MO σ (setI τ 224 5 0) m hs sc := hM.c
        rw [if_neg (b4_t ((rng_n (by omega)).mpr (by omega))), mI_e, if_pos rfl, show (2 : Int32) = N4 2 from rfl, m_put (by omega) (by omega), m_put (by omega) (by omega), bd_s, bd_s, show 136 + 4 * ca + 2 = 138 + 4 * ca by omega]
        have hU := hM0.l (j := 138 + 4 * ca) (v := if N4 cb = 0 then 0 else 1)
        by_cases e : N4 cb = 0
        · rw [if_pos e] at hU
          rw [if_pos e, if_pos hU.2.2.2]
          refine ⟨_, rfl, ?_⟩
          unfold mUse
          rw [if_pos e]; exact hU
        · rw [if_neg e] at hU
          rw [if_neg e, if_pos hU.2.2.2]
          refine ⟨_, rfl, ?_⟩
          unfold mUse
          rw [if_neg e]; exact hU
      · simp only [if_neg q]
        refine ⟨fun m' n' e => (nomatch e), fun _ => ?_⟩
        rw [if_pos (b4_f (fun e => q (by have := (rng_n (by omega)).mp e; omega))), mI_e, if_neg (by decide), if_neg (by decide)]
        exact ⟨_, rfl, hM.five.c⟩
    · rw [if_neg (show ¬ N4 ck = 1 from fun e => e1 ((ne 1 (by omega)).mp e))]
      simp only [if_neg e1]
      by_cases e23 : ck = 2 ∨ ck = 3
      · have ha := ka (by rcases e23 with e | e <;> subst e <;> decide)
        have hb := kb (by rcases e23 with e | e <;> subst e <;> decide)
        -- both rows of slownesses
        have lay : ∀ x, x = 8 ∨ x = 72 → (ca < W * H ∧ 1 ≤ cb ∧ cb ≤ 100000 → ∃ ρ, (bd (f_X12_lay (N4 x) (N4 ca) (N4 cb) τ) fun q9 => if q9.2.1 224 5 = 0 then if q9.1 < (0 : Int32) then some ((0 : Int32), q9.2) else some (1, q9.2) else some (0, q9.2)) = some (N4 1, ρ) ∧ MO σ ρ (vp_updL m (x + ca) (N8 cb)) hs sc) ∧ (¬ (ca < W * H ∧ 1 ≤ cb ∧ cb ≤ 100000) → ∃ ρ, (bd (f_X12_lay (N4 x) (N4 ca) (N4 cb) τ) fun q9 => if q9.2.1 224 5 = 0 then if q9.1 < (0 : Int32) then some ((0 : Int32), q9.2) else some (1, q9.2) else some (0, q9.2)) = some (N4 0, ρ) ∧ MO5 σ ρ m hs sc) := by
          intro x hx8
          have hx : x + 64 ≤ 200 := by omega
          have hslo : Slo 64 (slw m x) := by
            rcases hx8 with rfl | rfl
            · exact hV.2.1
            · exact hV.2.2.1
          constructor
          · intro q
            obtain ⟨v, v1, v2, v3⟩ := slo_n hslo (show ca < 64 by omega)
            have hU := (hM.c).l (j := x + ca) (v := (N4 cb).toInt64)
            rw [m_lay hd hx q.1 ((rng_n (by omega)).mpr (by omega)), hM.1, v1, n8_32, toldB (by omega) hU.2.2.2]
            rw [n4_64 (by omega)] at hU ⊢
            exact ⟨_, rfl, hU⟩
          · intro q
            by_cases q1 : rng (N4 ca) 0 (((W * H : Nat) : Int) - 1) = true
            · rw [m_lay2 hd q1 (eq_false_of_ne_true (fun e => q (by have h1 := (rng_n (by omega)).mp q1; have h2 := (rng_n (by omega)).mp e; omega))), bd_s]
              show ∃ ρ, (if (setI τ 224 5 2).1 224 5 = 0 then _ else _) = _ ∧ _
              rw [mI_e, if_neg (by decide)]
              exact ⟨_, rfl, hM.five.c⟩
            · rw [m_lay1 hd (eq_false_of_ne_true q1), bd_s]
              show ∃ ρ, (if (setI τ 224 5 1).1 224 5 = 0 then _ else _) = _ ∧ _
              rw [mI_e, if_neg (by decide)]
              exact ⟨_, rfl, hM.five.c⟩
        by_cases e2 : ck = 2
        · simp only [if_pos e2]
          rw [if_pos (show N4 ck = 2 by rw [e2]; rfl), gd_inb (by omega) (by omega), if_pos (show N4 ck = 2 by rw [e2]; rfl), ha, hb, show (8 : Int32) = N4 8 from rfl]
          obtain ⟨l1, l2⟩ := lay 8 (Or.inl rfl)
          by_cases q : ca < W * H ∧ 1 ≤ cb ∧ cb ≤ 100000
          · simp only [if_pos q]
            refine ⟨fun m' n' e => ?_, fun e => (nomatch e)⟩
            obtain ⟨rfl, rfl⟩ := Prod.mk.inj (Option.some.inj e)
            exact l1 q
          · simp only [if_neg q]
            exact ⟨fun m' n' e => (nomatch e), fun _ => l2 q⟩
        · have e3 : ck = 3 := e23.resolve_left e2
          simp only [if_neg e2, if_pos e3]
          rw [if_neg (show ¬ N4 ck = 2 from fun e => e2 ((ne 2 (by omega)).mp e)), if_pos (show N4 ck = 3 by rw [e3]; rfl), gd_inb (by omega) (by omega), if_neg (show ¬ N4 ck = 2 from fun e => e2 ((ne 2 (by omega)).mp e)), ha, hb, show (72 : Int32) = N4 72 from rfl]
          obtain ⟨l1, l2⟩ := lay 72 (Or.inr rfl)
          by_cases q : ca < W * H ∧ 1 ≤ cb ∧ cb ≤ 100000
          · simp only [if_pos q]
            refine ⟨fun m' n' e => ?_, fun e => (nomatch e)⟩
            obtain ⟨rfl, rfl⟩ := Prod.mk.inj (Option.some.inj e)
            exact l1 q
          · simp only [if_neg q]
            exact ⟨fun m' n' e => (nomatch e), fun _ => l2 q⟩
      · have e2 : ¬ ck = 2 := fun e => e23 (Or.inl e)
        have e3 : ¬ ck = 3 := fun e => e23 (Or.inr e)
        have hMc : MO σ (setI τ 224 5 0) m hs sc := hM.c
        rw [if_neg (show ¬ N4 ck = 2 from fun e => e2 ((ne 2 (by omega)).mp e)), if_neg (show ¬ N4 ck = 3 from fun e => e3 ((ne 3 (by omega)).mp e))]
        simp only [if_neg e2, if_neg e3]
        by_cases e4 : ck = 4
        · have ha := ka (by subst e4; decide)
          simp only [if_pos e4]
          rw [if_pos (show N4 ck = 4 by rw [e4]; rfl), ha, m_isNoise, bd_s]
          by_cases q : ca ≤ 1000
          · have hh : rng (N4 ca) 0 1000 = true ∧ rng (N4 ca) 0 999999 = true := ⟨(rng_n (by omega)).mpr (by omega), (rng_n (by omega)).mpr (by omega)⟩
            simp only [if_pos q]
            refine ⟨fun m' n' e => ?_, fun e => (nomatch e)⟩
            obtain ⟨rfl, rfl⟩ := Prod.mk.inj (Option.some.inj e)
            have hMr : MO (setI τ 224 5 0) (setI τ 224 5 0) ((setI τ 224 5 0).2 225) hs sc := ⟨rfl, hMc.2.1, Mfr.rfl, mI_e⟩
            obtain ⟨ρ, r1, r2⟩ := m_takes (x1 := N4 ca) (seed := N4 ca) (σ := setI τ 224 5 0) (by rw [hMc.1]; exact hV) (nz_w q).1 hMr
            rw [hMc.1, n4_64 (by omega)] at r2
            rw [if_neg (b4_t hh), mI_e, if_pos rfl, r1, toldB (by omega) r2.2.2.2]
            exact ⟨ρ, rfl, r2.1, r2.2.1, hMc.2.2.1.trans r2.2.2.1, r2.2.2.2⟩
          · simp only [if_neg q]
            refine ⟨fun m' n' e => (nomatch e), fun _ => ?_⟩
            rw [if_pos (b4_f (fun e => q (by have := (rng_n (by omega)).mp e.1; omega))), mI_e, if_neg (by decide), if_neg (by decide)]
            exact ⟨_, rfl, hM.five.c⟩
        · rw [if_neg (show ¬ N4 ck = 4 from fun e => e4 ((ne 4 (by omega)).mp e))]
          simp only [if_neg e4]
          by_cases e5 : ck = 5
          · have ha := ka (by subst e5; decide)
            simp only [if_pos e5]
            rw [if_pos (show N4 ck = 5 by rw [e5]; rfl), ha, inr 1 20 rfl rfl, bd_s]
            by_cases q : 1 ≤ ca ∧ ca ≤ 20
            · simp only [if_pos q]
              refine ⟨fun m' n' e => ?_, fun e => (nomatch e)⟩
              obtain ⟨rfl, rfl⟩ := Prod.mk.inj (Option.some.inj e)
              obtain ⟨ρ, r1, r2⟩ := m_sweeps hV hMc q.2
              have hcl := swpC_le m W H n ca
              have hcl2 : ca * n ≤ 20 * 16 := Nat.mul_le_mul q.2 hn
              rw [if_neg (b4_t ((rng_n (by omega)).mpr (by omega))), mI_e, if_pos rfl, r1, toldB (by omega) r2.2.2.2]
              exact ⟨ρ, rfl, r2⟩
            · simp only [if_neg q]
              refine ⟨fun m' n' e => (nomatch e), fun _ => ?_⟩
              rw [if_pos (b4_f (fun e => q (by have := (rng_n (by omega)).mp e; omega))), mI_e, if_neg (by decide), if_neg (by decide)]
              exact ⟨_, rfl, hM.five.c⟩
          · rw [if_neg (show ¬ N4 ck = 5 from fun e => e5 ((ne 5 (by omega)).mp e))]
            simp only [if_neg e5]
            by_cases e6 : ck = 6
            · have ha := ka (by subst e6; decide)
              simp only [if_pos e6]
              rw [if_pos (show N4 ck = 6 by rw [e6]; rfl), ha, inr 1 100 rfl rfl, bd_s]
              by_cases q : 1 ≤ ca ∧ ca ≤ 100
              · simp only [if_pos q]
                refine ⟨fun m' n' e => ?_, fun e => (nomatch e)⟩
                obtain ⟨rfl, rfl⟩ := Prod.mk.inj (Option.some.inj e)
                obtain ⟨ρ, r1, r2⟩ := m_smooths hV hMc q.1 q.2
                have hcl := chg_le m (mSmo m W (W * H) ca) 8 (W * H)
                rw [if_neg (b4_t ((rng_n (by omega)).mpr (by omega))), mI_e, if_pos rfl, r1, toldB (by omega) r2.2.2.2]
                exact ⟨ρ, rfl, r2⟩
              · simp only [if_neg q]
                refine ⟨fun m' n' e => (nomatch e), fun _ => ?_⟩
                rw [if_pos (b4_f (fun e => q (by have := (rng_n (by omega)).mp e; omega))), mI_e, if_neg (by decide), if_neg (by decide)]
                exact ⟨_, rfl, hM.five.c⟩
            · rw [if_neg (show ¬ N4 ck = 6 from fun e => e6 ((ne 6 (by omega)).mp e))]
              simp only [if_neg e6]
              refine ⟨fun m' n' e => ?_, fun e => (nomatch e)⟩
              obtain ⟨rfl, rfl⟩ := Prod.mk.inj (Option.some.inj e)
              obtain ⟨ρ, r1, r2⟩ := m_fills hV hMc
              have hcl := chg_le m (mFil m W H n) 8 (W * H)
              rw [r1, toldB (by omega) r2.2.2.2]
              exact ⟨ρ, rfl, r2⟩
end MRUN2
