/-! ===== the reference: correct, smooth, fill ===== -/
section MCOR
variable {σ : Mem} {W H n : Nat} {hs : List (Nat → Int64)} {sc : List Nat} {x1 x2 x3 x4 : Int32} {m : Nat → Int64}
theorem MO.lo {τ : Mem} {m' : Nat → Int64} {hs' : List (Nat → Int64)} {sc' : List Nat} {p j : Nat} {v : Int64} (h : MO σ τ m' hs' sc') (hp : 227 ≤ p ∧ p ≠ 239) : MO σ (setL τ p j v) m' hs' sc' :=
  ⟨(mL_p (by omega)).trans h.1, h.2.1.of rfl rfl (mL_p (by omega)) rfl, h.2.2.1.l (by omega), h.2.2.2⟩
theorem wlr_cert (hV : Val m W H n) {r : Nat} (hr : r < n) : Cert W (W * H) (slw m 8) (frc m W r) (dsl m W H 8 (frc m W r)) :=
  cert_ex hV.1.2.2.2.1 hV.1.2.2.2.2.1 hV.1.2.2.2.2.2.1 hV.1.2.2.2.2.2.2.1 hV.s8 (hV.2.2.2.1.lt hV.1 hr).1
theorem wln_pos (hV : Val m W H n) {r c : Nat} (hr : r < n) (hc : c ∈ wlr m W H r) : 0 < wln m W H r c := by
  obtain ⟨o1, o2, o3⟩ := hV.2.2.2.1.lt hV.1 hr
  exact lenL_pos hV.1.K.2 hV.s8 (wlr_cert hV hr) o1 _ o2 (fun _ => 0) (fun q => absurd q o3) c hc
theorem wln_zero {r c : Nat} (hc : c ∉ wlr m W H r) : wln m W H r c = 0 := lenL_out W _ _ _ hc
theorem wlr_mem (hV : Val m W H n) {r c : Nat} (hr : r < n) (hc : c ∈ wlr m W H r) : c < W * H := by
  obtain ⟨o1, o2, o3⟩ := hV.2.2.2.1.lt hV.1 hr
  exact ((wayl_facts hV.1.K.2 hV.s8 (wlr_cert hV hr) o1 _ o2).2.1 c hc).1
theorem wlr_nodup (hV : Val m W H n) {r : Nat} (hr : r < n) : (wlr m W H r).Nodup := by
  obtain ⟨o1, o2, o3⟩ := hV.2.2.2.1.lt hV.1 hr
  exact (wayl_facts hV.1.K.2 hV.s8 (wlr_cert hV hr) o1 _ o2).2.2.1
theorem wlr_to (hV : Val m W H n) {r : Nat} (hr : r < n) : toc m W r ∈ wlr m W H r := by
  obtain ⟨o1, o2, o3⟩ := hV.2.2.2.1.lt hV.1 hr
  unfold wlr
  rw [wayl_c hV.1.K.2 hV.s8 (wlr_cert hV hr) o2 o3]
  exact List.mem_cons_self
noncomputable def sqr (m : Nat → Int64) (W H r : Nat) : Nat := sumN (fun c => wln m W H r c * wln m W H r c) (W * H)
theorem sumN_ge (f : Nat → Nat) {k i : Nat} (h : i < k) : f i ≤ sumN f k := by
  induction k with
  | zero => omega
  | succ k ih =>
    simp only [sumN]
    by_cases e : i = k
    · rw [e]; omega
    · have := ih (by omega); omega
theorem sumN_le {f : Nat → Nat} {b : Nat} {k : Nat} (h : ∀ i, i < k → f i ≤ b) : sumN f k ≤ k * b := by
  induction k with
  | zero => simp [sumN]
  | succ k ih =>
    simp only [sumN]
    have := ih (fun i hi => h i (by omega))
    have := h k (by omega)
    rw [Nat.add_mul]
    omega
theorem sqr_bd (hV : Val m W H n) {r : Nat} (hr : r < n) : 0 < sqr m W H r ∧ sqr m W H r ≤ 2096704000000 := by
  obtain ⟨o1, o2, o3⟩ := hV.2.2.2.1.lt hV.1 hr
  have hK := hV.1.K
  constructor
  · have h1 := wln_pos hV hr (wlr_to hV hr)
    have h2 := sumN_ge (fun c => wln m W H r c * wln m W H r c) o2
    have h3 : 0 < wln m W H r (toc m W r) * wln m W H r (toc m W r) := Nat.mul_pos h1 h1
    exact Nat.lt_of_lt_of_le h3 h2
  · have h2 : sumN (fun c => wln m W H r c * wln m W H r c) (W * H) ≤ (W * H) * (181000 * 181000) := sumN_le (fun i _ => Nat.mul_le_mul (wln_bd hV.1 hV.2.2.2.1 hr hV.s8).1 (wln_bd hV.1 hV.2.2.2.1 hr hV.s8).1)
    have h3 : (W * H) * (181000 * 181000) ≤ 64 * (181000 * 181000) := Nat.mul_le_mul_right _ hK.2
    unfold sqr
    omega
noncomputable def corV (m : Nat → Int64) (W H r c : Nat) : Int64 := held8 (m (8 + c) + rnd8 (m 4 * (m (139 + 4 * r) - wtm m W H r) * N8 (wln m W H r c)) (1000 * N8 (sqr m W H r))) (m 2) (m 3)
noncomputable def mCor (m : Nat → Int64) (W H r : Nat) : Nat → Int64 := fun j => if 8 ≤ j ∧ j < 8 + W * H ∧ 0 < wln m W H r (j - 8) then corV m W H r (j - 8) else m j
theorem m_sq {x2 : Int64} {l : Nat → Nat} (h : Dm (σ.2 225) W H n) (hl : ∀ c, c < 64 → σ.1 231 c = N4 (l c) ∧ l c ≤ 181000) : f_X12_corrects_23 x2 σ 100000 0 (N4 0) = some (N8 (sumN (fun c => l c * l c) (W * H))) := by
  have hK := h.K
  have key := loopF (fun k i (a : Int64) => f_X12_corrects_23 x2 σ k a (N4 i)) (W * H) (fun i => N8 (sumN (fun c => l c * l c) i)) (N8 (sumN (fun c => l c * l c) (W * H))) ?_ ?_ 100000 0 (by omega) (by omega)
  · exact key
  · intro k
    show f_X12_corrects_23 x2 σ (k + 1) _ (N4 (W * H)) = _
    rw [f_X12_corrects_23, m_cells h, bd_s, if_pos ((n4_le (by omega) (by omega)).mpr (Nat.le_refl _))]
  · intro k i hi
    have e := hl i (by omega)
    show f_X12_corrects_23 x2 σ (k + 1) (N8 (sumN (fun c => l c * l c) i)) (N4 i) = f_X12_corrects_23 x2 σ k (N8 (sumN (fun c => l c * l c) (i + 1))) (N4 (i + 1))
    rw [f_X12_corrects_23, m_cells h, bd_s, if_neg (fun q => by have := (n4_le (by omega) (by omega)).mp q; omega), gd_inb (by omega) (by omega), gd_inb (by omega) (by omega), n4_nat (by omega), e.1, n4_64 (by omega), n8_mul, n8_add, n4_succ]
    rfl
theorem m_corrects {σ0 : Mem} {r : Nat} (hV : Val m W H n) (hr : r < n) (hM : MO σ σ0 m hs sc) : ∃ τ, f_X12_corrects (N4 r) σ0 = some (N4 (chg m (mCor m W H r) 8 (W * H)), τ) ∧ MO σ τ (mCor m W H r) hs sc ∧ τ.1 234 = σ0.1 234 := by
  have h := hV.1
  have hn := h.2.2.2.2.2.2.2
  have hK := h.K
  have h0 : Dm (σ0.2 225) W H n := by rw [hM.1]; exact h
  obtain ⟨τ, a1, a2, a3⟩ := m_findWay h0 (by rw [hM.1]; exact hV.2.2.2.1) hr (by rw [hM.1]; exact hV.s8)
  rw [hM.1] at a3
  obtain ⟨-, -, a4, a5⟩ := a3
  have hMt : MO σ τ m hs sc := hM.q a2.q
  have hlen : ∀ c, c < 64 → τ.1 231 c = N4 (wln m W H r c) ∧ wln m W H r c ≤ 181000 := fun c hc => ⟨a4 c hc, (wln_bd h hV.2.2.2.1 hr hV.s8).1⟩
  have hsq : sumN (fun c => wln m W H r c * wln m W H r c) (W * H) = sqr m W H r := rfl
  obtain ⟨s1, s2⟩ := sqr_bd hV hr
  generalize hm' : mCor m W H r = m'
  have hval : ∀ i, i < W * H → 0 < wln m W H r i → m' (8 + i) = corV m W H r i := fun i hi hp => by
    rw [← hm']; unfold mCor
    rw [Nat.add_sub_cancel_left, if_pos ⟨by omega, by omega, hp⟩]
  have hval0 : ∀ i, wln m W H r i = 0 → m' (8 + i) = m (8 + i) := fun i hp => by
    rw [← hm']; unfold mCor
    rw [Nat.add_sub_cancel_left, if_neg (by omega)]
  have hout : ∀ j, ¬ (8 ≤ j ∧ j < 8 + W * H) → m' j = m j := fun j hj => by
    rw [← hm']; exact if_neg (fun q => hj ⟨q.1, q.2.1⟩)
  have hd : ∀ i, Dm (mix m m' 8 i) W H n := fun i => dm_of h (mix_lo (by omega)) (mix_lo (by omega)) (mix_lo (by omega))
  have key := loopU (fun k i (a : Int32 × Mem) => f_X12_corrects_66 (m (139 + 4 * r) - wtm m W H r) (N8 (sqr m W H r)) k a.1 (N4 i) a.2) (W * H) (fun i a => a.1 = N4 (chg m m' 8 i) ∧ MO σ a.2 (mix m m' 8 i) hs sc ∧ a.2.1 = τ.1) (fun q => q.1 = N4 (chg m m' 8 (W * H)) ∧ MO σ q.2 m' hs sc ∧ q.2.1 = τ.1) ?_ ?_ 100000 0 (N4 0, τ) (by omega) (by omega) ⟨rfl, by rw [mix_0]; exact hMt, rfl⟩
  · obtain ⟨⟨q1, q2⟩, b1, b2, b3, b4⟩ := key
    obtain rfl : q1 = _ := b2
    have b4' : q2.1 = τ.1 := b4
    have b1' : f_X12_corrects_66 (m (139 + 4 * r) - wtm m W H r) (N8 (sqr m W H r)) 100000 (N4 0) (N4 0) τ = _ := b1
    unfold f_X12_corrects
    rw [a1, bd_s, show (3 : Int32) = N4 3 from rfl, m_of (by omega) (by omega), bd_s, show 136 + 4 * r + 3 = 139 + 4 * r by omega, hMt.1, a5, show (0 : Int32) = N4 0 from rfl, m_sq (hMt.dm h) hlen, bd_s, hsq, b1', bd_s]
    exact ⟨q2, rfl, b3, by rw [b4']; exact a2.rowI (fun j => by unfold mwI; omega)⟩
  · rintro k ⟨a, ρ⟩ ⟨p1, p2, p3⟩
    refine ⟨(a, ρ), ?_, p1, by rw [mix_K hout] at p2; exact p2, p3⟩
    show f_X12_corrects_66 _ _ (k + 1) a (N4 (W * H)) ρ = some (a, ρ)
    rw [f_X12_corrects_66, m_cells (p2.dm (hd _)), bd_s, if_pos ((n4_le (by omega) (by omega)).mpr (Nat.le_refl _))]
  · rintro k i ⟨a, ρ⟩ hi ⟨p1, p2, p3⟩
    have hdt := p2.dm (hd i)
    have hl := hlen i (by omega)
    have p3' : ρ.1 231 = τ.1 231 := by rw [show ρ.1 = τ.1 from p3]
    have p1' : a = N4 (chg m m' 8 i) := p1
    show ∃ a', f_X12_corrects_66 _ _ (k + 1) a (N4 i) ρ = _ ∧ _
    rw [f_X12_corrects_66, m_cells hdt, bd_s, if_neg (fun q => by have := (n4_le (by omega) (by omega)).mp q; omega), gd_inb (by omega) (by omega), n4_nat (by omega), p3', hl.1, n4_succ]
    by_cases hz : wln m W H r i = 0
    · rw [hz, if_pos (show N4 0 ≤ 0 by decide)]
      refine ⟨(a, ρ), rfl, ?_, ?_, p3⟩
      · show a = _
        rw [p1']
        unfold chg
        simp only [cnt]
        rw [if_neg (by simp [hval0 i hz])]; rfl
      · show MO σ ρ (mix m m' 8 (i + 1)) hs sc
        rw [mix_n (hval0 i hz)]; exact p2
    · have hat : ρ.2 225 (8 + i) = m (8 + i) := by rw [p2.1, mix_at]
      have hrnd : nz8 (2 * (1000 * N8 (sqr m W H r))) = true := by
        rw [show (1000 : Int64) = N8 1000 from rfl, n8_mul]
        exact nz8_n (by omega) (by omega)
      rw [if_neg (show ¬ N4 (wln m W H r i) ≤ 0 from fun q => hz (by have := (n4_le (b := 0) (by omega) (by omega)).mp q; omega)), gd_inb (by omega) (by omega), n4_64 (by omega), show (4 : Int32).toNatClampNeg = 4 from rfl, show (2 : Int32).toNatClampNeg = 2 from rfl, show (3 : Int32).toNatClampNeg = 3 from rfl, m_rounded hrnd, bd_s, show (8 : Int32) = N4 8 from rfl, n4_add, gd_inb (by omega) (by omega), m_held, bd_s, m_change (by omega), bd_s, n4_nat (by omega), hat, p2.1, mix_lo (by omega), mix_lo (by omega), mix_lo (by omega)]
      have hv : held8 (m (8 + i) + rnd8 (m 4 * (m (139 + 4 * r) - wtm m W H r) * N8 (wln m W H r i)) (1000 * N8 (sqr m W H r))) (m 2) (m 3) = m' (8 + i) := (hval i hi (by omega)).symm
      rw [hv]
      refine ⟨(_, _), rfl, ?_, ?_, p3⟩
      · show a + _ = _
        rw [p1', n4_add]; rfl
      · have := p2.l (j := 8 + i) (v := m' (8 + i))
        rw [mix_s] at this
        exact this
theorem mo_correct1 (h : Dm (σ.2 225) W H n) (h1 : rng x1 0 ((n : Int) - 1) = false) : f_X12_correct x1 σ = some (0, setI σ 224 5 1) := by
  unfold f_X12_correct
  rw [m_isRay h, bd_s, if_pos (b4_f (bf h1)), mI_e, if_neg (by decide)]
theorem mo_correct2 {r : Nat} (h : Dm (σ.2 225) W H n) (hr : r < n) (h2 : σ.2 225 (139 + 4 * r) = -1) : f_X12_correct (N4 r) σ = some (0, setI σ 224 5 2) := by
  have hn := h.2.2.2.2.2.2.2
  unfold f_X12_correct
  rw [m_isRay h, bd_s, if_neg (b4_t (rng_i hr (by omega))), show (3 : Int32) = N4 3 from rfl, m_of (by omega) (by omega), bd_s, show 136 + 4 * r + 3 = 139 + 4 * r by omega, if_pos h2, mI_e, if_neg (by decide)]
theorem mo_correct {r : Nat} (hV : Val (σ.2 225) W H n) (hI : MInv σ hs sc) (hr : r < n) (h2 : ¬ σ.2 225 (139 + 4 * r) = -1) : ∃ τ, f_X12_correct (N4 r) σ = some (N4 (chg (σ.2 225) (mCor (σ.2 225) W H r) 8 (W * H)), τ) ∧ MO σ τ (mCor (σ.2 225) W H r) (push hs (σ.2 225)) sc := by
  have hn := hV.1.2.2.2.2.2.2.2
  obtain ⟨τ, a1, a2⟩ := m_keep0 hI
  obtain ⟨ρ, b1, b2, -⟩ := m_corrects hV hr a2
  unfold f_X12_correct
  rw [m_isRay hV.1, bd_s, if_neg (b4_t (rng_i hr (by omega))), show (3 : Int32) = N4 3 from rfl, m_of (by omega) (by omega), bd_s, show 136 + 4 * r + 3 = 139 + 4 * r by omega, if_neg h2, mI_e, if_pos rfl, a1, bd_s, b1, bd_s]
  exact ⟨ρ, rfl, b2⟩
/-! fresh slownesses, taken over -/
def mFr (m fr : Nat → Int64) (K : Nat) : Nat → Int64 := fun j => if 8 ≤ j ∧ j < 8 + K then fr (j - 8) else m j
theorem m_layFresh {σ0 : Mem} {fr : Nat → Int64} (h : Dm m W H n) (hM : MO σ σ0 m hs sc) (hf : ∀ c, c < W * H → σ0.2 237 c = fr c) : ∃ τ, f_X12_layFresh σ0 = some (N4 (chg m (mFr m fr (W * H)) 8 (W * H)), τ) ∧ MO σ τ (mFr m fr (W * H)) hs sc := by
  have hK := h.K
  generalize hm' : mFr m fr (W * H) = m'
  have hval : ∀ i, i < W * H → m' (8 + i) = fr i := fun i hi => by
    rw [← hm']; unfold mFr
    rw [Nat.add_sub_cancel_left, if_pos ⟨by omega, by omega⟩]
  have hout : ∀ j, ¬ (8 ≤ j ∧ j < 8 + W * H) → m' j = m j := fun j hj => by
    rw [← hm']; exact if_neg hj
  have hd : ∀ i, Dm (mix m m' 8 i) W H n := fun i => dm_of h (mix_lo (by omega)) (mix_lo (by omega)) (mix_lo (by omega))
  have key := loopU (fun k i (a : Int32 × Mem) => f_X12_layFresh_4 k a.1 (N4 i) a.2) (W * H) (fun i a => a.1 = N4 (chg m m' 8 i) ∧ MO σ a.2 (mix m m' 8 i) hs sc ∧ a.2.2 237 = σ0.2 237) (fun q => q.1 = N4 (chg m m' 8 (W * H)) ∧ MO σ q.2 m' hs sc) ?_ ?_ 100000 0 (N4 0, σ0) (by omega) (by omega) ⟨rfl, by rw [mix_0]; exact hM, rfl⟩
  · obtain ⟨⟨q1, q2⟩, b1, b2, b3⟩ := key
    obtain rfl : q1 = _ := b2
    have b1' : f_X12_layFresh_4 100000 (N4 0) (N4 0) σ0 = _ := b1
    unfold f_X12_layFresh
    rw [show (0 : Int32) = N4 0 from rfl, b1', bd_s]
    exact ⟨q2, rfl, b3⟩
  · rintro k ⟨a, ρ⟩ ⟨p1, p2, -⟩
    refine ⟨(a, ρ), ?_, p1, by rw [mix_K hout] at p2; exact p2⟩
    show f_X12_layFresh_4 (k + 1) a (N4 (W * H)) ρ = some (a, ρ)
    rw [f_X12_layFresh_4, m_cells (p2.dm (hd _)), bd_s, if_pos ((n4_le (by omega) (by omega)).mpr (Nat.le_refl _))]
  · rintro k i ⟨a, ρ⟩ hi ⟨p1, p2, p3⟩
    have hdt := p2.dm (hd i)
    have p3' : ρ.2 237 = σ0.2 237 := p3
    have p1' : a = N4 (chg m m' 8 i) := p1
    have hat : ρ.2 225 (8 + i) = m (8 + i) := by rw [p2.1, mix_at]
    show ∃ a', f_X12_layFresh_4 (k + 1) a (N4 i) ρ = _ ∧ _
    rw [f_X12_layFresh_4, m_cells hdt, bd_s, if_neg (fun q => by have := (n4_le (by omega) (by omega)).mp q; omega), gd_inb (by omega) (by omega), n4_nat (by omega), p3', hf i hi, show (8 : Int32) = N4 8 from rfl, n4_add, m_change (by omega), bd_s, n4_succ, hat, ← hval i hi]
    refine ⟨(_, _), rfl, ?_, ?_, ?_⟩
    · show a + _ = _
      rw [p1', n4_add]; rfl
    · have := p2.l (j := 8 + i) (v := m' (8 + i))
      rw [mix_s] at this
      exact this
    · show (setL ρ 225 (8 + i) (m' (8 + i))).2 237 = _
      rw [mL_p (by omega)]; exact p3
/-! smooth -/
def smoS (m : Nat → Int64) (W K c k : Nat) : Int64 := N8 k * m (8 + c) + sum8 (fun o => if mv W c o = 1000 then m (8 + o) else 0) K
def smoN (W K c k : Nat) : Nat := k + cnt (fun o => decide (mv W c o = 1000)) K
def smoV (m : Nat → Int64) (W K k c : Nat) : Int64 := rnd8 (smoS m W K c k) (N8 (smoN W K c k))
theorem m_smo29 {c k : Nat} (h : Dm (σ.2 225) W H n) (hc : c < W * H) (hk : k ≤ 100) : f_X12_smooths_29 x1 (N4 c) σ 100000 (N8 k * σ.2 225 (8 + c)) (N4 k) (N4 0) = some (smoS (σ.2 225) W (W * H) c k, N4 (smoN W (W * H) c k)) := by
  have hK := h.K
  have key := loopF (fun q i (a : Int64 × Int32) => f_X12_smooths_29 x1 (N4 c) σ q a.1 a.2 (N4 i)) (W * H) (fun i => (smoS (σ.2 225) W i c k, N4 (smoN W i c k))) (smoS (σ.2 225) W (W * H) c k, N4 (smoN W (W * H) c k)) ?_ ?_ 100000 0 (by omega) (by omega)
  · have e0 : smoS (σ.2 225) W 0 c k = N8 k * σ.2 225 (8 + c) := by unfold smoS; simp only [sum8]; exact Int64.add_zero _
    have key' : f_X12_smooths_29 x1 (N4 c) σ 100000 (smoS (σ.2 225) W 0 c k) (N4 k) (N4 0) = _ := key
    rw [e0] at key'
    exact key'
  · intro q
    show f_X12_smooths_29 x1 (N4 c) σ (q + 1) _ _ (N4 (W * H)) = _
    rw [f_X12_smooths_29, m_cells h, bd_s, if_pos ((n4_le (by omega) (by omega)).mpr (Nat.le_refl _))]
  · intro q i hi
    have : mv W c i < 2000 := by rcases mv_cases W c i with e | e | e <;> omega
    show f_X12_smooths_29 x1 (N4 c) σ (q + 1) (smoS (σ.2 225) W i c k) (N4 (smoN W i c k)) (N4 i) = f_X12_smooths_29 x1 (N4 c) σ q (smoS (σ.2 225) W (i + 1) c k) (N4 (smoN W (i + 1) c k)) (N4 (i + 1))
    rw [f_X12_smooths_29, m_cells h, bd_s, if_neg (fun q => by have := (n4_le (by omega) (by omega)).mp q; omega), m_move h (by omega) (by omega), bd_s, n4_succ]
    have e1 : smoS (σ.2 225) W (i + 1) c k = smoS (σ.2 225) W i c k + (if mv W c i = 1000 then σ.2 225 (8 + i) else 0) := by
      unfold smoS; simp only [sum8]; rw [Int64.add_assoc]
    have e2 : smoN W (i + 1) c k = smoN W i c k + (if mv W c i = 1000 then 1 else 0) := by
      unfold smoN; simp only [cnt, decide_eq_true_eq]; omega
    by_cases e : mv W c i = 1000
    · rw [if_pos (show N4 (mv W c i) = 1000 by rw [e]; rfl), show (8 : Int32) = N4 8 from rfl, n4_add, gd_inb (by omega) (by omega), n4_nat (by omega), n4_succ, e1, e2, if_pos e, if_pos e]
    · rw [if_neg (show ¬ N4 (mv W c i) = 1000 from fun q => e ((n4_eq (b := 1000) (by omega) (by omega)).mp q)), show (0 : Int32) = N4 0 from rfl, n4_add, e1, e2, if_neg e, if_neg e, n4_succ]
def mSmo (m : Nat → Int64) (W K k : Nat) : Nat → Int64 := mFr m (smoV m W K k) K
theorem smoN_bd {c k : Nat} (hk : 1 ≤ k) (hk2 : k ≤ 100) {K : Nat} (hK : K ≤ 64) : 1 ≤ smoN W K c k ∧ smoN W K c k ≤ 164 := by
  have := cnt_le (fun o => decide (mv W c o = 1000)) K
  unfold smoN
  omega
theorem m_smooths {σ0 : Mem} {k : Nat} (hV : Val m W H n) (hM : MO σ σ0 m hs sc) (hk : 1 ≤ k) (hk2 : k ≤ 100) : ∃ τ, f_X12_smooths (N4 k) σ0 = some (N4 (chg m (mSmo m W (W * H) k) 8 (W * H)), τ) ∧ MO σ τ (mSmo m W (W * H) k) hs sc := by
  have h := hV.1
  have hK := h.K
  have key := loopU (fun q i τ => f_X12_smooths_2 (N4 k) q (N4 i) τ) (W * H) (fun i τ => MO σ τ m hs sc ∧ ∀ c, c < i → τ.2 237 c = smoV m W (W * H) k c) (fun τ => MO σ τ m hs sc ∧ ∀ c, c < W * H → τ.2 237 c = smoV m W (W * H) k c) ?_ ?_ 100000 0 σ0 (by omega) (by omega) ⟨hM, fun c hc => by omega⟩
  · obtain ⟨τ, a1, a2, a3⟩ := key
    have a1' : f_X12_smooths_2 (N4 k) 100000 (N4 0) σ0 = _ := a1
    obtain ⟨ρ, b1, b2⟩ := m_layFresh h a2 a3
    unfold f_X12_smooths
    rw [show (0 : Int32) = N4 0 from rfl, a1', bd_s, b1, bd_s]
    exact ⟨ρ, rfl, b2⟩
  · intro q τ hP
    refine ⟨τ, ?_, hP⟩
    show f_X12_smooths_2 (N4 k) (q + 1) (N4 (W * H)) τ = some τ
    rw [f_X12_smooths_2, m_cells (hP.1.dm h), bd_s, if_pos ((n4_le (by omega) (by omega)).mpr (Nat.le_refl _))]
  · intro q i τ hi hP
    obtain ⟨p1, p2⟩ := hP
    have hb := smoN_bd (W := W) (c := i) hk hk2 hK.2
    have hs29 := m_smo29 (x1 := N4 k) (σ := τ) (c := i) (k := k) (p1.dm h) hi hk2
    rw [p1.1] at hs29
    show ∃ a', f_X12_smooths_2 (N4 k) (q + 1) (N4 i) τ = _ ∧ _
    rw [f_X12_smooths_2, m_cells (p1.dm h), bd_s, if_neg (fun q => by have := (n4_le (by omega) (by omega)).mp q; omega), show (8 : Int32) = N4 8 from rfl, n4_add, gd_inb (by omega) (by omega), n4_nat (by omega), n4_64 (by omega), p1.1, show (0 : Int32) = N4 0 from rfl, hs29, bd_s, n4_64 (by omega), m_rounded (nz8_n (by omega) (by omega)), bd_s, gd_inb (by omega) (by omega), n4_nat (by omega), n4_succ]
    refine ⟨_, rfl, p1.lo (by omega), fun c hc => ?_⟩
    by_cases e : c = i
    · rw [e, mL_e]; rfl
    · rw [mL_j e]; exact p2 c (by omega)
theorem mo_smooth1 (h1 : rng x1 1 100 = false) : f_X12_smooth x1 σ = some (0, setI σ 224 5 1) := by
  unfold f_X12_smooth
  rw [inr 1 100 rfl rfl, bd_s, if_pos (b4_f (bf h1)), mI_e, if_neg (by decide)]
theorem rng_lo {x : Int32} {a b : Nat} (h : rng x a b = true) : ∃ k, x = N4 k ∧ a ≤ k ∧ k ≤ b ∧ k < 2147483648 := by
  unfold rng at h
  rw [decide_eq_true_eq] at h
  have h1 := x.toInt_lt
  refine ⟨x.toInt.toNat, ?_, by omega, by omega, by omega⟩
  rw [← Int32.toInt_inj, n4_int (by omega)]
  omega
theorem mo_smooth {k : Nat} (hV : Val (σ.2 225) W H n) (hI : MInv σ hs sc) (hk : 1 ≤ k) (hk2 : k ≤ 100) : ∃ τ, f_X12_smooth (N4 k) σ = some (N4 (chg (σ.2 225) (mSmo (σ.2 225) W (W * H) k) 8 (W * H)), τ) ∧ MO σ τ (mSmo (σ.2 225) W (W * H) k) (push hs (σ.2 225)) sc := by
  have h1 : rng (N4 k) 1 100 = true := by unfold rng; rw [n4_int (by omega), decide_eq_true_eq]; omega
  obtain ⟨τ, a1, a2⟩ := m_keep0 hI
  obtain ⟨ρ, b1, b2⟩ := m_smooths hV a2 hk hk2
  unfold f_X12_smooth
  rw [inr 1 100 rfl rfl, bd_s, if_neg (b4_t h1), mI_e, if_pos rfl, a1, bd_s, b1, bd_s]
  exact ⟨ρ, rfl, b2⟩
/-! fill -/
noncomputable def filP (m : Nat → Int64) (W H n c o : Nat) : Bool := decide (mv W c o ≠ 0 ∧ 0 < cvr m W H o n)
noncomputable def filS (m : Nat → Int64) (W H n c K : Nat) : Int64 := sum8 (fun o => if filP m W H n c o = true then m (8 + o) else 0) K
noncomputable def filN (m : Nat → Int64) (W H n c K : Nat) : Nat := cnt (filP m W H n c) K
noncomputable def filV (m : Nat → Int64) (W H n c : Nat) : Int64 := if cvr m W H c n = 0 ∧ 0 < filN m W H n c (W * H) then rnd8 (filS m W H n c (W * H)) (N8 (filN m W H n c (W * H))) else m (8 + c)
noncomputable def mFil (m : Nat → Int64) (W H n : Nat) : Nat → Int64 := mFr m (filV m W H n) (W * H)
theorem m_fil22 {c : Nat} (h : Dm (σ.2 225) W H n) (hc : c < W * H) (h232 : ∀ c, c < 64 → σ.1 232 c = N4 (cvr (σ.2 225) W H c n)) (hz : cvr (σ.2 225) W H c n = 0) : f_X12_fills_22 (N4 c) σ 100000 0 (N4 0) (N4 0) = some (filS (σ.2 225) W H n c (W * H), N4 (filN (σ.2 225) W H n c (W * H))) := by
  have hK := h.K
  have hn := h.2.2.2.2.2.2.2
  refine loopF (fun q i (a : Int64 × Int32) => f_X12_fills_22 (N4 c) σ q a.1 a.2 (N4 i)) (W * H) (fun i => (filS (σ.2 225) W H n c i, N4 (filN (σ.2 225) W H n c i))) (filS (σ.2 225) W H n c (W * H), N4 (filN (σ.2 225) W H n c (W * H))) ?_ ?_ 100000 0 (by omega) (by omega)
  · intro q
    show f_X12_fills_22 (N4 c) σ (q + 1) _ _ (N4 (W * H)) = _
    rw [f_X12_fills_22, m_cells h, bd_s, if_pos ((n4_le (by omega) (by omega)).mpr (Nat.le_refl _))]
  · intro q i hi
    have : mv W c i < 2000 := by rcases mv_cases W c i with e | e | e <;> omega
    have hcv : cvr (σ.2 225) W H i n ≤ n := cnt_le _ n
    show f_X12_fills_22 (N4 c) σ (q + 1) (filS (σ.2 225) W H n c i) (N4 (filN (σ.2 225) W H n c i)) (N4 i) = f_X12_fills_22 (N4 c) σ q (filS (σ.2 225) W H n c (i + 1)) (N4 (filN (σ.2 225) W H n c (i + 1))) (N4 (i + 1))
    rw [f_X12_fills_22, m_cells h, bd_s, if_neg (fun q => by have := (n4_le (by omega) (by omega)).mp q; omega), gd_inb (by omega) (by omega), n4_nat (by omega), h232 c (by omega), hz, if_pos (show N4 0 = 0 from rfl), m_move h (by omega) (by omega), bd_s, n4_succ]
    have e1 : filS (σ.2 225) W H n c (i + 1) = filS (σ.2 225) W H n c i + (if filP (σ.2 225) W H n c i = true then σ.2 225 (8 + i) else 0) := rfl
    have e2 : filN (σ.2 225) W H n c (i + 1) = filN (σ.2 225) W H n c i + (if filP (σ.2 225) W H n c i = true then 1 else 0) := rfl
    by_cases e : mv W c i = 0
    · have hp : ¬ filP (σ.2 225) W H n c i = true := by unfold filP; simp [e]
      rw [if_pos (show N4 (mv W c i) ≤ 0 by rw [e]; decide), show (0 : Int32) = N4 0 from rfl, n4_add, e1, e2, if_neg hp, if_neg hp]
    · rw [if_neg (show ¬ N4 (mv W c i) ≤ 0 from fun q => e (by have := (n4_le (b := 0) (by omega) (by omega)).mp q; omega)), gd_inb (by omega) (by omega), n4_nat (by omega), h232 i (by omega)]
      by_cases e' : cvr (σ.2 225) W H i n = 0
      · have hp : ¬ filP (σ.2 225) W H n c i = true := by unfold filP; simp [e']
        rw [if_pos (show N4 (cvr (σ.2 225) W H i n) ≤ 0 by rw [e']; decide), show (0 : Int32) = N4 0 from rfl, n4_add, e1, e2, if_neg hp, if_neg hp]
      · have hp : filP (σ.2 225) W H n c i = true := by unfold filP; simp only [decide_eq_true_eq]; exact ⟨e, by omega⟩
        rw [if_neg (show ¬ N4 (cvr (σ.2 225) W H i n) ≤ 0 from fun q => e' (by have := (n4_le (b := 0) (by omega) (by omega)).mp q; omega)), show (8 : Int32) = N4 8 from rfl, n4_add, gd_inb (by omega) (by omega), n4_nat (by omega), n4_succ, e1, e2, if_pos hp, if_pos hp]
theorem m_fil22z {c : Nat} (h : Dm (σ.2 225) W H n) (hc : c < W * H) (h232 : ∀ c, c < 64 → σ.1 232 c = N4 (cvr (σ.2 225) W H c n)) (hz : cvr (σ.2 225) W H c n ≠ 0) : f_X12_fills_22 (N4 c) σ 100000 0 (N4 0) (N4 0) = some (0, N4 0) := by
  have hK := h.K
  have hn := h.2.2.2.2.2.2.2
  have hcv : cvr (σ.2 225) W H c n ≤ n := cnt_le _ n
  rw [show (100000 : Nat) = 99999 + 1 from rfl, f_X12_fills_22, m_cells h, bd_s, if_neg (fun q => by have := (n4_le (by omega) (by omega)).mp q; omega), gd_inb (by omega) (by omega), n4_nat (by omega), h232 c (by omega), if_neg (n4_ne0 hz (by omega))]
theorem m_fills {σ0 : Mem} (hV : Val m W H n) (hM : MO σ σ0 m hs sc) : ∃ τ, f_X12_fills σ0 = some (N4 (chg m (mFil m W H n) 8 (W * H)), τ) ∧ MO σ τ (mFil m W H n) hs sc := by
  have h := hV.1
  have hK := h.K
  have h0 : Dm (σ0.2 225) W H n := by rw [hM.1]; exact h
  obtain ⟨σ1, a1, a2, a3⟩ := m_cover h0 (by rw [hM.1]; exact hV.2.2.2.1) (by rw [hM.1]; exact hV.s8)
  rw [hM.1] at a3
  have hM1 : MO σ σ1 m hs sc := hM.q a2
  have key := loopU (fun q i τ => f_X12_fills_6 q (N4 i) τ) (W * H) (fun i τ => MO σ τ m hs sc ∧ τ.1 232 = σ1.1 232 ∧ ∀ c, c < i → τ.2 237 c = filV m W H n c) (fun τ => MO σ τ m hs sc ∧ ∀ c, c < W * H → τ.2 237 c = filV m W H n c) ?_ ?_ 100000 0 σ1 (by omega) (by omega) ⟨hM1, rfl, fun c hc => by omega⟩
  · obtain ⟨τ, c1, c2, c3⟩ := key
    have c1' : f_X12_fills_6 100000 (N4 0) σ1 = _ := c1
    obtain ⟨ρ, b1, b2⟩ := m_layFresh h c2 c3
    unfold f_X12_fills
    rw [a1, bd_s, show (0 : Int32) = N4 0 from rfl, c1', bd_s, b1, bd_s]
    exact ⟨ρ, rfl, b2⟩
  · intro q τ hP
    refine ⟨τ, ?_, hP.1, hP.2.2⟩
    show f_X12_fills_6 (q + 1) (N4 (W * H)) τ = some τ
    rw [f_X12_fills_6, m_cells (hP.1.dm h), bd_s, if_pos ((n4_le (by omega) (by omega)).mpr (Nat.le_refl _))]
  · intro q i τ hi hP
    obtain ⟨p1, p2, p3⟩ := hP
    have h232 : ∀ c, c < 64 → τ.1 232 c = N4 (cvr (τ.2 225) W H c n) := fun c hc => by rw [p1.1, p2]; exact (a3 c hc).1
    have fin : ∀ v, v = filV m W H n i → MO σ (setL τ 237 i v) m hs sc ∧ (setL τ 237 i v).1 232 = σ1.1 232 ∧ ∀ c, c < i + 1 → (setL τ 237 i v).2 237 c = filV m W H n c := fun v hv => ⟨p1.lo (by omega), p2, fun c hc => by
      by_cases e : c = i
      · rw [e, mL_e, hv]
      · rw [mL_j e]; exact p3 c (by omega)⟩
    show ∃ a', f_X12_fills_6 (q + 1) (N4 i) τ = _ ∧ _
    rw [f_X12_fills_6, m_cells (p1.dm h), bd_s, if_neg (fun q => by have := (n4_le (by omega) (by omega)).mp q; omega), show (0 : Int32) = N4 0 from rfl]
    by_cases hz : cvr m W H i n = 0
    · have := m_fil22 (c := i) (p1.dm h) hi h232 (by rw [p1.1]; exact hz)
      have hfn : filN m W H n i (W * H) ≤ W * H := cnt_le _ _
      rw [p1.1] at this
      rw [this, bd_s]
      by_cases hk : filN m W H n i (W * H) = 0
      · rw [if_pos (show N4 (filN m W H n i (W * H)) ≤ N4 0 by rw [hk]; decide), show (8 : Int32) = N4 8 from rfl, n4_add, gd_inb (by omega) (by omega), gd_inb (by omega) (by omega), n4_nat (by omega), n4_nat (by omega), n4_succ, p1.1]
        exact ⟨_, rfl, fin _ (by unfold filV; rw [if_neg (by omega)])⟩
      · rw [if_neg (show ¬ N4 (filN m W H n i (W * H)) ≤ N4 0 from fun q => hk (by have := (n4_le (b := 0) (by omega) (by omega)).mp q; omega)), n4_64 (by omega), m_rounded (nz8_n (by omega) (by omega)), bd_s, gd_inb (by omega) (by omega), n4_nat (by omega), n4_succ]
        exact ⟨_, rfl, fin _ (by unfold filV; rw [if_pos ⟨hz, by omega⟩])⟩
    · rw [m_fil22z (c := i) (p1.dm h) hi h232 (by rw [p1.1]; exact hz), bd_s, if_pos (show N4 0 ≤ N4 0 by decide), show (8 : Int32) = N4 8 from rfl, n4_add, gd_inb (by omega) (by omega), gd_inb (by omega) (by omega), n4_nat (by omega), n4_nat (by omega), n4_succ, p1.1]
      exact ⟨_, rfl, fin _ (by unfold filV; rw [if_neg (fun q => hz q.1)])⟩
theorem mo_fill (hV : Val (σ.2 225) W H n) (hI : MInv σ hs sc) : ∃ τ, f_X12_fill σ = some (N4 (chg (σ.2 225) (mFil (σ.2 225) W H n) 8 (W * H)), τ) ∧ MO σ τ (mFil (σ.2 225) W H n) (push hs (σ.2 225)) sc := by
  obtain ⟨τ, a1, a2⟩ := m_keep0 hI
  obtain ⟨ρ, b1, b2⟩ := m_fills hV a2
  unfold f_X12_fill
  rw [a1, bd_s, b1, bd_s]
  exact ⟨ρ, rfl, b2⟩
end MCOR
