/-! ===== the reference's checksum ===== -/
section MDIG
variable {σ : Mem} {W H n : Nat} {hs : List (Nat → Int64)} {sc : List Nat} {m : Nat → Int64}
noncomputable def dSec (m : Nat → Int64) (W H n : Nat) (h : Int64) : Nat → Int64
  | 0 => h
  | i + 1 => 31 * dSec m W H n h i + (secV m W H n i).toInt64
noncomputable def dCel (m : Nat → Int64) (W H n : Nat) (h : Int64) : Nat → Int64
  | 0 => h
  | c + 1 => 31 * (31 * (31 * (31 * dCel m W H n h c + m (8 + c)) + m (72 + c)) + N8 (cvr m W H c n)) + N8 (plo m W H c n)
noncomputable def dVal (m : Nat → Int64) (W H r : Nat) (h : Int64) : Nat → Int64
  | 0 => h
  | i + 1 => 31 * dVal m W H r h i + (rayV m W H r i).toInt64
noncomputable def dWay (l : List Nat) (h : Int64) : Nat → Int64
  | 0 => h
  | i + 1 => 31 * dWay l h i + N8 (l.getD (l.length - 1 - i) 0)
noncomputable def dRay (m : Nat → Int64) (W H r : Nat) (h : Int64) : Int64 := dWay (wlr m W H r) (31 * (31 * dVal m W H r h 5 + wtm m W H r) + m (139 + 4 * r)) (wlr m W H r).length
noncomputable def dRays (m : Nat → Int64) (W H : Nat) (h : Int64) : Nat → Int64
  | 0 => h
  | r + 1 => dRay m W H r (dRays m W H h r)
noncomputable def dFit (m : Nat → Int64) (W H n : Nat) (h : Int64) : Nat → Int64
  | 0 => h
  | i + 1 => 31 * dFit m W H n h i + fitV m W H n i
noncomputable def digV (m : Nat → Int64) (W H n a b : Nat) : Int64 := dFit m W H n (dRays m W H (dCel m W H n (31 * dSec m W H n (31 * (31 * 11888 + N8 a) + N8 b) 9 + m 6) (W * H)) n) 5
theorem MO.h {τ : Mem} {m' : Nat → Int64} {hs' : List (Nat → Int64)} {sc' : List Nat} {v : Int64} (h : MO σ τ m' hs' sc') : MO σ (setL τ 224 21 v) m' hs' sc' :=
  ⟨(mL_p (by omega)).trans h.1, h.2.1.of rfl rfl (mL_p (by omega)) rfl, h.2.2.1.l (by omega), h.2.2.2⟩
/-- the call stands at m with the hash h -/
def MH (σ τ : Mem) (m : Nat → Int64) (hs : List (Nat → Int64)) (sc : List Nat) (h : Int64) : Prop := MO σ τ m hs sc ∧ τ.2 224 21 = h
theorem MH.mix {τ : Mem} {h v : Int64} (p : MH σ τ m hs sc h) : f_X12_mix v τ = some (setL τ 224 21 (31 * h + v)) ∧ MH σ (setL τ 224 21 (31 * h + v)) m hs sc (31 * h + v) := by
  refine ⟨?_, p.1.h, mL_e⟩
  unfold f_X12_mix
  rw [p.2]
theorem MH.q {τ ρ : Mem} {h : Int64} (p : MH σ τ m hs sc h) (f : Fq τ ρ) : MH σ ρ m hs sc h := ⟨p.1.q f, (f.2 224 21 (by unfold mqL; omega)).trans p.2⟩
theorem m_dSec {τ : Mem} {h : Int64} (hV : Val m W H n) (p : MH σ τ m hs sc h) : ∃ ρ, f_X12_digest_32 100000 (N4 0) τ = some ρ ∧ MH σ ρ m hs sc (dSec m W H n h 9) := by
  refine loopU (fun k i τ => f_X12_digest_32 k (N4 i) τ) 9 (fun i τ => MH σ τ m hs sc (dSec m W H n h i)) (fun τ => MH σ τ m hs sc (dSec m W H n h 9)) ?_ ?_ 100000 0 τ (by omega) (by omega) p
  · intro k τ hP
    refine ⟨τ, ?_, hP⟩
    show f_X12_digest_32 (k + 1) (N4 9) τ = some τ
    rw [f_X12_digest_32, if_pos (show (9 : Int32) ≤ N4 9 from (n4_le (a := 9) (by omega) (by omega)).mpr (Nat.le_refl _))]
  · intro k i τ hi hP
    obtain ⟨ρ, r1, r2⟩ := m_sectionOf (w := i) hP.1.1 hV (by omega)
    obtain ⟨s1, s2⟩ := (hP.q r2).mix (v := (secV m W H n i).toInt64)
    show ∃ a', f_X12_digest_32 (k + 1) (N4 i) τ = _ ∧ _
    rw [f_X12_digest_32, if_neg (fun q => by have := (n4_le (a := 9) (by omega) (by omega)).mp q; omega), r1, bd_s, s1, bd_s, n4_succ]
    exact ⟨_, rfl, s2⟩
theorem m_dCel {τ : Mem} {h : Int64} (hV : Val m W H n) (p : MH σ τ m hs sc h) (hc : ∀ c, c < 64 → τ.1 232 c = N4 (cvr m W H c n) ∧ τ.1 233 c = N4 (plo m W H c n)) : ∃ ρ, f_X12_digest_71 100000 (N4 0) τ = some ρ ∧ MH σ ρ m hs sc (dCel m W H n h (W * H)) := by
  have hK := hV.1.K
  have hn := hV.1.2.2.2.2.2.2.2
  refine loopU (fun k i τ => f_X12_digest_71 k (N4 i) τ) (W * H) (fun i τ => MH σ τ m hs sc (dCel m W H n h i) ∧ ∀ c, c < 64 → τ.1 232 c = N4 (cvr m W H c n) ∧ τ.1 233 c = N4 (plo m W H c n)) (fun τ => MH σ τ m hs sc (dCel m W H n h (W * H))) ?_ ?_ 100000 0 τ (by omega) (by omega) ⟨p, hc⟩
  · intro k τ hP
    refine ⟨τ, ?_, hP.1⟩
    show f_X12_digest_71 (k + 1) (N4 (W * H)) τ = some τ
    rw [f_X12_digest_71, m_cells (hP.1.1.dm hV.1), bd_s, if_pos ((n4_le (by omega) (by omega)).mpr (Nat.le_refl _))]
  · intro k i τ hi hP
    obtain ⟨p1, p2⟩ := hP
    obtain ⟨c1, c2⟩ := p2 i (by omega)
    have hcv : cvr m W H i n ≤ n := cnt_le _ n
    have hpl : plo m W H i n < 2147483648 := by
      have h1 : plo m W H i n ≤ n * 181000 := sumN_le (fun r hr => by
        by_cases q : actR m r = true
        · rw [if_pos q]; exact (wln_bd hV.1 hV.2.2.2.1 hr hV.s8).1
        · rw [if_neg q]; omega)
      have h2 : n * 181000 ≤ 16 * 181000 := Nat.mul_le_mul_right _ hn
      omega
    obtain ⟨s1, s2⟩ := p1.mix (v := m (8 + i))
    obtain ⟨t1, t2⟩ := s2.mix (v := m (72 + i))
    obtain ⟨u1, u2⟩ := t2.mix (v := N8 (cvr m W H i n))
    obtain ⟨w1, w2⟩ := u2.mix (v := N8 (plo m W H i n))
    show ∃ a', f_X12_digest_71 (k + 1) (N4 i) τ = _ ∧ _
    rw [f_X12_digest_71, m_cells (p1.1.dm hV.1), bd_s, if_neg (fun q => by have := (n4_le (by omega) (by omega)).mp q; omega), show (8 : Int32) = N4 8 from rfl, n4_add, gd_inb (by omega) (by omega), n4_nat (by omega), p1.1.1, s1, bd_s, show (72 : Int32) = N4 72 from rfl, n4_add, gd_inb (by omega) (by omega), n4_nat (by omega), s2.1.1, t1, bd_s, gd_inb (by omega) (by omega), n4_nat (by omega), mL_I, mL_I, c1, n4_64 (by omega), u1, bd_s, gd_inb (by omega) (by omega), mL_I, mL_I, mL_I, c2, n4_64 hpl, w1, bd_s, n4_succ]
    exact ⟨_, rfl, w2, p2⟩
theorem m_dVal {τ : Mem} {h : Int64} {r : Nat} (hV : Val m W H n) (hr : r < n) (p : MH σ τ m hs sc h) : ∃ ρ, f_X12_mixRay_2 (N4 r) 100000 (N4 0) τ = some ρ ∧ MH σ ρ m hs sc (dVal m W H r h 5) := by
  refine loopU (fun k i τ => f_X12_mixRay_2 (N4 r) k (N4 i) τ) 5 (fun i τ => MH σ τ m hs sc (dVal m W H r h i)) (fun τ => MH σ τ m hs sc (dVal m W H r h 5)) ?_ ?_ 100000 0 τ (by omega) (by omega) p
  · intro k τ hP
    refine ⟨τ, ?_, hP⟩
    show f_X12_mixRay_2 (N4 r) (k + 1) (N4 5) τ = some τ
    rw [f_X12_mixRay_2, if_pos (show (5 : Int32) ≤ N4 5 from (n4_le (a := 5) (by omega) (by omega)).mpr (Nat.le_refl _))]
  · intro k i τ hi hP
    obtain ⟨ρ, r1, r2⟩ := m_valueOf (w := i) hP.1.1 hV hr (by omega)
    obtain ⟨s1, s2⟩ := (hP.q r2).mix (v := (rayV m W H r i).toInt64)
    show ∃ a', f_X12_mixRay_2 (N4 r) (k + 1) (N4 i) τ = _ ∧ _
    rw [f_X12_mixRay_2, if_neg (fun q => by have := (n4_le (a := 5) (by omega) (by omega)).mp q; omega), r1, bd_s, s1, bd_s, n4_succ]
    exact ⟨_, rfl, s2⟩
theorem m_dWay {τ : Mem} {h : Int64} {l : List Nat} (p : MH σ τ m hs sc h) (hl : l.length ≤ 64) (hl1 : 1 ≤ l.length) (hx : ∀ i, i < l.length → l.getD i 0 < 64) (hw : ∀ i, i < l.length → τ.1 230 i = N4 (l.getD i 0)) : ∃ ρ, f_X12_mixRay_54 100000 (N4 (l.length - 1)) τ = some ρ ∧ MH σ ρ m hs sc (dWay l h l.length) := by
  have fin : ∀ k τ v, MH σ τ m hs sc v → f_X12_mixRay_54 (k + 1) (-1) τ = some τ := fun k τ v _ => by
    rw [f_X12_mixRay_54, if_pos (by decide)]
  have key := loopU (fun k i (a : Int32 × Mem) => f_X12_mixRay_54 k a.1 a.2) l.length (fun i a => a.1 = (if i < l.length then N4 (l.length - 1 - i) else -1) ∧ MH σ a.2 m hs sc (dWay l h i) ∧ ∀ i, i < l.length → a.2.1 230 i = N4 (l.getD i 0)) (fun τ => MH σ τ m hs sc (dWay l h l.length)) ?_ ?_ 100000 0 (N4 (l.length - 1), τ) (by omega) (by omega) ⟨by rw [if_pos (by omega)]; rfl, p, hw⟩
  · exact key
  · rintro k ⟨a, τ⟩ ⟨p1, p2, -⟩
    rw [if_neg (Nat.lt_irrefl _)] at p1
    obtain rfl : a = -1 := p1
    exact ⟨τ, fin k τ _ p2, p2⟩
  · rintro k i ⟨a, τ⟩ hi ⟨p1, p2, p3⟩
    rw [if_pos hi] at p1
    obtain rfl : a = N4 (l.length - 1 - i) := p1
    have p3' : τ.1 230 (l.length - 1 - i) = _ := p3 (l.length - 1 - i) (by omega)
    have hx' := hx (l.length - 1 - i) (by omega)
    obtain ⟨s1, s2⟩ := p2.mix (v := N8 (l.getD (l.length - 1 - i) 0))
    show ∃ a' : Int32 × Mem, f_X12_mixRay_54 (k + 1) (N4 (l.length - 1 - i)) τ = _ ∧ _
    rw [f_X12_mixRay_54, if_neg (n4_nlt (by omega)), gd_inb (by omega) (by omega), n4_nat (by omega), p3', n4_64 (by omega), s1, bd_s]
    refine ⟨(_, _), rfl, ?_, s2, p3⟩
    show N4 (l.length - 1 - i) + -1 = _
    by_cases e : i + 1 < l.length
    · rw [if_pos e, n4_dec (by omega)]
      congr 1
    · rw [if_neg e, show l.length - 1 - i = 0 by omega]; rfl
theorem m_mixRay {τ : Mem} {h : Int64} {r : Nat} (hV : Val m W H n) (hr : r < n) (p : MH σ τ m hs sc h) : ∃ ρ, f_X12_mixRay (N4 r) τ = some ρ ∧ MH σ ρ m hs sc (dRay m W H r h) := by
  have hn := hV.1.2.2.2.2.2.2.2
  have hK := hV.1.K
  obtain ⟨ρ, r1, r2⟩ := m_dVal hV hr p
  obtain ⟨μ, s1, s2, s3⟩ := m_findWay (σ := ρ) (r2.1.dm hV.1) (by rw [r2.1.1]; exact hV.2.2.2.1) hr (by rw [r2.1.1]; exact hV.s8)
  rw [r2.1.1] at s3
  obtain ⟨w1, w2, w3, w4⟩ := s3
  have hb := (wln_bd (c := 0) hV.1 hV.2.2.2.1 hr hV.s8).2
  have p1 := r2.q s2.q
  obtain ⟨t1, t2⟩ := p1.mix (v := wtm m W H r)
  obtain ⟨u1, u2⟩ := t2.mix (v := m (139 + 4 * r))
  have hw : ∀ i, i < (wlr m W H r).length → (setL (setL μ 224 21 (31 * dVal m W H r h 5 + wtm m W H r)) 224 21 (31 * (31 * dVal m W H r h 5 + wtm m W H r) + m (139 + 4 * r))).1 230 i = N4 ((wlr m W H r).getD i 0) := fun i hi => w2 i hi
  have hx : ∀ i, i < (wlr m W H r).length → (wlr m W H r).getD i 0 < 64 := fun i hi => by
    have hmem : (wlr m W H r).getD i 0 ∈ wlr m W H r := by
      rw [List.getD_eq_getElem?_getD, List.getElem?_eq_getElem hi]
      exact List.getElem_mem hi
    have := wlr_mem hV hr hmem
    omega
  obtain ⟨ν, v1, v2⟩ := m_dWay u2 hb.1 (by omega) hx hw
  unfold f_X12_mixRay
  rw [show (0 : Int32) = N4 0 from rfl, r1, bd_s, s1, bd_s, w4, t1, bd_s, show (3 : Int32) = N4 3 from rfl, m_of (by omega) (by omega), bd_s, show 136 + 4 * r + 3 = 139 + 4 * r by omega, t2.1.1, u1, bd_s]
  rw [show (setL (setL μ 224 21 (31 * dVal m W H r h 5 + wtm m W H r)) 224 21 (31 * (31 * dVal m W H r h 5 + wtm m W H r) + m (139 + 4 * r))).1 224 9 = N4 (wlr m W H r).length from w1, show (1 : Int32) = N4 1 from rfl, n4_sub (by omega), v1, bd_s]
  exact ⟨ν, rfl, v2⟩
theorem m_dRays {τ : Mem} {h : Int64} (hV : Val m W H n) (p : MH σ τ m hs sc h) : ∃ ρ, f_X12_digest_135 100000 (N4 0) τ = some ρ ∧ MH σ ρ m hs sc (dRays m W H h n) := by
  have hn := hV.1.2.2.2.2.2.2.2
  refine loopU (fun k i τ => f_X12_digest_135 k (N4 i) τ) n (fun i τ => MH σ τ m hs sc (dRays m W H h i)) (fun τ => MH σ τ m hs sc (dRays m W H h n)) ?_ ?_ 100000 0 τ (by omega) (by omega) p
  · intro k τ hP
    refine ⟨τ, ?_, hP⟩
    show f_X12_digest_135 (k + 1) (N4 n) τ = some τ
    rw [f_X12_digest_135, if_pos ((n8_rays (hP.1.dm hV.1) (by omega)).mpr (Nat.le_refl n))]
  · intro k i τ hi hP
    obtain ⟨ρ, r1, r2⟩ := m_mixRay hV hi hP
    show ∃ a', f_X12_digest_135 (k + 1) (N4 i) τ = _ ∧ _
    rw [f_X12_digest_135, if_neg (fun q => by have := (n8_rays (hP.1.dm hV.1) (by omega)).mp q; omega), r1, bd_s, n4_succ]
    exact ⟨ρ, rfl, r2⟩
theorem m_dFit {τ : Mem} {h : Int64} (hV : Val m W H n) (p : MH σ τ m hs sc h) : ∃ ρ, f_X12_digest_161 100000 (N4 0) τ = some ρ ∧ MH σ ρ m hs sc (dFit m W H n h 5) := by
  refine loopU (fun k i τ => f_X12_digest_161 k (N4 i) τ) 5 (fun i τ => MH σ τ m hs sc (dFit m W H n h i)) (fun τ => MH σ τ m hs sc (dFit m W H n h 5)) ?_ ?_ 100000 0 τ (by omega) (by omega) p
  · intro k τ hP
    refine ⟨τ, ?_, hP⟩
    show f_X12_digest_161 (k + 1) (N4 5) τ = some τ
    rw [f_X12_digest_161, if_pos (show (5 : Int32) ≤ N4 5 from (n4_le (a := 5) (by omega) (by omega)).mpr (Nat.le_refl _))]
  · intro k i τ hi hP
    obtain ⟨ρ, r1, r2⟩ := m_fitOf (w := i) hP.1.1 hV (by omega)
    obtain ⟨s1, s2⟩ := (hP.q r2).mix (v := fitV m W H n i)
    show ∃ a', f_X12_digest_161 (k + 1) (N4 i) τ = _ ∧ _
    rw [f_X12_digest_161, if_neg (fun q => by have := (n4_le (a := 5) (by omega) (by omega)).mp q; omega), r1, bd_s, s1, bd_s, n4_succ]
    exact ⟨_, rfl, s2⟩
theorem mo_digest (hV : Val (σ.2 225) W H n) (hI : MInv σ hs sc) : ∃ τ, f_X12_digest σ = some (digV (σ.2 225) W H n hs.length sc.length, τ) ∧ MO σ τ (σ.2 225) hs sc := by
  have hK := hV.1.K
  have p0 : MH σ (setL (setI σ 224 5 0) 224 21 11888) (σ.2 225) hs sc 11888 := ⟨(MO.q0 hI Fz.rfl).h, mL_e⟩
  obtain ⟨h1, h2⟩ := hI.1
  obtain ⟨h3, h4, h5, h6⟩ := hI.2
  obtain ⟨a1, a2⟩ := p0.mix (v := N8 hs.length)
  obtain ⟨b1, b2⟩ := a2.mix (v := N8 sc.length)
  obtain ⟨τ1, c1, c2⟩ := m_dSec hV b2
  obtain ⟨d1, d2⟩ := c2.mix (v := σ.2 225 6)
  obtain ⟨τ2, e1, e2, e3⟩ := m_cover (d2.1.dm hV.1) (by rw [d2.1.1]; exact hV.2.2.2.1) (by rw [d2.1.1]; exact hV.s8)
  rw [d2.1.1] at e3
  obtain ⟨τ3, f1, f2⟩ := m_dCel hV (d2.q e2) e3
  obtain ⟨τ4, g1, g2⟩ := m_dRays hV f2
  obtain ⟨τ5, i1, i2⟩ := m_dFit hV g2
  have c1' : f_X12_digest_32 100000 0 _ = _ := c1
  have f1' : f_X12_digest_71 100000 0 _ = _ := f1
  have g1' : f_X12_digest_135 100000 0 _ = _ := g1
  have i1' : f_X12_digest_161 100000 0 _ = _ := i1
  unfold f_X12_digest
  rw [mL_I, mI_j (by omega), h2.1, n4_64 (by omega), a1, bd_s]
  rw [mL_I, mL_I, mI_j (by omega), h5, n4_64 (by omega), b1, bd_s, c1', bd_s, show (6 : Int32).toNatClampNeg = 6 from rfl, c2.1.1, d1, bd_s, e1, bd_s, f1', bd_s, g1', bd_s, i1', bd_s, i2.2]
  exact ⟨τ5, rfl, i2.1⟩
end MDIG
