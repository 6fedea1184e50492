/-! ===== the class's checksum ===== -/
section CDIG
variable {σ τ : Mem} {W H n : Nat} {m : Nat → Int64} {hs : List (Nat → Int64)} {sc : List Nat}
theorem xa_l {α β : Type} {v : α} {σ : Mem} {f : α → Mem → Option β} : xa ((.inl v, σ) : (α ⊕ String) × Mem) f = f v σ := rfl
theorem CO.trans {ρ : Mem} {m' : Nat → Int64} {W' H' n' : Nat} {hs' : List (Nat → Int64)} {sc' : List Nat} (a : CO σ τ m W H n hs sc) (b : CO τ ρ m' W' H' n' hs' sc') : CO σ ρ m' W' H' n' hs' sc' := ⟨b.1, a.2.trans b.2⟩
noncomputable def dCe4 (m : Nat → Int64) (W H n c : Nat) (h : Int64) : Nat → Int64
  | 0 => h
  | i + 1 => 31 * dCe4 m W H n c h i + (celV m W H n c i).toInt64
theorem c_dSec {h : Int64} (hC : CI σ m W H n hs sc) : ∃ ρ, f_X11_digest_36 100000 h 0 σ = some (dSec m W H n h 9, ρ) ∧ CO σ ρ m W H n hs sc := by
  obtain ⟨⟨b1, b2⟩, c1, c2, c3⟩ := loopU (fun k i (a : Int64 × Mem) => f_X11_digest_36 k a.1 (N4 i) a.2) 9 (fun i a => a.1 = dSec m W H n h i ∧ CO σ a.2 m W H n hs sc) (fun a => a.1 = dSec m W H n h 9 ∧ CO σ a.2 m W H n hs sc) (by
      rintro k ⟨a, τ⟩ ⟨p1, p2⟩
      refine ⟨(a, τ), ?_, p1, p2⟩
      show f_X11_digest_36 (k + 1) a (N4 9) τ = some (a, τ)
      rw [f_X11_digest_36, if_pos (show (9 : Int32) ≤ N4 9 by decide)]) (by
      rintro k i ⟨a, τ⟩ hi ⟨p1, p2⟩
      have p1' : a = dSec m W H n h i := p1
      obtain ⟨ρ, r1, r2⟩ := co_section (w := i) p2.1 hi
      show ∃ a' : Int64 × Mem, f_X11_digest_36 (k + 1) a (N4 i) τ = _ ∧ _
      rw [f_X11_digest_36, if_neg (show ¬ (9 : Int32) ≤ N4 i from fun q => by have := (n4_le (a := 9) (by omega) (by omega)).mp q; omega), r1, bd_s, xa_l, n4_succ, p1']
      exact ⟨(dSec m W H n h (i + 1), ρ), rfl, rfl, p2.trans r2⟩) 100000 0 (h, σ) (by omega) (by omega) ⟨rfl, CO.refl hC⟩
  obtain rfl : b1 = _ := c2
  exact ⟨b2, c1, c3⟩
theorem c_dFit {h : Int64} (hC : CI σ m W H n hs sc) : ∃ ρ, f_X11_digest_89 100000 h 0 σ = some (dFit m W H n h 5, ρ) ∧ CO σ ρ m W H n hs sc := by
  obtain ⟨⟨b1, b2⟩, c1, c2, c3⟩ := loopU (fun k i (a : Int64 × Mem) => f_X11_digest_89 k a.1 (N4 i) a.2) 5 (fun i a => a.1 = dFit m W H n h i ∧ CO σ a.2 m W H n hs sc) (fun a => a.1 = dFit m W H n h 5 ∧ CO σ a.2 m W H n hs sc) (by
      rintro k ⟨a, τ⟩ ⟨p1, p2⟩
      refine ⟨(a, τ), ?_, p1, p2⟩
      show f_X11_digest_89 (k + 1) a (N4 5) τ = some (a, τ)
      rw [f_X11_digest_89, if_pos (show (5 : Int32) ≤ N4 5 by decide)]) (by
      rintro k i ⟨a, τ⟩ hi ⟨p1, p2⟩
      have p1' : a = dFit m W H n h i := p1
      obtain ⟨ρ, r1, r2⟩ := co_fit (w := i) p2.1 hi
      show ∃ a' : Int64 × Mem, f_X11_digest_89 (k + 1) a (N4 i) τ = _ ∧ _
      rw [f_X11_digest_89, if_neg (show ¬ (5 : Int32) ≤ N4 i from fun q => by have := (n4_le (a := 5) (by omega) (by omega)).mp q; omega), r1, bd_s, xa_l, n4_succ, p1']
      exact ⟨(dFit m W H n h (i + 1), ρ), rfl, rfl, p2.trans r2⟩) 100000 0 (h, σ) (by omega) (by omega) ⟨rfl, CO.refl hC⟩
  obtain rfl : b1 = _ := c2
  exact ⟨b2, c1, c3⟩
theorem c_dCe4 {c : Nat} {h : Int64} (hC : CI σ m W H n hs sc) (hc : c < W * H) : ∃ ρ, f_X11_hashCells_20 (N4 c) 100000 h 0 σ = some (dCe4 m W H n c h 4, ρ) ∧ CO σ ρ m W H n hs sc := by
  obtain ⟨⟨b1, b2⟩, c1, c2, c3⟩ := loopU (fun k i (a : Int64 × Mem) => f_X11_hashCells_20 (N4 c) k a.1 (N4 i) a.2) 4 (fun i a => a.1 = dCe4 m W H n c h i ∧ CO σ a.2 m W H n hs sc) (fun a => a.1 = dCe4 m W H n c h 4 ∧ CO σ a.2 m W H n hs sc) (by
      rintro k ⟨a, τ⟩ ⟨p1, p2⟩
      refine ⟨(a, τ), ?_, p1, p2⟩
      show f_X11_hashCells_20 (N4 c) (k + 1) a (N4 4) τ = some (a, τ)
      rw [f_X11_hashCells_20, if_pos (show (4 : Int32) ≤ N4 4 by decide)]) (by
      rintro k i ⟨a, τ⟩ hi ⟨p1, p2⟩
      have p1' : a = dCe4 m W H n c h i := p1
      obtain ⟨ρ, r1, r2⟩ := co_cell (w := i) p2.1 hc hi
      show ∃ a' : Int64 × Mem, f_X11_hashCells_20 (N4 c) (k + 1) a (N4 i) τ = _ ∧ _
      rw [f_X11_hashCells_20, if_neg (show ¬ (4 : Int32) ≤ N4 i from fun q => by have := (n4_le (a := 4) (by omega) (by omega)).mp q; omega), r1, bd_s, xa_l, n4_succ, p1']
      exact ⟨(dCe4 m W H n c h (i + 1), ρ), rfl, rfl, p2.trans r2⟩) 100000 0 (h, σ) (by omega) (by omega) ⟨rfl, CO.refl hC⟩
  obtain rfl : b1 = _ := c2
  exact ⟨b2, c1, c3⟩
theorem dCe4_eq {c : Nat} {h : Int64} (hC : CS σ m W H n) (hc : c < W * H) : dCe4 m W H n c (dCel m W H n h c) 4 = dCel m W H n h (c + 1) := by
  have hV := hC.1
  have hK := hV.1.K
  have hn := hV.1.2.2.2.2.2.2.2
  obtain ⟨s8, s72⟩ := hC.2.1.2.2.2.1 c (by omega)
  have hcv : cvr m W H c n ≤ n := cnt_le _ n
  have hpl : plo m W H c n < 2147483648 := by
    have h1 : plo m W H c n ≤ n * 181000 := sumN_le (fun r hr => by
      by_cases q : actR m r = true
      · rw [if_pos q]; exact (wln_bd hV.1 hV.2.2.2.1 hr hV.s8).1
      · rw [if_neg q]; omega)
    have h2 : n * 181000 ≤ 16 * 181000 := Nat.mul_le_mul hn (Nat.le_refl _)
    omega
  have e0 : (celV m W H n c 0).toInt64 = m (8 + c) := by
    show ((m (8 + c)).toInt32).toInt64 = _
    rw [i64_r s8, s8]
  have e1 : (celV m W H n c 1).toInt64 = m (72 + c) := by
    show ((m (72 + c)).toInt32).toInt64 = _
    rw [i64_r s72, s72]
  have e2 : (celV m W H n c 2).toInt64 = N8 (cvr m W H c n) := by
    show (N4 (cvr m W H c n)).toInt64 = _
    rw [n4_64 (by omega)]
  have e3 : (celV m W H n c 3).toInt64 = N8 (plo m W H c n) := by
    show (N4 (plo m W H c n)).toInt64 = _
    rw [n4_64 hpl]
  show 31 * (31 * (31 * (31 * dCel m W H n h c + (celV m W H n c 0).toInt64) + (celV m W H n c 1).toInt64) + (celV m W H n c 2).toInt64) + (celV m W H n c 3).toInt64 = _
  rw [e0, e1, e2, e3]
  rfl
theorem c_dCel {h : Int64} (hC : CI σ m W H n hs sc) : ∃ ρ, f_X11_hashCells h σ = some (dCel m W H n h (W * H), ρ) ∧ CO σ ρ m W H n hs sc := by
  have hK := hC.1.1.1.K
  obtain ⟨⟨b1, b2⟩, c1, c2, c3⟩ := loopU (fun k i (a : Int64 × Mem) => f_X11_hashCells_5 k a.1 (N4 i) a.2) (W * H) (fun i a => a.1 = dCel m W H n h i ∧ CO σ a.2 m W H n hs sc) (fun a => a.1 = dCel m W H n h (W * H) ∧ CO σ a.2 m W H n hs sc) (by
      rintro k ⟨a, τ⟩ ⟨p1, p2⟩
      refine ⟨(a, τ), ?_, p1, p2⟩
      show f_X11_hashCells_5 (k + 1) a (N4 (W * H)) τ = some (a, τ)
      rw [f_X11_hashCells_5, c_cells p2.1.1, bd_s, if_pos ((n4_le (by omega) (by omega)).mpr (Nat.le_refl _))]) (by
      rintro k i ⟨a, τ⟩ hi ⟨p1, p2⟩
      have p1' : a = dCel m W H n h i := p1
      obtain ⟨ρ, r1, r2⟩ := c_dCe4 (h := a) p2.1 hi
      show ∃ a' : Int64 × Mem, f_X11_hashCells_5 (k + 1) a (N4 i) τ = _ ∧ _
      rw [f_X11_hashCells_5, c_cells p2.1.1, bd_s, if_neg (fun q => by have := (n4_le (by omega) (by omega)).mp q; omega), r1, bd_s, n4_succ, p1', dCe4_eq p2.1.1 hi]
      exact ⟨(dCel m W H n h (i + 1), ρ), rfl, rfl, p2.trans r2⟩) 100000 0 (h, σ) (by omega) (by omega) ⟨rfl, CO.refl hC⟩
  obtain rfl : b1 = _ := c2
  have c1' : f_X11_hashCells_5 100000 h 0 σ = _ := c1
  unfold f_X11_hashCells
  rw [c1', bd_s]
  exact ⟨b2, rfl, c3⟩
theorem c_dVal {r : Nat} {h : Int64} (hC : CI σ m W H n hs sc) (hr : r < n) : ∃ ρ, f_X11_hashRays_20 (N4 r) 100000 h 0 σ = some (dVal m W H r h 5, ρ) ∧ CO σ ρ m W H n hs sc := by
  obtain ⟨⟨b1, b2⟩, c1, c2, c3⟩ := loopU (fun k i (a : Int64 × Mem) => f_X11_hashRays_20 (N4 r) k a.1 (N4 i) a.2) 5 (fun i a => a.1 = dVal m W H r h i ∧ CO σ a.2 m W H n hs sc) (fun a => a.1 = dVal m W H r h 5 ∧ CO σ a.2 m W H n hs sc) (by
      rintro k ⟨a, τ⟩ ⟨p1, p2⟩
      refine ⟨(a, τ), ?_, p1, p2⟩
      show f_X11_hashRays_20 (N4 r) (k + 1) a (N4 5) τ = some (a, τ)
      rw [f_X11_hashRays_20, if_pos (show (5 : Int32) ≤ N4 5 by decide)]) (by
      rintro k i ⟨a, τ⟩ hi ⟨p1, p2⟩
      have p1' : a = dVal m W H r h i := p1
      obtain ⟨ρ, r1, r2⟩ := co_ray (w := i) p2.1 hr hi
      show ∃ a' : Int64 × Mem, f_X11_hashRays_20 (N4 r) (k + 1) a (N4 i) τ = _ ∧ _
      rw [f_X11_hashRays_20, if_neg (show ¬ (5 : Int32) ≤ N4 i from fun q => by have := (n4_le (a := 5) (by omega) (by omega)).mp q; omega), r1, bd_s, xa_l, n4_succ, p1']
      exact ⟨(dVal m W H r h (i + 1), ρ), rfl, rfl, p2.trans r2⟩) 100000 0 (h, σ) (by omega) (by omega) ⟨rfl, CO.refl hC⟩
  obtain rfl : b1 = _ := c2
  exact ⟨b2, c1, c3⟩
theorem c_d51 {r : Nat} {h : Int64} (hC : CI σ m W H n hs sc) (hr : r < n) : ∃ ρ, f_X11_hashRays_51 (N4 r) 100000 h 0 σ = some (31 * (31 * h + wtm m W H r) + m (139 + 4 * r), ρ) ∧ CO σ ρ m W H n hs sc ∧ CW ρ m W H r := by
  have hn := hC.1.1.1.2.2.2.2.2.2.2
  obtain ⟨τ, a1, a2, a3⟩ := c_find' hC.1 hr
  have t0 : f_X11_time (N4 r) 0 σ = some (.inl (wtm m W H r), τ) := by
    unfold f_X11_time
    rw [c_needRay hC.1, bd_s, if_pos (rng_i hr (by omega)), xm_l, cn_r 0 1 (by decide) (by decide), bd_s, if_pos (show rng 0 0 1 = true by decide), xm_l, if_neg (by decide), a1, bd_s]
  have hT := ci_q hC a2
  have t1 : f_X11_time (N4 r) 1 τ = some (.inl (m (139 + 4 * r)), τ) := by
    unfold f_X11_time
    rw [c_needRay hT.1.1, bd_s, if_pos (rng_i hr (by omega)), xm_l, cn_r 0 1 (by decide) (by decide), bd_s, if_pos (show rng 1 0 1 = true by decide), xm_l, if_pos rfl, gd_inb (by omega) (by omega), n4_nat (by omega), cs_obs hT.1.1 (by omega)]
  rw [show (100000 : Nat) = 99997 + 1 + 1 + 1 from rfl, f_X11_hashRays_51, if_neg (by decide), t0, bd_s, xa_l, f_X11_hashRays_51, if_neg (by decide), show (0 : Int32) + 1 = 1 from rfl, t1, bd_s, xa_l, f_X11_hashRays_51, if_pos (by decide)]
  exact ⟨τ, rfl, hT, a3⟩
theorem c_dWay {r : Nat} {h : Int64} (hC : CS σ m W H n) (hr : r < n) (hw : CW σ m W H r) : f_X11_hashRays_81 (N4 r) σ 100000 h 0 = some (dWay (wlr m W H r) h (wlr m W H r).length) := by
  have hn := hC.1.1.2.2.2.2.2.2.2
  have hK := hC.1.1.K
  obtain ⟨⟨w1, w2⟩, -⟩ := sh_way r (by omega)
  have hwl := (wln_bd (c := 0) hC.1.1 hC.1.2.2.2.1 hr hC.1.s8).2.1
  have key := loopF (fun k i (a : Int64) => f_X11_hashRays_81 (N4 r) σ k a (N4 i)) (wlr m W H r).length (fun i => dWay (wlr m W H r) h i) (dWay (wlr m W H r) h (wlr m W H r).length) (fun k => by
    show f_X11_hashRays_81 (N4 r) σ (k + 1) _ (N4 (wlr m W H r).length) = _
    rw [f_X11_hashRays_81, gd_inb (by omega) (by omega), n4_nat (by omega), hw.2.1, if_pos ((n4_le (by omega) (by omega)).mpr (Nat.le_refl _))]) (fun k i hi => by
    have hlt : (wlr m W H r).getD ((wlr m W H r).length - 1 - i) 0 < W * H := wlr_mem hC.1 hr (getD_mem (by omega))
    show f_X11_hashRays_81 (N4 r) σ (k + 1) (dWay (wlr m W H r) h i) (N4 i) = f_X11_hashRays_81 (N4 r) σ k (dWay (wlr m W H r) h (i + 1)) (N4 (i + 1))
    rw [f_X11_hashRays_81, gd_inb (by omega) (by omega), n4_nat (by omega), hw.2.1, if_neg (fun q => by have := (n4_le (by omega) (by omega)).mp q; omega), gd_inb (by omega) (by omega), gd_t w1, w2, gd_inb (by omega) (by omega), n4_nat (by omega), hw.2.2.1 i hi, n4_64 (by omega), n4_succ]
    rfl) 100000 0 (by omega) (by omega)
  exact key
theorem c_dRays {h : Int64} (hC : CI σ m W H n hs sc) : ∃ ρ, f_X11_hashRays h σ = some (dRays m W H h n, ρ) ∧ CO σ ρ m W H n hs sc := by
  have hn := hC.1.1.1.2.2.2.2.2.2.2
  obtain ⟨⟨b1, b2⟩, c1, c2, c3⟩ := loopU (fun k i (a : Int64 × Mem) => f_X11_hashRays_5 k a.1 (N4 i) a.2) n (fun i a => a.1 = dRays m W H h i ∧ CO σ a.2 m W H n hs sc) (fun a => a.1 = dRays m W H h n ∧ CO σ a.2 m W H n hs sc) (by
      rintro k ⟨a, τ⟩ ⟨p1, p2⟩
      refine ⟨(a, τ), ?_, p1, p2⟩
      show f_X11_hashRays_5 (k + 1) a (N4 n) τ = some (a, τ)
      rw [f_X11_hashRays_5, (cs_W p2.1.1).2.2, if_pos ((n4_le (by omega) (by omega)).mpr (Nat.le_refl _))]) (by
      rintro k i ⟨a, τ⟩ hi ⟨p1, p2⟩
      have p1' : a = dRays m W H h i := p1
      obtain ⟨ρ, r1, r2⟩ := c_dVal (h := a) p2.1 hi
      obtain ⟨μ, u1, u2, u3⟩ := c_d51 (h := dVal m W H i a 5) r2.1 hi
      have v1 := c_dWay (h := 31 * (31 * dVal m W H i a 5 + wtm m W H i) + m (139 + 4 * i)) u2.1.1 hi u3
      show ∃ a' : Int64 × Mem, f_X11_hashRays_5 (k + 1) a (N4 i) τ = _ ∧ _
      rw [f_X11_hashRays_5, (cs_W p2.1.1).2.2, if_neg (fun q => by have := (n4_le (by omega) (by omega)).mp q; omega), r1, bd_s, u1, bd_s, v1, bd_s, n4_succ, p1']
      exact ⟨(dRays m W H h (i + 1), μ), rfl, rfl, p2.trans (r2.trans u2)⟩) 100000 0 (h, σ) (by omega) (by omega) ⟨rfl, CO.refl hC⟩
  obtain rfl : b1 = _ := c2
  have c1' : f_X11_hashRays_5 100000 h 0 σ = _ := c1
  unfold f_X11_hashRays
  rw [c1', bd_s]
  exact ⟨b2, rfl, c3⟩
theorem co_digest (hC : CI σ m W H n hs sc) : ∃ τ, f_X11_digest σ = some (digV m W H n hs.length sc.length, τ) ∧ CO σ τ m W H n hs sc := by
  have hl := hC.2.1.1
  have hl2 := hC.2.2.1
  obtain ⟨τ1, a1, a2⟩ := c_dSec (h := 31 * (31 * 11888 + N8 hs.length) + N8 sc.length) hC
  obtain ⟨τ2, b1, b2⟩ := c_dCel (h := 31 * dSec m W H n (31 * (31 * 11888 + N8 hs.length) + N8 sc.length) 9 + m 6) a2.1
  obtain ⟨τ3, c1, c2⟩ := c_dRays (h := dCel m W H n (31 * dSec m W H n (31 * (31 * 11888 + N8 hs.length) + N8 sc.length) 9 + m 6) (W * H)) b2.1
  obtain ⟨τ4, d1, d2⟩ := c_dFit (h := dRays m W H (dCel m W H n (31 * dSec m W H n (31 * (31 * 11888 + N8 hs.length) + N8 sc.length) 9 + m 6) (W * H)) n) c2.1
  unfold f_X11_digest
  rw [hC.2.1.2.1, hC.2.2.2.2.1, n4_64 (by omega), n4_64 (by omega), a1, bd_s, ← a2.1.1.2.1.2.1, b1, bd_s, c1, bd_s, d1, bd_s]
  exact ⟨τ4, rfl, a2.trans (b2.trans (c2.trans d2))⟩
end CDIG
