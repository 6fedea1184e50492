/-! ===== the class takes times, corrects by a ray ===== -/
section CPROJ
variable {σ : Mem} {W H n : Nat} {m m' : Nat → Int64}
theorem cs_obsL {r : Nat} {v : Int64} (h : CS σ m W H n) (hr : r < 16) (hV : Val (vp_updL m (139 + 4 * r) v) W H n) : CS (setL σ 6 r v) (vp_updL m (139 + 4 * r) v) W H n := by
  have e : ∀ j, j ≠ 139 + 4 * r → vp_updL m (139 + 4 * r) v j = m j := fun j hj => if_neg hj
  obtain ⟨s1, s2, s3, s4, s5⟩ := h.2.1
  have hc := cch_of (τ := setL σ 6 r v) h.2.2.2 (fun q _ _ => rfl) (mL_p (by omega)) h.1.1.2.2.2.2.2.2.2
  refine ⟨hV, ⟨fun j hj => by rw [e j (by omega)]; exact s1 j hj, by rw [e 6 (by omega), mL_p (by omega)]; exact s2, by rw [e 7 (by omega)]; exact s3, fun c hc => by rw [e _ (by omega), e _ (by omega)]; exact s4 c hc, fun q hq => ?_⟩, h.2.2.1, cch_congr h.1 (fun c hc => e _ (by omega)) (fun q hq => ⟨e _ (by omega), e _ (by omega)⟩) hc⟩
  obtain ⟨a, b, c, d⟩ := s5 q hq
  refine ⟨by rw [e _ (by omega)]; exact a, by rw [e _ (by omega)]; exact b, by rw [e _ (by omega)]; exact c, ?_⟩
  by_cases x : q = r
  · rw [x]
    show vp_updL m (139 + 4 * r) v (139 + 4 * r) = (setL σ 6 r v).2 6 r
    rw [mL_e]; exact if_pos rfl
  · rw [e _ (by omega)]
    show _ = (setL σ 6 r v).2 6 q
    rw [mL_j x]; exact d
theorem c_takes {w s : Nat} {x2 : Int32} (h : CS σ m W H n) (hw : w ≤ 1000) (hx2 : x2.toInt64 = N8 s) (hs : s < 2147483648) : ∃ τ, f_X1_takeTimes (N4 w) x2 σ = some τ ∧ CS τ (mObs m W H n (N4 w) (N8 s)) W H n ∧ Fk σ τ := by
  have hn := h.1.1.2.2.2.2.2.2.2
  have hK := h.1.1.K
  have hV := h.1
  obtain ⟨τ, a1, a2⟩ := loopU (fun k i (a : Int64 × Mem) => f_X1_takeTimes_6 (N4 w) k a.1 (N4 i) a.2) n (fun i a => a.1 = tns (N8 s) i ∧ CS a.2 (mObs m W H i (N4 w) (N8 s)) W H n ∧ Fk σ a.2) (fun τ => CS τ (mObs m W H n (N4 w) (N8 s)) W H n ∧ Fk σ τ) (by
      rintro k ⟨a, τ⟩ ⟨p1, p2, p3⟩
      refine ⟨τ, ?_, p2, p3⟩
      show f_X1_takeTimes_6 (N4 w) (k + 1) a (N4 n) τ = some τ
      rw [f_X1_takeTimes_6, (cs_W p2).2.2, if_pos ((n4_le (by omega) (by omega)).mpr (Nat.le_refl _))]) (by
      rintro k i ⟨a, τ⟩ hi ⟨p1, p2, p3⟩
      have p1' : a = tns (N8 s) i := p1
      have ef : frc (mObs m W H i (N4 w) (N8 s)) W i = frc m W i := frc_of (mObs_o (by omega))
      have et : toc (mObs m W H i (N4 w) (N8 s)) W i = toc m W i := toc_of (mObs_o (by omega))
      obtain ⟨o1, o2, o3⟩ := hV.2.2.2.1.lt hV.1 hi
      have hsrc := c_source p2 hi
      have hrcv := c_receiver p2 hi
      rw [ef] at hsrc
      rw [et] at hrcv
      have hS := fun c (hc : c < W * H) => cs_true p2 c (show c < 64 by omega)
      obtain ⟨ρ, D, r1, r2, r3⟩ := c_least (x1 := 3) p2.2.2.1 hV.1.2.2.2.1 hV.1.2.2.2.2.1 hV.1.2.2.2.2.2.1 hV.1.2.2.2.2.2.2.1 (Or.inr (Or.inl rfl)) hS p2.1.s72 o1 o2
      have ed : dist W (W * H) (slw (mObs m W H i (N4 w) (N8 s)) 72) (frc m W i) = dsl m W H 72 (frc m W i) := dist_congr (slw_of (fun c hc => mObs_o (by omega)))
      rw [ed] at r1
      have hF1 : Fc τ ρ := r2.mono (fun q j => by unfold csI cqI; omega) (fun q j => by unfold csL cqI; omega)
      have hcs : CS ρ (mObs m W H i (N4 w) (N8 s)) W H n := p2.q hF1 (cch_of p2.2.2.2 (fun q h1 _ => r2.rowI (fun j => by unfold csI; omega)) (r2.row (fun j => by unfold csL; omega)) hn)
      obtain ⟨d1, d2⟩ := dsl_bd hV (Or.inr rfl : (72 : Nat) = 8 ∨ (72 : Nat) = 72) o1 o2
      have hval : ∀ v, v = Z8 (dsl m W H 72 (frc m W i) (toc m W i)) + noi (tns (N8 s) (i + 1)) (N4 w) → (if 0 < v then v else 0) = obsV m W H (N4 w) (N8 s) i := fun v hv => by
        unfold obsV
        rw [← hv]
        rw [tns_n hs, noi_bd hw rfl (itN_lt hs _), z8_add] at hv
        have hm : itN s (i + 1) / 65536 % (2 * w + 1) < 2 * w + 1 := Nat.mod_lt _ (by omega)
        have hvi : v.toInt ≤ 1000000000000000 := by rw [hv, z8_int (by omega) (by omega)]; omega
        have h0 : (0 : Int64).toInt = 0 := by decide
        have h15 : (1000000000000000 : Int64).toInt = 1000000000000000 := by decide
        unfold held8
        by_cases c : 0 < v
        · rw [if_pos c, if_pos (Int64.le_of_lt c), if_pos (Int64.le_iff_toInt_le.mpr (by rw [h15]; exact hvi))]
        · rw [if_neg c]
          by_cases c2 : 0 ≤ v
          · have : v = 0 := Int64.le_antisymm (Int64.not_lt.mp c) c2
            rw [if_pos c2, this]; rfl
          · rw [if_neg c2]
      have hu : vp_updL (mObs m W H i (N4 w) (N8 s)) (139 + 4 * i) (obsV m W H (N4 w) (N8 s) i) = mObs m W H (i + 1) (N4 w) (N8 s) := by
        funext j
        unfold vp_updL mObs
        by_cases e : j = 139 + 4 * i
        · rw [if_pos e, if_pos (by omega), show (j - 139) / 4 = i by omega]
        · rw [if_neg e]
          by_cases q : 139 ≤ j ∧ j < 139 + 4 * i ∧ (j - 139) % 4 = 0
          · rw [if_pos q, if_pos (by omega)]
          · rw [if_neg q, if_neg (by omega)]
      have hfin := cs_obsL (v := obsV m W H (N4 w) (N8 s) i) hcs (show i < 16 by omega) (by rw [hu]; exact val_obsK hV hw hs (by omega))
      rw [hu] at hfin
      show ∃ a' : Int64 × Mem, f_X1_takeTimes_6 (N4 w) (k + 1) a (N4 i) τ = _ ∧ _
      rw [f_X1_takeTimes_6, (cs_W p2).2.2, if_neg (fun q => by have := (n4_le (by omega) (by omega)).mp q; omega), hsrc, bd_s, hrcv, bd_s, r1, bd_s]
      unfold f_X11_nextChance f_X11_leadingPart
      rw [bd_s, bd_s, gd_t (nz_w hw).1, gd_inb (by omega) (by omega), bd_s, n4_nat (by omega), n4_succ, p1']
      refine ⟨(tns (N8 s) (i + 1), setL ρ 6 i (obsV m W H (N4 w) (N8 s) i)), ?_, rfl, hfin, (p3.trans hF1.k).l (by unfold ckI; omega)⟩
      show f_X1_takeTimes_6 (N4 w) k (tns (N8 s) (i + 1)) (N4 (i + 1)) (setL ρ 6 i (if 0 < Z8 (dsl m W H 72 (frc m W i) (toc m W i)) + noi (tns (N8 s) (i + 1)) (N4 w) then Z8 (dsl m W H 72 (frc m W i) (toc m W i)) + noi (tns (N8 s) (i + 1)) (N4 w) else 0)) = _
      rw [hval _ rfl]) 100000 0 (N8 s, σ) (by omega) (by omega) ⟨rfl, by
        have : mObs m W H 0 (N4 w) (N8 s) = m := by
          funext j
          exact if_neg (by omega)
        show CS σ (mObs m W H 0 (N4 w) (N8 s)) W H n
        rw [this]; exact h, Fz.rfl⟩
  have a1' : f_X1_takeTimes_6 (N4 w) 100000 (N8 s) 0 σ = some τ := a1
  unfold f_X1_takeTimes
  rw [hx2, a1', bd_s]
  exact ⟨τ, rfl, a2⟩
/-! correct -/
/-- the way's cells by their places -/
def wayc (l : List Nat) (i : Nat) : Nat := l.getD (l.length - 1 - i) 0
theorem wayc_memb {l : List Nat} (c : Nat) : memb (wayc l) l.length c = true ↔ c ∈ l := by
  rw [memb_iff]
  constructor
  · rintro ⟨i, i1, i2⟩
    rw [← i2]; exact getD_mem (by omega)
  · intro e
    obtain ⟨i, i1, i2⟩ := mem_getD e
    exact ⟨l.length - 1 - i, by omega, by unfold wayc; rw [show l.length - 1 - (l.length - 1 - i) = i by omega]; exact i2⟩
theorem wayc_new {l : List Nat} (hd : l.Nodup) {i : Nat} (hi : i < l.length) : memb (wayc l) i (wayc l i) = false := eq_false_of_ne_true (fun e => by
  obtain ⟨j, j1, j2⟩ := (memb_iff _ _ i).mp e
  have := nodup_getD hd (show l.length - 1 - j < l.length by omega) (show l.length - 1 - i < l.length by omega) j2
  omega)
theorem sumN_memb0 {q : Nat → Nat} {f : Nat → Nat} : ∀ K, sumN (fun c => if memb q 0 c = true then f c else 0) K = 0
  | 0 => rfl
  | K + 1 => by
    simp only [sumN]
    rw [sumN_memb0 K, show memb q 0 K = false from rfl, if_neg (by decide)]
theorem sumN_congr {f g : Nat → Nat} : ∀ {k : Nat}, (∀ i, i < k → f i = g i) → sumN f k = sumN g k
  | 0, _ => rfl
  | k + 1, h => by
    simp only [sumN]
    rw [sumN_congr (fun i hi => h i (by omega)), h k (by omega)]
theorem c_sq {r : Nat} {e : Int64} (h : CS σ m W H n) (hr : r < n) (hw : CW σ m W H r) : f_X1_project_58 e (149 + 1 * r) (166 + 1 * r) (N4 (wlr m W H r).length) σ 100000 0 (N4 0) = some (N8 (sqr m W H r)) := by
  have hn := h.1.1.2.2.2.2.2.2.2
  have hK := h.1.1.K
  obtain ⟨⟨w1, w2⟩, ⟨l1, l2⟩⟩ := sh_way r (by omega)
  have hnd := wlr_nodup h.1 hr
  have hmem : ∀ i, i < (wlr m W H r).length → wayc (wlr m W H r) i < W * H := fun i hi => wlr_mem h.1 hr (getD_mem (by omega))
  have hlen := (wln_bd (c := 0) h.1.1 h.1.2.2.2.1 hr h.1.s8).2.1
  obtain ⟨-, -, c3, c4⟩ := hw
  generalize hl : wlr m W H r = l at *
  have key := loopF (fun q i (a : Int64) => f_X1_project_58 e (149 + 1 * r) (166 + 1 * r) (N4 l.length) σ q a (N4 i)) l.length (fun i => N8 (sumN (fun c => if memb (wayc l) i c = true then wln m W H r c * wln m W H r c else 0) (W * H))) (N8 (sqr m W H r)) (fun q => by
      show f_X1_project_58 e (149 + 1 * r) (166 + 1 * r) (N4 l.length) σ (q + 1) _ (N4 l.length) = _
      rw [f_X1_project_58, if_pos ((n4_le (by omega) (by omega)).mpr (Nat.le_refl _))]
      congr 2
      refine sumN_congr fun c hc => ?_
      by_cases x : c ∈ l
      · rw [if_pos ((wayc_memb c).mpr x)]
      · rw [if_neg (fun y => x ((wayc_memb c).mp y)), wln_zero (by rw [hl]; exact x)]) (fun q i hi => by
      have hb := hmem i hi
      have hc : wln m W H r (wayc l i) ≤ 181000 := (wln_bd h.1.1 h.1.2.2.2.1 hr h.1.s8).1
      show f_X1_project_58 e (149 + 1 * r) (166 + 1 * r) (N4 l.length) σ (q + 1) (N8 (sumN (fun c => if memb (wayc l) i c = true then wln m W H r c * wln m W H r c else 0) (W * H))) (N4 i) = f_X1_project_58 e (149 + 1 * r) (166 + 1 * r) (N4 l.length) σ q (N8 (sumN (fun c => if setD (memb (wayc l) i) (wayc l i) c = true then wln m W H r c * wln m W H r c else 0) (W * H))) (N4 (i + 1))
      have c3' : σ.1 (149 + 1 * r) i = N4 (wayc l i) := c3 i hi
      rw [sumN_setD (f := fun c => wln m W H r c * wln m W H r c) (wayc_new hnd hi) _ hb]
      rw [f_X1_project_58, if_neg (fun y => by have := (n4_le (by omega) (by omega)).mp y; omega), gd_t w1, w2, gd_inb (by omega) (by omega), gd_t l1, l2, n4_nat (by omega), c3', gd_inb (by omega) (by omega), gd_t (by rw [← w2]; exact w1), gd_inb (by omega) (by omega), gd_t (by rw [← l2]; exact l1), gd_inb (by omega) (by omega), n4_nat (by omega), c4 _ (by omega), n4_64 (by omega), n8_mul, n8_add, n4_succ]) 100000 0 (by omega) (by omega)
  have key' : f_X1_project_58 e (149 + 1 * r) (166 + 1 * r) (N4 l.length) σ 100000 (N8 (sumN (fun c => if memb (wayc l) 0 c = true then wln m W H r c * wln m W H r c else 0) (W * H))) (N4 0) = _ := key
  rw [sumN_memb0] at key'
  exact key'
theorem c_project {r : Nat} (h : CS σ m W H n) (hr : r < n) : ∃ τ, f_X1_project (N4 r) σ = some (N4 (chg m (mCor m W H r) 8 (W * H)), τ) ∧ CS τ (mCor m W H r) W H n ∧ Fk σ τ ∧ τ.1 187 = σ.1 187 ∧ τ.2 188 = σ.2 188 := by
  have hn := h.1.1.2.2.2.2.2.2.2
  have hK := h.1.1.K
  obtain ⟨⟨w1, w2⟩, ⟨l1, l2⟩⟩ := sh_way r (by omega)
  obtain ⟨σ1, a1, a2, a3⟩ := c_find' h hr
  have h1 := CQ.cs h a2
  have hsq := c_sq (e := m (139 + 4 * r) - wtm m W H r) h1 hr a3
  obtain ⟨s1, s2⟩ := sqr_bd h.1 hr
  have hnd := wlr_nodup h.1 hr
  have hmem : ∀ i, i < (wlr m W H r).length → wayc (wlr m W H r) i < W * H ∧ 0 < wln m W H r (wayc (wlr m W H r) i) := fun i hi => ⟨wlr_mem h.1 hr (getD_mem (by omega)), wln_pos h.1 hr (getD_mem (by omega))⟩
  have hlen := (wln_bd (c := 0) h.1.1 h.1.2.2.2.1 hr h.1.s8).2.1
  have hV' : Val (mCor m W H r) W H n := val_cor h.1
  have hin : ∀ c, c < W * H → c ∈ wlr m W H r → mCor m W H r (8 + c) = corV m W H r c := fun c hc hx => by
    unfold mCor
    rw [Nat.add_sub_cancel_left, if_pos ⟨by omega, by omega, wln_pos h.1 hr hx⟩]
  have hout : ∀ j, ¬ (8 ≤ j ∧ j < 8 + W * H ∧ (j - 8) ∈ wlr m W H r) → mCor m W H r j = m j := fun j hj => by
    unfold mCor
    rw [if_neg (fun q => hj ⟨q.1, q.2.1, by
      by_cases x : (j - 8) ∈ wlr m W H r
      · exact x
      · have := wln_zero x; omega⟩)]
  obtain ⟨-, d2, d3, d4⟩ := a3
  generalize hl : wlr m W H r = l at *
  generalize hmd : mCor m W H r = m' at *
  have e2 := h1.2.1.1 2 (by omega)
  have e3 := h1.2.1.1 3 (by omega)
  have e4 := h1.2.1.1 4 (by omega)
  obtain ⟨⟨q1, τ⟩, b1, b2, b3, b4, b5⟩ := loopU (fun k i (a : Int32 × Mem) => f_X1_project_101 (m (139 + 4 * r) - wtm m W H r) (149 + 1 * r) (166 + 1 * r) (N4 l.length) (N8 (sqr m W H r)) k a.1 (N4 i) a.2) l.length
    (fun i a => a.1 = N4 (cnt (fun c => memb (wayc l) i c && !decide (m (8 + c) = m' (8 + c))) (W * H)) ∧ (∀ q, q ≠ 2 → a.2.1 q = σ1.1 q) ∧ a.2.2 = σ1.2 ∧ ∀ c, c < 64 → (a.2.1 2 c).toInt64 = if memb (wayc l) i c = true then m' (8 + c) else m (8 + c))
    (fun a => a.1 = N4 (cnt (fun c => memb (wayc l) l.length c && !decide (m (8 + c) = m' (8 + c))) (W * H)) ∧ (∀ q, q ≠ 2 → a.2.1 q = σ1.1 q) ∧ a.2.2 = σ1.2 ∧ ∀ c, c < 64 → (a.2.1 2 c).toInt64 = if memb (wayc l) l.length c = true then m' (8 + c) else m (8 + c)) (by
      rintro k ⟨a, τ⟩ hP
      refine ⟨(a, τ), ?_, hP⟩
      show f_X1_project_101 _ _ _ (N4 l.length) _ (k + 1) a (N4 l.length) τ = some (a, τ)
      rw [f_X1_project_101, if_pos ((n4_le (by omega) (by omega)).mpr (Nat.le_refl _))]) (by
      rintro k i ⟨a, τ⟩ hi ⟨p1, p2, p3, p4⟩
      have p1' : a = N4 (cnt (fun c => memb (wayc l) i c && !decide (m (8 + c) = m' (8 + c))) (W * H)) := p1
      obtain ⟨hb, hbp⟩ := hmem i hi
      have hbl : wayc l i ∈ l := getD_mem (by omega)
      have hnew := wayc_new hnd hi
      have hcb : wln m W H r (wayc l i) ≤ 181000 := (wln_bd h.1.1 h.1.2.2.2.1 hr h.1.s8).1
      have c3' : τ.1 (149 + 1 * r) i = N4 (wayc l i) := by rw [p2 _ (by omega)]; exact d3 i hi
      have c4' : τ.1 (166 + 1 * r) (wayc l i) = N4 (wln m W H r (wayc l i)) := by rw [p2 _ (by omega)]; exact d4 _ (by omega)
      have c5 : (τ.1 2 (wayc l i)).toInt64 = m (8 + wayc l i) := by rw [p4 _ (by omega), hnew, if_neg (by decide)]
      have c1 : τ.1 1 = σ1.1 1 := p2 1 (by omega)
      obtain ⟨x, x1, x2⟩ := c_clamp (σ := τ) (m (8 + wayc l i) + rnd8 (m 4 * (m (139 + 4 * r) - wtm m W H r) * N8 (wln m W H r (wayc l i))) (1000 * N8 (sqr m W H r))) (σ1.1 1 2) (σ1.1 1 3)
      have hx : x.toInt64 = m' (8 + wayc l i) := by
        rw [x2, hin _ hb hbl, ← e2, ← e3]
        rfl
      have hms : memb (wayc l) (i + 1) = setD (memb (wayc l) i) (wayc l i) := rfl
      have hcnt : cnt (fun c => memb (wayc l) (i + 1) c && !decide (m (8 + c) = m' (8 + c))) (W * H) = cnt (fun c => memb (wayc l) i c && !decide (m (8 + c) = m' (8 + c))) (W * H) + if (!decide (m (8 + wayc l i) = m' (8 + wayc l i))) = true then 1 else 0 := by
        rw [hms]; exact cnt_setD2 hnew _ hb
      have hq : (x = τ.1 2 (wayc l i)) ↔ (m (8 + wayc l i) = m' (8 + wayc l i)) := by
        rw [← hx, ← c5, i64_inj]
        exact ⟨fun y => y.symm, fun y => y.symm⟩
      show ∃ a' : Int32 × Mem, f_X1_project_101 _ _ _ (N4 l.length) _ (k + 1) a (N4 i) τ = _ ∧ _
      rw [f_X1_project_101, if_neg (fun y => by have := (n4_le (by omega) (by omega)).mp y; omega), gd_t w1, w2, gd_inb (by omega) (by omega), gd_t l1, l2, n4_nat (by omega), c3', gd_inb (by omega) (by omega), n4_nat (by omega), c4', n4_64 (by omega), c1, ← e4, show (1000 : Int64) * N8 (sqr m W H r) = N8 (1000 * sqr m W H r) from n8_mul 1000 _, c_rq (by omega) (by omega), bd_s, gd_inb (by omega) (by omega), c5]
      rw [show (1000 : Int64) * N8 (sqr m W H r) = N8 (1000 * sqr m W H r) from n8_mul 1000 _] at x1
      rw [x1, bd_s, gd_inb (by omega) (by omega), gd_inb (by omega) (by omega), n4_succ]
      by_cases y : x = τ.1 2 (wayc l i)
      · rw [if_pos y]
        refine ⟨(a, τ), rfl, ?_, p2, p3, fun c hc => ?_⟩
        · show a = _
          rw [p1', hcnt, if_neg (by rw [decide_eq_true (hq.mp y)]; decide)]; rfl
        · show (τ.1 2 c).toInt64 = _
          rw [p4 c hc, hms]
          unfold setD
          by_cases z : c = wayc l i
          · rw [if_pos z, if_pos rfl, z, hnew, if_neg (by decide)]; exact hq.mp y
          · rw [if_neg z]
      · rw [if_neg y]
        refine ⟨(a + 1, setI τ 2 (wayc l i) x), rfl, ?_, fun q hq => ?_, p3, fun c hc => ?_⟩
        · show a + 1 = _
          rw [p1', n4_succ, hcnt, if_pos (by rw [decide_eq_false (fun z => y (hq.mpr z))]; rfl)]
        · show (setI τ 2 (wayc l i) x).1 q = _
          rw [mI_p hq]; exact p2 q hq
        · show ((setI τ 2 (wayc l i) x).1 2 c).toInt64 = _
          rw [hms]
          unfold setD
          by_cases z : c = wayc l i
          · rw [if_pos z, if_pos rfl, z, mI_e]; exact hx
          · rw [if_neg z, mI_j z]; exact p4 c hc) 100000 0 (N4 0, σ1) (by omega) (by omega) ⟨by
        show N4 0 = N4 (cnt (fun c => memb (wayc l) 0 c && !decide (m (8 + c) = m' (8 + c))) (W * H))
        rw [show cnt (fun c => memb (wayc l) 0 c && !decide (m (8 + c) = m' (8 + c))) (W * H) = 0 from cnt_false (W * H)], fun _ _ => rfl, rfl, fun c hc => by
        rw [show memb (wayc l) 0 c = false from rfl, if_neg (by decide)]
        exact (h1.2.1.2.2.2.1 c hc).1.symm⟩
  obtain rfl : q1 = _ := b2
  have b3' : ∀ q, q ≠ 2 → τ.1 q = σ1.1 q := b3
  have b4' : τ.2 = σ1.2 := b4
  have b5' : ∀ c, c < 64 → (τ.1 2 c).toInt64 = if memb (wayc l) l.length c = true then m' (8 + c) else m (8 + c) := b5
  have hcc : cnt (fun c => memb (wayc l) l.length c && !decide (m (8 + c) = m' (8 + c))) (W * H) = chg m m' 8 (W * H) := cnt_congr fun c hc => by
    by_cases x : c ∈ l
    · rw [(wayc_memb c).mpr x, Bool.true_and]
    · rw [eq_false_of_ne_true (fun y => x ((wayc_memb c).mp y)), hout (8 + c) (fun q => x (by rw [Nat.add_sub_cancel_left] at q; exact q.2.2))]
      simp
  rw [hcc] at b1
  have hX : ∀ c, c < 64 → m' (8 + c) = (τ.1 2 c).toInt64 := fun c hc => by
    rw [b5' c hc]
    by_cases x : c ∈ l
    · rw [if_pos ((wayc_memb c).mpr x)]
    · rw [if_neg (fun y => x ((wayc_memb c).mp y)), hout (8 + c) (fun q => x (by rw [Nat.add_sub_cancel_left] at q; exact q.2.2))]
  have hSm : ∀ ρ : Mem, (∀ q, q < 140 → ρ.1 q = τ.1 q) → ρ.2 = τ.2 → Sm ρ 1 m' := fun ρ hI hL => by
    obtain ⟨s1, s2, s3, s4, s5⟩ := h1.2.1
    refine ⟨fun j hj => ?_, ?_, ?_, fun c hc => ⟨?_, ?_⟩, fun q hq => ?_⟩
    · rw [hout j (by omega), hI 1 (by omega), b3' 1 (by omega)]; exact s1 j hj
    · rw [hout 6 (by omega), hL, b4']; exact s2
    · rw [hout 7 (by omega), hI 1 (by omega), b3' 1 (by omega)]; exact s3
    · rw [hI 2 (by omega)]; exact hX c hc
    · rw [hout _ (by omega), hI 3 (by omega), b3' 3 (by omega)]; exact (s4 c hc).2
    · rw [hout _ (by omega), hout _ (by omega), hout _ (by omega), hout _ (by omega), hI 4 (by omega), hI 5 (by omega), hI 7 (by omega), hL, b3' 4 (by omega), b3' 5 (by omega), b3' 7 (by omega), b4']
      exact s5 q hq
  have hG : ∀ ρ : Mem, (∀ q, q < 140 → ρ.1 q = τ.1 q) → Grd ρ W H := fun ρ hI => h1.2.2.1.of (fun q h1 h2 => by rw [hI q h2, b3' q (by omega)]) hK.2
  have hFt : Fk σ τ := (Fc.k a2.1).trans ⟨fun q j hq => by rw [b3' q (fun e => hq (by unfold ckI; omega))], fun q j _ => by rw [b4']⟩
  have h187 : τ.1 187 = σ.1 187 := (b3' 187 (by omega)).trans (a2.1.i.1 187 (by omega))
  have h188 : τ.2 188 = σ.2 188 := by rw [b4']; exact a2.1.i.2 188 (by omega)
  have b1' : f_X1_project_101 (m (139 + 4 * r) - wtm m W H r) (149 + 1 * r) (166 + 1 * r) (N4 l.length) (N8 (sqr m W H r)) 100000 0 0 σ1 = _ := b1
  have hsq' : f_X1_project_58 (m (139 + 4 * r) - wtm m W H r) (149 + 1 * r) (166 + 1 * r) (N4 l.length) σ1 100000 0 0 = _ := hsq
  have hcl := chg_le m m' 8 (W * H)
  unfold f_X1_project
  rw [gd_inb (by omega) (by omega), a1, bd_s, gd_inb (by omega) (by omega), gd_inb (by omega) (by omega), gd_inb (by omega) (by omega), n4_nat (by omega), cs_obs h (by omega), d2, hsq', bd_s, b1', bd_s]
  by_cases z : chg m m' 8 (W * H) = 0
  · rw [if_pos (show N4 (chg m m' 8 (W * H)) ≤ 0 by rw [z]; decide)]
    have hmm : m' = m := by
      funext j
      by_cases x : 8 ≤ j ∧ j < 8 + W * H ∧ (j - 8) ∈ l
      · have hz : ∀ c, c < W * H → m (8 + c) = m' (8 + c) := fun c hc => by
          by_cases y : m (8 + c) = m' (8 + c)
          · exact y
          · have h2 := cnt_lt (p := fun _ => false) (q := fun c => !decide (m (8 + c) = m' (8 + c))) hc (fun _ _ e => nomatch e) rfl (by simp [y])
            unfold chg at z
            omega
        have := hz (j - 8) (by omega)
        rw [show 8 + (j - 8) = j by omega] at this
        exact this.symm
      · exact hout j x
    refine ⟨τ, rfl, ⟨hV', hSm τ (fun _ _ => rfl) rfl, hG τ (fun _ _ => rfl), ?_⟩, hFt, h187, h188⟩
    rw [hmm]
    exact cch_of h1.2.2.2 (fun q _ _ => b3' q (by omega)) (by rw [b4']) hn
  · obtain ⟨ρ, r1, r2, r3, r4⟩ := c_forget (σ := τ)
    rw [if_neg (show ¬ N4 (chg m m' 8 (W * H)) ≤ 0 from fun y => z (by have := (n4_le (b := 0) (by omega) (by omega)).mp y; omega)), r1, bd_s]
    refine ⟨ρ, rfl, ⟨hV', hSm ρ (fun q hq => r2 q (by omega)) r3, hG ρ (fun q hq => r2 q (by omega)), cch_0 r4 hn⟩, hFt.trans ⟨fun q j hq => by rw [r2 q (fun e => hq (by unfold ckI; omega))], fun q j _ => by rw [r3]⟩, (r2 187 (by omega)).trans h187, by rw [r3]; exact h188⟩
end CPROJ
