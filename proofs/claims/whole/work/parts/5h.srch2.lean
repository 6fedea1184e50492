/-! ===== the class's search on the memory ===== -/
def csI (q j : Nat) : Prop := (q = 140 ∧ j = 3) ∨ q = 142
def csL (q _j : Nat) : Prop := q = 141
def Grd (σ : Mem) (W H : Nat) : Prop := σ.1 8 0 = N4 (W * H) ∧ ∀ c, c < W * H → σ.1 9 c = N4 (nbs W (W * H) c).length ∧ ∀ i, i < (nbs W (W * H) c).length → σ.1 (11 + 1 * c) i = N4 ((nbs W (W * H) c).getD i 0) ∧ σ.1 (76 + 1 * c) i = N4 (mv W c ((nbs W (W * H) c).getD i 0))
theorem sh_nb : ∀ c, c < 64 → (shA (11 + 1 * c) 1 (aln (11 + 1 * c)) = true ∧ aln (11 + 1 * c) = 8) ∧ (shA (76 + 1 * c) 1 (aln (76 + 1 * c)) = true ∧ aln (76 + 1 * c) = 8) := by decide +kernel
theorem sh_way : ∀ r, r < 16 → (shA (149 + 1 * r) 1 (aln (149 + 1 * r)) = true ∧ aln (149 + 1 * r) = 64) ∧ (shA (166 + 1 * r) 1 (aln (166 + 1 * r)) = true ∧ aln (166 + 1 * r) = 64) := by decide +kernel
def SlP (x : Nat) : Prop := x = 2 ∨ x = 3 ∨ x = 145
theorem SlP.ok {x : Nat} (h : SlP x) : shA x 1 (aln x) = true ∧ aln x = 64 := by
  rcases h with rfl | rfl | rfl <;> exact ⟨by decide +kernel, by decide +kernel⟩
/-- the waiting row and the labels -/
def WR (K : Nat) (σ : Mem) (q : Nat → Nat) (k : Nat) (D : Nat → Int) : Prop := σ.1 140 3 = N4 k ∧ (∀ i, i < k → σ.1 142 i = N4 (q i)) ∧ ∀ c, c < K → σ.2 141 c = Z8 (D c)
section SRCH
variable {σ : Mem} {W H : Nat}
theorem c_fillL {v : Int64} : ∃ τ, f_J7_fill_d0a16 141 v σ = some τ ∧ Fz csI csL σ τ ∧ ∀ c, c < 64 → τ.2 141 c = v := by
  have ha : aln 141 = 64 := by decide +kernel
  have hs : shA 141 2 (aln 141) = true := by decide +kernel
  obtain ⟨τ, a1, a2⟩ := loopU (fun k i τ => f_J7_fill_d0a16_6 141 v (Int32.ofNat (aln 141)) k (N4 i) τ) 64 (fun i τ => Fz csI csL σ τ ∧ ∀ c, c < i → τ.2 141 c = v) (fun τ => Fz csI csL σ τ ∧ ∀ c, c < 64 → τ.2 141 c = v) (by
      intro k τ hP
      refine ⟨τ, ?_, hP⟩
      show f_J7_fill_d0a16_6 141 v (Int32.ofNat (aln 141)) (k + 1) (N4 64) τ = some τ
      rw [f_J7_fill_d0a16_6, ha, if_pos (show Int32.ofNat 64 ≤ N4 64 from (n4_le (a := 64) (by omega) (by omega)).mpr (Nat.le_refl _))]) (by
      intro k i τ hi hP
      show ∃ a', f_J7_fill_d0a16_6 141 v (Int32.ofNat (aln 141)) (k + 1) (N4 i) τ = _ ∧ _
      rw [f_J7_fill_d0a16_6, gd_t hs, ha, if_neg (show ¬ Int32.ofNat 64 ≤ N4 i from fun q => by have := (n4_le (a := 64) (by omega) (by omega)).mp q; omega), gd_inb (by omega) (by omega), n4_nat (by omega), n4_succ]
      refine ⟨_, rfl, hP.1.l rfl, fun c hc => ?_⟩
      by_cases e : c = i
      · rw [e, mL_e]
      · rw [mL_j e]; exact hP.2 c (by omega)) 100000 0 σ (by omega) (by omega) ⟨Fz.rfl, fun c hc => by omega⟩
  refine ⟨τ, ?_, a2⟩
  unfold f_J7_fill_d0a16
  have a1' : f_J7_fill_d0a16_6 141 v (Int32.ofNat (aln 141)) 100000 0 σ = some τ := a1
  rw [gd_t hs, a1', bd_s]
theorem c_nearest {K k : Nat} {q : Nat → Nat} {D : Nat → Int} (hw : WR K σ q k D) (hK : K ≤ 64) (hk : 1 ≤ k) (hk2 : k ≤ K) (hq : ∀ i, i < k → q i < K) (hD : ∀ c, c < K → 0 ≤ D c ∧ D c ≤ UNR) :
    ∃ p τ, f_X6_takeNearest σ = some (N4 (q p), τ) ∧ p < k ∧ (∀ i, i < k → D (q p) ≤ D (q i)) ∧ Fz csI csL σ τ ∧ WR K τ (fun i => if i = p then q (k - 1) else q i) (k - 1) D := by
  have hU : UNR = 1152921504606846976 := rfl
  obtain ⟨w1, w2, w3⟩ := hw
  have hq0 := hq 0 (by omega)
  have h00 : ∀ j, j < 1 → D (q 0) ≤ D (q j) := fun j hj => by
    have : j = 0 := by omega
    rw [this]
    exact Int.le_refl _
  obtain ⟨r, a1, p, a2, a3, a4⟩ := loopU (fun n i (a : Int32 × Int64) => f_X6_takeNearest_17 σ n a.1 a.2 (N4 i)) k (fun i a => ∃ p, p < i ∧ a.1 = N4 p ∧ a.2 = Z8 (D (q p)) ∧ ∀ j, j < i → D (q p) ≤ D (q j)) (fun r => ∃ p, p < k ∧ r = N4 p ∧ ∀ j, j < k → D (q p) ≤ D (q j)) (by
      rintro n ⟨a, b⟩ ⟨p, p1, p2, p3, p4⟩
      refine ⟨a, ?_, p, p1, p2, p4⟩
      show f_X6_takeNearest_17 σ (n + 1) a b (N4 k) = some a
      rw [f_X6_takeNearest_17, w1, if_pos ((n4_le (by omega) (by omega)).mpr (Nat.le_refl _))]) (by
      rintro n i ⟨a, b⟩ hi ⟨p, p1, p2, p3, p4⟩
      have hqi := hq i hi
      have hqp := hq p (by omega)
      have d1 := hD _ hqi
      have d2 := hD _ hqp
      have p3' : b = Z8 (D (q p)) := p3
      show ∃ a' : Int32 × Int64, f_X6_takeNearest_17 σ (n + 1) a b (N4 i) = _ ∧ _
      rw [f_X6_takeNearest_17, w1, if_neg (fun e => by have := (n4_le (by omega) (by omega)).mp e; omega), gd_inb (by omega) (by omega), n4_nat (by omega), w2 i hi, gd_inb (by omega) (by omega), n4_nat (by omega), w3 _ hqi, n4_succ, p3']
      by_cases c : D (q p) ≤ D (q i)
      · rw [if_pos ((z8_le (by omega) (by omega) (by omega) (by omega)).mpr c)]
        refine ⟨(_, _), rfl, p, by omega, p2, rfl, fun j hj => ?_⟩
        by_cases e : j = i
        · rw [e]; exact c
        · exact p4 j (by omega)
      · rw [if_neg (fun e => c ((z8_le (by omega) (by omega) (by omega) (by omega)).mp e))]
        refine ⟨(_, _), rfl, i, by omega, rfl, rfl, fun j hj => ?_⟩
        by_cases e : j = i
        · rw [e]; exact Int.le_refl _
        · have := p4 j (by omega); omega) 100000 1 (N4 0, Z8 (D (q 0))) (by omega) (by omega) ⟨0, by omega, rfl, rfl, h00⟩
  have hqp := hq p a2
  have e14 : (setI σ 140 3 (N4 (k - 1))).1 140 3 = N4 (k - 1) := mI_e
  refine ⟨p, setI (setI σ 140 3 (N4 (k - 1))) 142 p (N4 (q (k - 1))), ?_, a2, a4, (Fz.rfl.i (by unfold csI; omega)).i (by unfold csI; omega), ?_, fun i hi => ?_, fun c hc => w3 c hc⟩
  · have a1' : f_X6_takeNearest_17 σ 100000 0 (Z8 (D (q 0))) 1 = some r := a1
    unfold f_X6_takeNearest
    rw [show (0 : Int32).toNatClampNeg = 0 from rfl, w2 0 (by omega), gd_inb (by omega) (by omega), n4_nat (by omega), w3 _ hq0, a1', bd_s, a3, gd_inb (by omega) (by omega), w1, show N4 k - 1 = N4 (k - 1) from n4_sub (b := 1) hk, e14, gd_inb (by omega) (by omega), gd_inb (by omega) (by omega), bd_s, n4_nat (by omega), n4_nat (by omega), w2 p a2, mI_p (show (142 : Nat) ≠ 140 by omega), w2 (k - 1) (by omega)]
  · rw [mI_p (by omega), mI_e]
  · show (setI (setI σ 140 3 (N4 (k - 1))) 142 p (N4 (q (k - 1)))).1 142 i = N4 (if i = p then q (k - 1) else q i)
    by_cases e : i = p
    · rw [e, mI_e, if_pos rfl]
    · rw [mI_j e, mI_p (by omega), if_neg e]
      exact w2 i (by omega)
theorem nodup_getD {l : List Nat} (h : l.Nodup) {i j : Nat} (hi : i < l.length) (hj : j < l.length) (e : l.getD i 0 = l.getD j 0) : i = j := by
  rw [List.getD_eq_getElem?_getD, List.getElem?_eq_getElem hi, List.getD_eq_getElem?_getD, List.getElem?_eq_getElem hj] at e
  exact (List.getElem_inj h).mp e
theorem nbs_nodup (W K c : Nat) : (nbs W K c).Nodup := List.Pairwise.filter _ List.nodup_range
def labM (W : Nat) (s D : Nat → Int) (x : Nat) (nl : List Nat) (i : Nat) : Nat → Int := fun c => if memb (fun j => nl.getD j 0) i c = true then rlx W s D x c else D c
theorem c_reach {x x1 k : Nat} {s D L : Nat → Int} {v : Nat → Nat} {q : Nat → Nat} {X : Nat → Bool} {o : Nat} (hG : Grd σ W H) (hW : 2 ≤ W) (hW8 : W ≤ 8) (hH8 : H ≤ 8) (hK : W * H ≤ 64) (hx1 : SlP x1) (hv : ∀ c, c < W * H → σ.1 x1 c = N4 (v c) ∧ s c = (v c : Int)) (hs : Slo (W * H) s)
    (hL : ∀ a b, a < W * H → b < W * H → mv W a b ≠ 0 → L b ≤ L a + wt W s a b) (hw : WR (W * H) σ q k D) (h : SI W (W * H) s o L q k D (setD X x) X) (hx : x < W * H) (hXx : X x = false) (hord : ∀ a, a < W * H → X a = true → D a ≤ D x) (hDx : D x ≠ UNR) (ho : o < W * H) :
    ∃ τ q' k' D', f_X6_reachNeighbours x1 (N4 x) σ = some τ ∧ Fz csI csL σ τ ∧ WR (W * H) τ q' k' D' ∧ SI W (W * H) s o L q' k' D' (setD X x) (setD X x) := by
  have hU : UNR = 1152921504606846976 := rfl
  obtain ⟨g0, g⟩ := hG
  obtain ⟨g1, g2⟩ := g x hx
  obtain ⟨b1, b2⟩ := sh_nb x (by omega)
  obtain ⟨z1, z2⟩ := hx1.ok
  have hlen := nbs_len W (by omega) H (by omega) x (by omega) hW
  have hnd := nbs_nodup W (W * H) x
  obtain ⟨s1, s2, s3, s4, s5, s6, s7, s8⟩ := h
  have hcx := cnt_le X (W * H)
  have hDxb := s6 x hx hDx
  have hDx0 := (s5 x hx).1
  generalize hnl : nbs W (W * H) x = nl at *
  have hnm : ∀ c, c ∈ nl ↔ c < W * H ∧ mv W x c ≠ 0 := fun c => by rw [← hnl]; exact nbs_mem
  have hng : ∀ i, i < nl.length → nl.getD i 0 < W * H ∧ mv W x (nl.getD i 0) ≠ 0 := fun i hi => (hnm _).mp (getD_mem hi)
  have hmb : ∀ i c, memb (fun j => nl.getD j 0) i c = true ↔ ∃ j, j < i ∧ nl.getD j 0 = c := fun i c => memb_iff _ c i
  obtain ⟨τ, a1, a2, q', k', a3, a4, a5, a6⟩ := loopU (fun n i τ => f_X6_reachNeighbours_43 x1 (N4 x) (11 + 1 * x) (76 + 1 * x) (N4 nl.length) (Z8 (D x)) n (N4 i) τ) nl.length
    (fun i τ => Fz csI csL σ τ ∧ ∃ q' k', WR (W * H) τ q' k' (labM W s D x nl i) ∧ (∀ i, i < k' → q' i < W * H ∧ setD X x (q' i) = false) ∧ (∀ i j, i < k' → j < k' → q' i = q' j → i = j) ∧ ∀ c, c < W * H → ((∃ j, j < k' ∧ q' j = c) ↔ ((∃ j, j < k ∧ q j = c) ∨ (memb (fun j => nl.getD j 0) i c = true ∧ D c = UNR))))
    (fun τ => Fz csI csL σ τ ∧ ∃ q' k', WR (W * H) τ q' k' (labM W s D x nl nl.length) ∧ (∀ i, i < k' → q' i < W * H ∧ setD X x (q' i) = false) ∧ (∀ i j, i < k' → j < k' → q' i = q' j → i = j) ∧ ∀ c, c < W * H → ((∃ j, j < k' ∧ q' j = c) ↔ ((∃ j, j < k ∧ q j = c) ∨ (memb (fun j => nl.getD j 0) nl.length c = true ∧ D c = UNR)))) (by
      intro n τ hP
      refine ⟨τ, ?_, hP⟩
      show f_X6_reachNeighbours_43 x1 (N4 x) (11 + 1 * x) (76 + 1 * x) (N4 nl.length) (Z8 (D x)) (n + 1) (N4 nl.length) τ = some τ
      rw [f_X6_reachNeighbours_43, if_pos ((n4_le (by omega) (by omega)).mpr (Nat.le_refl _))]) (by
      intro n i τ hi hP
      obtain ⟨p1, q', k', p2, p3, p4, p5⟩ := hP
      obtain ⟨w1, w2, w3⟩ := p2
      obtain ⟨n1, n2⟩ := hng i hi
      obtain ⟨m1, m2⟩ := g2 i hi
      generalize hb : nl.getD i 0 = b at *
      have hmv : mv W x b < 2000 := by rcases mv_cases W x b with e | e | e <;> omega
      have hwt := wt_bd hs hx n1 n2
      have hnb : ¬ memb (fun j => nl.getD j 0) i b = true := fun e => by
        obtain ⟨j, j1, j2⟩ := (hmb i b).mp e
        have := nodup_getD hnd (show j < nl.length by omega) hi (by rw [j2, hb])
        omega
      have hms : memb (fun j => nl.getD j 0) (i + 1) = setD (memb (fun j => nl.getD j 0) i) b := by
        show setD (memb (fun j => nl.getD j 0) i) (nl.getD i 0) = _
        rw [hb]
      have e11 : τ.1 (11 + 1 * x) i = N4 b := by rw [p1.1 _ i (by unfold csI; omega)]; exact m1
      have e76 : τ.1 (76 + 1 * x) i = N4 (mv W x b) := by rw [p1.1 _ i (by unfold csI; omega)]; exact m2
      have ev : ∀ c, c < W * H → τ.1 x1 c = N4 (v c) := fun c hc => by rw [p1.1 x1 c (by unfold csI; rcases hx1 with e | e | e <;> omega)]; exact (hv c hc).1
      have hvb : ∀ c, c < W * H → v c ≤ 100000 := fun c hc => by have h1 := (hs c hc).2; rw [(hv c hc).2] at h1; omega
      have v1 := hvb x hx
      have v2 := hvb b n1
      have eD : τ.2 141 b = Z8 (D b) := by rw [w3 b n1]; unfold labM; rw [if_neg hnb]
      have hDb := s5 b n1
      have etm : Z8 (D x) + (N4 (mv W x b)).toInt64 * (N4 (v x) + N4 (v b)).toInt64 = Z8 (D x + wt W s x b) := by
        rw [n4_add, n4_64 (by omega), n4_64 (by omega), z8_n, z8_n, z8_mul, z8_add]
        unfold wt
        rw [(hv x hx).2, (hv b n1).2]
        congr 1
      show ∃ a', f_X6_reachNeighbours_43 x1 (N4 x) (11 + 1 * x) (76 + 1 * x) (N4 nl.length) (Z8 (D x)) (n + 1) (N4 i) τ = _ ∧ _
      rw [f_X6_reachNeighbours_43, if_neg (fun e => by have := (n4_le (by omega) (by omega)).mp e; omega), gd_t b1.1, b1.2, gd_inb (by omega) (by omega), gd_t b2.1, b2.2, gd_inb (by omega) (by omega), gd_t z1, z2, gd_inb (by omega) (by omega), gd_t (by rw [← z2]; exact z1), n4_nat (by omega), n4_nat (by omega), e11, gd_inb (by omega) (by omega), gd_inb (by omega) (by omega), n4_nat (by omega), e76, ev x hx, ev b n1, etm, eD, n4_succ]
      by_cases c : D b ≤ D x + wt W s x b
      · rw [if_pos ((z8_le (by omega) (by omega) (by omega) (by omega)).mpr c)]
        have hrl : rlx W s D x b = D b := by unfold rlx; rw [if_neg (fun e => by omega)]
        refine ⟨τ, rfl, p1, q', k', ⟨w1, w2, fun d hd => ?_⟩, p3, p4, fun d hd => ?_⟩
        · rw [w3 d hd]
          unfold labM
          rw [hms]
          unfold setD
          by_cases e : d = b
          · rw [if_pos e, e, if_neg hnb, if_pos rfl, hrl]
          · rw [if_neg e]
        · rw [p5 d hd, hms]
          unfold setD
          by_cases e : d = b
          · rw [if_pos e, e]
            constructor
            · rintro (y | y)
              · exact Or.inl y
              · exact absurd y.1 hnb
            · rintro (y | y)
              · exact Or.inl y
              · omega
          · rw [if_neg e]
      · rw [if_neg (fun e => c ((z8_le (by omega) (by omega) (by omega) (by omega)).mp e)), gd_inb (by omega) (by omega)]
        have hrl : rlx W s D x b = D x + wt W s x b := by unfold rlx; rw [if_pos ⟨n2, by omega⟩]
        have hlab : ∀ ρ : Mem, ρ.2 = τ.2 → ∀ d, d < W * H → (setL ρ 141 b (Z8 (D x + wt W s x b))).2 141 d = Z8 (labM W s D x nl (i + 1) d) := fun ρ hρ d hd => by
          unfold labM
          rw [hms]
          unfold setD
          by_cases e : d = b
          · rw [if_pos e, e, mL_e, if_pos rfl, hrl]
          · rw [if_neg e, mL_j e, hρ, w3 d hd]; rfl
        by_cases u : D b = UNR
        · have hsX : setD X x b = false := eq_false_of_ne_true (fun e => (s3 b n1).mpr (Or.inl e) u)
          have hnq : ¬ ∃ j, j < k' ∧ q' j = b := fun e => by
            rcases (p5 b n1).mp e with y | y
            · exact (s3 b n1).mpr (Or.inr y) u
            · exact hnb y.1
          have hk64 : k' + 1 ≤ W * H := inj_bd (q := fun j => if j = k' then b else q' j) (fun j hj => by
              show (if j = k' then b else q' j) < W * H
              by_cases e : j = k'
              · rw [if_pos e]; exact n1
              · rw [if_neg e]; exact (p3 j (by omega)).1) (fun j j' hj hj' e => by
              by_cases e1 : j = k'
              · by_cases e2 : j' = k'
                · omega
                · simp only [if_pos e1, if_neg e2] at e
                  exact absurd ⟨j', by omega, e.symm⟩ hnq
              · by_cases e2 : j' = k'
                · simp only [if_neg e1, if_pos e2] at e
                  exact absurd ⟨j, by omega, e⟩ hnq
                · simp only [if_neg e1, if_neg e2] at e
                  exact p4 j j' (by omega) (by omega) e)
          rw [if_pos (show Z8 (D b) = 1152921504606846976 by rw [u]; rfl), w1, if_neg (show ¬ (64 : Int32) ≤ N4 k' from fun e => by have := (n4_le (a := 64) (by omega) (by omega)).mp e; omega), gd_inb (by omega) (by omega), bd_s, gd_inb (by omega) (by omega), bd_s, n4_nat (by omega), mI_p (show (140 : Nat) ≠ 142 by omega), w1, n4_succ]
          refine ⟨_, rfl, ((p1.i (by unfold csI; omega)).i (by unfold csI; omega)).l rfl, fun j => if j = k' then b else q' j, k' + 1, ⟨?_, fun j hj => ?_, hlab _ rfl⟩, fun j hj => ?_, fun j j' hj hj' e => ?_, fun d hd => ?_⟩
          · rw [mL_I, mI_e]
          · rw [mL_I, mI_p (by omega)]
            show _ = N4 (if j = k' then b else q' j)
            by_cases e : j = k'
            · rw [e, mI_e, if_pos rfl]
            · rw [mI_j e, if_neg e]; exact w2 j (by omega)
          · show (if j = k' then b else q' j) < W * H ∧ setD X x (if j = k' then b else q' j) = false
            by_cases e : j = k'
            · rw [if_pos e]; exact ⟨n1, hsX⟩
            · rw [if_neg e]; exact p3 j (by omega)
          · by_cases e1 : j = k'
            · by_cases e2 : j' = k'
              · omega
              · simp only [if_pos e1, if_neg e2] at e
                exact absurd ⟨j', by omega, e.symm⟩ hnq
            · by_cases e2 : j' = k'
              · simp only [if_neg e1, if_pos e2] at e
                exact absurd ⟨j, by omega, e⟩ hnq
              · simp only [if_neg e1, if_neg e2] at e
                exact p4 j j' (by omega) (by omega) e
          · rw [hms]
            unfold setD
            constructor
            · rintro ⟨j, j1, j2⟩
              by_cases e : j = k'
              · simp only [if_pos e] at j2
                rw [if_pos j2.symm, ← j2]
                exact Or.inr ⟨rfl, u⟩
              · simp only [if_neg e] at j2
                rcases (p5 d hd).mp ⟨j, by omega, j2⟩ with y | y
                · exact Or.inl y
                · refine Or.inr ⟨?_, y.2⟩
                  split
                  · rfl
                  · exact y.1
            · have old : ((∃ j, j < k ∧ q j = d) ∨ (memb (fun j => nl.getD j 0) i d = true ∧ D d = UNR)) → ∃ j, j < k' + 1 ∧ (if j = k' then b else q' j) = d := fun y => by
                obtain ⟨j, j1, j2⟩ := (p5 d hd).mpr y
                exact ⟨j, by omega, by rw [if_neg (by omega)]; exact j2⟩
              rintro (y | ⟨y1, y2⟩)
              · exact old (Or.inl y)
              · by_cases e : d = b
                · exact ⟨k', by omega, by show (if k' = k' then b else q' k') = d; rw [if_pos rfl, e]⟩
                · rw [if_neg e] at y1
                  exact old (Or.inr ⟨y1, y2⟩)
        · rw [if_neg (show ¬ Z8 (D b) = 1152921504606846976 from fun e => u ((z8_eq (b := UNR) (by omega) (by omega) (by omega) (by omega)).mp e)), gd_inb (by omega) (by omega), bd_s]
          refine ⟨_, rfl, p1.l rfl, q', k', ⟨w1, w2, hlab _ rfl⟩, p3, p4, fun d hd => ?_⟩
          rw [p5 d hd, hms]
          unfold setD
          by_cases e : d = b
          · rw [if_pos e, e]
            constructor
            · rintro (y | y)
              · exact Or.inl y
              · exact absurd y.1 hnb
            · rintro (y | y)
              · exact Or.inl y
              · exact absurd y.2 u
          · rw [if_neg e]) 100000 0 σ (by omega) (by omega) ⟨Fz.rfl, q, k, ⟨hw.1, hw.2.1, fun c hc => by unfold labM; rw [show memb (fun j => nl.getD j 0) 0 c = false from rfl, if_neg (by decide)]; exact hw.2.2 c hc⟩, s1, s2, fun c hc => by
            rw [show memb (fun j => nl.getD j 0) 0 c = false from rfl]
            exact ⟨fun y => Or.inl y, fun y => y.elim id (fun z => nomatch z.1)⟩⟩
  have hmem : ∀ c, c < W * H → (memb (fun j => nl.getD j 0) nl.length c = true ↔ mv W x c ≠ 0) := fun c hc => by
    rw [hmb]
    constructor
    · rintro ⟨j, j1, j2⟩
      rw [← j2]; exact (hng j j1).2
    · intro e
      exact mem_getD ((hnm c).mpr ⟨hc, e⟩)
  refine ⟨τ, q', k', _, ?_, a2, a3, si_reach hs hL ⟨s1, s2, s3, s4, s5, s6, s7, s8⟩ hx hXx hord hDx hK ho (fun c hc => ?_) a4 a5 (fun c hc => ?_)⟩
  · have a1' : f_X6_reachNeighbours_43 x1 (N4 x) (11 + 1 * x) (76 + 1 * x) (N4 nl.length) (Z8 (D x)) 100000 0 σ = some τ := a1
    unfold f_X6_reachNeighbours
    rw [gd_inb (by omega) (by omega), gd_inb (by omega) (by omega), gd_inb (by omega) (by omega), gd_inb (by omega) (by omega), n4_nat (by omega), g1, hw.2.2 x hx, a1', bd_s]
  · unfold labM
    by_cases e : mv W x c ≠ 0
    · rw [if_pos ((hmem c hc).mpr e)]
    · rw [if_neg (fun y => e ((hmem c hc).mp y))]
      unfold rlx
      rw [if_neg (fun y => e y.1)]
  · rw [a6 c hc, hmem c hc]
end SRCH
