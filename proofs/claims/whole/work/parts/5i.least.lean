/-! ===== the class's least time; the cell before ===== -/
def LR (W K : Nat) (s : Nat → Int) (o t : Nat) (σ : Mem) (D : Nat → Int) : Prop := ∀ c, c < K → σ.2 141 c = Z8 (D c) ∧ 0 ≤ D c ∧ D c ≤ UNR ∧ dist W K s o c ≤ D c ∧ (dist W K s o c ≤ dist W K s o t → D c = dist W K s o c)
section LEAST
variable {σ : Mem} {W H : Nat}
theorem c_least {x1 o t : Nat} {s : Nat → Int} {v : Nat → Nat} (hG : Grd σ W H) (hW : 2 ≤ W) (hW8 : W ≤ 8) (hH : 2 ≤ H) (hH8 : H ≤ 8) (hx1 : SlP x1) (hv : ∀ c, c < W * H → σ.1 x1 c = N4 (v c) ∧ s c = (v c : Int)) (hs : Slo (W * H) s) (ho : o < W * H) (ht : t < W * H) :
    ∃ τ D, f_X6_leastTime x1 (N4 o) (N4 t) σ = some (Z8 (dist W (W * H) s o t), τ) ∧ Fz csI csL σ τ ∧ LR W (W * H) s o t τ D := by
  have hU : UNR = 1152921504606846976 := rfl
  have hK4 : 4 ≤ W * H := Nat.mul_le_mul hW hH
  have hK : W * H ≤ 64 := Nat.mul_le_mul hW8 hH8
  have hC := cert_ex hW hW8 hH hH8 hs ho
  have hLb := cert_bd hW (by omega) hK hs ho hC.1 hC.2.2.1
  generalize hLd : dist W (W * H) s o = L at *
  obtain ⟨σ1, a1, a2, a3⟩ := c_fillL (σ := σ) (v := 1152921504606846976)
  -- the start
  have hF2 : Fz csI csL σ (setI (setI (setL σ1 141 o 0) 142 0 (N4 o)) 140 3 (N4 1)) := ((a2.l rfl).i (by unfold csI; omega)).i (by unfold csI; omega)
  have hW2 : WR (W * H) (setI (setI (setL σ1 141 o 0) 142 0 (N4 o)) 140 3 (N4 1)) (fun _ => o) 1 (fun c => if c = o then 0 else UNR) := by
    refine ⟨mI_e, fun i hi => ?_, fun c hc => ?_⟩
    · obtain rfl : i = 0 := by omega
      rw [mI_p (by omega), mI_e]
    · show (setL σ1 141 o 0).2 141 c = Z8 (if c = o then 0 else UNR)
      by_cases e : c = o
      · rw [e, mL_e, if_pos rfl]; rfl
      · rw [mL_j e, if_neg e, a3 c (by omega)]; rfl
  have hS2 : SI W (W * H) s o L (fun _ => o) 1 (fun c => if c = o then 0 else UNR) (fun _ => false) (fun _ => false) := by
    refine ⟨fun i _ => ⟨ho, rfl⟩, fun i j hi hj _ => by omega, fun c hc => ?_, if_pos rfl, fun c hc => ?_, fun c hc hr => ?_, fun a _ h => (nomatch h), fun a b _ _ h => (nomatch h)⟩
    · show (if c = o then 0 else UNR) ≠ UNR ↔ _
      by_cases e : c = o
      · rw [if_pos e]; exact ⟨fun _ => Or.inr ⟨0, by omega, e.symm⟩, fun _ => by omega⟩
      · rw [if_neg e]; exact ⟨fun h => absurd rfl h, fun h => h.elim (fun x => nomatch x) (fun ⟨i, _, x⟩ => absurd x.symm e)⟩
    · show 0 ≤ (if c = o then 0 else UNR) ∧ (if c = o then 0 else UNR) ≤ UNR ∧ L c ≤ (if c = o then 0 else UNR)
      have := hLb c hc
      by_cases e : c = o
      · rw [if_pos e, e, hC.1]; omega
      · rw [if_neg e]; omega
    · have hr' : (if c = o then 0 else UNR) ≠ UNR := hr
      show (if c = o then 0 else UNR) ≤ _
      by_cases e : c = o
      · rw [if_pos e]; omega
      · rw [if_neg e] at hr'; exact absurd rfl hr'
  obtain ⟨τ, b1, b2, b3⟩ := loopB (fun n i τ => f_X6_leastTime_32 x1 (N4 t) n (N4 i) τ) (W * H)
    (fun i τ => Fz csI csL σ τ ∧ ∃ q k D X, WR (W * H) τ q k D ∧ SI W (W * H) s o L q k D X X ∧ cnt X (W * H) = i ∧ X t = false)
    (fun τ => Fz csI csL σ τ ∧ ∃ D : Nat → Int, D t = L t ∧ ∀ c, c < W * H → τ.2 141 c = Z8 (D c) ∧ 0 ≤ D c ∧ D c ≤ UNR ∧ L c ≤ D c ∧ (L c ≤ L t → D c = L c)) (by
      intro n i τ hi hP
      obtain ⟨p1, q, k, D, X, w, S, pc, pt⟩ := hP
      have hGt : Grd τ W H := ⟨by rw [p1.1 8 0 (by unfold csI; omega)]; exact hG.1, fun c hc => ⟨by rw [p1.1 9 c (by unfold csI; omega)]; exact (hG.2 c hc).1, fun j hj => by
        rw [p1.1 (11 + 1 * c) j (by unfold csI; omega), p1.1 (76 + 1 * c) j (by unfold csI; omega)]; exact (hG.2 c hc).2 j hj⟩⟩
      have hvt : ∀ c, c < W * H → τ.1 x1 c = N4 (v c) ∧ s c = (v c : Int) := fun c hc => ⟨by rw [p1.1 x1 c (by unfold csI; rcases hx1 with e | e | e <;> omega)]; exact (hv c hc).1, (hv c hc).2⟩
      obtain ⟨S1, S2, S3, S4, S5, S6, S7, S8⟩ := S
      have hcx := cnt_le X (W * H)
      have hiK : i < W * H := by
        rcases Nat.lt_or_ge i (W * H) with e | e
        · exact e
        · have := cnt_all (d := X) (K := W * H) (by omega) t ht
          rw [pt] at this; cases this
      have hk1 : 1 ≤ k := by
        rcases Nat.lt_or_ge 0 k with e | e
        · exact e
        · have hX : ∀ c, c < W * H → D c ≠ UNR → X c = true := fun c hc hr => by
            rcases (S3 c hc).mp hr with x | ⟨i, i1, -⟩
            · exact x
            · omega
          have := conn hW (by omega) hK (P := fun c => X c = true) (fun a b ha hb hm hXa => hX b hb (by
            have h1 := S6 a ha ((S3 a ha).mpr (Or.inl hXa))
            have h2 := S7 a ha hXa b hb hm
            have h3 := wt_bd hs ha hb hm
            omega)) ho (hX o ho (by omega)) t ht
          rw [pt] at this; cases this
      have hkK : k ≤ W * H := inj_bd (fun i hi => (S1 i hi).1) S2
      obtain ⟨p, ρ, r1, r2, r3, r4, r5⟩ := c_nearest w hK hk1 hkK (fun i hi => (S1 i hi).1) (fun c hc => ⟨(S5 c hc).1, (S5 c hc).2.1⟩)
      obtain ⟨x1', x2'⟩ := S1 p r2
      have S' := si_pop ⟨S1, S2, S3, S4, S5, S6, S7, S8⟩ r2 r3
      have hord : ∀ a, a < W * H → X a = true → D a ≤ D (q p) := fun a ha hXa => S8 a (q p) ha x1' hXa x2'
      have hDx : D (q p) ≠ UNR := (S3 _ x1').mpr (Or.inr ⟨p, r2, rfl⟩)
      have hu : f_X6_leastTime_32 x1 (N4 t) (n + 1) (N4 i) τ = if N4 (q p) = N4 t then some ρ else bd (f_X6_reachNeighbours x1 (N4 (q p)) ρ) (fun q6 => f_X6_leastTime_32 x1 (N4 t) n (N4 (i + 1)) q6) := by
        rw [f_X6_leastTime_32, hGt.1, if_neg (fun e => by have := (n4_le (by omega) (by omega)).mp e; omega), w.1, if_neg (show ¬ N4 k ≤ 0 from fun e => by have := (n4_le (b := 0) (by omega) (by omega)).mp e; omega), r1, bd_s, n4_succ]
      by_cases e : q p = t
      · refine Or.inl ⟨ρ, ?_, p1.trans r4, D, ?_⟩
        · show f_X6_leastTime_32 x1 (N4 t) (n + 1) (N4 i) τ = _
          rw [hu, if_pos (by rw [e])]
        · obtain ⟨d1, d2⟩ := si_done hs hC S' x1' hord ho
          rw [e] at d1 d2
          exact ⟨d1, fun c hc => ⟨r5.2.2 c hc, (S5 c hc).1, (S5 c hc).2.1, (S5 c hc).2.2, d2 c hc⟩⟩
      · have hGr : Grd ρ W H := ⟨by rw [r4.1 8 0 (by unfold csI; omega)]; exact hGt.1, fun c hc => ⟨by rw [r4.1 9 c (by unfold csI; omega)]; exact (hGt.2 c hc).1, fun j hj => by
          rw [r4.1 (11 + 1 * c) j (by unfold csI; omega), r4.1 (76 + 1 * c) j (by unfold csI; omega)]; exact (hGt.2 c hc).2 j hj⟩⟩
        have hvr : ∀ c, c < W * H → ρ.1 x1 c = N4 (v c) ∧ s c = (v c : Int) := fun c hc => ⟨by rw [r4.1 x1 c (by unfold csI; rcases hx1 with e | e | e <;> omega)]; exact (hvt c hc).1, (hv c hc).2⟩
        obtain ⟨μ, q', k', D', u1, u2, u3, u4⟩ := c_reach hGr hW hW8 hH8 hK hx1 hvr hs hC.2.2.1 r5 S' x1' x2' hord hDx ho
        refine Or.inr ⟨hiK, μ, ?_, (p1.trans r4).trans u2, q', k', D', setD X (q p), u3, u4, by rw [cnt_setD x2' _ x1', pc], ?_⟩
        · show f_X6_leastTime_32 x1 (N4 t) (n + 1) (N4 i) τ = f_X6_leastTime_32 x1 (N4 t) n (N4 (i + 1)) μ
          rw [hu, if_neg (fun y => e ((n4_eq (by omega) (by omega)).mp y)), u1, bd_s]
        · unfold setD; rw [if_neg (fun y => e y.symm)]; exact pt) 100000 0 _ (by omega) (by omega) ⟨hF2, _, 1, _, _, hW2, hS2, cnt_false _, rfl⟩
  obtain ⟨D, d1, d2⟩ := b3
  have b1' : f_X6_leastTime_32 x1 (N4 t) 100000 0 (setI (setI (setL σ1 141 o 0) 142 0 (N4 o)) 140 3 1) = some τ := b1
  refine ⟨τ, D, ?_, b2, ?_⟩
  · unfold f_X6_leastTime
    rw [a1, bd_s, gd_inb (by omega) (by omega), n4_nat (by omega), show (0 : Int32).toNatClampNeg = 0 from rfl, b1', bd_s, gd_inb (by omega) (by omega), n4_nat (by omega), (d2 t ht).1, d1]
  · unfold LR
    rw [hLd]
    exact d2
theorem nbs_lt (W K c : Nat) {i j : Nat} (hij : i < j) (hj : j < (nbs W K c).length) : (nbs W K c).getD i 0 < (nbs W K c).getD j 0 := by
  have h : (nbs W K c).Pairwise (· < ·) := List.Pairwise.filter _ List.pairwise_lt_range
  have hi : i < (nbs W K c).length := by omega
  have := List.pairwise_iff_getElem.mp h i j hi hj hij
  rw [List.getD_eq_getElem?_getD, List.getElem?_eq_getElem hi, List.getD_eq_getElem?_getD, List.getElem?_eq_getElem hj]
  exact this
theorem c_before {x1 o t c : Nat} {s D : Nat → Int} {v : Nat → Nat} (hG : Grd σ W H) (hW : 2 ≤ W) (hW8 : W ≤ 8) (hH : 2 ≤ H) (hH8 : H ≤ 8) (hx1 : SlP x1) (hv : ∀ c, c < W * H → σ.1 x1 c = N4 (v c) ∧ s c = (v c : Int)) (hs : Slo (W * H) s) (ho : o < W * H) (ht : t < W * H) (hR : LR W (W * H) s o t σ D) (hc : c < W * H) (hco : c ≠ o) (hct : dist W (W * H) s o c ≤ dist W (W * H) s o t) :
    ∃ j, f_X6_placeBefore x1 (N4 c) σ = some (N4 j) ∧ j < 8 ∧ j < (nbs W (W * H) c).length ∧ (nbs W (W * H) c).getD j 0 = prv W (W * H) s (dist W (W * H) s o) c := by
  have hU : UNR = 1152921504606846976 := rfl
  have hK4 : 4 ≤ W * H := Nat.mul_le_mul hW hH
  have hK : W * H ≤ 64 := Nat.mul_le_mul hW8 hH8
  have hC := cert_ex hW hW8 hH hH8 hs ho
  have hLb := cert_bd hW (by omega) hK hs ho hC.1 hC.2.2.1
  obtain ⟨g1, g2⟩ := hG.2 c hc
  obtain ⟨b1, b2⟩ := sh_nb c (by omega)
  obtain ⟨z1, z2⟩ := hx1.ok
  have hlen := nbs_len W (by omega) H (by omega) c (by omega) hW
  unfold LR at hR
  generalize hLd : dist W (W * H) s o = L at *
  obtain ⟨p1, p2, p3, p4⟩ := prv_spec hC hc hco
  obtain ⟨j, j1, j2⟩ := mem_getD (nbs_mem.mpr ⟨p1, by rw [mv_comm]; exact p2⟩ : prv W (W * H) s L c ∈ nbs W (W * H) c)
  have lbl : ∀ b, b < W * H → mv W b c ≠ 0 → (D b + wt W s b c = D c ↔ L b + wt W s b c = L c) := fun b hb hm => by
    obtain ⟨-, u1, u2, u3, u4⟩ := hR b hb
    obtain ⟨-, w1, w2, w3, w4⟩ := hR c hc
    have hw := wt_bd hs hb hc hm
    have hDc : D c = L c := w4 hct
    by_cases e : L b ≤ L t
    · rw [u4 e, hDc]
    · constructor <;> intro y <;> omega
  refine ⟨j, ?_, by omega, j1, j2⟩
  have step : ∀ n i, i < (nbs W (W * H) c).length → f_X6_placeBefore_2 x1 (N4 c) σ (n + 1) (N4 i) = if D ((nbs W (W * H) c).getD i 0) + wt W s ((nbs W (W * H) c).getD i 0) c = D c then some (.inl (N4 i)) else f_X6_placeBefore_2 x1 (N4 c) σ n (N4 (i + 1)) := fun n i hi => by
    obtain ⟨n1, n2⟩ := nbs_get hi
    obtain ⟨m1, m2⟩ := g2 i hi
    generalize hb : (nbs W (W * H) c).getD i 0 = b at *
    have hmv : mv W c b < 2000 := by rcases mv_cases W c b with e | e | e <;> omega
    have hvb : ∀ c, c < W * H → v c ≤ 100000 := fun c hc => by have h1 := (hs c hc).2; rw [(hv c hc).2] at h1; omega
    have v1 := hvb c hc
    have v2 := hvb b n1
    have hw := wt_bd hs hc n1 n2
    have db := hR b n1
    have dc := hR c hc
    have etm : Z8 (D b) + (N4 (mv W c b)).toInt64 * (N4 (v c) + N4 (v b)).toInt64 = Z8 (D b + wt W s b c) := by
      rw [n4_add, n4_64 (by omega), n4_64 (by omega), z8_n, z8_n, z8_mul, z8_add, wt_comm]
      unfold wt
      rw [(hv c hc).2, (hv b n1).2]
      congr 1
    rw [f_X6_placeBefore_2, gd_inb (by omega) (by omega), n4_nat (by omega), g1, if_neg (fun e => by have := (n4_le (by omega) (by omega)).mp e; omega), gd_inb (by omega) (by omega), gd_t b1.1, b1.2, gd_inb (by omega) (by omega), gd_inb (by omega) (by omega), gd_t b2.1, b2.2, gd_inb (by omega) (by omega), gd_t z1, z2, gd_inb (by omega) (by omega), gd_t (by rw [← z2]; exact z1), n4_nat (by omega), m1, gd_inb (by omega) (by omega), gd_inb (by omega) (by omega), gd_inb (by omega) (by omega), n4_nat (by omega), m2, db.1, dc.1, (hv c hc).1, (hv b n1).1, etm, n4_succ]
    rw [wt_comm] at hw
    have hzq : (Z8 (D b + wt W s b c) = Z8 (D c)) ↔ (D b + wt W s b c = D c) := z8_eq (by omega) (by omega) (by omega) (by omega)
    by_cases e : D b + wt W s b c = D c
    · rw [if_pos (hzq.mpr e), if_pos e]
    · rw [if_neg (fun y => e (hzq.mp y)), if_neg e]
  have key := loopF (α := Unit) (fun n i _ => f_X6_placeBefore_2 x1 (N4 c) σ n (N4 i)) j (fun _ => ()) (.inl (N4 j)) (fun n => by
      show f_X6_placeBefore_2 x1 (N4 c) σ (n + 1) (N4 j) = _
      rw [step n j j1, j2, if_pos ((lbl _ p1 p2).mpr p3)]) (fun n i hi => by
      show f_X6_placeBefore_2 x1 (N4 c) σ (n + 1) (N4 i) = f_X6_placeBefore_2 x1 (N4 c) σ n (N4 (i + 1))
      have hi' : i < (nbs W (W * H) c).length := by omega
      obtain ⟨n1, n2⟩ := nbs_get hi'
      have hlt := nbs_lt W (W * H) c hi j1
      rw [j2] at hlt
      have := p4 _ hlt
      simp only [prP, decide_eq_false_iff_not] at this
      rw [mv_comm] at n2
      rw [step n i hi', if_neg (fun y => this ⟨n2, (lbl _ n1 n2).mp y⟩)]) 100000 0 (by omega) (by omega)
  have key' : f_X6_placeBefore_2 x1 (N4 c) σ 100000 0 = some (.inl (N4 j)) := key
  unfold f_X6_placeBefore
  rw [key', bd_s]
  rfl
end LEAST
