/-! ===== the class finds a way ===== -/
section CFIND
variable {σ : Mem} {W H n : Nat} {m : Nat → Int64}
/-- what tracing writes -/
def ctI (r q j : Nat) : Prop := q = 149 + 1 * r ∨ q = 166 + 1 * r ∨ (q = 147 ∧ j = r)
def cn0 (_q _j : Nat) : Prop := False
theorem c_trace {r o t : Nat} {D : Nat → Int} (h : CS σ m W H n) (hr : r < 16) (ho : o < W * H) (ht : t < W * H) (hR : LR W (W * H) (slw m 8) o t σ D) :
    ∃ τ, f_X9_traceBack (N4 r) (N4 o) (N4 t) σ = some τ ∧ Fz (ctI r) cn0 σ τ ∧ τ.1 147 r = N4 (wayl W (W * H) (slw m 8) (dist W (W * H) (slw m 8) o) o t).length ∧ (∀ i, i < (wayl W (W * H) (slw m 8) (dist W (W * H) (slw m 8) o) o t).length → τ.1 (149 + 1 * r) i = N4 ((wayl W (W * H) (slw m 8) (dist W (W * H) (slw m 8) o) o t).getD i 0)) ∧ ∀ c, c < 64 → τ.1 (166 + 1 * r) c = N4 (lenL W (wayl W (W * H) (slw m 8) (dist W (W * H) (slw m 8) o) o t) (fun _ => 0) c) := by
  have hK := h.1.1.K
  have hW := h.1.1.2.2.2.1
  have hW8 := h.1.1.2.2.2.2.1
  have hH := h.1.1.2.2.2.2.2.1
  have hH8 := h.1.1.2.2.2.2.2.2.1
  have hs := h.1.s8
  have hC := cert_ex hW hW8 hH hH8 hs ho
  obtain ⟨⟨w1, w2⟩, ⟨l1, l2⟩⟩ := sh_way r hr
  have facts := wayl_facts hK.2 hs hC ho
  have hfull := facts t ht
  have hLD : dist W (W * H) (slw m 8) o = dist W (W * H) (slw m 8) o := rfl
  obtain ⟨σ1, a1, a2, a3, a4⟩ := c_fill (σ := σ) (v := 0) l1 l2 (by omega)
  have hF1 : Fz (ctI r) cn0 σ σ1 := ⟨fun q j hq => by rw [a2 q (fun e => hq (Or.inr (Or.inl e)))], fun q j _ => by rw [a3]⟩
  generalize hLg : dist W (W * H) (slw m 8) o = L at *
  generalize hld : wayl W (W * H) (slw m 8) L o t = full at *
  have hlen : full.length ≤ 64 := by have := rk_K (L := L) ht; omega
  have hF2 : Fz (ctI r) cn0 σ (setI σ1 (149 + 1 * r) 0 (N4 t)) := hF1.i (Or.inl rfl)
  have key := loopM (fun q (a : Int32 × Int32 × Mem) => f_X9_traceBack_33 (N4 r) (N4 o) (149 + 1 * r) (166 + 1 * r) q a.1 a.2.1 a.2.2) (fun a => rk (W * H) L a.2.1.toNatClampNeg)
    (fun a => ∃ (c : Nat) (pre : List Nat) (acc : Nat → Nat), c < W * H ∧ a.2.1 = N4 c ∧ L c ≤ L t ∧ full = pre ++ wayl W (W * H) (slw m 8) L o c ∧ Fz (ctI r) cn0 σ a.2.2 ∧ a.1 = N4 (pre.length + 1) ∧ (∀ i, i ≤ pre.length → a.2.2.1 (149 + 1 * r) i = N4 (full.getD i 0)) ∧ (∀ x, x < 64 → a.2.2.1 (166 + 1 * r) x = N4 (acc x)) ∧ lenL W (wayl W (W * H) (slw m 8) L o c) acc = lenL W full (fun _ => 0))
    (fun b => b.1 = N4 full.length ∧ Fz (ctI r) cn0 σ b.2 ∧ (∀ i, i < full.length → b.2.1 (149 + 1 * r) i = N4 (full.getD i 0)) ∧ ∀ c, c < 64 → b.2.1 (166 + 1 * r) c = N4 (lenL W full (fun _ => 0) c)) (by
      rintro q ⟨a1, a2, τ⟩ ⟨c, pre, acc, hc, e1, ec, e2, hF, e3, e4, e5, e6⟩
      obtain rfl : a2 = N4 c := e1
      obtain rfl : a1 = N4 (pre.length + 1) := e3
      have hlc : full.length = pre.length + (wayl W (W * H) (slw m 8) L o c).length := by rw [e2, List.length_append]
      show (∃ b, f_X9_traceBack_33 (N4 r) (N4 o) (149 + 1 * r) (166 + 1 * r) (q + 1) (N4 (pre.length + 1)) (N4 c) τ = some b ∧ _) ∨ (∃ a' : Int32 × Int32 × Mem, f_X9_traceBack_33 (N4 r) (N4 o) (149 + 1 * r) (166 + 1 * r) (q + 1) (N4 (pre.length + 1)) (N4 c) τ = _ ∧ _)
      rw [f_X9_traceBack_33]
      by_cases hco : c = o
      · rw [if_pos (by rw [hco])]
        have hw : wayl W (W * H) (slw m 8) L o c = [o] := by rw [hco]; exact wayl_o
        rw [hw] at hlc e6
        refine Or.inl ⟨_, rfl, ?_, hF, fun i hi => e4 i (by rw [hlc, List.length_singleton] at hi; omega), fun x hx => ?_⟩
        · show N4 (pre.length + 1) = _
          rw [hlc]; rfl
        · show τ.1 (166 + 1 * r) x = _
          rw [e5 x hx, ← e6]
          rfl
      · obtain ⟨p1, p2, p3, -⟩ := prv_spec hC hc hco
        have hpr := prv_rk hs hC hc hco
        have hw := wayl_c hK.2 hs hC hc hco
        have hp4 := (facts _ p1).2.2.2
        have hGt : Grd τ W H := h.2.2.1.of (fun q h1 h2 => hF.rowI (fun j x => by unfold ctI at x; omega)) hK.2
        have hvt : ∀ c, c < W * H → τ.1 2 c = N4 (slw m 8 c).toNat ∧ slw m 8 c = ((slw m 8 c).toNat : Int) := fun c hc => ⟨by rw [hF.1 2 c (by unfold ctI; omega)]; exact (cs_slow h c (by omega)).1, (cs_slow h c (by omega)).2⟩
        have hRt : LR W (W * H) (slw m 8) o t τ D := fun c hc => by rw [hF.2 141 c (by unfold cn0; exact id)]; exact hR c hc
        obtain ⟨j, j1, j2, j3, j4⟩ := c_before (x1 := 2) hGt hW hW8 hH hH8 (Or.inl rfl) hvt hs ho ht hRt hc hco (by rw [hLg]; exact ec)
        rw [hLg] at j4
        obtain ⟨g1, g2⟩ := hGt.2 c hc
        obtain ⟨m1, m2⟩ := g2 j j3
        rw [j4] at m1 m2
        obtain ⟨b1, b2⟩ := sh_nb c (by omega)
        have hm1 : mv W c (prv W (W * H) (slw m 8) L c) < 2000 := by rcases mv_cases W c (prv W (W * H) (slw m 8) L c) with e | e | e <;> omega
        rw [hw, List.length_cons] at hlc
        have hne := mv_ne p2
        rw [if_neg (fun y => hco ((n4_eq (by omega) (by omega)).mp y)), if_neg (show ¬ (64 : Int32) ≤ N4 (pre.length + 1) from fun y => by have := (n4_le (a := 64) (by omega) (by omega)).mp y; omega), j1, bd_s, if_neg (n4_neg (by omega)), gd_inb (by omega) (by omega), n4_nat (by omega), gd_t b1.1, b1.2, gd_inb (by omega) (by omega), gd_inb (by omega) (by omega), gd_t b2.1, b2.2, gd_inb (by omega) (by omega), n4_nat (by omega), m1, m2]
        generalize prv W (W * H) (slw m 8) L c = p at *
        rw [gd_t l1, l2, gd_inb (by omega) (by omega), gd_t (by rw [← l2]; exact l1), gd_inb (by omega) (by omega), gd_t (by rw [← l2]; exact l1), n4_nat (by omega), gd_inb (by omega) (by omega), gd_t (by rw [← l2]; exact l1), gd_inb (by omega) (by omega), bd_s, gd_t w1, w2, gd_inb (by omega) (by omega), e5 c (by omega), n4_add, mI_j hne, e5 p (by omega), n4_add, n4_nat (by omega), n4_succ]
        refine Or.inr ⟨(_, _, _), rfl, ⟨p, pre ++ [c], addL W acc c p, p1, rfl, by omega, ?_, ?_, ?_, ?_, ?_, ?_⟩, ?_⟩
        · rw [e2, hw, List.append_assoc]; rfl
        · exact ((hF.i (Or.inr (Or.inl rfl))).i (Or.inr (Or.inl rfl))).i (Or.inl rfl)
        · show N4 _ = N4 _
          rw [List.length_append]; rfl
        · intro i hi
          rw [List.length_append, List.length_singleton] at hi
          show (setI (setI (setI τ (166 + 1 * r) c _) (166 + 1 * r) p _) (149 + 1 * r) (pre.length + 1) (N4 p)).1 (149 + 1 * r) i = _
          by_cases e : i = pre.length + 1
          · rw [e, mI_e, e2, hw]
            congr 1
            rw [show pre ++ c :: wayl W (W * H) (slw m 8) L o p = (pre ++ [c]) ++ wayl W (W * H) (slw m 8) L o p by rw [List.append_assoc]; rfl, getD_app (by simp)]
            by_cases y : p = o
            · rw [y, wayl_o]; rfl
            · rw [wayl_c hK.2 hs hC p1 y]; rfl
          · rw [mI_j e, mI_p (by omega), mI_p (by omega)]
            exact e4 i (by omega)
        · intro x hx
          show (setI (setI (setI τ (166 + 1 * r) c _) (166 + 1 * r) p _) (149 + 1 * r) (pre.length + 1) (N4 p)).1 (166 + 1 * r) x = _
          rw [mI_p (by omega)]
          unfold addL updN
          by_cases q1 : x = p
          · rw [q1, mI_e, if_pos rfl, if_neg hne, mv_comm]
          · rw [mI_j q1, if_neg q1]
            by_cases q2 : x = c
            · rw [q2, mI_e, if_pos rfl, mv_comm]
            · rw [mI_j q2, if_neg q2]
              exact e5 x hx
        · rw [← e6, hw]
          by_cases y : p = o
          · rw [y, wayl_o]; rfl
          · rw [wayl_c hK.2 hs hC p1 y]; rfl
        · show rk (W * H) L (N4 p).toNatClampNeg < rk (W * H) L c
          rw [n4_nat (by omega)]
          exact hpr.2) 100000 (N4 1, N4 t, setI σ1 (149 + 1 * r) 0 (N4 t)) (by
      show rk (W * H) L (N4 t).toNatClampNeg < 100000
      rw [n4_nat (by omega)]
      have := rk_K (L := L) ht
      omega) ⟨t, [], fun _ => 0, ht, rfl, Int.le_refl _, by rw [hld]; rfl, hF2, rfl, fun i hi => by
        obtain rfl : i = 0 := by simpa using hi
        show (setI σ1 (149 + 1 * r) 0 (N4 t)).1 (149 + 1 * r) 0 = _
        rw [mI_e, ← hld]
        by_cases y : t = o
        · rw [y, wayl_o]; rfl
        · rw [wayl_c hK.2 hs hC ht y]; rfl, fun x hx => by
        show (setI σ1 (149 + 1 * r) 0 (N4 t)).1 (166 + 1 * r) x = _
        rw [mI_p (by omega)]; exact a4 x hx, by rw [hld]⟩
  obtain ⟨⟨q1, τ⟩, b1, b2, b3, b4, b5⟩ := key
  obtain rfl : q1 = N4 full.length := b2
  have b1' : f_X9_traceBack_33 (N4 r) (N4 o) (149 + 1 * r) (166 + 1 * r) 100000 1 (N4 t) (setI σ1 (149 + 1 * r) 0 (N4 t)) = some (N4 full.length, τ) := b1
  refine ⟨setI τ 147 r (N4 full.length), ?_, Fz.i b3 (Or.inr (Or.inr ⟨rfl, rfl⟩)), mI_e, fun i hi => ?_, fun c hc => ?_⟩
  · unfold f_X9_traceBack
    rw [gd_inb (by omega) (by omega), gd_inb (by omega) (by omega), n4_nat (by omega), a1, bd_s, gd_t w1, w2, show (0 : Int32).toNatClampNeg = 0 from rfl, show gd (inb (0 : Int32) 64) = gd (inb (N4 0) 64) from rfl, gd_inb (by omega) (by omega), b1', bd_s, gd_inb (by omega) (by omega)]
  · rw [mI_p (by omega)]; exact b4 i hi
  · rw [mI_p (by omega)]; exact b5 c hc
theorem CW.of {τ ρ : Mem} {r : Nat} (h : CW τ m W H r) (h1 : ρ.2 146 r = τ.2 146 r) (h2 : ρ.1 147 r = τ.1 147 r) (h3 : ρ.1 (149 + 1 * r) = τ.1 (149 + 1 * r)) (h4 : ρ.1 (166 + 1 * r) = τ.1 (166 + 1 * r)) : CW ρ m W H r :=
  ⟨h1.trans h.1, h2.trans h.2.1, fun i hi => by rw [h3]; exact h.2.2.1 i hi, fun c hc => by rw [h4]; exact h.2.2.2 c hc⟩
theorem c_find {r : Nat} (h : CS σ m W H n) (hr : r < n) : ∃ τ, f_X9_find (N4 r) σ = some (wtm m W H r, τ) ∧ Fc σ τ ∧ Cch τ m W H n ∧ CW τ m W H r := by
  have hn := h.1.1.2.2.2.2.2.2.2
  have hK := h.1.1.K
  unfold f_X9_find
  rw [gd_inb (by omega) (by omega), n4_nat (by omega)]
  by_cases hk : σ.1 144 r = 0
  · obtain ⟨o1, o2, o3⟩ := h.1.2.2.2.1.lt h.1.1 hr
    have hS := fun c (hc : c < W * H) => cs_slow h c (show c < 64 by omega)
    obtain ⟨σ1, D, a1, a2, a3⟩ := c_least (x1 := 2) h.2.2.1 h.1.1.2.2.2.1 h.1.1.2.2.2.2.1 h.1.1.2.2.2.2.2.1 h.1.1.2.2.2.2.2.2.1 (Or.inl rfl) hS h.1.s8 o1 o2
    have hF1 : Fc σ σ1 := a2.mono (fun q j => by unfold csI cqI; omega) (fun q j => by unfold csL cqI; omega)
    have hwt : Z8 (dist W (W * H) (slw m 8) (frc m W r) (toc m W r)) = wtm m W H r := rfl
    have hF2 : Fc σ (setL σ1 146 r (wtm m W H r)) := hF1.l (by unfold cqI; omega)
    -- the caches of the others
    have hc2 : Cch (setL σ1 146 r (wtm m W H r)) m W H n := fun q hq hkq => by
      have e144 : (setL σ1 146 r (wtm m W H r)).1 144 q = σ.1 144 q := a2.1 144 q (by unfold csI; omega)
      have hqr : q ≠ r := fun e => by rw [e144, e] at hkq; exact hkq hk
      rw [e144] at hkq
      refine (h.2.2.2 q hq hkq).of ?_ (a2.1 147 q (by unfold csI; omega)) (a2.rowI (fun j => by unfold csI; omega)) (a2.rowI (fun j => by unfold csI; omega))
      rw [mL_j hqr, a2.2 146 q (by unfold csL; omega)]
    have h2 : CS (setL σ1 146 r (wtm m W H r)) m W H n := h.q hF2 hc2
    have hR2 : LR W (W * H) (slw m 8) (frc m W r) (toc m W r) (setL σ1 146 r (wtm m W H r)) D := fun c hc => by rw [mL_p (by omega)]; exact a3 c hc
    obtain ⟨τ, b1, b2, b3, b4, b5⟩ := c_trace h2 (by omega : r < 16) o1 o2 hR2
    obtain ⟨⟨w1, w2⟩, -⟩ := sh_way r (by omega)
    have hwl := wln_bd (c := 0) h.1.1 h.1.2.2.2.1 hr h.1.s8
    have hfl : (wayl W (W * H) (slw m 8) (dist W (W * H) (slw m 8) (frc m W r)) (frc m W r) (toc m W r)) = wlr m W H r := rfl
    rw [hfl] at b3 b4 b5
    obtain ⟨ρ, c1, c2, c3, c4⟩ := c_turn (σ := τ) (x0 := 149 + 1 * r) (k := (wlr m W H r).length) w1 w2 (by omega) hwl.2.1
    rw [if_pos hk, c_source h hr, bd_s, c_receiver h hr, bd_s, a1, bd_s, gd_inb (by omega) (by omega), hwt, b1, bd_s, gd_inb (by omega) (by omega), gd_inb (by omega) (by omega), b3, c1, bd_s, gd_inb (by omega) (by omega), gd_inb (by omega) (by omega)]
    have hF3 : Fc σ (setI ρ 144 r 1) := by
      refine Fz.i ⟨fun q j hq => ?_, fun q j hq => ?_⟩ (by unfold cqI; omega)
      · rw [c2 q (fun e => hq (by unfold cqI; omega)), b2.1 q j (fun e => hq (by unfold ctI at e; unfold cqI; omega))]
        exact hF2.1 q j hq
      · rw [c3, b2.2 q j (by unfold cn0; exact id)]
        exact hF2.2 q j hq
    have hCW : CW (setI ρ 144 r 1) m W H r := by
      refine ⟨?_, ?_, fun i hi => ?_, fun c hc => ?_⟩
      · show ρ.2 146 r = _
        rw [c3, b2.2 146 r (by unfold cn0; exact id), mL_e]
      · rw [mI_p (by omega), c2 147 (by omega)]; exact b3
      · rw [mI_p (by omega), c4 i hi]
        exact b4 _ (by omega)
      · rw [mI_p (by omega), c2 (166 + 1 * r) (by omega)]
        exact b5 c hc
    refine ⟨setI ρ 144 r 1, ?_, hF3, fun q hq hkq => ?_, hCW⟩
    · rw [hCW.1]
    · by_cases e : q = r
      · rw [e]; exact hCW
      · have e144 : (setI ρ 144 r 1).1 144 q = (setL σ1 146 r (wtm m W H r)).1 144 q := by
          rw [mI_j e, c2 144 (by omega), b2.1 144 q (by unfold ctI; omega)]
        rw [e144] at hkq
        refine (hc2 q hq hkq).of ?_ ?_ ?_ ?_
        · show ρ.2 146 q = _
          rw [c3, b2.2 146 q (by unfold cn0; exact id)]
        · rw [mI_p (by omega), c2 147 (by omega), b2.1 147 q (by unfold ctI; omega)]
        · rw [mI_p (by omega), c2 (149 + 1 * q) (by omega), b2.rowI (q := 149 + 1 * q) (fun j x => by unfold ctI at x; omega)]
        · rw [mI_p (by omega), c2 (166 + 1 * q) (by omega), b2.rowI (q := 166 + 1 * q) (fun j x => by unfold ctI at x; omega)]
  · have hw := h.2.2.2 r hr hk
    rw [if_neg hk, gd_inb (by omega) (by omega), hw.1]
    exact ⟨σ, rfl, Fz.rfl, h.2.2.2, hw⟩
end CFIND
