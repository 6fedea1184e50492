/-! ===== the class reads a whole script ===== -/
section CSCR3
variable {σ τ : Mem} {sc : List Nat}
/-- a command as it stands in the class's draft -/
def DCc (τ : Mem) (k : Nat) (c : Nat × Nat × Nat) : Prop := τ.1 221 k = N4 (wOf c.1) ∧ (1 ≤ nmK c.1 → τ.1 222 k = N4 c.2.1) ∧ (nmK c.1 = 2 → τ.1 223 k = N4 c.2.2)
theorem DCc.of {k : Nat} {c : Nat × Nat × Nat} (h : DCc σ k c) (e : τ.1 221 k = σ.1 221 k ∧ τ.1 222 k = σ.1 222 k ∧ τ.1 223 k = σ.1 223 k) : DCc τ k c := by
  unfold DCc
  rw [e.1, e.2.1, e.2.2]
  exact h
theorem wkd_le (sc : List Nat) (i : Nat) : wkd sc i ≤ 8 := by
  unfold wkd; split
  · exact Nat.le_refl _
  · exact kd_le _
theorem c_cmd {i k : Nat} (h : CScr σ sc) (hi : σ.1 219 6 = N4 i) (hl : i ≤ sc.length) (hk : σ.1 219 5 = N4 k) (hk2 : k < 120) :
    ∃ τ, f_X5_readCommand σ = some (if (sCmd sc i).1 = true then -1 else N4 (sCmd sc i).2.1, τ) ∧ Fz csrI noL σ τ ∧ (∀ j, j ≠ k → τ.1 221 j = σ.1 221 j ∧ τ.1 222 j = σ.1 222 j ∧ τ.1 223 j = σ.1 223 j) ∧ ((sCmd sc i).1 = true → τ.1 219 6 = N4 (sCmd sc i).2.1 ∧ τ.1 219 5 = N4 (k + 1) ∧ DCc τ k (sCmd sc i).2.2) := by
  obtain ⟨τ1, a1, a2, a3⟩ := c_letters h hi hl
  have hM := h.p (c6_p a2)
  have h5 : τ1.1 219 5 = N4 k := (a2.1 219 5 (by unfold c6I; omega)).trans hk
  obtain ⟨l1, l2, -⟩ := nLe_s hl h.1
  have r1 : ∀ q, q ≠ 219 → τ1.1 q = σ.1 q := fun q hq => a2.rowI (fun j => by unfold c6I; omega)
  unfold f_X5_readCommand
  rw [a1, bd_s, hi, a3, c_word hM hl, bd_s]
  by_cases q : wkd sc i = 8
  · have hs : (sCmd sc i).1 = false ∧ (sCmd sc i).2.1 = i := by
      unfold sCmd
      rw [if_pos q]
      exact ⟨rfl, rfl⟩
    refine ⟨τ1, ?_, c6_p a2, fun j _ => by rw [r1 221 (by omega), r1 222 (by omega), r1 223 (by omega)]; exact ⟨rfl, rfl, rfl⟩, fun y => by rw [hs.1] at y; cases y⟩
    rw [if_pos q, if_pos (by decide), if_neg (show ¬ (sCmd sc i).1 = true by rw [hs.1]; decide), hs.2]
  · have hlt : wkd sc i < 8 := by have := wkd_le sc i; omega
    obtain ⟨k1, k2⟩ := kOf_w _ hlt
    obtain ⟨τ2, b1, b2, b3, b4⟩ := c_nums hM a3 l2 h5 hk2 k2
    rw [k1] at b1 b4
    obtain ⟨g1, g2⟩ := sNums_s l2 h.1 (nmK (wkd sc i))
    rw [if_neg q, if_neg (n4_nlt (by omega))]
    have goal : (bd (f_X5_readCommand_27 (N4 (wOf (wkd sc i))) 100000 0 τ1) (cTail (N4 (wOf (wkd sc i))))) = (if (sNums sc (nLe sc i) (nmK (wkd sc i))).1 = true then cTail (N4 (wOf (wkd sc i))) (.inr τ2) else some (N4 (sNums sc (nLe sc i) (nmK (wkd sc i))).2.1, τ2)) := b1
    show ∃ τ, (bd (f_X5_readCommand_27 (N4 (wOf (wkd sc i))) 100000 0 τ1) (cTail (N4 (wOf (wkd sc i))))) = _ ∧ _
    rw [goal]
    by_cases y : (sNums sc (nLe sc i) (nmK (wkd sc i))).1 = true
    · obtain ⟨c1, c2, c3, c4⟩ := b4 y
      obtain ⟨τ3, d1, d2, d3, d4, d5, d6⟩ := c_tail (hM.p b2) c2 g2 c1 hk2 k2
      by_cases z : nSp sc (sNums sc (nLe sc i) (nmK (wkd sc i))).2.1 < sc.length ∧ bat sc (nSp sc (sNums sc (nLe sc i) (nmK (wkd sc i))).2.1) = 59
      · have hs : sCmd sc i = (true, nSp sc (sNums sc (nLe sc i) (nmK (wkd sc i))).2.1 + 1, wkd sc i, (sNums sc (nLe sc i) (nmK (wkd sc i))).2.2.1, (sNums sc (nLe sc i) (nmK (wkd sc i))).2.2.2) := by
          unfold sCmd
          rw [if_neg q, if_pos y, if_pos z]
        obtain ⟨e1, e2, e3⟩ := d6 z
        rw [hs]
        refine ⟨τ3, by rw [if_pos y, d1, if_pos z, if_pos rfl], ((c6_p a2).trans b2).trans d2, fun j hj => ?_, fun _ => ⟨e1, e2, e3, fun u => by rw [d4]; exact c3 u, fun u => by rw [d5]; exact c4 u⟩⟩
        rw [d3 j hj, d4, d5, (b3 j hj).1, (b3 j hj).2.1, (b3 j hj).2.2, r1 221 (by omega), r1 222 (by omega), r1 223 (by omega)]
        exact ⟨rfl, rfl, rfl⟩
      · have hs : sCmd sc i = (false, nSp sc (sNums sc (nLe sc i) (nmK (wkd sc i))).2.1, 8, 0, 0) := by
          unfold sCmd
          rw [if_neg q, if_pos y, if_neg z]
        rw [hs]
        refine ⟨τ3, by rw [if_pos y, d1, if_neg z, if_neg (show ¬ false = true by decide)], ((c6_p a2).trans b2).trans d2, fun j hj => ?_, fun u => nomatch u⟩
        rw [d3 j hj, d4, d5, (b3 j hj).1, (b3 j hj).2.1, (b3 j hj).2.2, r1 221 (by omega), r1 222 (by omega), r1 223 (by omega)]
        exact ⟨rfl, rfl, rfl⟩
    · have hs : sCmd sc i = (false, (sNums sc (nLe sc i) (nmK (wkd sc i))).2.1, 8, 0, 0) := by
        unfold sCmd
        rw [if_neg q, if_neg y]
      rw [hs]
      refine ⟨τ2, by rw [if_neg y, if_neg (show ¬ false = true by decide)], (c6_p a2).trans b2, fun j hj => ?_, fun u => nomatch u⟩
      rw [(b3 j hj).1, (b3 j hj).2.1, (b3 j hj).2.2, r1 221 (by omega), r1 222 (by omega), r1 223 (by omega)]
      exact ⟨rfl, rfl, rfl⟩
/-- the commands of a list stand in the draft from k on -/
def DCl (τ : Mem) (k : Nat) (l : List (Nat × Nat × Nat)) : Prop := ∀ j, j < l.length → DCc τ (k + j) (l.getD j (0, 0, 0))
/-- all commands from i on: what parsing does -/
theorem c_all : ∀ (q f i k : Nat) (σ : Mem), CScr σ sc → σ.1 219 6 = N4 i → i ≤ sc.length → σ.1 219 5 = N4 k → 4 * k ≤ i → sc.length < i + 4 * f → sc.length + 4 < i + 4 * q →
    ∃ τ x, f_X5_parse_14 q (-1) (N4 k) σ = some (x, τ) ∧ (x = if (sAll sc f (nSp sc i)).1 = true then -1 else N4 (sAll sc f (nSp sc i)).2.1) ∧ Fz csrI noL σ τ ∧ (∀ j, j < k → τ.1 221 j = σ.1 221 j ∧ τ.1 222 j = σ.1 222 j ∧ τ.1 223 j = σ.1 223 j) ∧ ((sAll sc f (nSp sc i)).1 = true → τ.1 219 5 = N4 (k + (sAll sc f (nSp sc i)).2.2.length) ∧ DCl τ k (sAll sc f (nSp sc i)).2.2)
  | 0, f, i, k, σ, h, hi, hl, hk, h4, hf, hq => by omega
  | q + 1, 0, i, k, σ, h, hi, hl, hk, h4, hf, hq => by omega
  | q + 1, f + 1, i, k, σ, h, hi, hl, hk, h4, hf, hq => by
    have b1 := h.1
    obtain ⟨s1, s2, -⟩ := nSp_s hl h.1
    obtain ⟨τ1, a1, a2, a3⟩ := c_spaces h hi hl
    have hM := h.p (c6_p a2)
    have h5 : τ1.1 219 5 = N4 k := (a2.1 219 5 (by unfold c6I; omega)).trans hk
    have r1 : ∀ q, q ≠ 219 → τ1.1 q = σ.1 q := fun q hq => a2.rowI (fun j => by unfold c6I; omega)
    rw [f_X5_parse_14, if_neg (show ¬ (120 : Int32) ≤ N4 k from fun y => by have := (n4_le (a := 120) (by omega) (by omega)).mp y; omega), if_pos rfl, a1, bd_s]
    dsimp only
    rw [hM.2.2.1, a3]
    by_cases e : nSp sc i < sc.length
    · obtain ⟨c1, c2, c3⟩ := sCmd_s (sc := sc) (i := nSp sc i) h.2.1 s2 h.1
      obtain ⟨τ2, d1, d2, d3, d4⟩ := c_cmd (k := k) hM a3 s2 h5 (by omega)
      rw [if_pos ((n4_lt (by omega) (by omega)).mpr e), d1, bd_s]
      by_cases y : (sCmd sc (nSp sc i)).1 = true
      · obtain ⟨e1, e2, e3⟩ := d4 y
        have c4 := (c3 y).1
        have hs : sAll sc (f + 1) (nSp sc i) = ((sAll sc f (nSp sc (sCmd sc (nSp sc i)).2.1)).1, (sAll sc f (nSp sc (sCmd sc (nSp sc i)).2.1)).2.1, (sCmd sc (nSp sc i)).2.2 :: (sAll sc f (nSp sc (sCmd sc (nSp sc i)).2.1)).2.2) := by
          show (if sc.length ≤ nSp sc i then _ else _) = _
          rw [if_neg (by omega), if_pos y]
        obtain ⟨τ3, x, g1, g2, g3, g4, g5⟩ := c_all q f (sCmd sc (nSp sc i)).2.1 (k + 1) τ2 (hM.p d2) e1 c2 e2 (by omega) (by omega) (by omega)
        rw [hs]
        refine ⟨τ3, x, ?_, g2, ((c6_p a2).trans d2).trans g3, fun j hj => ?_, fun u => ?_⟩
        · rw [if_pos y, n4_succ]; exact g1
        · rw [(g4 j (by omega)).1, (g4 j (by omega)).2.1, (g4 j (by omega)).2.2, (d3 j (by omega)).1, (d3 j (by omega)).2.1, (d3 j (by omega)).2.2, r1 221 (by omega), r1 222 (by omega), r1 223 (by omega)]
          exact ⟨rfl, rfl, rfl⟩
        · obtain ⟨v1, v2⟩ := g5 u
          refine ⟨?_, fun j hj => ?_⟩
          · rw [v1]
            show N4 _ = N4 (k + (_ :: _).length)
            rw [List.length_cons]
            congr 1
            omega
          · match j with
            | 0 => exact e3.of (g4 k (by omega))
            | j + 1 =>
              have := v2 j (by rw [show ((sCmd sc (nSp sc i)).2.2 :: (sAll sc f (nSp sc (sCmd sc (nSp sc i)).2.1)).2.2).length = (sAll sc f (nSp sc (sCmd sc (nSp sc i)).2.1)).2.2.length + 1 from List.length_cons] at hj; omega)
              rw [show k + 1 + j = k + (j + 1) by omega] at this
              exact this
      · have hs : sAll sc (f + 1) (nSp sc i) = (false, (sCmd sc (nSp sc i)).2.1, []) := by
          show (if sc.length ≤ nSp sc i then _ else _) = _
          rw [if_neg (by omega), if_neg y]
        have hq0 : ∃ p, q = p + 1 := ⟨q - 1, by omega⟩
        obtain ⟨p, rfl⟩ := hq0
        rw [hs]
        refine ⟨τ2, N4 (sCmd sc (nSp sc i)).2.1, ?_, by rw [if_neg (show ¬ false = true by decide)], (c6_p a2).trans d2, fun j hj => ?_, fun u => nomatch u⟩
        · rw [if_neg y]
          show f_X5_parse_14 (p + 1) (N4 (sCmd sc (nSp sc i)).2.1) (N4 k + 1) τ2 = _
          rw [f_X5_parse_14, n4_succ]
          by_cases w : (120 : Int32) ≤ N4 (k + 1)
          · rw [if_pos w]
          · rw [if_neg w, if_neg (n4_neg (by omega))]
        · rw [(d3 j (by omega)).1, (d3 j (by omega)).2.1, (d3 j (by omega)).2.2, r1 221 (by omega), r1 222 (by omega), r1 223 (by omega)]
          exact ⟨rfl, rfl, rfl⟩
    · have hs : sAll sc (f + 1) (nSp sc i) = (true, nSp sc i, []) := by
        show (if sc.length ≤ nSp sc i then _ else _) = _
        rw [if_pos (by omega)]
      rw [if_neg (fun y => e ((n4_lt (by omega) (by omega)).mp y)), hs]
      exact ⟨τ1, -1, rfl, by rw [if_pos rfl], c6_p a2, fun j _ => by rw [r1 221 (by omega), r1 222 (by omega), r1 223 (by omega)]; exact ⟨rfl, rfl, rfl⟩, fun _ => ⟨h5, fun j hj => absurd hj (Nat.not_lt_zero j)⟩⟩
theorem c_parse (h : CScr σ sc) : ∃ τ, f_X5_parse σ = some (if (sScr sc).1 = true then -1 else N4 (sScr sc).2.1, τ) ∧ Fz csrI noL σ τ ∧ ((sScr sc).1 = true → τ.1 219 5 = N4 (sScr sc).2.2.length ∧ DCl τ 0 (sScr sc).2.2) := by
  have b1 := h.1
  have F0 : Fz csrI noL σ (setI (setI σ 219 6 0) 219 5 0) := (Fz.rfl.i (by unfold csrI; omega)).i (by unfold csrI; omega)
  obtain ⟨τ, x, a1, a2, a3, a4, a5⟩ := c_all (sc := sc) 100000 200 0 0 (setI (setI σ 219 6 0) 219 5 0) (h.p F0) (by rw [mI_j (by omega), mI_e]; rfl) (Nat.zero_le _) mI_e (by omega) (by omega) (by omega)
  have a1' : f_X5_parse_14 100000 (-1) 0 (setI (setI σ 219 6 0) 219 5 0) = some (x, τ) := a1
  unfold f_X5_parse
  rw [a1', bd_s]
  refine ⟨τ, by rw [a2]; rfl, F0.trans a3, fun y => ?_⟩
  obtain ⟨v1, v2⟩ := a5 y
  rw [Nat.zero_add] at v1
  exact ⟨v1, v2⟩
end CSCR3
