/-! ===== the class's changes ===== -/
theorem fstN_congr {p q : Nat → Bool} : ∀ k i, (∀ j, i ≤ j → j < i + k → p j = q j) → fstN p k i = fstN q k i
  | 0, _, _ => rfl
  | k + 1, i, h => by
    unfold fstN
    rw [h i (Nat.le_refl i) (by omega), fstN_congr k (i + 1) (fun j a b => h j (by omega) (by omega))]
theorem pth_congr {W K : Nat} {s s' : Nat → Int} {L : Nat → Int} {o : Nat} (hq : ∀ c, c < K → s' c = s c) (hC : Cert W K s o L) : ∀ f c, c < K → pth W K s' L o f c = pth W K s L o f c
  | 0, _, _ => rfl
  | f + 1, c, hc => by
    unfold pth
    by_cases e : c = o
    · rw [if_pos e, if_pos e]
    · have hp : prv W K s' L c = prv W K s L c := fstN_congr K 0 (fun j _ hj => by
        unfold prP wt
        rw [hq j (by omega), hq c hc])
      rw [if_neg e, if_neg e, hp, pth_congr hq hC f _ (prv_spec hC hc e).1]
section CCHG
variable {σ : Mem} {W H n : Nat} {m m' : Nat → Int64}
theorem way_congr {r : Nat} (hV : Val m W H n) (hr : r < n) (h8 : ∀ c, c < 64 → m' (8 + c) = m (8 + c)) (h136 : m' (136 + 4 * r) = m (136 + 4 * r)) (h137 : m' (137 + 4 * r) = m (137 + 4 * r)) : wlr m' W H r = wlr m W H r ∧ wtm m' W H r = wtm m W H r := by
  have hK := hV.1.K
  obtain ⟨o1, o2, o3⟩ := hV.2.2.2.1.lt hV.1 hr
  have hC := wlr_cert hV hr
  have hq : ∀ c, c < W * H → slw m' 8 c = slw m 8 c := slw_of (fun c hc => h8 c (by omega))
  have hd : dsl m' W H 8 (frc m W r) = dsl m W H 8 (frc m W r) := dist_congr hq
  have hf : frc m' W r = frc m W r := frc_of h136
  have ht : toc m' W r = toc m W r := toc_of h137
  unfold wlr wtm
  rw [hf, ht, hd]
  exact ⟨pth_congr hq hC 64 _ o2, rfl⟩
theorem wln_congr {r c : Nat} (h : wlr m' W H r = wlr m W H r) : wln m' W H r c = wln m W H r c := by unfold wln; rw [h]
theorem cw_congr {r : Nat} (h1 : wlr m' W H r = wlr m W H r) (h2 : wtm m' W H r = wtm m W H r) (h : CW σ m W H r) : CW σ m' W H r := by
  obtain ⟨a, b, c, d⟩ := h
  refine ⟨a.trans h2.symm, by rw [h1]; exact b, by rw [h1]; exact c, fun x hx => by rw [wln_congr h1]; exact d x hx⟩
/-- the ways known stay, if neither slownesses nor rows of rays change -/
theorem cch_congr (hV : Val m W H n) (h8 : ∀ c, c < 64 → m' (8 + c) = m (8 + c)) (hR : ∀ r, r < n → m' (136 + 4 * r) = m (136 + 4 * r) ∧ m' (137 + 4 * r) = m (137 + 4 * r)) (h : Cch σ m W H n) : Cch σ m' W H n := fun r hr hk => by
  obtain ⟨a, b⟩ := way_congr hV hr h8 (hR r hr).1 (hR r hr).2
  exact cw_congr a b (h r hr hk)
theorem cch_0 (h : ∀ r, r < 16 → σ.1 144 r = 0) (hn : n ≤ 16) : Cch σ m W H n := fun r hr hk => absurd (h r (by omega)) hk
theorem cch_of {τ : Mem} (h : Cch σ m W H n) (hI : ∀ q, 144 ≤ q → q ≤ 181 → τ.1 q = σ.1 q) (hL : τ.2 146 = σ.2 146) (hn : n ≤ 16) : Cch τ m W H n := fun r hr hk => by
  rw [hI 144 (by omega) (by omega)] at hk
  exact (h r hr hk).of (by rw [hL]) (by rw [hI 147 (by omega) (by omega)]) (hI _ (by omega) (by omega)) (hI _ (by omega) (by omega))
/-- what the class's changes write: the present State, the grid, scratch -/
def ckI (q _j : Nat) : Prop := q < 189
abbrev Fk := Fz ckI ckI
theorem Fc.k {τ : Mem} (h : Fc σ τ) : Fk σ τ := Fz.mono h (fun q j => by unfold cqI ckI; omega) (fun q j => by unfold cqI ckI; omega)
def mFx (m fr : Nat → Int64) (x K : Nat) : Nat → Int64 := fun j => if x ≤ j ∧ j < x + K then fr (j - x) else m j
theorem c_cellsR {τ : Mem} (h : CS σ m W H n) (e : τ.1 1 = σ.1 1) : f_X7_cellCount τ = some (N4 (W * H)) := by
  obtain ⟨h1, h2, h3⟩ := cs_W h
  unfold f_X7_cellCount
  rw [e, h1, h2, n4_mul]
theorem i64_inj {a b : Int32} : a.toInt64 = b.toInt64 ↔ a = b := ⟨fun h => by rw [← Int32.toInt32_toInt64 a, h, Int32.toInt32_toInt64], fun h => by rw [h]⟩
theorem sh_23 : shA 2 1 (aln 2) = true ∧ aln 2 = 64 ∧ shA 3 1 (aln 3) = true ∧ aln 3 = 64 := by decide +kernel
theorem c_takeOver {x x1 : Nat} {fr : Nat → Int64} (hx : (x = 8 ∧ x1 = 2) ∨ (x = 72 ∧ x1 = 3)) (h : CS σ m W H n) (hf : ∀ c, c < W * H → fr c = (σ.1 184 c).toInt64) (hV' : Val (mFx m fr x (W * H)) W H n) :
    ∃ τ, f_X1_takeOver x1 σ = some (N4 (chg m (mFx m fr x (W * H)) x (W * H)), τ) ∧ CS τ (mFx m fr x (W * H)) W H n ∧ Fk σ τ := by
  have hK := h.1.1.K
  have hn := h.1.1.2.2.2.2.2.2.2
  have hsh : shA x1 1 (aln x1) = true ∧ aln x1 = 64 := by
    rcases hx with ⟨-, rfl⟩ | ⟨-, rfl⟩
    · exact ⟨sh_23.1, sh_23.2.1⟩
    · exact sh_23.2.2
  have hm : ∀ c, c < 64 → m (x + c) = (σ.1 x1 c).toInt64 := fun c hc => by
    rcases hx with ⟨rfl, rfl⟩ | ⟨rfl, rfl⟩
    · exact (h.2.1.2.2.2.1 c hc).1
    · exact (h.2.1.2.2.2.1 c hc).2
  have hm' : ∀ c, c < W * H → mFx m fr x (W * H) (x + c) = (σ.1 184 c).toInt64 := fun c hc => by
    unfold mFx
    rw [if_pos (by omega), Nat.add_sub_cancel_left]; exact hf c hc
  generalize hmd : mFx m fr x (W * H) = m' at *
  have hout : ∀ j, ¬ (x ≤ j ∧ j < x + W * H) → m' j = m j := fun j hj => by rw [← hmd]; exact if_neg hj
  obtain ⟨⟨q1, τ⟩, a1, a2, a3, a4, a5⟩ := loopU (fun k i (a : Int32 × Mem) => f_X1_takeOver_4 x1 k a.1 (N4 i) a.2) (W * H)
    (fun i a => a.1 = N4 (chg m m' x i) ∧ (∀ q, q ≠ x1 → a.2.1 q = σ.1 q) ∧ a.2.2 = σ.2 ∧ ∀ c, c < 64 → a.2.1 x1 c = if c < i then σ.1 184 c else σ.1 x1 c)
    (fun a => a.1 = N4 (chg m m' x (W * H)) ∧ (∀ q, q ≠ x1 → a.2.1 q = σ.1 q) ∧ a.2.2 = σ.2 ∧ ∀ c, c < 64 → a.2.1 x1 c = if c < W * H then σ.1 184 c else σ.1 x1 c) (by
      rintro k ⟨a, τ⟩ ⟨p1, p2, p3, p4⟩
      refine ⟨(a, τ), ?_, p1, p2, p3, p4⟩
      show f_X1_takeOver_4 x1 (k + 1) a (N4 (W * H)) τ = some (a, τ)
      rw [f_X1_takeOver_4, c_cellsR h (p2 1 (by omega)), bd_s, if_pos ((n4_le (by omega) (by omega)).mpr (Nat.le_refl _))]) (by
      rintro k i ⟨a, τ⟩ hi ⟨p1, p2, p3, p4⟩
      have p1' : a = N4 (chg m m' x i) := p1
      have e1 : τ.1 x1 i = σ.1 x1 i := by have := p4 i (by omega); rw [if_neg (Nat.lt_irrefl i)] at this; exact this
      have e2 : τ.1 184 = σ.1 184 := p2 184 (by omega)
      have hs : chg m m' x (i + 1) = chg m m' x i + if (!decide (m (x + i) = m' (x + i))) = true then 1 else 0 := rfl
      have hq : (m (x + i) = m' (x + i)) ↔ σ.1 x1 i = σ.1 184 i := by rw [hm i (by omega), hm' i hi, i64_inj]
      show ∃ a' : Int32 × Mem, f_X1_takeOver_4 x1 (k + 1) a (N4 i) τ = _ ∧ _
      rw [f_X1_takeOver_4, c_cellsR h (p2 1 (by omega)), bd_s, if_neg (fun q => by have := (n4_le (by omega) (by omega)).mp q; omega), gd_t hsh.1, hsh.2, gd_inb (by omega) (by omega), gd_inb (by omega) (by omega), gd_inb (by omega) (by omega), gd_t (by rw [← hsh.2]; exact hsh.1), gd_inb (by omega) (by omega), n4_nat (by omega), e1, e2, n4_succ]
      by_cases c : σ.1 x1 i = σ.1 184 i
      · rw [if_pos c]
        refine ⟨(a, τ), rfl, ?_, p2, p3, fun d hd => ?_⟩
        · show a = _
          rw [p1', hs, if_neg (by rw [decide_eq_true (hq.mpr c)]; decide)]; rfl
        · show τ.1 x1 d = _
          rw [p4 d hd]
          by_cases e : d = i
          · rw [e, if_neg (by omega), if_pos (by omega), c]
          · by_cases e2 : d < i
            · rw [if_pos e2, if_pos (by omega)]
            · rw [if_neg e2, if_neg (by omega)]
      · rw [if_neg c]
        refine ⟨(a + 1, setI τ x1 i (σ.1 184 i)), rfl, ?_, fun q hq => ?_, p3, fun d hd => ?_⟩
        · show a + 1 = _
          rw [p1', n4_succ, hs, if_pos (by rw [decide_eq_false (fun y => c (hq.mp y))]; rfl)]
        · show (setI τ x1 i (σ.1 184 i)).1 q = _
          rw [mI_p hq]; exact p2 q hq
        · show (setI τ x1 i (σ.1 184 i)).1 x1 d = _
          by_cases e : d = i
          · rw [e, mI_e, if_pos (by omega)]
          · rw [mI_j e, p4 d hd]
            by_cases e2 : d < i
            · rw [if_pos e2, if_pos (by omega)]
            · rw [if_neg e2, if_neg (by omega)]) 100000 0 (N4 0, σ) (by omega) (by omega) ⟨rfl, fun _ _ => rfl, rfl, fun c hc => by rw [if_neg (by omega)]⟩
  obtain rfl : q1 = _ := a2
  have a1' : f_X1_takeOver_4 x1 100000 0 0 σ = _ := a1
  have a3' : ∀ q, q ≠ x1 → τ.1 q = σ.1 q := a3
  have a4' : τ.2 = σ.2 := a4
  have a5' : ∀ c, c < 64 → τ.1 x1 c = if c < W * H then σ.1 184 c else σ.1 x1 c := a5
  obtain ⟨ρ, b1, b2, b3, b4⟩ := c_forget (σ := τ)
  have hx12 : x1 = 2 ∨ x1 = 3 := by omega
  have eI : ∀ q, q ≠ x1 → q ≠ 144 → ρ.1 q = σ.1 q := fun q h1 h2 => (b2 q h2).trans (a3' q h1)
  have eX : ∀ c, c < 64 → (m' (x + c)) = (ρ.1 x1 c).toInt64 := fun c hc => by
    rw [b2 x1 (by omega), a5' c hc]
    by_cases e : c < W * H
    · rw [if_pos e]; exact hm' c e
    · rw [if_neg e, hout _ (by omega)]; exact hm c hc
  refine ⟨ρ, ?_, ⟨hV', ?_, ?_, cch_0 b4 hn⟩, ⟨fun q j hq => by rw [eI q (fun e => hq (by unfold ckI; omega)) (fun e => hq (by unfold ckI; omega))], fun q j _ => by rw [b3, a4']⟩⟩
  · unfold f_X1_takeOver
    rw [a1', bd_s, b1, bd_s]
  · obtain ⟨s1, s2, s3, s4, s5⟩ := h.2.1
    refine ⟨fun j hj => ?_, ?_, ?_, fun c hc => ?_, fun r hr => ?_⟩
    · rw [hout j (by omega), eI 1 (by omega) (by omega)]; exact s1 j hj
    · rw [hout 6 (by omega), b3, a4']; exact s2
    · rw [hout 7 (by omega), eI 1 (by omega) (by omega)]; exact s3
    · rcases hx with ⟨rfl, rfl⟩ | ⟨rfl, rfl⟩
      · exact ⟨eX c hc, by rw [hout _ (by omega), eI 3 (by omega) (by omega)]; exact (s4 c hc).2⟩
      · exact ⟨by rw [hout _ (by omega), eI 2 (by omega) (by omega)]; exact (s4 c hc).1, eX c hc⟩
    · rw [hout _ (by omega), hout _ (by omega), hout _ (by omega), hout _ (by omega), eI 4 (by omega) (by omega), eI 5 (by omega) (by omega), eI 7 (by omega) (by omega), b3, a4']
      exact s5 r hr
  · exact h.2.2.1.of (fun q _ _ => eI q (by omega) (by omega)) hK.2
/-! slope -/
theorem c_clamp (v : Int64) (lo hi : Int32) : ∃ r, f_X11_clamped v lo hi σ = some r ∧ r.toInt64 = held8 v lo.toInt64 hi.toInt64 := by
  unfold f_X11_clamped held8
  by_cases h1 : lo.toInt64 ≤ v
  · rw [if_pos h1, if_pos h1]
    by_cases h2 : v ≤ hi.toInt64
    · rw [if_pos h2, if_pos h2]
      refine ⟨_, rfl, ?_⟩
      rw [Int64.le_iff_toInt_le, Int32.toInt_toInt64] at h1 h2
      have l1 := lo.le_toInt
      have l2 := hi.toInt_lt
      apply Int64.toInt.inj
      rw [Int32.toInt_toInt64, Int64.toInt_toInt32]
      exact Int.bmod_eq_of_le (by omega) (by omega)
    · rw [if_neg h2, if_neg h2]; exact ⟨_, rfl, rfl⟩
  · rw [if_neg h1, if_neg h1]; exact ⟨_, rfl, rfl⟩
theorem mulb {y : Int} {i : Nat} (h1 : -10000 ≤ y) (h2 : y ≤ 10000) (hi : i ≤ 7) : -70000 ≤ y * i ∧ y * i ≤ 70000 := by
  have : i = 0 ∨ i = 1 ∨ i = 2 ∨ i = 3 ∨ i = 4 ∨ i = 5 ∨ i = 6 ∨ i = 7 := by omega
  rcases this with rfl | rfl | rfl | rfl | rfl | rfl | rfl | rfl <;> constructor <;> omega
theorem lin64 {x y z : Int32} {i j : Nat} (hx : 1 ≤ x.toInt ∧ x.toInt ≤ 100000) (hy : -10000 ≤ y.toInt ∧ y.toInt ≤ 10000) (hz : -10000 ≤ z.toInt ∧ z.toInt ≤ 10000) (hi : i ≤ 7) (hj : j ≤ 7) : (x + y * N4 i + z * N4 j).toInt64 = x.toInt64 + y.toInt64 * N8 i + z.toInt64 * N8 j := by
  obtain ⟨b1, b2⟩ := mulb hy.1 hy.2 hi
  obtain ⟨b3, b4⟩ := mulb hz.1 hz.2 hj
  have ex : x.toInt64 = Z8 x.toInt := by rw [← Int32.toInt_toInt64 x, z8_of]
  have ey : y.toInt64 = Z8 y.toInt := by rw [← Int32.toInt_toInt64 y, z8_of]
  have ez : z.toInt64 = Z8 z.toInt := by rw [← Int32.toInt_toInt64 z, z8_of]
  have m1 : (y * N4 i).toInt = y.toInt * i := by
    rw [Int32.toInt_mul, n4_int (by omega)]
    exact Int.bmod_eq_of_le (by omega) (by omega)
  have m2 : (z * N4 j).toInt = z.toInt * j := by
    rw [Int32.toInt_mul, n4_int (by omega)]
    exact Int.bmod_eq_of_le (by omega) (by omega)
  have a1 : (x + y * N4 i).toInt = x.toInt + y.toInt * i := by
    rw [Int32.toInt_add, m1]
    exact Int.bmod_eq_of_le (by omega) (by omega)
  have a2 : (x + y * N4 i + z * N4 j).toInt = x.toInt + y.toInt * i + z.toInt * j := by
    rw [Int32.toInt_add, a1, m2]
    exact Int.bmod_eq_of_le (by omega) (by omega)
  apply Int64.toInt.inj
  rw [Int32.toInt_toInt64, a2, ex, ey, ez, z8_n, z8_n, z8_mul, z8_mul, z8_add, z8_add, z8_int (by omega) (by omega)]
end CCHG
