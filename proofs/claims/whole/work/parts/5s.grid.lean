/-! ===== the class lays its grid ===== -/
def hiN (x W : Nat) : Nat := if W - 1 < x + 1 then W - 1 else x + 1
def nbP (W x y y2 : Nat) : Nat → List Nat
  | 0 => []
  | k + 1 => nbP W x y y2 k ++ (if x - 1 + k = x ∧ y2 = y then [] else [W * y2 + (x - 1 + k)])
def nbG (W x y : Nat) : Nat → List Nat
  | 0 => []
  | k + 1 => nbG W x y k ++ nbP W x y (y - 1 + k) (hiN x W + 1 - (x - 1))
theorem nbG_nbs : ∀ W, W < 9 → ∀ H, H < 9 → ∀ c, c < 64 → (2 ≤ W ∧ 2 ≤ H ∧ c < W * H) → nbG W (c % W) (c / W) (hiN (c / W) H + 1 - (c / W - 1)) = nbs W (W * H) c := by decide +kernel
theorem nbP_mono {W x y y2 : Nat} {a : Nat} : ∀ b, a ≤ b → (nbP W x y y2 a).length ≤ (nbP W x y y2 b).length
  | 0, h => by rw [show a = 0 by omega]; exact Nat.le_refl _
  | b + 1, h => by
    by_cases e : a = b + 1
    · rw [e]; exact Nat.le_refl _
    · have := nbP_mono (W := W) (x := x) (y := y) (y2 := y2) (a := a) b (by omega)
      show _ ≤ (nbP W x y y2 b ++ (if x - 1 + b = x ∧ y2 = y then [] else [W * y2 + (x - 1 + b)])).length
      rw [List.length_append]
      omega
theorem nbG_mono {W x y : Nat} {a : Nat} : ∀ b, a ≤ b → (nbG W x y a).length ≤ (nbG W x y b).length
  | 0, h => by rw [show a = 0 by omega]; exact Nat.le_refl _
  | b + 1, h => by
    by_cases e : a = b + 1
    · rw [e]; exact Nat.le_refl _
    · have := nbG_mono (W := W) (x := x) (y := y) (a := a) b (by omega)
      show _ ≤ (nbG W x y b ++ nbP W x y (y - 1 + b) (hiN x W + 1 - (x - 1))).length
      rw [List.length_append]
      omega
theorem hi_n4 {x W : Nat} (hW : 2 ≤ W) (hW8 : W ≤ 8) (hx : x < W) : (if (N4 W - 1) < (N4 x + 1) then (N4 W - 1) else (N4 x + 1)) = N4 (hiN x W) := by
  rw [show N4 W - 1 = N4 (W - 1) from n4_sub (a := W) (b := 1) (by omega), n4_succ]
  unfold hiN
  by_cases e : W - 1 < x + 1
  · rw [if_pos e, if_pos ((n4_lt (by omega) (by omega)).mpr e)]
  · rw [if_neg e, if_neg (fun q => e ((n4_lt (by omega) (by omega)).mp q))]
theorem lo_n4 {x : Nat} (hx : x < 100) : (if (N4 x - 1) < 0 then 0 else (N4 x - 1)) = N4 (x - 1) := by
  by_cases e : x = 0
  · rw [e]; decide
  · rw [show N4 x - 1 = N4 (x - 1) from n4_sub (a := x) (b := 1) (by omega), if_neg (n4_nlt (by omega))]
theorem mv_at {W x y j y2 : Nat} (hx : x < W) (hj : j < W) (h1 : x ≤ j + 1 ∧ j ≤ x + 1) (h2 : y ≤ y2 + 1 ∧ y2 ≤ y + 1) (h : ¬ (j = x ∧ y2 = y)) : mv W (W * y + x) (W * y2 + j) = if j = x ∨ y2 = y then 1000 else 1414 := by
  have a1 : (W * y + x) % W = x := by rw [Nat.mul_add_mod, Nat.mod_eq_of_lt hx]
  have a2 : (W * y2 + j) % W = j := by rw [Nat.mul_add_mod, Nat.mod_eq_of_lt hj]
  have a3 : (W * y + x) / W = y := by rw [Nat.mul_add_div (by omega), Nat.div_eq_of_lt hx, Nat.add_zero]
  have a4 : (W * y2 + j) / W = y2 := by rw [Nat.mul_add_div (by omega), Nat.div_eq_of_lt hj, Nat.add_zero]
  unfold mv
  rw [a1, a2, a3, a4, if_neg (fun e => h ⟨by rw [← a1, e, a2], by rw [← a3, e, a4]⟩), if_pos ⟨by omega, by omega, by omega, by omega⟩]
  by_cases q : x = j ∨ y = y2
  · rw [if_pos q, if_pos (by omega)]
  · rw [if_neg q, if_neg (by omega)]
theorem getD_l {l : List Nat} {b i : Nat} (h : i < l.length) : (l ++ [b]).getD i 0 = l.getD i 0 := by
  rw [List.getD_eq_getElem?_getD, List.getD_eq_getElem?_getD, List.getElem?_append_left h]
theorem getD_r {l : List Nat} {b : Nat} : (l ++ [b]).getD l.length 0 = b := by
  rw [List.getD_eq_getElem?_getD, List.getElem?_append_right (Nat.le_refl _), Nat.sub_self]; rfl
section CGRD
variable {σ : Mem}
def LW (τ : Mem) (W c : Nat) (l : List Nat) : Prop := ∀ i, i < l.length → τ.1 (11 + 1 * c) i = N4 (l.getD i 0) ∧ τ.1 (76 + 1 * c) i = N4 (mv W c (l.getD i 0))
def lcI (c q j : Nat) : Prop := q = 11 + c ∨ q = 76 + c ∨ (q = 9 ∧ j = c)
def noL (_q _j : Nat) : Prop := False
theorem lw_app {τ : Mem} {W c b : Nat} {l : List Nat} (hc : c < 64) (h : LW τ W c l) : LW (setI (setI τ (11 + 1 * c) l.length (N4 b)) (76 + 1 * c) l.length (N4 (mv W c b))) W c (l ++ [b]) := by
  intro i hi
  rw [List.length_append, List.length_singleton] at hi
  by_cases e : i = l.length
  · rw [mI_p (p := 76 + 1 * c) (q := 11 + 1 * c) (by omega), e, mI_e, mI_e, getD_r]
    exact ⟨rfl, rfl⟩
  · rw [mI_p (p := 76 + 1 * c) (q := 11 + 1 * c) (by omega), mI_j e, mI_j e, mI_p (p := 11 + 1 * c) (q := 76 + 1 * c) (by omega), getD_l (by omega)]
    exact h i (by omega)
theorem c_lay43 {W H x y y2 : Nat} {l : List Nat} (hW : 2 ≤ W) (hW8 : W ≤ 8) (hH8 : H ≤ 8) (hx : x < W) (hy : y < H) (hy2 : y2 < H) (h2 : y ≤ y2 + 1 ∧ y2 ≤ y + 1) (hl : (l ++ nbP W x y y2 (hiN x W + 1 - (x - 1))).length ≤ 8) (hc : W * y + x < 64) (h : LW σ W (W * y + x) l) :
    ∃ τ, f_X2_layCell_43 (N4 x) (N4 y) (N4 W) (N4 H) (N4 (W * y + x)) (N4 y2) 100000 (N4 l.length) (N4 (x - 1)) σ = some (N4 (l ++ nbP W x y y2 (hiN x W + 1 - (x - 1))).length, τ) ∧ Fz (lcI (W * y + x)) noL σ τ ∧ LW τ W (W * y + x) (l ++ nbP W x y y2 (hiN x W + 1 - (x - 1))) := by
  have hhi : hiN x W + 1 ≤ W ∧ x ≤ hiN x W ∧ hiN x W ≤ x + 1 := by unfold hiN; split <;> omega
  have hle : W * y2 ≤ 64 := Nat.mul_le_mul hW8 (by omega : y2 ≤ 8)
  obtain ⟨⟨g1, g2⟩, g3, g4⟩ := sh_nb (W * y + x) hc
  have key := loopU (fun k i (a : Int32 × Mem) => f_X2_layCell_43 (N4 x) (N4 y) (N4 W) (N4 H) (N4 (W * y + x)) (N4 y2) k a.1 (N4 i) a.2) (hiN x W + 1) (fun i a => x - 1 ≤ i ∧ a.1 = N4 (l ++ nbP W x y y2 (i - (x - 1))).length ∧ Fz (lcI (W * y + x)) noL σ a.2 ∧ LW a.2 W (W * y + x) (l ++ nbP W x y y2 (i - (x - 1)))) (fun a => a.1 = N4 (l ++ nbP W x y y2 (hiN x W + 1 - (x - 1))).length ∧ Fz (lcI (W * y + x)) noL σ a.2 ∧ LW a.2 W (W * y + x) (l ++ nbP W x y y2 (hiN x W + 1 - (x - 1)))) ?_ ?_ 100000 (x - 1) (N4 l.length, σ) (by omega) (by omega) ⟨Nat.le_refl _, by rw [Nat.sub_self]; show _ = N4 (l ++ []).length; rw [List.append_nil], Fz.rfl, by rw [Nat.sub_self]; show LW σ W _ (l ++ []); rw [List.append_nil]; exact h⟩
  · obtain ⟨⟨b1, b2⟩, c1, c2, c3⟩ := key
    obtain rfl : b1 = _ := c2
    exact ⟨b2, c1, c3⟩
  · rintro k ⟨a, τ⟩ ⟨p0, p1, p2, p3⟩
    refine ⟨(a, τ), ?_, p1, p2, p3⟩
    show f_X2_layCell_43 _ _ _ _ _ _ (k + 1) a (N4 (hiN x W + 1)) τ = some (a, τ)
    rw [f_X2_layCell_43, hi_n4 hW hW8 hx, if_pos ((n4_lt (by omega) (by omega)).mpr (by omega))]
  · rintro k i ⟨a, τ⟩ hi ⟨p0, p1, p2, p3⟩
    have p0' : x - 1 ≤ i := p0
    obtain ⟨t, rfl⟩ : ∃ t, i = x - 1 + t := ⟨i - (x - 1), by omega⟩
    rw [Nat.add_sub_cancel_left] at p1 p3
    have p1' : a = N4 (l ++ nbP W x y y2 t).length := p1
    have e1 : x - 1 + t + 1 - (x - 1) = t + 1 := by omega
    have hm := nbP_mono (W := W) (x := x) (y := y) (y2 := y2) (a := t + 1) (hiN x W + 1 - (x - 1)) (by omega)
    rw [List.length_append] at hl
    have ex : (N4 (x - 1 + t) = N4 x) ↔ x - 1 + t = x := n4_eq (by omega) (by omega)
    have ey : (N4 y2 = N4 y) ↔ y2 = y := n4_eq (by omega) (by omega)
    show ∃ a' : Int32 × Mem, f_X2_layCell_43 (N4 x) (N4 y) (N4 W) (N4 H) (N4 (W * y + x)) (N4 y2) (k + 1) a (N4 (x - 1 + t)) τ = _ ∧ _
    rw [f_X2_layCell_43, hi_n4 hW hW8 hx, if_neg (fun q => by have := (n4_lt (by omega) (by omega)).mp q; omega), n4_succ, p1']
    by_cases q : x - 1 + t = x ∧ y2 = y
    · rw [if_pos (ex.mpr q.1), if_pos (ey.mpr q.2)]
      have ep : nbP W x y y2 (t + 1) = nbP W x y y2 t := by
        show nbP W x y y2 t ++ _ = _
        rw [if_pos q, List.append_nil]
      refine ⟨(N4 (l ++ nbP W x y y2 t).length, τ), rfl, by show x - 1 ≤ x - 1 + t + 1; omega, ?_, p2, ?_⟩
      · show N4 _ = N4 (l ++ nbP W x y y2 (x - 1 + t + 1 - (x - 1))).length
        rw [e1, ep]
      · show LW τ W _ (l ++ nbP W x y y2 (x - 1 + t + 1 - (x - 1)))
        rw [e1, ep]; exact p3
    · have ep : nbP W x y y2 (t + 1) = nbP W x y y2 t ++ [W * y2 + (x - 1 + t)] := by
        show nbP W x y y2 t ++ _ = _
        rw [if_neg q]
      have hlen : (l ++ nbP W x y y2 t).length < 8 := by
        rw [ep, List.length_append, List.length_singleton] at hm
        rw [List.length_append]; omega
      have hmv := mv_at (W := W) (x := x) (y := y) (j := x - 1 + t) (y2 := y2) hx (by omega) (by omega) h2 q
      have goal : ∀ v, v = N4 (mv W (W * y + x) (W * y2 + (x - 1 + t))) → ∃ a' : Int32 × Mem, f_X2_layCell_43 (N4 x) (N4 y) (N4 W) (N4 H) (N4 (W * y + x)) (N4 y2) k (N4 ((l ++ nbP W x y y2 t).length + 1)) (N4 (x - 1 + t + 1)) (setI (setI τ (11 + 1 * (W * y + x)) (l ++ nbP W x y y2 t).length (N4 (W * y2 + (x - 1 + t)))) (76 + 1 * (W * y + x)) (l ++ nbP W x y y2 t).length v) = f_X2_layCell_43 (N4 x) (N4 y) (N4 W) (N4 H) (N4 (W * y + x)) (N4 y2) k a'.1 (N4 (x - 1 + t + 1)) a'.2 ∧ x - 1 ≤ x - 1 + t + 1 ∧ a'.1 = N4 (l ++ nbP W x y y2 (x - 1 + t + 1 - (x - 1))).length ∧ Fz (lcI (W * y + x)) noL σ a'.2 ∧ LW a'.2 W (W * y + x) (l ++ nbP W x y y2 (x - 1 + t + 1 - (x - 1))) := by
        intro v hv
        refine ⟨(_, _), rfl, by omega, ?_, (p2.i (by unfold lcI; omega)).i (by unfold lcI; omega), ?_⟩
        · show N4 _ = _
          rw [e1, ep, ← List.append_assoc, List.length_append (bs := [_]), List.length_singleton]
        · rw [e1, ep, ← List.append_assoc, hv]
          exact lw_app hc p3
      by_cases qx : x - 1 + t = x
      · have qy : ¬ y2 = y := fun e => q ⟨qx, e⟩
        rw [if_pos (ex.mpr qx), if_neg (fun e => qy (ey.mp e)), gd_inb (by omega) (by omega), n4_nat (by omega), gd_t g1, g2, gd_inb (by omega) (by omega), gd_inb (by omega) (by omega), if_pos (ex.mpr qx), gd_t g3, g4, gd_inb (by omega) (by omega), n4_succ, n4_nat (by omega), n4_mul, n4_add]
        exact goal 1000 (by rw [hmv, if_pos (Or.inl qx)]; rfl)
      · rw [if_neg (fun e => qx (ex.mp e)), gd_inb (by omega) (by omega), n4_nat (by omega), gd_t g1, g2, gd_inb (by omega) (by omega), gd_inb (by omega) (by omega), if_neg (fun e => qx (ex.mp e))]
        by_cases qy : y2 = y
        · rw [if_pos (ey.mpr qy), gd_t g3, g4, gd_inb (by omega) (by omega), n4_succ, n4_nat (by omega), n4_mul, n4_add]
          exact goal 1000 (by rw [hmv, if_pos (Or.inr qy)]; rfl)
        · rw [if_neg (fun e => qy (ey.mp e)), gd_t g3, g4, gd_inb (by omega) (by omega), n4_succ, n4_nat (by omega), n4_mul, n4_add]
          exact goal 1414 (by rw [hmv, if_neg (by omega)]; rfl)
theorem c_layCell {W H x y : Nat} (hW : 2 ≤ W) (hW8 : W ≤ 8) (hH : 2 ≤ H) (hH8 : H ≤ 8) (hx : x < W) (hy : y < H) (hc : W * y + x < W * H) :
    ∃ τ, f_X2_layCell (N4 x) (N4 y) (N4 W) (N4 H) σ = some τ ∧ Fz (lcI (W * y + x)) noL σ τ ∧ τ.1 9 (W * y + x) = N4 (nbs W (W * H) (W * y + x)).length ∧ LW τ W (W * y + x) (nbs W (W * H) (W * y + x)) := by
  have hWH : W * H ≤ 64 := Nat.mul_le_mul hW8 hH8
  have hhi : hiN y H + 1 ≤ H ∧ y ≤ hiN y H ∧ hiN y H ≤ y + 1 := by unfold hiN; split <;> omega
  have a1 : (W * y + x) % W = x := by rw [Nat.mul_add_mod, Nat.mod_eq_of_lt hx]
  have a3 : (W * y + x) / W = y := by rw [Nat.mul_add_div (by omega), Nat.div_eq_of_lt hx, Nat.add_zero]
  have hg := nbG_nbs W (by omega) H (by omega) (W * y + x) (by omega) ⟨hW, hH, hc⟩
  rw [a1, a3] at hg
  have hlen := nbs_len W (by omega) H (by omega) (W * y + x) (by omega) hW
  have key := loopU (fun k i (a : Int32 × Mem) => f_X2_layCell_19 (N4 x) (N4 y) (N4 W) (N4 H) (N4 (W * y + x)) k a.1 (N4 i) a.2) (hiN y H + 1) (fun i a => y - 1 ≤ i ∧ a.1 = N4 (nbG W x y (i - (y - 1))).length ∧ Fz (lcI (W * y + x)) noL σ a.2 ∧ LW a.2 W (W * y + x) (nbG W x y (i - (y - 1)))) (fun a => a.1 = N4 (nbG W x y (hiN y H + 1 - (y - 1))).length ∧ Fz (lcI (W * y + x)) noL σ a.2 ∧ LW a.2 W (W * y + x) (nbG W x y (hiN y H + 1 - (y - 1)))) ?_ ?_ 100000 (y - 1) (N4 0, σ) (by omega) (by omega) ⟨Nat.le_refl _, by rw [Nat.sub_self]; rfl, Fz.rfl, by rw [Nat.sub_self]; exact fun i hi => absurd hi (Nat.not_lt_zero i)⟩
  · obtain ⟨⟨b1, b2⟩, c1, c2, c3, c4⟩ := key
    obtain rfl : b1 = _ := c2
    rw [hg] at c1 c4
    have c1' : f_X2_layCell_19 (N4 x) (N4 y) (N4 W) (N4 H) (N4 (W * y + x)) 100000 0 (N4 (y - 1)) σ = _ := c1
    unfold f_X2_layCell
    rw [n4_mul, n4_add, lo_n4 (by omega), c1', bd_s, gd_inb (by omega) (by omega), n4_nat (by omega)]
    refine ⟨_, rfl, c3.i (by unfold lcI; omega), mI_e, fun i hi => ?_⟩
    rw [mI_p (p := 9) (by omega), mI_p (p := 9) (by omega)]
    exact c4 i hi
  · rintro k ⟨a, τ⟩ ⟨p0, p1, p2, p3⟩
    refine ⟨(a, τ), ?_, p1, p2, p3⟩
    show f_X2_layCell_19 _ _ _ _ _ (k + 1) a (N4 (hiN y H + 1)) τ = some (a, τ)
    rw [f_X2_layCell_19, hi_n4 hH hH8 hy, if_pos ((n4_lt (by omega) (by omega)).mpr (by omega))]
  · rintro k i ⟨a, τ⟩ hi ⟨p0, p1, p2, p3⟩
    have p0' : y - 1 ≤ i := p0
    obtain ⟨t, rfl⟩ : ∃ t, i = y - 1 + t := ⟨i - (y - 1), by omega⟩
    rw [Nat.add_sub_cancel_left] at p1 p3
    have p1' : a = N4 (nbG W x y t).length := p1
    have e1 : y - 1 + t + 1 - (y - 1) = t + 1 := by omega
    have hm := nbG_mono (W := W) (x := x) (y := y) (a := t + 1) (hiN y H + 1 - (y - 1)) (by omega)
    rw [hg] at hm
    obtain ⟨ρ, r1, r2, r3⟩ := c_lay43 (σ := τ) (W := W) (H := H) (x := x) (y := y) (y2 := y - 1 + t) (l := nbG W x y t) hW hW8 hH8 hx hy (by omega) (by omega) (Nat.le_trans hm hlen) (by omega) p3
    show ∃ a' : Int32 × Mem, f_X2_layCell_19 (N4 x) (N4 y) (N4 W) (N4 H) (N4 (W * y + x)) (k + 1) a (N4 (y - 1 + t)) τ = _ ∧ _
    rw [f_X2_layCell_19, hi_n4 hH hH8 hy, if_neg (fun q => by have := (n4_lt (by omega) (by omega)).mp q; omega), lo_n4 (x := x) (by omega), n4_succ, p1', r1, bd_s]
    refine ⟨(N4 (nbG W x y (t + 1)).length, ρ), rfl, by omega, ?_, p2.trans r2, ?_⟩
    · rw [e1]
    · rw [e1]; exact r3
theorem c_lay {W H : Nat} (hW : 2 ≤ W) (hW8 : W ≤ 8) (hH : 2 ≤ H) (hH8 : H ≤ 8) : ∃ τ, f_X2_lay (N4 W) (N4 H) σ = some τ ∧ Grd τ W H ∧ τ.2 = σ.2 ∧ ∀ q, (q < 8 ∨ 140 ≤ q) → τ.1 q = σ.1 q := by
  have hWH : W * H ≤ 64 := Nat.mul_le_mul hW8 hH8
  have hrow : ∀ (σ : Mem) y, y < H → (∀ c, c < W * y → σ.1 9 c = N4 (nbs W (W * H) c).length ∧ LW σ W c (nbs W (W * H) c)) → ∃ τ, f_X2_lay_17 (N4 W) (N4 H) (N4 y) 100000 (N4 0) σ = some τ ∧ (τ.2 = σ.2 ∧ ∀ q, (q < 9 ∨ 140 ≤ q) → τ.1 q = σ.1 q) ∧ ∀ c, c < W * (y + 1) → τ.1 9 c = N4 (nbs W (W * H) c).length ∧ LW τ W c (nbs W (W * H) c) := by
    intro σ y hy h
    have hyH : W * (y + 1) ≤ W * H := Nat.mul_le_mul (Nat.le_refl W) hy
    rw [Nat.mul_add, Nat.mul_one] at hyH
    refine loopU (fun k i τ => f_X2_lay_17 (N4 W) (N4 H) (N4 y) k (N4 i) τ) W (fun i τ => (τ.2 = σ.2 ∧ ∀ q, (q < 9 ∨ 140 ≤ q) → τ.1 q = σ.1 q) ∧ ∀ c, c < W * y + i → τ.1 9 c = N4 (nbs W (W * H) c).length ∧ LW τ W c (nbs W (W * H) c)) (fun τ => (τ.2 = σ.2 ∧ ∀ q, (q < 9 ∨ 140 ≤ q) → τ.1 q = σ.1 q) ∧ ∀ c, c < W * (y + 1) → τ.1 9 c = N4 (nbs W (W * H) c).length ∧ LW τ W c (nbs W (W * H) c)) ?_ ?_ 100000 0 σ (by omega) (by omega) ⟨⟨rfl, fun _ _ => rfl⟩, h⟩
    · intro k τ hP
      refine ⟨τ, ?_, hP.1, fun c hc => hP.2 c (by rw [Nat.mul_add, Nat.mul_one] at hc; exact hc)⟩
      show f_X2_lay_17 _ _ _ (k + 1) (N4 W) τ = some τ
      rw [f_X2_lay_17, if_pos ((n4_le (by omega) (by omega)).mpr (Nat.le_refl _))]
    · intro k i τ hi hP
      obtain ⟨⟨p1, p2⟩, p3⟩ := hP
      obtain ⟨ρ, r1, r2, r3, r4⟩ := c_layCell (σ := τ) hW hW8 hH hH8 hi hy (by omega)
      show ∃ a', f_X2_lay_17 (N4 W) (N4 H) (N4 y) (k + 1) (N4 i) τ = _ ∧ _
      rw [f_X2_lay_17, if_neg (fun q => by have := (n4_le (by omega) (by omega)).mp q; omega), r1, bd_s, n4_succ]
      refine ⟨ρ, rfl, ⟨(funext fun q => r2.row (fun j => fun e => e)).trans p1, fun q hq => (r2.rowI (fun j => by unfold lcI; omega)).trans (p2 q hq)⟩, fun c hc => ?_⟩
      by_cases e : c = W * y + i
      · rw [e]; exact ⟨r3, r4⟩
      · obtain ⟨g1, g2⟩ := p3 c (by omega)
        refine ⟨(r2.1 9 c (by unfold lcI; omega)).trans g1, fun j hj => ?_⟩
        rw [r2.rowI (q := 11 + 1 * c) (fun j => by unfold lcI; omega), r2.rowI (q := 76 + 1 * c) (fun j => by unfold lcI; omega)]
        exact g2 j hj
  obtain ⟨τ, t1, t2, t3⟩ := loopU (fun k i τ => f_X2_lay_9 (N4 W) (N4 H) k (N4 i) τ) H (fun i τ => (τ.2 = (setI σ 8 0 (N4 (W * H))).2 ∧ ∀ q, (q < 9 ∨ 140 ≤ q) → τ.1 q = (setI σ 8 0 (N4 (W * H))).1 q) ∧ ∀ c, c < W * i → τ.1 9 c = N4 (nbs W (W * H) c).length ∧ LW τ W c (nbs W (W * H) c)) (fun τ => (τ.2 = (setI σ 8 0 (N4 (W * H))).2 ∧ ∀ q, (q < 9 ∨ 140 ≤ q) → τ.1 q = (setI σ 8 0 (N4 (W * H))).1 q) ∧ ∀ c, c < W * H → τ.1 9 c = N4 (nbs W (W * H) c).length ∧ LW τ W c (nbs W (W * H) c)) (by
      intro k τ hP
      refine ⟨τ, ?_, hP⟩
      show f_X2_lay_9 _ _ (k + 1) (N4 H) τ = some τ
      rw [f_X2_lay_9, if_pos ((n4_le (by omega) (by omega)).mpr (Nat.le_refl _))]) (by
      intro k i τ hi hP
      obtain ⟨⟨p1, p2⟩, p3⟩ := hP
      obtain ⟨ρ, r1, ⟨r2, r3⟩, r4⟩ := hrow τ i hi p3
      have r1' : f_X2_lay_17 (N4 W) (N4 H) (N4 i) 100000 0 τ = some ρ := r1
      show ∃ a', f_X2_lay_9 (N4 W) (N4 H) (k + 1) (N4 i) τ = _ ∧ _
      rw [f_X2_lay_9, if_neg (fun q => by have := (n4_le (by omega) (by omega)).mp q; omega), r1', bd_s, n4_succ]
      exact ⟨ρ, rfl, ⟨r2.trans p1, fun q hq => (r3 q hq).trans (p2 q hq)⟩, r4⟩) 100000 0 (setI σ 8 0 (N4 (W * H))) (by omega) (by omega) ⟨⟨rfl, fun _ _ => rfl⟩, fun c hc => by omega⟩
  have t1' : f_X2_lay_9 (N4 W) (N4 H) 100000 0 (setI σ 8 0 (N4 (W * H))) = some τ := t1
  unfold f_X2_lay
  rw [n4_mul, t1', bd_s]
  refine ⟨τ, rfl, ⟨?_, fun c hc => t3 c hc⟩, t2.1, fun q hq => ?_⟩
  · rw [t2.2 8 (by omega), mI_e]
  · rw [t2.2 q (by omega), mI_p (by omega)]
end CGRD
