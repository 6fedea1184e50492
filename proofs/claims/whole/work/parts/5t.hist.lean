/-! ===== the class keeps and brings back its states ===== -/
def HvP (x : Nat) : Prop := x = 1 ∨ x = 191 ∨ x = 198 ∨ x = 205 ∨ x = 212
theorem sh_cp {x : Nat} (h : HvP x) : (shO x 6 0 0 = true ∧ shO x 6 1 0 = true ∧ shO x 6 2 0 = true ∧ shO x 6 3 0 = true ∧ shO x 6 4 0 = true ∧ shO x 6 5 0 = true ∧ shO x 6 6 1 = true ∧ shO x 6 7 0 = true)
    ∧ (fR x 8 = x + 1 ∧ fR x 9 = x + 2 ∧ fR x 10 = x + 3 ∧ fR x 11 = x + 4 ∧ fR x 12 = x + 5 ∧ fR x 13 = x + 6)
    ∧ (shO x 6 8 (x + 1 + 2) = true ∧ shO x 6 9 (x + 2 + 2) = true ∧ shO x 6 10 (x + 3 + 2) = true ∧ shO x 6 11 (x + 4 + 2) = true ∧ shO x 6 12 (x + 5 + 2) = true ∧ shO x 6 13 (x + 6 + 2) = true)
    ∧ (shA (x + 1) 1 64 = true ∧ shA (x + 2) 1 64 = true ∧ shA (x + 3) 1 16 = true ∧ shA (x + 4) 1 16 = true ∧ shA (x + 5) 2 16 = true ∧ shA (x + 6) 3 16 = true)
    ∧ shO x 6 0 ((shp x).2.2.getD 0 0) = true := by
  rcases h with rfl | rfl | rfl | rfl | rfl <;> exact ⟨by decide +kernel, by decide +kernel, by decide +kernel, by decide +kernel, by decide +kernel⟩
theorem bd_x {α β : Type} {X : α} {f : α → Option β} {P : β → Prop} (h : ∀ q, q = X → ∃ τ, f q = some τ ∧ P τ) : ∃ τ, bd (some X) f = some τ ∧ P τ := h X rfl
theorem cpy64 {α : Type} {f g : Nat → α} {k : Nat} (h : k < 64) : va_cpy f g (0 : Int32).toNatClampNeg (0 : Int32).toNatClampNeg (64 : Int32).toNatClampNeg k = f k := by
  have h0 : (0 : Int32).toNatClampNeg = 0 := rfl
  have h6 : (64 : Int32).toNatClampNeg = 64 := rfl
  unfold va_cpy
  rw [h0, h6, if_pos (by omega), Nat.sub_zero, Nat.zero_add]
theorem cpy16 {α : Type} {f g : Nat → α} {k : Nat} (h : k < 16) : va_cpy f g (0 : Int32).toNatClampNeg (0 : Int32).toNatClampNeg (16 : Int32).toNatClampNeg k = f k := by
  have h0 : (0 : Int32).toNatClampNeg = 0 := rfl
  have h6 : (16 : Int32).toNatClampNeg = 16 := rfl
  unfold va_cpy
  rw [h0, h6, if_pos (by omega), Nat.sub_zero, Nat.zero_add]
theorem rI_e {σ : Mem} {p : Nat} {f : Nat → Int32} : (repI σ p f).1 p = f := if_pos rfl
theorem rI_p {σ : Mem} {p q : Nat} {f : Nat → Int32} (h : q ≠ p) : (repI σ p f).1 q = σ.1 q := if_neg h
theorem rL_e {σ : Mem} {p : Nat} {f : Nat → Int64} : (repL σ p f).2 p = f := if_pos rfl
theorem rL_p {σ : Mem} {p q : Nat} {f : Nat → Int64} (h : q ≠ p) : (repL σ p f).2 q = σ.2 q := if_neg h
section CHST
variable {σ : Mem} {W H n : Nat} {m : Nat → Int64} {hs : List (Nat → Int64)}
theorem c_copy {x0 x1 : Nat} (h0 : HvP x0) (h1 : HvP x1) (hd : x1 + 7 ≤ x0 ∨ x0 + 7 ≤ x1) (hS : Sm σ x1 m) (hU : Usd m) : ∃ τ, f_X7_copyFrom x0 x1 σ = some τ ∧ Sm τ x0 m ∧ ∀ q, (q < x0 ∨ x0 + 7 ≤ q) → τ.1 q = σ.1 q ∧ τ.2 q = σ.2 q := by
  obtain ⟨⟨o0, o1, o2, o3, o4, o5, o6, o7⟩, ⟨f8, f9, f10, f11, f12, f13⟩, ⟨o8, o9, o10, o11, o12, o13⟩, ⟨a8, a9, a10, a11, a12, a13⟩, -⟩ := sh_cp h0
  obtain ⟨⟨p0, p1, p2, p3, p4, p5, p6, p7⟩, ⟨g8, g9, g10, g11, g12, g13⟩, ⟨p8, p9, p10, p11, p12, p13⟩, ⟨b8, b9, b10, b11, b12, b13⟩, -⟩ := sh_cp h1
  obtain ⟨s1, s2, s3, s4, s5⟩ := hS
  unfold f_X7_copyFrom
  rw [f8, f9, f10, f11, f12, f13, g8, g9, g10, g11, g12, g13, gd_t p0, gd_t o0, gd_t p1, gd_t o1, gd_t p2, gd_t o2]
  refine bd_x (fun q7 h7 => ?_)
  have i7 : (∀ p, p ≠ x0 → q7.1 p = σ.1 p) ∧ q7.2 = σ.2 ∧ q7.1 x0 0 = σ.1 x1 0 ∧ q7.1 x0 1 = σ.1 x1 1 ∧ q7.1 x0 2 = σ.1 x1 2 := by
    rw [h7]
    refine ⟨fun p hp => by rw [mI_p hp, mI_p hp, mI_p hp], rfl, ?_, ?_, ?_⟩
    · rw [mI_j (by omega), mI_j (by omega), mI_e]
    · rw [mI_j (by omega), mI_e, mI_p (by omega)]
    · rw [mI_e, mI_p (by omega), mI_p (by omega)]
  obtain ⟨u1, u2, v0, v1, v2⟩ := i7
  rw [gd_t p3, gd_t o3, gd_t p4, gd_t o4, gd_t p5, gd_t o5]
  refine bd_x (fun q15 h15 => ?_)
  have i15 : (∀ p, p ≠ x0 → q15.1 p = σ.1 p) ∧ q15.2 = σ.2 ∧ ∀ j, j < 6 → q15.1 x0 j = σ.1 x1 j := by
    rw [h15]
    refine ⟨fun p hp => by rw [mI_p hp, mI_p hp, mI_p hp, u1 p hp], u2, fun j hj => ?_⟩
    by_cases e5 : j = 5
    · rw [e5, mI_e, mI_p (by omega), mI_p (by omega), u1 x1 (by omega)]
    · rw [mI_j e5]
      by_cases e4 : j = 4
      · rw [e4, mI_e, mI_p (by omega), u1 x1 (by omega)]
      · rw [mI_j e4]
        by_cases e3 : j = 3
        · rw [e3, mI_e, u1 x1 (by omega)]
        · rw [mI_j e3]
          have : j = 0 ∨ j = 1 ∨ j = 2 := by omega
          rcases this with rfl | rfl | rfl
          · exact v0
          · exact v1
          · exact v2
  clear h7 v0 v1 v2 u1 u2
  obtain ⟨u1, u2, u3⟩ := i15
  rw [gd_t p6, gd_t o6, gd_t p7, gd_t o7, gd_t p8, gd_t o8, gd_t b8, gd_t a8]
  refine bd_x (fun q25 h25 => ?_)
  have i25 : (∀ p, (p < x0 ∨ x0 + 2 ≤ p) → q25.1 p = σ.1 p ∧ q25.2 p = σ.2 p) ∧ (∀ j, j < 6 → q25.1 x0 j = σ.1 x1 j) ∧ q25.1 x0 7 = σ.1 x1 7 ∧ q25.2 x0 6 = σ.2 x1 6 ∧ ∀ c, c < 64 → q25.1 (x0 + 1) c = σ.1 (x1 + 1) c := by
    rw [h25]
    refine ⟨fun p hp => ⟨?_, ?_⟩, fun j hj => ?_, ?_, ?_, fun c hc => ?_⟩
    · rw [rI_p (by omega), mI_p (by omega)]; exact u1 p (by omega)
    · show (setL q15 x0 6 (q15.2 x1 6)).2 p = _
      rw [mL_p (by omega), u2]
    · rw [rI_p (by omega), mI_j (by omega)]; exact u3 j hj
    · rw [rI_p (by omega), mI_e, mL_I, u1 x1 (by omega)]
    · show (setL q15 x0 6 (q15.2 x1 6)).2 x0 6 = _
      rw [mL_e, u2]
    · rw [rI_e, cpy64 hc, mI_p (by omega), mL_I, u1 (x1 + 1) (by omega)]
  clear h15 h25 u1 u2 u3
  obtain ⟨u1, u2, u3, u4, u5⟩ := i25
  rw [gd_t p9, gd_t o9, gd_t b9, gd_t a9]
  refine bd_x (fun q31 h31 => ?_)
  have i31 : (∀ p, (p < x0 ∨ x0 + 3 ≤ p) → q31.1 p = σ.1 p) ∧ q31.2 = q25.2 ∧ (∀ p, p < x0 + 2 → q31.1 p = q25.1 p) ∧ ∀ c, c < 64 → q31.1 (x0 + 2) c = σ.1 (x1 + 2) c := by
    rw [h31]
    exact ⟨fun p hp => by rw [rI_p (by omega), (u1 p (by omega)).1], rfl, fun p hp => by rw [rI_p (by omega)], fun c hc => by rw [rI_e, cpy64 hc, (u1 (x1 + 2) (by omega)).1]⟩
  clear h31
  obtain ⟨w1, w2, w3, w4⟩ := i31
  rw [gd_t p10, gd_t o10, gd_t b10, gd_t a10]
  refine bd_x (fun q37 h37 => ?_)
  have i37 : (∀ p, (p < x0 ∨ x0 + 4 ≤ p) → q37.1 p = σ.1 p) ∧ q37.2 = q25.2 ∧ (∀ p, p < x0 + 3 → q37.1 p = q31.1 p) ∧ ∀ c, c < 16 → q37.1 (x0 + 3) c = σ.1 (x1 + 3) c := by
    rw [h37]
    exact ⟨fun p hp => by rw [rI_p (by omega), w1 p (by omega)], w2, fun p hp => by rw [rI_p (by omega)], fun c hc => by rw [rI_e, cpy16 hc, w1 (x1 + 3) (by omega)]⟩
  clear h37
  obtain ⟨y1, y2, y3, y4⟩ := i37
  rw [gd_t p11, gd_t o11, gd_t b11, gd_t a11]
  refine bd_x (fun q43 h43 => ?_)
  have i43 : (∀ p, (p < x0 ∨ x0 + 5 ≤ p) → q43.1 p = σ.1 p) ∧ q43.2 = q25.2 ∧ (∀ p, p < x0 + 4 → q43.1 p = q37.1 p) ∧ ∀ c, c < 16 → q43.1 (x0 + 4) c = σ.1 (x1 + 4) c := by
    rw [h43]
    exact ⟨fun p hp => by rw [rI_p (by omega), y1 p (by omega)], y2, fun p hp => by rw [rI_p (by omega)], fun c hc => by rw [rI_e, cpy16 hc, y1 (x1 + 4) (by omega)]⟩
  clear h43
  obtain ⟨z1, z2, z3, z4⟩ := i43
  rw [gd_t p12, gd_t o12, gd_t b12, gd_t a12]
  refine bd_x (fun q49 h49 => ?_)
  have i49 : q49.1 = q43.1 ∧ (∀ p, p ≠ x0 + 5 → q49.2 p = q25.2 p) ∧ ∀ c, c < 16 → q49.2 (x0 + 5) c = σ.2 (x1 + 5) c := by
    rw [h49]
    exact ⟨rfl, fun p hp => by rw [rL_p hp, z2], fun c hc => by rw [rL_e, cpy16 hc, z2, (u1 (x1 + 5) (by omega)).2]⟩
  clear h49
  obtain ⟨t1, t2, t3⟩ := i49
  have hbz : ((List.range 16).all fun i => bz (q49.1 (x1 + 6) i)) = true := by
    rw [List.all_eq_true]
    intro i hi
    rw [t1, z1 (x1 + 6) (by omega)]
    have hi' := List.mem_range.mp hi
    rcases hU i hi' with e | e
    · rw [(s5 i hi').2.2.1] at e
      rw [i64_n4 e.symm]; decide
    · rw [(s5 i hi').2.2.1] at e
      rw [i64_n4 e.symm]; decide
  rw [gd_t p13, gd_t o13, gd_t b13, gd_t a13, gd_t hbz]
  refine bd_x (fun q56 h56 => ?_)
  have i56 : q56.2 = q49.2 ∧ (∀ p, p ≠ x0 + 6 → q56.1 p = q43.1 p) ∧ ∀ c, c < 16 → q56.1 (x0 + 6) c = σ.1 (x1 + 6) c := by
    rw [h56]
    exact ⟨rfl, fun p hp => by rw [rI_p hp, t1], fun c hc => by rw [rI_e, cpy16 hc, t1, z1 (x1 + 6) (by omega)]⟩
  clear h56
  obtain ⟨r1, r2, r3⟩ := i56
  refine ⟨q56, rfl, ⟨fun j hj => ?_, ?_, ?_, fun c hc => ⟨?_, ?_⟩, fun r hr => ⟨?_, ?_, ?_, ?_⟩⟩, fun q hq => ⟨?_, ?_⟩⟩
  · rw [r2 x0 (by omega), z3 x0 (by omega), y3 x0 (by omega), w3 x0 (by omega), u2 j hj]; exact s1 j hj
  · rw [r1, t2 x0 (by omega), u4]; exact s2
  · rw [r2 x0 (by omega), z3 x0 (by omega), y3 x0 (by omega), w3 x0 (by omega), u3]; exact s3
  · rw [r2 _ (by omega), z3 _ (by omega), y3 _ (by omega), w3 _ (by omega), u5 c hc]; exact (s4 c hc).1
  · rw [r2 _ (by omega), z3 _ (by omega), y3 _ (by omega), w4 c hc]; exact (s4 c hc).2
  · rw [r2 _ (by omega), z3 _ (by omega), y4 r hr]; exact (s5 r hr).1
  · rw [r2 _ (by omega), z4 r hr]; exact (s5 r hr).2.1
  · rw [r3 r hr]; exact (s5 r hr).2.2.1
  · rw [r1, t3 r hr]; exact (s5 r hr).2.2.2
  · rw [r2 q (by omega), z1 q (by omega)]
  · rw [r1, t2 q (by omega), (u1 q (by omega)).2]
/-- the class's history: the states kept, the oldest first -/
def slt (o k : Nat) : Nat := 191 + 7 * ((o + k) % 4)
def CHist (σ : Mem) (hs : List (Nat → Int64)) : Prop := hs.length ≤ 4 ∧ σ.1 189 2 = N4 hs.length ∧ ∃ o, o < 4 ∧ σ.1 189 1 = N4 o ∧ ∀ k, k < hs.length → Sm σ (slt o k) (hs.getD k zr)
theorem slt_p (o k : Nat) : HvP (slt o k) := by
  unfold slt HvP
  have : (o + k) % 4 < 4 := Nat.mod_lt _ (by omega)
  omega
theorem slt_ne {o a b : Nat} (h : (o + a) % 4 ≠ (o + b) % 4) : slt o a + 7 ≤ slt o b ∨ slt o b + 7 ≤ slt o a := by
  unfold slt
  omega
theorem getD_lm {l : List (Nat → Int64)} {b : Nat → Int64} {i : Nat} (h : i < l.length) : (l ++ [b]).getD i zr = l.getD i zr := by
  rw [List.getD_eq_getElem?_getD, List.getD_eq_getElem?_getD, List.getElem?_append_left h]
theorem getD_rm {l : List (Nat → Int64)} {b : Nat → Int64} : (l ++ [b]).getD l.length zr = b := by
  rw [List.getD_eq_getElem?_getD, List.getElem?_append_right (Nat.le_refl _), Nat.sub_self]; rfl
theorem CHist.of {τ : Mem} (h : CHist σ hs) (hI : ∀ q, 189 ≤ q → q < 219 → τ.1 q = σ.1 q) (hL : ∀ q, 189 ≤ q → q < 219 → τ.2 q = σ.2 q) : CHist τ hs := by
  obtain ⟨h1, h2, o, h3, h4, h5⟩ := h
  have hb : ∀ k, 191 ≤ slt o k ∧ slt o k ≤ 212 := fun k => by
    unfold slt
    have : (o + k) % 4 < 4 := Nat.mod_lt _ (by omega)
    omega
  exact ⟨h1, by rw [hI 189 (by omega) (by omega)]; exact h2, o, h3, by rw [hI 189 (by omega) (by omega)]; exact h4, fun k hk => (h5 k hk).of (fun q a b => hI q (by have := hb k; omega) (by have := hb k; omega)) (fun q a b => hL q (by have := hb k; omega) (by have := hb k; omega))⟩
theorem c_save (hS : Sm σ 1 m) (hU : Usd m) (hH : CHist σ hs) : ∃ τ, f_X3_save 1 σ = some τ ∧ CHist τ (push hs m) ∧ ∀ q, (q < 189 ∨ 219 ≤ q) → τ.1 q = σ.1 q ∧ τ.2 q = σ.2 q := by
  obtain ⟨h1, h2, o, h3, h4, h5⟩ := hH
  have hmod : (o + hs.length) % 4 < 4 := Nat.mod_lt _ (by omega)
  have hat : (N4 o + N4 hs.length) - (N4 o + N4 hs.length) / 4 * 4 = N4 ((o + hs.length) % 4) := by
    rw [n4_add, show (4 : Int32) = N4 4 from rfl, n4_mod (by omega) (by omega)]
  have hnat : 191 + 7 * (N4 ((o + hs.length) % 4)).toNatClampNeg = slt o hs.length := by rw [n4_nat (by omega)]; rfl
  have hp := slt_p o hs.length
  have hb : 191 ≤ slt o hs.length ∧ slt o hs.length ≤ 212 := by unfold slt; omega
  obtain ⟨τ, a1, a2, a3⟩ := c_copy (x0 := slt o hs.length) (x1 := 1) hp (Or.inl rfl) (by omega) hS hU
  have e1 : τ.1 189 = σ.1 189 := (a3 189 (by omega)).1
  unfold f_X3_save
  rw [h4, h2, hat, gd_inb hmod (by omega), hnat, gd_t (sh_cp hp).2.2.2.2, a1, bd_s, e1, h2]
  have hk5 : ∀ k, k < hs.length → (o + k) % 4 ≠ (o + hs.length) % 4 → Sm τ (slt o k) (hs.getD k zr) := fun k hk hne => (h5 k hk).of (fun q b c => (a3 q (by have := slt_ne hne; omega)).1) (fun q b c => (a3 q (by have := slt_ne hne; omega)).2)
  by_cases e : hs.length = 4
  · have e4 : (o + 4) % 4 = o := by omega
    have ho : (o + 1) % 4 < 4 := Nat.mod_lt _ (by omega)
    rw [if_pos (show (4 : Int32) ≤ N4 hs.length from (n4_le (a := 4) (by omega) (by omega)).mpr (by omega)), h4, n4_succ, show (4 : Int32) = N4 4 from rfl, n4_mod (by omega) (by omega)]
    refine ⟨_, rfl, ?_, fun q hq => ⟨by rw [mI_p (by omega)]; exact (a3 q (by omega)).1, (a3 q (by omega)).2⟩⟩
    have hpl : push hs m = hs.drop 1 ++ [m] := by unfold push; rw [if_pos e]
    have hln : (hs.drop 1).length = 3 := by rw [List.length_drop]; omega
    rw [hpl]
    refine ⟨by rw [List.length_append, hln, List.length_singleton]; omega, by rw [mI_j (by omega), e1, h2, List.length_append, hln, List.length_singleton, e], (o + 1) % 4, ho, mI_e, fun k hk => ?_⟩
    rw [List.length_append, hln, List.length_singleton] at hk
    have es : slt ((o + 1) % 4) k = slt o (k + 1) := by unfold slt; omega
    rw [es]
    have hbk : 191 ≤ slt o (k + 1) ∧ slt o (k + 1) ≤ 212 := by unfold slt; omega
    have hof : ∀ mm, Sm τ (slt o (k + 1)) mm → Sm (setI τ 189 1 (N4 ((o + 1) % 4))) (slt o (k + 1)) mm := fun mm h => h.of (fun q b c => mI_p (by omega)) (fun q b c => rfl)
    by_cases ek : k = 3
    · rw [ek, ← hln, getD_rm, hln]
      rw [ek] at hof
      rw [e] at a2
      exact hof m a2
    · rw [getD_lm (by omega)]
      have : (hs.drop 1).getD k zr = hs.getD (k + 1) zr := by
        rw [List.getD_eq_getElem?_getD, List.getD_eq_getElem?_getD, List.getElem?_drop, Nat.add_comm]
      rw [this]
      exact hof _ (hk5 (k + 1) (by omega) (by omega))
  · rw [if_neg (show ¬ (4 : Int32) ≤ N4 hs.length from fun q => by have := (n4_le (a := 4) (by omega) (by omega)).mp q; omega), n4_succ]
    refine ⟨_, rfl, ?_, fun q hq => ⟨by rw [mI_p (by omega)]; exact (a3 q (by omega)).1, (a3 q (by omega)).2⟩⟩
    have hpl : push hs m = hs ++ [m] := by unfold push; rw [if_neg e]
    rw [hpl]
    refine ⟨by rw [List.length_append, List.length_singleton]; omega, by rw [mI_e, List.length_append, List.length_singleton], o, h3, by rw [mI_j (by omega), e1, h4], fun k hk => ?_⟩
    rw [List.length_append, List.length_singleton] at hk
    have hbk : 191 ≤ slt o k ∧ slt o k ≤ 212 := by
      unfold slt
      have : (o + k) % 4 < 4 := Nat.mod_lt _ (by omega)
      omega
    have hof : ∀ mm, Sm τ (slt o k) mm → Sm (setI τ 189 2 (N4 (hs.length + 1))) (slt o k) mm := fun mm h => h.of (fun q b c => mI_p (by omega)) (fun q b c => rfl)
    by_cases ek : k = hs.length
    · rw [ek, getD_rm]
      rw [ek] at hof
      exact hof m a2
    · rw [getD_lm (by omega)]
      exact hof _ (hk5 k (by omega) (by omega))
theorem c_restore (hk : 0 < hs.length) (hU : Usd (hs.getD (hs.length - 1) zr)) (hH : CHist σ hs) : ∃ τ, f_X3_restore 1 σ = some τ ∧ Sm τ 1 (hs.getD (hs.length - 1) zr) ∧ CHist τ (hs.take (hs.length - 1)) ∧ ∀ q, (q < 1 ∨ (8 ≤ q ∧ q < 189) ∨ 219 ≤ q) → τ.1 q = σ.1 q ∧ τ.2 q = σ.2 q := by
  obtain ⟨h1, h2, o, h3, h4, h5⟩ := hH
  have hmod : (o + (hs.length - 1)) % 4 < 4 := Nat.mod_lt _ (by omega)
  have hat : (N4 o + N4 (hs.length - 1)) - (N4 o + N4 (hs.length - 1)) / 4 * 4 = N4 ((o + (hs.length - 1)) % 4) := by
    rw [n4_add, show (4 : Int32) = N4 4 from rfl, n4_mod (by omega) (by omega)]
  have hnat : 191 + 7 * (N4 ((o + (hs.length - 1)) % 4)).toNatClampNeg = slt o (hs.length - 1) := by rw [n4_nat (by omega)]; rfl
  have hp := slt_p o (hs.length - 1)
  have hb : 191 ≤ slt o (hs.length - 1) ∧ slt o (hs.length - 1) ≤ 212 := by unfold slt; omega
  have hS : Sm (setI σ 189 2 (N4 (hs.length - 1))) (slt o (hs.length - 1)) (hs.getD (hs.length - 1) zr) := (h5 (hs.length - 1) (by omega)).of (fun q b c => mI_p (by omega)) (fun q b c => rfl)
  obtain ⟨τ, a1, a2, a3⟩ := c_copy (x0 := 1) (x1 := slt o (hs.length - 1)) (Or.inl rfl) hp (by omega) hS hU
  have e1 : τ.1 189 = (setI σ 189 2 (N4 (hs.length - 1))).1 189 := (a3 189 (by omega)).1
  unfold f_X3_restore
  rw [h2, if_neg (n4_ne0 (by omega) (by omega)), show N4 hs.length - 1 = N4 (hs.length - 1) from n4_sub (a := hs.length) (b := 1) (by omega), mI_e, mI_j (by omega), h4, hat, gd_inb hmod (by omega), gd_t (sh_cp (Or.inl rfl : HvP 1)).2.2.2.2, hnat, a1, bd_s]
  have hl : (hs.take (hs.length - 1)).length = hs.length - 1 := by rw [List.length_take]; omega
  refine ⟨τ, rfl, a2, ⟨by omega, by rw [e1, mI_e, hl], o, h3, by rw [e1, mI_j (by omega), h4], fun k hk2 => ?_⟩, fun q hq => ?_⟩
  · rw [hl] at hk2
    have hbk : 191 ≤ slt o k ∧ slt o k ≤ 212 := by
      unfold slt
      have : (o + k) % 4 < 4 := Nat.mod_lt _ (by omega)
      omega
    have : (hs.take (hs.length - 1)).getD k zr = hs.getD k zr := by
      rw [List.getD_eq_getElem?_getD, List.getD_eq_getElem?_getD, List.getElem?_take, if_pos hk2]
    rw [this]
    exact (h5 k (by omega)).of (fun q b c => by rw [(a3 q (by omega)).1, mI_p (by omega)]) (fun q b c => (a3 q (by omega)).2)
  · obtain ⟨b1, b2⟩ := a3 q (by omega)
    exact ⟨by rw [b1, mI_p (by omega)], b2⟩
end CHST
