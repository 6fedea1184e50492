/-! ===== the reference: the way of a ray ===== -/
def Fz (a b : Nat → Nat → Prop) (σ τ : Mem) : Prop := (∀ q j, ¬ a q j → τ.1 q j = σ.1 q j) ∧ (∀ q j, ¬ b q j → τ.2 q j = σ.2 q j)
theorem Fz.rfl {a b : Nat → Nat → Prop} {σ : Mem} : Fz a b σ σ := ⟨fun _ _ _ => Eq.refl _, fun _ _ _ => Eq.refl _⟩
theorem Fz.trans {a b : Nat → Nat → Prop} {σ τ ρ : Mem} (h : Fz a b σ τ) (h' : Fz a b τ ρ) : Fz a b σ ρ := ⟨fun q j hq => (h'.1 q j hq).trans (h.1 q j hq), fun q j hq => (h'.2 q j hq).trans (h.2 q j hq)⟩
theorem Fz.mono {a b a' b' : Nat → Nat → Prop} {σ τ : Mem} (h : Fz a b σ τ) (ha : ∀ q j, a q j → a' q j) (hb : ∀ q j, b q j → b' q j) : Fz a' b' σ τ := ⟨fun q j hq => h.1 q j (fun x => hq (ha q j x)), fun q j hq => h.2 q j (fun x => hq (hb q j x))⟩
theorem Fz.i {a b : Nat → Nat → Prop} {σ τ : Mem} {p j : Nat} {v : Int32} (h : Fz a b σ τ) (hp : a p j) : Fz a b σ (setI τ p j v) := by
  refine ⟨fun q k hq => ?_, fun q k hq => h.2 q k hq⟩
  rw [mI_w, if_neg (fun e => hq (by rw [e.1, e.2]; exact hp))]
  exact h.1 q k hq
theorem Fz.l {a b : Nat → Nat → Prop} {σ τ : Mem} {p j : Nat} {v : Int64} (h : Fz a b σ τ) (hp : b p j) : Fz a b σ (setL τ p j v) := by
  refine ⟨fun q k hq => h.1 q k hq, fun q k hq => ?_⟩
  rw [mL_w, if_neg (fun e => hq (by rw [e.1, e.2]; exact hp))]
  exact h.2 q k hq
theorem Fz.row {a b : Nat → Nat → Prop} {σ τ : Mem} (h : Fz a b σ τ) {q : Nat} (hq : ∀ j, ¬ b q j) : τ.2 q = σ.2 q := funext fun j => h.2 q j (hq j)
theorem Fz.rowI {a b : Nat → Nat → Prop} {σ τ : Mem} (h : Fz a b σ τ) {q : Nat} (hq : ∀ j, ¬ a q j) : τ.1 q = σ.1 q := funext fun j => h.1 q j (hq j)
/-- what finding a way writes -/
def mwI (q j : Nat) : Prop := q = 229 ∨ q = 230 ∨ q = 231 ∨ (q = 224 ∧ j = 9)
def mqL (q j : Nat) : Prop := q = 228 ∨ (q = 224 ∧ j = 11)
/-- what questions write -/
def mqI (q j : Nat) : Prop := q = 229 ∨ q = 230 ∨ q = 231 ∨ q = 232 ∨ q = 233 ∨ (q = 224 ∧ j = 9)
abbrev Fw := Fz mwI mqL
abbrev Fq := Fz mqI mqL
theorem Fw.q {σ τ : Mem} (h : Fw σ τ) : Fq σ τ := h.mono (fun q j => by unfold mwI mqI; omega) (fun _ _ x => x)
theorem FrS.w {σ τ : Mem} (h : FrS σ τ) : Fw σ τ := ⟨fun q j hq => by rw [h.1 q (fun e => hq (Or.inl e))], fun q j hq => by rw [h.2 q (fun e => hq (Or.inl e))]⟩
theorem Fw.m {σ τ : Mem} (h : Fw σ τ) : τ.2 225 = σ.2 225 := h.row (fun j => by unfold mqL; omega)
theorem Fq.m {σ τ : Mem} (h : Fq σ τ) : τ.2 225 = σ.2 225 := h.row (fun j => by unfold mqL; omega)
theorem m_of {r w : Nat} {σ : Mem} (hr : r < 16) (hw : w < 4) : f_X12_of (N4 r) (N4 w) σ = some (σ.2 225 (136 + 4 * r + w)) := by
  unfold f_X12_of
  rw [show (136 : Int32) = N4 136 from rfl, show (4 : Int32) = N4 4 from rfl, n4_mul, n4_add, n4_add, gd_inb (by omega) (by omega), n4_nat (by omega)]
theorem m_put {r w : Nat} {v : Int64} {σ : Mem} (hr : r < 16) (hw : w < 4) : f_X12_put (N4 r) (N4 w) v σ = some (setL σ 225 (136 + 4 * r + w) v) := by
  unfold f_X12_put
  rw [show (136 : Int32) = N4 136 from rfl, show (4 : Int32) = N4 4 from rfl, n4_mul, n4_add, n4_add, gd_inb (by omega) (by omega), n4_nat (by omega)]
/-- the rows of the rays -/
def Ra (m : Nat → Int64) (H n : Nat) : Prop := ∀ r, r < n → ∃ a b, m (136 + 4 * r) = N8 a ∧ a < H ∧ m (137 + 4 * r) = N8 b ∧ b < H
def frc (m : Nat → Int64) (W r : Nat) : Nat := (m (136 + 4 * r)).toNatClampNeg * W
def toc (m : Nat → Int64) (W r : Nat) : Nat := (m (137 + 4 * r)).toNatClampNeg * W + W - 1
theorem Ra.lt {m : Nat → Int64} {W H n r : Nat} (h : Dm m W H n) (hR : Ra m H n) (hr : r < n) : frc m W r < W * H ∧ toc m W r < W * H ∧ toc m W r ≠ frc m W r := by
  obtain ⟨a, b, h1, h2, h3, h4⟩ := hR r hr
  obtain ⟨-, -, -, w1, w2, w3, w4, -⟩ := h
  unfold frc toc
  rw [h1, h3, n8_nat (by omega), n8_nat (by omega)]
  have e1 : (a + 1) * W ≤ H * W := Nat.mul_le_mul_right W h2
  have e2 : (b + 1) * W ≤ H * W := Nat.mul_le_mul_right W h4
  rw [Nat.add_mul, Nat.one_mul] at e1 e2
  rw [Nat.mul_comm W H]
  refine ⟨by omega, by omega, fun q => ?_⟩
  have q1 : (b * W + W - 1) % W = (a * W) % W := by rw [q]
  rw [Nat.mul_mod_left, show b * W + W - 1 = W - 1 + W * b by rw [Nat.mul_comm W b]; omega, Nat.add_mul_mod_self_left, Nat.mod_eq_of_lt (by omega)] at q1
  omega
theorem m_first {W H n r : Nat} {σ : Mem} (h : Dm (σ.2 225) W H n) (hR : Ra (σ.2 225) H n) (hr : r < n) : f_X12_first (N4 r) σ = some (N4 (frc (σ.2 225) W r)) := by
  have hn := h.2.2.2.2.2.2.2
  obtain ⟨a, b, h1, h2, h3, h4⟩ := hR r hr
  have hH := h.2.2.2.2.2.2.1
  unfold f_X12_first frc
  rw [show (0 : Int32) = N4 0 from rfl, m_of (by omega) (by omega), bd_s, m_columns h, bd_s, Nat.add_zero, h1, n8_32, n4_mul, n8_nat (by omega)]
theorem m_last {W H n r : Nat} {σ : Mem} (h : Dm (σ.2 225) W H n) (hR : Ra (σ.2 225) H n) (hr : r < n) : f_X12_last (N4 r) σ = some (N4 (toc (σ.2 225) W r)) := by
  have hn := h.2.2.2.2.2.2.2
  obtain ⟨a, b, h1, h2, h3, h4⟩ := hR r hr
  have hH := h.2.2.2.2.2.2.1
  have hW := h.2.2.2.1
  unfold f_X12_last toc
  rw [show (1 : Int32) = N4 1 from rfl, m_of (by omega) (by omega), bd_s, m_columns h, bd_s, bd_s, show 136 + 4 * r + 1 = 137 + 4 * r by omega, h3, n8_32, n4_mul, n4_add, n4_sub (by omega), n8_nat (by omega)]
/-! the search for the cell before -/
theorem m_prev {W H n o c : Nat} {x1 : Int32} {σ : Mem} {L : Nat → Int} (h : Dm (σ.2 225) W H n) (hs : Slo (W * H) (slw (σ.2 225) 8)) (hC : Cert W (W * H) (slw (σ.2 225) 8) o L) (ho : o < W * H) (hl : ∀ c, c < W * H → σ.2 228 c = Z8 (L c)) (hc : c < W * H) (hco : c ≠ o) :
    f_X12_findWay_71 x1 (N4 c) σ 100000 (N4 0) = some (N4 (prv W (W * H) (slw (σ.2 225) 8) L c)) := by
  have hK := h.K
  have hbd := cert_bd h.2.2.2.1 (by have := h.2.2.2.2.1; omega) hK.2 hs ho hC.1 hC.2.2.1
  obtain ⟨g1, g2, g3, g4⟩ := prv_spec hC hc hco
  generalize hsd : slw (σ.2 225) 8 = s at *
  have hsv : ∀ c, σ.2 225 (8 + c) = Z8 (s c) := fun c => by rw [← hsd]; exact (z8_of _).symm
  generalize hp : prv W (W * H) s L c = p at *
  have val : ∀ i, i < W * H → σ.2 228 i + (N4 (mv W i c)).toInt64 * (σ.2 225 (8 + i) + σ.2 225 (8 + c)) = Z8 (L i + wt W s i c) := fun i hi => by
    have : mv W i c < 2000 := by rcases mv_cases W i c with e | e | e <;> omega
    rw [hl i hi, hsv, hsv, n4_64 (by omega), z8_n, z8_add, z8_mul, z8_add]
    rfl
  have cmp : ∀ i, i < W * H → (Z8 (L i + wt W s i c) = Z8 (L c) ↔ L i + wt W s i c = L c) := fun i hi => by
    have b1 := wt_bd0 (W := W) hs hi hc
    have b2 := hC.2.1 i hi
    have b3 := hC.2.1 c hc
    have b4 := hbd i hi
    have b5 := hbd c hc
    exact z8_eq (by omega) (by omega) (by omega) (by omega)
  refine loopF (α := Unit) (fun n' i _ => f_X12_findWay_71 x1 (N4 c) σ n' (N4 i)) p (fun _ => ()) (N4 p) ?_ ?_ 100000 0 (by omega) (by omega)
  · intro n'
    show f_X12_findWay_71 x1 (N4 c) σ (n' + 1) (N4 p) = _
    have : mv W p c < 2000 := by rcases mv_cases W p c with e | e | e <;> omega
    rw [f_X12_findWay_71, m_move h (by omega) (by omega), bd_s, if_neg (n4_ne0 g2 (by omega)), gd_inb (by omega) (by omega), bd_s, show (8 : Int32) = N4 8 from rfl, n4_add, n4_add, gd_inb (by omega) (by omega), gd_inb (by omega) (by omega), gd_inb (by omega) (by omega), n4_nat (by omega), n4_nat (by omega), n4_nat (by omega), n4_nat (by omega), val p g1, hl c hc, if_pos ((cmp p g1).mpr g3)]
  · intro n' i hi
    show f_X12_findWay_71 x1 (N4 c) σ (n' + 1) (N4 i) = f_X12_findWay_71 x1 (N4 c) σ n' (N4 (i + 1))
    have hg := g4 i hi
    simp only [prP, decide_eq_false_iff_not] at hg
    have : mv W i c < 2000 := by rcases mv_cases W i c with e | e | e <;> omega
    rw [f_X12_findWay_71, m_move h (by omega) (by omega), bd_s, n4_succ]
    by_cases hm : mv W i c = 0
    · rw [if_pos (by rw [hm]; rfl)]
    · rw [if_neg (n4_ne0 hm (by omega)), gd_inb (by omega) (by omega), bd_s, show (8 : Int32) = N4 8 from rfl, n4_add, n4_add, gd_inb (by omega) (by omega), gd_inb (by omega) (by omega), gd_inb (by omega) (by omega), n4_nat (by omega), n4_nat (by omega), n4_nat (by omega), n4_nat (by omega), val i (by omega), hl c hc, if_neg (fun q => hg ⟨hm, (cmp i (by omega)).mp q⟩)]
theorem fw_zero {x1 x2 : Int32} {σ : Mem} : ∃ τ, f_X12_findWay_29 x1 x2 100000 (N4 0) σ = some τ ∧ Fw σ τ ∧ τ.2 = σ.2 ∧ τ.1 224 = σ.1 224 ∧ ∀ c, c < 64 → τ.1 231 c = N4 0 := by
  refine loopU (fun n i τ => f_X12_findWay_29 x1 x2 n (N4 i) τ) 64 (fun i τ => Fw σ τ ∧ τ.2 = σ.2 ∧ τ.1 224 = σ.1 224 ∧ ∀ c, c < i → τ.1 231 c = N4 0) (fun τ => Fw σ τ ∧ τ.2 = σ.2 ∧ τ.1 224 = σ.1 224 ∧ ∀ c, c < 64 → τ.1 231 c = N4 0) ?_ ?_ 100000 0 σ (by omega) (by omega) ⟨Fz.rfl, rfl, rfl, fun c hc => by omega⟩
  · intro n τ hP
    refine ⟨τ, ?_, hP⟩
    show f_X12_findWay_29 x1 x2 (n + 1) (N4 64) τ = some τ
    rw [f_X12_findWay_29, if_pos (show (64 : Int32) ≤ N4 64 from (n4_le (a := 64) (by omega) (by omega)).mpr (Nat.le_refl _))]
  · intro n i τ hi hP
    show ∃ a', f_X12_findWay_29 x1 x2 (n + 1) (N4 i) τ = _ ∧ _
    rw [f_X12_findWay_29, if_neg (fun q => by have := (n4_le (a := 64) (by omega) (by omega)).mp q; omega), gd_inb (by omega) (by omega), n4_nat (by omega), n4_succ, show (0 : Int32) = N4 0 from rfl]
    refine ⟨_, rfl, hP.1.i (by unfold mwI; omega), hP.2.1, ?_, fun c hc => ?_⟩
    · rw [mI_p (by omega)]; exact hP.2.2.1
    · by_cases e : c = i
      · rw [e, mI_e]
      · rw [mI_j e]; exact hP.2.2.2 c (by omega)
/-- the way as it stands in the reference's rows -/
def WayM (W K : Nat) (s L : Nat → Int) (o t : Nat) (τ : Mem) : Prop :=
  τ.1 224 9 = N4 (wayl W K s L o t).length ∧ (∀ i, i < (wayl W K s L o t).length → τ.1 230 i = N4 ((wayl W K s L o t).getD i 0)) ∧ (∀ c, c < 64 → τ.1 231 c = N4 (lenL W (wayl W K s L o t) (fun _ => 0) c)) ∧ τ.2 224 11 = Z8 (L t)
theorem getD_app {l1 l2 : List Nat} {i : Nat} (h : i = l1.length) : (l1 ++ l2).getD i 0 = l2.getD 0 0 := by
  subst h
  rw [List.getD_eq_getElem?_getD, List.getD_eq_getElem?_getD, List.getElem?_append_right (Nat.le_refl _), Nat.sub_self]
theorem m_trace {W H n r t : Nat} {σ : Mem} {L : Nat → Int} (h : Dm (σ.2 225) W H n) (hR : Ra (σ.2 225) H n) (hr : r < n) (hs : Slo (W * H) (slw (σ.2 225) 8)) (hC : Cert W (W * H) (slw (σ.2 225) 8) (frc (σ.2 225) W r) L) (ht : t < W * H) {σ0 : Mem} (hF0 : Fw σ σ0) (hl0 : ∀ c, c < W * H → σ0.2 228 c = Z8 (L c))
    (h1 : σ0.1 224 9 = N4 1) (h2 : σ0.1 230 0 = N4 t) (h3 : ∀ c, c < 64 → σ0.1 231 c = N4 0) (h4 : σ0.2 224 11 = Z8 (L t)) :
    ∃ τ, f_X12_findWay_60 (N4 r) 100000 (N4 t) σ0 = some τ ∧ Fw σ τ ∧ (∀ c, c < W * H → τ.2 228 c = Z8 (L c)) ∧ WayM W (W * H) (slw (σ.2 225) 8) L (frc (σ.2 225) W r) t τ := by
  have hK := h.K
  have ho := (hR.lt h hr).1
  generalize hsd : slw (σ.2 225) 8 = s at *
  generalize hod : frc (σ.2 225) W r = o at *
  have facts := wayl_facts hK.2 hs hC ho
  have hfull := facts t ht
  generalize hld : wayl W (W * H) s L o t = full at *
  have hlen : full.length ≤ 64 := by have := rk_K (L := L) ht; omega
  have key := loopM (fun n (a : Int32 × Mem) => f_X12_findWay_60 (N4 r) n a.1 a.2) (fun a => rk (W * H) L a.1.toNatClampNeg)
    (fun a => ∃ (c : Nat) (pre : List Nat) (acc : Nat → Nat), c < W * H ∧ a.1 = N4 c ∧ full = pre ++ wayl W (W * H) s L o c ∧ Fw σ a.2 ∧ (∀ c, c < W * H → a.2.2 228 c = Z8 (L c)) ∧ a.2.1 224 9 = N4 (pre.length + 1) ∧ (∀ i, i ≤ pre.length → a.2.1 230 i = N4 (full.getD i 0)) ∧ (∀ x, x < 64 → a.2.1 231 x = N4 (acc x)) ∧ lenL W (wayl W (W * H) s L o c) acc = lenL W full (fun _ => 0) ∧ a.2.2 224 11 = Z8 (L t))
    (fun τ => Fw σ τ ∧ (∀ c, c < W * H → τ.2 228 c = Z8 (L c)) ∧ WayM W (W * H) s L o t τ) ?_ 100000 (N4 t, σ0) ?_ ?_
  · exact key
  · rintro k ⟨a1, τ⟩ ⟨c, pre, acc, hc, e1, e2, hF, hl, e3, e4, e5, e6, e7⟩
    obtain rfl : a1 = N4 c := e1
    have hd : Dm (τ.2 225) W H n := by rw [hF.m]; exact h
    have hRt : Ra (τ.2 225) H n := by rw [hF.m]; exact hR
    have hst : slw (τ.2 225) 8 = s := by rw [hF.m]; exact hsd
    have hlc : full.length = pre.length + (wayl W (W * H) s L o c).length := by rw [e2, List.length_append]
    show (∃ b, f_X12_findWay_60 (N4 r) (k + 1) (N4 c) τ = some b ∧ _) ∨ (∃ a' : Int32 × Mem, f_X12_findWay_60 (N4 r) (k + 1) (N4 c) τ = _ ∧ _)
    rw [f_X12_findWay_60, m_first hd hRt hr, bd_s, show frc (τ.2 225) W r = o by rw [hF.m]; exact hod]
    by_cases hco : c = o
    · rw [if_pos (by rw [hco])]
      refine Or.inl ⟨τ, rfl, hF, hl, ?_⟩
      have hw : wayl W (W * H) s L o c = [o] := by rw [hco]; exact wayl_o
      rw [hw] at hlc e6
      unfold WayM
      rw [hld]
      refine ⟨by rw [e3, hlc]; rfl, fun i hi => e4 i (by rw [hlc, List.length_singleton] at hi; omega), fun x hx => ?_, e7⟩
      rw [e5 x hx, ← e6]
      rfl
    · obtain ⟨p1, p2, p3, -⟩ := prv_spec hC hc hco
      have hpr := prv_rk hs hC hc hco
      have hw := wayl_c hK.2 hs hC hc hco
      have hp4 := (facts _ p1).2.2.2
      have hprev := m_prev (x1 := N4 r) (σ := τ) hd (by rw [hst]; exact hs) (o := o) (L := L) (by rw [hst]; exact hC) ho hl hc hco
      rw [hst] at hprev
      have hm1 : mv W (prv W (W * H) s L c) c < 2000 := by rcases mv_cases W (prv W (W * H) s L c) c with e | e | e <;> omega
      rw [hw, List.length_cons] at hlc
      have hne := mv_ne p2
      rw [if_neg (fun q => hco ((n4_eq (by omega) (by omega)).mp q)), show (0 : Int32) = N4 0 from rfl, hprev, bd_s]
      generalize prv W (W * H) s L c = p at *
      have hd2 : ∀ v, Dm ((setI τ 231 c v).2 225) W H n := fun v => hd
      rw [gd_inb (by omega) (by omega), m_move hd (by omega) (by omega), bd_s, gd_inb (by omega) (by omega), gd_inb (by omega) (by omega), n4_nat (by omega), m_move (hd2 _) (by omega) (by omega), bd_s, gd_inb (by omega) (by omega), bd_s, n4_nat (by omega), e5 c (by omega), n4_add, mI_j (Ne.symm (Ne.symm hne)), e5 p (by omega), n4_add]
      have g9 : (setI (setI τ 231 c (N4 (acc c + mv W p c))) 231 p (N4 (acc p + mv W p c))).1 224 9 = N4 (pre.length + 1) := by rw [mI_p (by omega), mI_p (by omega)]; exact e3
      rw [g9, gd_inb (by omega) (by omega), n4_nat (by omega)]
      rw [show (setI (setI (setI τ 231 c (N4 (acc c + mv W p c))) 231 p (N4 (acc p + mv W p c))) 230 (pre.length + 1) (N4 p)).1 224 9 = N4 (pre.length + 1) by rw [mI_p (by omega)]; exact g9, n4_succ]
      refine Or.inr ⟨(N4 p, _), rfl, ⟨p, pre ++ [c], addL W acc c p, p1, rfl, ?_, ?_, ?_, ?_, ?_, ?_, ?_, ?_⟩, ?_⟩
      · rw [e2, hw, List.append_assoc]; rfl
      · exact ((((hF.i (by unfold mwI; omega)).i (by unfold mwI; omega)).i (by unfold mwI; omega)).i (by unfold mwI; omega))
      · exact hl
      · show (setI (setI (setI (setI τ 231 c _) 231 p _) 230 (pre.length + 1) (N4 p)) 224 9 _).1 224 9 = _
        rw [mI_e, List.length_append]; rfl
      · intro i hi
        rw [List.length_append, List.length_singleton] at hi
        show (setI (setI (setI (setI τ 231 c _) 231 p _) 230 (pre.length + 1) (N4 p)) 224 9 _).1 230 i = _
        rw [mI_p (by omega)]
        by_cases e : i = pre.length + 1
        · rw [e, mI_e, e2, hw]
          congr 1
          rw [show pre ++ c :: wayl W (W * H) s L o p = (pre ++ [c]) ++ wayl W (W * H) s L o p by rw [List.append_assoc]; rfl, getD_app (by simp)]
          by_cases q : p = o
          · rw [q, wayl_o]; rfl
          · rw [wayl_c hK.2 hs hC p1 q]; rfl
        · rw [mI_j e, mI_p (by omega), mI_p (by omega)]
          exact e4 i (by omega)
      · intro x hx
        show (setI (setI (setI (setI τ 231 c _) 231 p _) 230 (pre.length + 1) (N4 p)) 224 9 _).1 231 x = _
        rw [mI_p (by omega), mI_p (by omega)]
        unfold addL updN
        by_cases q1 : x = p
        · rw [q1, mI_e, if_pos rfl, if_neg hne]
        · rw [mI_j q1, if_neg q1]
          by_cases q2 : x = c
          · rw [q2, mI_e, if_pos rfl]
          · rw [mI_j q2, if_neg q2]
            exact e5 x hx
      · rw [← e6, hw]
        by_cases q : p = o
        · rw [q, wayl_o]; rfl
        · rw [wayl_c hK.2 hs hC p1 q]; rfl
      · exact e7
      · show rk (W * H) L (N4 p).toNatClampNeg < rk (W * H) L c
        rw [n4_nat (by omega)]
        exact hpr.2
  · show rk (W * H) L (N4 t).toNatClampNeg < 100000
    rw [n4_nat (by omega)]
    have := rk_K (L := L) ht
    omega
  · refine ⟨t, [], fun _ => 0, ht, rfl, ?_, hF0, hl0, h1, fun i hi => ?_, h3, ?_, h4⟩
    · rw [hld]; rfl
    · obtain rfl : i = 0 := by simpa using hi
      show σ0.1 230 0 = _
      rw [h2, ← hld]
      by_cases q : t = o
      · rw [q, wayl_o]; rfl
      · rw [wayl_c hK.2 hs hC ht q]; rfl
    · rw [hld]
/-- least times of a row of slownesses of m; the ray's -/
noncomputable def dsl (m : Nat → Int64) (W H x o : Nat) : Nat → Int := dist W (W * H) (slw m x) o
noncomputable def wlr (m : Nat → Int64) (W H r : Nat) : List Nat := wayl W (W * H) (slw m 8) (dsl m W H 8 (frc m W r)) (frc m W r) (toc m W r)
noncomputable def wtm (m : Nat → Int64) (W H r : Nat) : Int64 := Z8 (dsl m W H 8 (frc m W r) (toc m W r))
noncomputable def wln (m : Nat → Int64) (W H r c : Nat) : Nat := lenL W (wlr m W H r) (fun _ => 0) c
def WayR (m : Nat → Int64) (W H r : Nat) (τ : Mem) : Prop :=
  τ.1 224 9 = N4 (wlr m W H r).length ∧ (∀ i, i < (wlr m W H r).length → τ.1 230 i = N4 ((wlr m W H r).getD i 0)) ∧ (∀ c, c < 64 → τ.1 231 c = N4 (wln m W H r c)) ∧ τ.2 224 11 = wtm m W H r
theorem m_findWay {W H n r : Nat} {σ : Mem} (h : Dm (σ.2 225) W H n) (hR : Ra (σ.2 225) H n) (hr : r < n) (hs : Slo (W * H) (slw (σ.2 225) 8)) :
    ∃ τ, f_X12_findWay (N4 r) σ = some τ ∧ Fw σ τ ∧ WayR (σ.2 225) W H r τ := by
  have hK := h.K
  obtain ⟨o1, o2, o3⟩ := hR.lt h hr
  obtain ⟨τ1, a1, a2, a3, a4⟩ := m_spread (x := 8) h (by omega) hs o1
  have hF1 := a2.w
  have hd1 : Dm (τ1.2 225) W H n := by rw [hF1.m]; exact h
  have hR1 : Ra (τ1.2 225) H n := by rw [hF1.m]; exact hR
  unfold f_X12_findWay
  rw [m_first h hR hr, bd_s, show (8 : Int32) = N4 8 from rfl, a1, bd_s, m_last hd1 hR1 hr, bd_s, hF1.m]
  generalize htd : toc (σ.2 225) W r = t at *
  rw [gd_inb (by omega) (by omega), n4_nat (by omega)]
  obtain ⟨τ2, b1, b2, b3, b4, b5⟩ := fw_zero (x1 := N4 r) (x2 := N4 t) (σ := setL τ1 224 11 (τ1.2 228 t))
  rw [show (0 : Int32) = N4 0 from rfl, b1, bd_s, n4_nat (by omega), show (1 : Int32) = N4 1 from rfl]
  have hl2 : ∀ c, c < W * H → τ2.2 228 c = Z8 (dist W (W * H) (slw (σ.2 225) 8) (frc (σ.2 225) W r) c) := fun c hc => by
    rw [b3, mL_p (by omega)]
    exact a4 c hc
  have hF0 : Fw (σ) (setI (setI τ2 230 0 (N4 t)) 224 9 (N4 1)) := (((hF1.l (Or.inr ⟨rfl, rfl⟩)).trans b2).i (by unfold mwI; omega)).i (by unfold mwI; omega)
  obtain ⟨τ3, c1, c2, -, c4⟩ := m_trace (t := t) h hR hr hs a3 o2 (σ0 := setI (setI τ2 230 0 (N4 t)) 224 9 (N4 1)) hF0 hl2 mI_e (by rw [mI_p (by omega), mI_e]) (fun c hc => by rw [mI_p (by omega), mI_p (by omega)]; exact b5 c hc) (by rw [mI_L, mI_L, b3, mL_e]; exact a4 t o2)
  rw [c1, bd_s]
  refine ⟨τ3, rfl, c2, ?_⟩
  unfold WayM at c4
  unfold WayR wln wlr wtm dsl
  rw [htd]
  exact c4
theorem m_timeOf {W H n r : Nat} {σ : Mem} (h : Dm (σ.2 225) W H n) (hR : Ra (σ.2 225) H n) (hr : r < n) (hs : Slo (W * H) (slw (σ.2 225) 8)) :
    ∃ τ, f_X12_timeOf (N4 r) σ = some (wtm (σ.2 225) W H r, τ) ∧ FrS σ τ := by
  have hK := h.K
  obtain ⟨o1, o2, o3⟩ := hR.lt h hr
  obtain ⟨τ1, a1, a2, a3, a4⟩ := m_spread (x := 8) h (by omega) hs o1
  have hd1 : Dm (τ1.2 225) W H n := by rw [a2.dm]; exact h
  have hR1 : Ra (τ1.2 225) H n := by rw [a2.dm]; exact hR
  unfold f_X12_timeOf
  rw [m_first h hR hr, bd_s, show (8 : Int32) = N4 8 from rfl, a1, bd_s, m_last hd1 hR1 hr, bd_s, a2.dm, gd_inb (by omega) (by omega), n4_nat (by omega), a4 _ o2]
  exact ⟨τ1, rfl, a2⟩
theorem m_residualOf {W H n r : Nat} {σ : Mem} (h : Dm (σ.2 225) W H n) (hR : Ra (σ.2 225) H n) (hr : r < n) (hs : Slo (W * H) (slw (σ.2 225) 8)) :
    ∃ τ, f_X12_residualOf (N4 r) σ = some (σ.2 225 (139 + 4 * r) - wtm (σ.2 225) W H r, τ) ∧ FrS σ τ := by
  have hn := h.2.2.2.2.2.2.2
  obtain ⟨τ, a1, a2⟩ := m_timeOf h hR hr hs
  unfold f_X12_residualOf
  rw [show (3 : Int32) = N4 3 from rfl, m_of (by omega) (by omega), bd_s, a1, bd_s, show 136 + 4 * r + 3 = 139 + 4 * r by omega]
  exact ⟨τ, rfl, a2⟩
