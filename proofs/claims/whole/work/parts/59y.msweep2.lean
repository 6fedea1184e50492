/-! ===== what holds stays; drawing lots; the reference's sweeps ===== -/
theorem held_bd {a lo hi : Int64} (h : lo ≤ hi) : lo ≤ held8 a lo hi ∧ held8 a lo hi ≤ hi := by
  unfold held8
  split
  · split
    · exact ⟨by assumption, by assumption⟩
    · exact ⟨h, Int64.le_refl _⟩
  · exact ⟨Int64.le_refl _, h⟩
theorem val_row {m m' : Nat → Int64} {W H n : Nat} (hV : Val m W H n) (h0 : ∀ j, ¬ (8 ≤ j ∧ j < 72) → m' j = m j) (h8 : Slo 64 (slw m' 8)) : Val m' W H n := by
  obtain ⟨v1, v2, v3, v4, v5, v6, v7⟩ := hV
  refine ⟨dm_of v1 (h0 0 (by omega)) (h0 1 (by omega)) (h0 7 (by omega)), h8, fun c hc => ?_, ra_of v4 (fun r hr => ⟨h0 _ (by omega), h0 _ (by omega)⟩), ?_, fun r hr => ?_, fun r hr => ?_⟩
  · rw [slw_of (m := m) (K := 64) (fun c hc => h0 _ (by omega)) c hc]; exact v3 c hc
  · unfold Bnd
    rw [h0 2 (by omega), h0 3 (by omega), h0 4 (by omega), h0 5 (by omega), h0 6 (by omega)]
    exact v5
  · rw [h0 _ (by omega)]; exact v6 r hr
  · rw [h0 _ (by omega)]; exact v7 r hr
theorem bnd_held {m : Nat → Int64} (h : Bnd m) (v : Int64) : 1 ≤ (held8 v (m 2) (m 3)).toInt ∧ (held8 v (m 2) (m 3)).toInt ≤ 100000 := by
  obtain ⟨lo, hi, re, od, s, h2, h3, a1, a2, a3, -⟩ := h
  have hle : m 2 ≤ m 3 := by rw [h2, h3]; exact (n8_le (by omega) (by omega)).mpr a2
  obtain ⟨b1, b2⟩ := held_bd (a := v) hle
  rw [Int64.le_iff_toInt_le] at b1 b2
  have e1 : (m 2).toInt = lo := by rw [h2, n8_int (by omega)]
  have e2 : (m 3).toInt = hi := by rw [h3, n8_int (by omega)]
  omega
theorem val_cor {m : Nat → Int64} {W H n r : Nat} (hV : Val m W H n) : Val (mCor m W H r) W H n := by
  have hK := hV.1.K
  refine val_row hV (fun j hj => if_neg (fun q => hj ⟨q.1, by omega⟩)) (fun c hc => ?_)
  unfold slw mCor
  by_cases q : 8 ≤ 8 + c ∧ 8 + c < 8 + W * H ∧ 0 < wln m W H r (8 + c - 8)
  · rw [if_pos q]; exact bnd_held hV.2.2.2.2.1 _
  · rw [if_neg q]; exact hV.2.1 c hc
/-! drawing lots -/
def nxN (s : Nat) : Nat := (1103515245 * s + 12345) % 2147483648
def itN (s : Nat) : Nat → Nat
  | 0 => s
  | k + 1 => nxN (itN s k)
theorem nxN_lt (s : Nat) : nxN s < 2147483648 := Nat.mod_lt _ (by omega)
theorem itN_lt {s : Nat} (h : s < 2147483648) : ∀ k, itN s k < 2147483648
  | 0 => h
  | _ + 1 => nxN_lt _
theorem nxt_n {s : Nat} (h : s < 2147483648) : nxt (N8 s) = N8 (nxN s) := by
  unfold nxt nxN
  rw [show (1103515245 : Int64) = N8 1103515245 from rfl, show (12345 : Int64) = N8 12345 from rfl, show (2147483648 : Int64) = N8 2147483648 from rfl, n8_mul, n8_add, n8_mod (by omega) (by omega)]
def dat (n s k : Nat) : Nat := itN s (k + 1) / 65536 % (n - k)
def drL (n s : Nat) (l : Nat → Nat) : Nat → Nat → Nat
  | 0 => l
  | k + 1 => fun i => if i < dat n s k then drL n s l k i else drL n s l k (i + 1)
def drO (n s : Nat) (l : Nat → Nat) : Nat → Nat := fun k => drL n s l k (dat n s k)
theorem dat_lt {n s k : Nat} (h : k < n) : dat n s k < n - k := Nat.mod_lt _ (by omega)
theorem drL_mem {n s : Nat} {l : Nat → Nat} (P : Nat → Prop) (h : ∀ t, t < n → P (l t)) : ∀ k i, k ≤ n → i < n - k → P (drL n s l k i)
  | 0, i, _, hi => h i (by omega)
  | k + 1, i, hk, hi => by
    unfold drL
    split
    · exact drL_mem P h k i (by omega) (by omega)
    · exact drL_mem P h k (i + 1) (by omega) (by omega)
theorem drO_mem {n s : Nat} {l : Nat → Nat} (P : Nat → Prop) (h : ∀ t, t < n → P (l t)) : ∀ k, k < n → P (drO n s l k) :=
  fun k hk => drL_mem P h k _ (by omega) (dat_lt hk)
section MSWP2
variable {σ : Mem} {W H n : Nat} {hs : List (Nat → Int64)} {sc : List Nat} {x1 x2 x3 x4 : Int32} {m : Nat → Int64}
theorem m_shCopy {c : Nat} {o : Nat → Nat} (hc : c ≤ 16) (ho : ∀ t, t < c → σ.1 234 t = N4 (o t)) : ∃ τ, f_X12_shuffle_2 (N4 c) 100000 (N4 0) σ = some τ ∧ Fz msI msL σ τ ∧ τ.1 234 = σ.1 234 ∧ ∀ t, t < c → τ.1 236 t = N4 (o t) := by
  refine loopU (fun k i τ => f_X12_shuffle_2 (N4 c) k (N4 i) τ) c (fun i τ => Fz msI msL σ τ ∧ τ.1 234 = σ.1 234 ∧ ∀ t, t < i → τ.1 236 t = N4 (o t)) (fun τ => Fz msI msL σ τ ∧ τ.1 234 = σ.1 234 ∧ ∀ t, t < c → τ.1 236 t = N4 (o t)) ?_ ?_ 100000 0 σ (by omega) (by omega) ⟨Fz.rfl, rfl, fun t ht => by omega⟩
  · intro k τ hP
    refine ⟨τ, ?_, hP⟩
    show f_X12_shuffle_2 (N4 c) (k + 1) (N4 c) τ = some τ
    rw [f_X12_shuffle_2, if_pos ((n4_le (by omega) (by omega)).mpr (Nat.le_refl _))]
  · intro k i τ hi hP
    obtain ⟨p1, p2, p3⟩ := hP
    show ∃ a', f_X12_shuffle_2 (N4 c) (k + 1) (N4 i) τ = _ ∧ _
    rw [f_X12_shuffle_2, if_neg (fun q => by have := (n4_le (by omega) (by omega)).mp q; omega), gd_inb (by omega) (by omega), gd_inb (by omega) (by omega), n4_nat (by omega), n4_succ]
    refine ⟨_, rfl, p1.i (by unfold msI; omega), by rw [mI_p (by omega)]; exact p2, fun t ht => ?_⟩
    by_cases e : t = i
    · rw [e, mI_e, p2]; exact ho i hi
    · rw [mI_j e]; exact p3 t (by omega)
theorem m_shDrop {c a : Nat} {x2 : Int32} {l : Nat → Int32} (hc : c ≤ 16) (ha : a + 1 ≤ c) (hl : ∀ t, t < c → σ.1 236 t = l t) : ∃ τ, f_X12_shuffle_82 (N4 c) x2 100000 (N4 a) σ = some τ ∧ Fz msI msL σ τ ∧ τ.1 234 = σ.1 234 ∧ ∀ t, t + 1 < c → τ.1 236 t = (if t < a then l t else l (t + 1)) := by
  have key := loopU (fun k i τ => f_X12_shuffle_82 (N4 c) x2 k (N4 i) τ) (c - 1) (fun i τ => a ≤ i ∧ Fz msI msL σ τ ∧ τ.1 234 = σ.1 234 ∧ (∀ t, t < i → t < c → τ.1 236 t = (if t < a then l t else l (t + 1))) ∧ ∀ t, i ≤ t → t < c → τ.1 236 t = l t) (fun τ => Fz msI msL σ τ ∧ τ.1 234 = σ.1 234 ∧ ∀ t, t + 1 < c → τ.1 236 t = (if t < a then l t else l (t + 1))) ?_ ?_ 100000 a σ (by omega) (by omega) ⟨Nat.le_refl a, Fz.rfl, rfl, fun t ht htc => by rw [if_pos ht]; exact hl t htc, fun t _ htc => hl t htc⟩
  · exact key
  · intro k τ hP
    refine ⟨τ, ?_, hP.2.1, hP.2.2.1, fun t ht => hP.2.2.2.1 t (by omega) (by omega)⟩
    show f_X12_shuffle_82 (N4 c) x2 (k + 1) (N4 (c - 1)) τ = some τ
    rw [f_X12_shuffle_82, n4_succ, if_pos ((n4_le (by omega) (by omega)).mpr (by omega))]
  · intro k i τ hi hP
    obtain ⟨p0, p1, p2, p3, p4⟩ := hP
    show ∃ a', f_X12_shuffle_82 (N4 c) x2 (k + 1) (N4 i) τ = _ ∧ _
    rw [f_X12_shuffle_82, n4_succ, if_neg (fun q => by have := (n4_le (by omega) (by omega)).mp q; omega), gd_inb (by omega) (by omega), gd_inb (by omega) (by omega), n4_nat (by omega), n4_nat (by omega), p4 (i + 1) (by omega) (by omega)]
    refine ⟨_, rfl, by omega, p1.i (by unfold msI; omega), by rw [mI_p (by omega)]; exact p2, fun t ht htc => ?_, fun t ht htc => ?_⟩
    · by_cases e : t = i
      · rw [e, mI_e, if_neg (by omega)]
      · rw [mI_j e]; exact p3 t (by omega) htc
    · rw [mI_j (by omega)]; exact p4 t (by omega) htc
theorem upd_upd (m : Nat → Int64) (k : Nat) (a b : Int64) : vp_updL (vp_updL m k a) k b = vp_updL m k b := by
  funext j
  unfold vp_updL
  split <;> rfl
theorem upd_self {m : Nat → Int64} {k : Nat} {a : Int64} (h : m k = a) : vp_updL m k a = m := by
  funext j
  unfold vp_updL
  split
  · rename_i e; rw [e, h]
  · rfl
theorem m_shuffle {σ0 : Mem} {c s : Nat} {o : Nat → Nat} (hc : c ≤ 16) (hs6 : m 6 = N8 s) (hsl : s < 2147483648) (hM : MO σ σ0 m hs sc) (ho : ∀ t, t < c → σ0.1 234 t = N4 (o t)) :
    ∃ τ, f_X12_shuffle (N4 c) σ0 = some τ ∧ MO σ τ (vp_updL m 6 (N8 (itN s c))) hs sc ∧ ∀ t, t < c → τ.1 234 t = N4 (drO c s o t) := by
  obtain ⟨σ1, a1, a2, a3, a4⟩ := m_shCopy hc ho
  have hM1 := hM.s a2
  have key := loopU (fun k i τ => f_X12_shuffle_27 (N4 c) k (N4 i) τ) c (fun i τ => MO σ τ (vp_updL m 6 (N8 (itN s i))) hs sc ∧ (∀ t, t < i → τ.1 234 t = N4 (drO c s o t)) ∧ ∀ t, t < c - i → τ.1 236 t = N4 (drL c s o i t)) (fun τ => MO σ τ (vp_updL m 6 (N8 (itN s c))) hs sc ∧ ∀ t, t < c → τ.1 234 t = N4 (drO c s o t)) ?_ ?_ 100000 0 σ1 (by omega) (by omega) ⟨by rw [show itN s 0 = s from rfl, upd_self hs6]; exact hM1, fun t ht => by omega, fun t ht => a4 t (by omega)⟩
  · obtain ⟨τ, b1, b2⟩ := key
    have b1' : f_X12_shuffle_27 (N4 c) 100000 (N4 0) σ1 = some τ := b1
    refine ⟨τ, ?_, b2⟩
    unfold f_X12_shuffle
    rw [show (0 : Int32) = N4 0 from rfl, a1, bd_s, b1', bd_s]
  · intro k τ hP
    refine ⟨τ, ?_, hP.1, hP.2.1⟩
    show f_X12_shuffle_27 (N4 c) (k + 1) (N4 c) τ = some τ
    rw [f_X12_shuffle_27, if_pos ((n4_le (by omega) (by omega)).mpr (Nat.le_refl _))]
  · intro k i τ hi hP
    obtain ⟨p1, p2, p3⟩ := hP
    have hlt := itN_lt hsl i
    have hlt1 := itN_lt hsl (i + 1)
    have hd := dat_lt (n := c) (s := s) hi
    have e6 : τ.2 225 6 = N8 (itN s i) := by rw [p1.1]; simp [vp_updL]
    have eat : (N8 (nxN (itN s i)) / N8 65536 - N8 (nxN (itN s i)) / N8 65536 / N8 (c - i) * N8 (c - i)).toInt32 = N4 (dat c s i) := by
      have : nxN (itN s i) < 2147483648 := nxN_lt _
      have h2 : nxN (itN s i) / 65536 ≤ nxN (itN s i) := Nat.div_le_self _ _
      rw [n8_div (by omega) (by omega), n8_mod (by omega) (by omega), n8_32]
      rfl
    have enz : nz8 (N8 (c - i)) = true := by
      have : ¬ N8 (c - i) = 0 := fun q => by
        have := (n8_eq (b := 0) (by omega) (by omega)).mp q
        omega
      simp [nz8, this]
    have hMa : MO σ (setI (setL τ 225 6 (N8 (nxN (itN s i)))) 234 i (N4 (drL c s o i (dat c s i)))) (vp_updL m 6 (N8 (itN s (i + 1)))) hs sc := by
      have h1 := p1.l (j := 6) (v := N8 (nxN (itN s i)))
      rw [upd_upd] at h1
      exact h1.s (Fz.rfl.i (by unfold msI; omega))
    have hl : ∀ t, t < c - i → (setI (setL τ 225 6 (N8 (nxN (itN s i)))) 234 i (N4 (drL c s o i (dat c s i)))).1 236 t = N4 (drL c s o i t) := fun t ht => by
      rw [mI_p (by omega)]; exact p3 t ht
    show ∃ a', f_X12_shuffle_27 (N4 c) (k + 1) (N4 i) τ = _ ∧ _
    rw [f_X12_shuffle_27, if_neg (fun q => by have := (n4_le (by omega) (by omega)).mp q; omega), show (6 : Int32).toNatClampNeg = 6 from rfl]
    unfold f_X12_next
    rw [bd_s, mL_e, e6, n4_sub (by omega), n4_64 (by omega), gd_t enz, show (65536 : Int64) = N8 65536 from rfl, show (1103515245 * N8 (itN s i) + 12345 - (1103515245 * N8 (itN s i) + 12345) / 2147483648 * 2147483648) = N8 (nxN (itN s i)) from nxt_n hlt, eat, gd_inb (by omega) (by omega), gd_inb (by omega) (by omega), bd_s, n4_nat (by omega), n4_nat (by omega), mL_I, p3 _ hd]
    obtain ⟨ρ, r1, r2, r3, r4⟩ := m_shDrop (c := c) (a := dat c s i) (x2 := N4 i) (σ := setI (setL τ 225 6 (N8 (nxN (itN s i)))) 234 i (N4 (drL c s o i (dat c s i)))) (l := (setI (setL τ 225 6 (N8 (nxN (itN s i)))) 234 i (N4 (drL c s o i (dat c s i)))).1 236) hc (by omega) (fun t _ => rfl)
    rw [r1, bd_s, n4_succ]
    refine ⟨ρ, rfl, hMa.s r2, fun t ht => ?_, fun t ht => ?_⟩
    · rw [r3]
      by_cases e : t = i
      · rw [e, mI_e]; rfl
      · rw [mI_j e]; exact p2 t (by omega)
    · rw [r4 t (by omega), show drL c s o (i + 1) t = if t < dat c s i then drL c s o i t else drL c s o i (t + 1) from rfl]
      by_cases e : t < dat c s i
      · rw [if_pos e, if_pos e, hl t (by omega)]
      · rw [if_neg e, if_neg e, hl (t + 1) (by omega)]
/-! sweeps -/
noncomputable def corK (m : Nat → Int64) (W H : Nat) (o : Nat → Nat) : Nat → (Nat → Int64)
  | 0 => m
  | i + 1 => mCor (corK m W H o i) W H (o i)
theorem val_corK (hV : Val m W H n) (o : Nat → Nat) : ∀ i, Val (corK m W H o i) W H n
  | 0 => hV
  | i + 1 => val_cor (val_corK hV o i)
theorem m_sw37 {σ0 : Mem} {c : Nat} {y1 y2 y3 : Int32} {o : Nat → Nat} (hV : Val m W H n) (hM : MO σ σ0 m hs sc) (hc : c ≤ 16) (ho : ∀ t, t < c → σ0.1 234 t = N4 (o t) ∧ o t < n) : ∃ τ, f_X12_sweeps_37 y1 y2 y3 (N4 c) 100000 (N4 0) σ0 = some τ ∧ MO σ τ (corK m W H o c) hs sc := by
  have hn := hV.1.2.2.2.2.2.2.2
  refine loopU (fun k i τ => f_X12_sweeps_37 y1 y2 y3 (N4 c) k (N4 i) τ) c (fun i τ => MO σ τ (corK m W H o i) hs sc ∧ τ.1 234 = σ0.1 234) (fun τ => MO σ τ (corK m W H o c) hs sc) ?_ ?_ 100000 0 σ0 (by omega) (by omega) ⟨hM, rfl⟩
  · intro k τ hP
    refine ⟨τ, ?_, hP.1⟩
    show f_X12_sweeps_37 y1 y2 y3 (N4 c) (k + 1) (N4 c) τ = some τ
    rw [f_X12_sweeps_37, if_pos ((n4_le (by omega) (by omega)).mpr (Nat.le_refl _))]
  · intro k i τ hi hP
    obtain ⟨p1, p2⟩ := hP
    obtain ⟨h1, h2⟩ := ho i hi
    obtain ⟨ρ, r1, r2, r3⟩ := m_corrects (val_corK hV o i) h2 p1
    show ∃ a', f_X12_sweeps_37 y1 y2 y3 (N4 c) (k + 1) (N4 i) τ = _ ∧ _
    rw [f_X12_sweeps_37, if_neg (fun q => by have := (n4_le (by omega) (by omega)).mp q; omega), gd_inb (by omega) (by omega), n4_nat (by omega), p2, h1, r1, bd_s, n4_succ]
    exact ⟨ρ, rfl, r2, r3.trans p2⟩
noncomputable def swp1 (m : Nat → Int64) (W H n : Nat) : Nat → Int64 :=
  if m 5 = 3 then corK (vp_updL m 6 (N8 (itN (m 6).toNatClampNeg (cnt (actR m) n)))) W H (drO (cnt (actR m) n) (m 6).toNatClampNeg (ordM m W H n)) (cnt (actR m) n)
  else corK m W H (ordM m W H n) (cnt (actR m) n)
theorem val_s {s : Nat} (hV : Val m W H n) (hs : s < 2147483648) : Val (vp_updL m 6 (N8 s)) W H n := by
  obtain ⟨v1, v2, v3, v4, v5, v6, v7⟩ := hV
  have e : ∀ j, j ≠ 6 → vp_updL m 6 (N8 s) j = m j := fun j hj => if_neg hj
  refine ⟨dm_l v1 (by omega), fun c hc => ?_, fun c hc => ?_, ra_of v4 (fun r hr => ⟨e _ (by omega), e _ (by omega)⟩), ?_, fun r hr => ?_, fun r hr => ?_⟩
  · rw [slw_of (m := m) (K := 64) (fun c hc => e _ (by omega)) c hc]; exact v2 c hc
  · rw [slw_of (m := m) (K := 64) (fun c hc => e _ (by omega)) c hc]; exact v3 c hc
  · obtain ⟨lo, hi, re, od, s', a1, a2, a3, a4, a5, a6, a7, a8, a9, a10, a11, a12⟩ := v5
    unfold Bnd
    rw [e 2 (by omega), e 3 (by omega), e 4 (by omega), e 5 (by omega)]
    exact ⟨lo, hi, re, od, s, a1, a2, a3, a4, a5, a6, a7, a8, a9, a10, if_pos rfl, hs⟩
  · rw [e _ (by omega)]; exact v6 r hr
  · rw [e _ (by omega)]; exact v7 r hr
theorem val_swp1 (hV : Val m W H n) : Val (swp1 m W H n) W H n := by
  obtain ⟨lo, hi, re, od, s, a1, a2, a3, a4, a5, a6, a7, a8, a9, a10, a11, a12⟩ := hV.2.2.2.2.1
  unfold swp1
  split
  · rw [a11, n8_nat (by omega)]
    exact val_corK (val_s hV (itN_lt a12 _)) _ _
  · exact val_corK hV _ _
noncomputable def swpK (m : Nat → Int64) (W H n : Nat) : Nat → (Nat → Int64)
  | 0 => m
  | k + 1 => swp1 (swpK m W H n k) W H n
noncomputable def swpC (m : Nat → Int64) (W H n : Nat) : Nat → Nat
  | 0 => 0
  | k + 1 => swpC m W H n k + cnt (actR (swpK m W H n k)) n
theorem val_swpK (hV : Val m W H n) : ∀ k, Val (swpK m W H n k) W H n
  | 0 => hV
  | k + 1 => val_swp1 (val_swpK hV k)
theorem ordM_lt (hn : n ≤ 16) : ∀ t, t < cnt (actR m) n → ordM m W H n t < n ∧ actR m (ordM m W H n t) = true := ord_act hn
theorem m_sweeps {σ0 : Mem} {k : Nat} (hV : Val m W H n) (hM : MO σ σ0 m hs sc) (hk : k ≤ 20) : ∃ τ, f_X12_sweeps (N4 k) σ0 = some (N4 (swpC m W H n k), τ) ∧ MO σ τ (swpK m W H n k) hs sc := by
  have hn := hV.1.2.2.2.2.2.2.2
  have key := loopU (fun q i (a : Int32 × Mem) => f_X12_sweeps_4 (N4 k) q a.1 (N4 i) a.2) k (fun i a => a.1 = N4 (swpC m W H n i) ∧ MO σ a.2 (swpK m W H n i) hs sc) (fun b => b.1 = N4 (swpC m W H n k) ∧ MO σ b.2 (swpK m W H n k) hs sc) ?_ ?_ 100000 0 (N4 0, σ0) (by omega) (by omega) ⟨rfl, hM⟩
  · obtain ⟨⟨b1, b2⟩, c1, c2, c3⟩ := key
    obtain rfl : b1 = _ := c2
    have c1' : f_X12_sweeps_4 (N4 k) 100000 (N4 0) (N4 0) σ0 = _ := c1
    unfold f_X12_sweeps
    rw [show (0 : Int32) = N4 0 from rfl, c1', bd_s]
    exact ⟨b2, rfl, c3⟩
  · rintro q ⟨a, τ⟩ ⟨p1, p2⟩
    refine ⟨(a, τ), ?_, p1, p2⟩
    show f_X12_sweeps_4 (N4 k) (q + 1) a (N4 k) τ = some (a, τ)
    rw [f_X12_sweeps_4, if_pos ((n4_le (by omega) (by omega)).mpr (Nat.le_refl _))]
  · rintro q i ⟨a, τ⟩ hi ⟨p1, p2⟩
    have p1' : a = N4 (swpC m W H n i) := p1
    have hVi := val_swpK hV i
    have hcl := cnt_le (actR (swpK m W H n i)) n
    obtain ⟨ρ, r1, r2, r3⟩ := m_arrange hVi p2
    have hol := ordM_lt (m := swpK m W H n i) (W := W) (H := H) hn
    have hsum : a + N4 (cnt (actR (swpK m W H n i)) n) = N4 (swpC m W H n (i + 1)) := by rw [p1', n4_add]; rfl
    have e5 : ρ.2 225 5 = swpK m W H n i 5 := by rw [r2.1]
    show ∃ a', f_X12_sweeps_4 (N4 k) (q + 1) a (N4 i) τ = _ ∧ _
    rw [f_X12_sweeps_4, if_neg (fun q => by have := (n4_le (by omega) (by omega)).mp q; omega), r1, bd_s, show (5 : Int32).toNatClampNeg = 5 from rfl, e5]
    by_cases o3 : swpK m W H n i 5 = 3
    · obtain ⟨lo, hi', re, od, s, a1, a2, a3, a4, a5, a6, a7, a8, a9, a10, a11, a12⟩ := hVi.2.2.2.2.1
      obtain ⟨μ, s1, s2, s3⟩ := m_shuffle (by omega) a11 a12 r2 r3
      obtain ⟨ν, t1, t2⟩ := m_sw37 (y1 := N4 k) (y2 := a) (y3 := N4 i) (val_s hVi (itN_lt a12 (cnt (actR (swpK m W H n i)) n))) s2 (by omega) (fun t ht => ⟨s3 t ht, drO_mem (fun r => r < n) (fun t ht => (hol t ht).1) t ht⟩)
      rw [if_pos o3, s1, bd_s, show (0 : Int32) = N4 0 from rfl, t1, bd_s, n4_succ]
      refine ⟨(_, _), rfl, hsum, ?_⟩
      show MO σ ν (swp1 (swpK m W H n i) W H n) hs sc
      unfold swp1
      rw [if_pos o3, a11, n8_nat (by omega)]
      exact t2
    · obtain ⟨ν, t1, t2⟩ := m_sw37 (y1 := N4 k) (y2 := a) (y3 := N4 i) hVi r2 (by omega) (fun t ht => ⟨r3 t ht, (hol t ht).1⟩)
      rw [if_neg o3, show (0 : Int32) = N4 0 from rfl, t1, bd_s, n4_succ]
      refine ⟨(_, _), rfl, hsum, ?_⟩
      show MO σ ν (swp1 (swpK m W H n i) W H n) hs sc
      unfold swp1
      rw [if_neg o3]
      exact t2
theorem mo_sweep1 (h1 : rng x1 1 20 = false) : f_X12_sweep x1 σ = some (0, setI σ 224 5 1) := by
  unfold f_X12_sweep
  rw [inr 1 20 rfl rfl, bd_s, if_pos (b4_f (bf h1)), mI_e, if_neg (by decide)]
theorem mo_sweep {k : Nat} (hV : Val (σ.2 225) W H n) (hI : MInv σ hs sc) (hk : 1 ≤ k) (hk2 : k ≤ 20) : ∃ τ, f_X12_sweep (N4 k) σ = some (N4 (swpC (σ.2 225) W H n k), τ) ∧ MO σ τ (swpK (σ.2 225) W H n k) (push hs (σ.2 225)) sc := by
  have h1 : rng (N4 k) 1 20 = true := by unfold rng; rw [n4_int (by omega), decide_eq_true_eq]; omega
  obtain ⟨τ, a1, a2⟩ := m_keep0 hI
  obtain ⟨ρ, b1, b2⟩ := m_sweeps hV a2 hk2
  unfold f_X12_sweep
  rw [inr 1 20 rfl rfl, bd_s, if_neg (b4_t h1), mI_e, if_pos rfl, a1, bd_s, b1, bd_s]
  exact ⟨ρ, rfl, b2⟩
end MSWP2
