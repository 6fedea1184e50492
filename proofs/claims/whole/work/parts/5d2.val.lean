/-! ===== what holds of a row of 200 stays ===== -/
section VAL
variable {W H n : Nat} {m : Nat → Int64}
theorem val_add {a b : Nat} (hV : Val m W H n) (ha : a < H) (hb : b < H) (hn : n < 16) : Val (mAdd m n (N8 a) (N8 b)) W H (n + 1) := by
  obtain ⟨v1, v2, v3, v4, v5, v6, v7⟩ := hV
  obtain ⟨d0, d1, d7, d⟩ := v1
  have e : ∀ j, j ≠ 136 + 4 * n → j ≠ 137 + 4 * n → j ≠ 138 + 4 * n → j ≠ 139 + 4 * n → j ≠ 7 → mAdd m n (N8 a) (N8 b) j = m j := fun j h1 h2 h3 h4 h5 => by
    simp [mAdd, vp_updL, h1, h2, h3, h4, h5]
  have e1 : mAdd m n (N8 a) (N8 b) (136 + 4 * n) = N8 a := by
    simp [mAdd, vp_updL, show 136 + 4 * n ≠ 7 by omega]
  have e2 : mAdd m n (N8 a) (N8 b) (137 + 4 * n) = N8 b := by
    simp [mAdd, vp_updL, show 137 + 4 * n ≠ 7 by omega]
  have e3 : mAdd m n (N8 a) (N8 b) (138 + 4 * n) = N8 1 := by
    simp [mAdd, vp_updL, show 138 + 4 * n ≠ 7 by omega]
    rfl
  have e4 : mAdd m n (N8 a) (N8 b) (139 + 4 * n) = Z8 (-1) := by
    simp [mAdd, vp_updL, show 139 + 4 * n ≠ 7 by omega]
    rfl
  have e7 : mAdd m n (N8 a) (N8 b) 7 = N8 (n + 1) := by simp [mAdd, vp_updL]
  refine ⟨⟨(e 0 (by omega) (by omega) (by omega) (by omega) (by omega)).trans d0, (e 1 (by omega) (by omega) (by omega) (by omega) (by omega)).trans d1, e7, d.1, d.2.1, d.2.2.1, d.2.2.2.1, by omega⟩, fun c hc => ?_, fun c hc => ?_, fun r hr => ?_, ?_, fun r hr => ?_, fun r hr => ?_⟩
  · rw [slw_of (m := m) (K := 64) (fun c hc => e _ (by omega) (by omega) (by omega) (by omega) (by omega)) c hc]; exact v2 c hc
  · rw [slw_of (m := m) (K := 64) (fun c hc => e _ (by omega) (by omega) (by omega) (by omega) (by omega)) c hc]; exact v3 c hc
  · by_cases q : r = n
    · rw [q]; exact ⟨a, b, e1, ha, e2, hb⟩
    · obtain ⟨x, y, z⟩ := v4 r (by omega)
      exact ⟨x, y, by rw [e _ (by omega) (by omega) (by omega) (by omega) (by omega), e _ (by omega) (by omega) (by omega) (by omega) (by omega)]; exact z⟩
  · unfold Bnd
    rw [e 2 (by omega) (by omega) (by omega) (by omega) (by omega), e 3 (by omega) (by omega) (by omega) (by omega) (by omega), e 4 (by omega) (by omega) (by omega) (by omega) (by omega), e 5 (by omega) (by omega) (by omega) (by omega) (by omega), e 6 (by omega) (by omega) (by omega) (by omega) (by omega)]
    exact v5
  · by_cases q : r = n
    · rw [q]; exact Or.inr e3
    · rw [e _ (by omega) (by omega) (by omega) (by omega) (by omega)]; exact v6 r hr
  · by_cases q : r = n
    · rw [q]; exact ⟨-1, e4, by omega, by omega⟩
    · rw [e _ (by omega) (by omega) (by omega) (by omega) (by omega)]; exact v7 r hr
/-- a change at ray places or 2 to 6 keeps dimensions, slownesses, rows -/
theorem val_ray {m' : Nat → Int64} (hV : Val m W H n) (e : ∀ j, ¬ (138 ≤ j ∧ 2 ≤ (j - 136) % 4) → m' j = m j) (h6 : Usd m') (h7 : Tim m') : Val m' W H n := by
  obtain ⟨v1, v2, v3, v4, v5, v6, v7⟩ := hV
  refine ⟨dm_of v1 (e 0 (by omega)) (e 1 (by omega)) (e 7 (by omega)), fun c hc => ?_, fun c hc => ?_, ra_of v4 (fun r hr => ⟨e _ (by omega), e _ (by omega)⟩), ?_, h6, h7⟩
  · rw [slw_of (m := m) (K := 64) (fun c hc => e _ (by omega)) c hc]; exact v2 c hc
  · rw [slw_of (m := m) (K := 64) (fun c hc => e _ (by omega)) c hc]; exact v3 c hc
  · unfold Bnd
    rw [e 2 (by omega), e 3 (by omega), e 4 (by omega), e 5 (by omega), e 6 (by omega)]
    exact v5
theorem val_use {r : Nat} {x : Int32} (hV : Val m W H n) (hr : r < 16) : Val (mUse m r x) W H n := by
  have e : ∀ j, j ≠ 138 + 4 * r → mUse m r x j = m j := fun j hj => if_neg hj
  refine val_ray hV (fun j hj => e j (by omega)) (fun t ht => ?_) (fun t ht => ?_)
  · by_cases q : t = r
    · rw [q]
      unfold mUse vp_updL
      rw [if_pos rfl]
      by_cases c : x = 0
      · rw [if_pos c]; exact Or.inl rfl
      · rw [if_neg c]; exact Or.inr rfl
    · rw [e _ (by omega)]; exact hV.2.2.2.2.2.1 t ht
  · rw [e _ (by omega)]; exact hV.2.2.2.2.2.2 t ht
theorem val_tim {r : Nat} {v : Int64} (hV : Val m W H n) (hr : r < 16) (h1 : -1 ≤ v.toInt) (h2 : v.toInt ≤ 100000000000) : Val (vp_updL m (139 + 4 * r) v) W H n := by
  have e : ∀ j, j ≠ 139 + 4 * r → vp_updL m (139 + 4 * r) v j = m j := fun j hj => if_neg hj
  refine val_ray hV (fun j hj => e j (by omega)) (fun t ht => ?_) (fun t ht => ?_)
  · rw [e _ (by omega)]; exact hV.2.2.2.2.2.1 t ht
  · by_cases q : t = r
    · rw [q]
      refine ⟨v.toInt, ?_, h1, h2⟩
      unfold vp_updL
      rw [if_pos rfl]; exact (z8_of v).symm
    · rw [e _ (by omega)]; exact hV.2.2.2.2.2.2 t ht
theorem held0 {a : Int64} (ha : a.toInt ≤ 100000000000) : -1 ≤ (held8 a 0 1000000000000000).toInt ∧ (held8 a 0 1000000000000000).toInt ≤ 100000000000 := by
  unfold held8
  have h0 : (0 : Int64).toInt = 0 := rfl
  have h1 : (1000000000000000 : Int64).toInt = 1000000000000000 := rfl
  simp only [Int64.le_iff_toInt_le, h0, h1]
  by_cases q : 0 ≤ a.toInt
  · rw [if_pos q, if_pos (by omega)]; omega
  · rw [if_neg q, h0]; omega
theorem noi_bd {t : Int64} {w : Nat} (hw : w ≤ 1000) {s : Nat} (ht : t = N8 s) (hs : s < 2147483648) : noi t (N4 w) = Z8 (1000 * (((s / 65536 % (2 * w + 1) : Nat) : Int) - (w : Int))) := by
  unfold noi
  rw [(nz_w (w := w) hw).2, ht, show (65536 : Int64) = N8 65536 from rfl, n8_div (by omega) (by omega), n8_mod (by have := Nat.div_le_self s 65536; omega) (by omega), n4_64 (by omega), z8_n, z8_n, z8_sub, show (1000 : Int64) = Z8 1000 from rfl, z8_mul]
theorem tns_n {s : Nat} (h : s < 2147483648) : ∀ k, tns (N8 s) k = N8 (itN s k)
  | 0 => rfl
  | k + 1 => by
    show nxt (tns (N8 s) k) = _
    rw [tns_n h k, nxt_n (itN_lt h k)]
    rfl
theorem dsl_bd (hV : Val m W H n) {x o c : Nat} (hx : x = 8 ∨ x = 72) (ho : o < W * H) (hc : c < W * H) : 0 ≤ dsl m W H x o c ∧ dsl m W H x o c ≤ 35632800000 := by
  have h := hV.1
  have hs : Slo (W * H) (slw m x) := by
    rcases hx with rfl | rfl
    · exact hV.s8
    · exact hV.s72
  have hC : Cert W (W * H) (slw m x) o (dsl m W H x o) := cert_ex h.2.2.2.1 h.2.2.2.2.1 h.2.2.2.2.2.1 h.2.2.2.2.2.2.1 hs ho
  exact ⟨hC.2.1 c hc, cert_bd h.2.2.2.1 (by have := h.2.2.2.2.1; omega) h.K.2 hs ho hC.1 hC.2.2.1 c hc⟩
theorem obsV_bd {w s r : Nat} (hV : Val m W H n) (hw : w ≤ 1000) (hs : s < 2147483648) (hr : r < n) : -1 ≤ (obsV m W H (N4 w) (N8 s) r).toInt ∧ (obsV m W H (N4 w) (N8 s) r).toInt ≤ 100000000000 := by
  unfold obsV
  obtain ⟨o1, o2, o3⟩ := hV.2.2.2.1.lt hV.1 hr
  obtain ⟨b1, b2⟩ := dsl_bd hV (Or.inr rfl : (72 : Nat) = 8 ∨ (72 : Nat) = 72) o1 o2
  refine held0 ?_
  rw [tns_n hs, noi_bd hw rfl (itN_lt hs _), z8_add]
  have hm : itN s (r + 1) / 65536 % (2 * w + 1) < 2 * w + 1 := Nat.mod_lt _ (by omega)
  rw [z8_int (by omega) (by omega)]
  omega
theorem val_obsK {w s k : Nat} (hV : Val m W H n) (hw : w ≤ 1000) (hs : s < 2147483648) (hk : k ≤ n) : Val (mObs m W H k (N4 w) (N8 s)) W H n := by
  have hn := hV.1.2.2.2.2.2.2.2
  refine val_ray hV (fun j hj => if_neg (by omega)) (fun t ht => ?_) (fun t ht => ?_)
  · rw [mObs_o (by omega)]; exact hV.2.2.2.2.2.1 t ht
  · by_cases q : t < k
    · obtain ⟨b1, b2⟩ := obsV_bd hV hw hs (show t < n by omega)
      refine ⟨(obsV m W H (N4 w) (N8 s) t).toInt, ?_, b1, b2⟩
      unfold mObs
      rw [if_pos (by omega), show (139 + 4 * t - 139) / 4 = t by omega]
      exact (z8_of _).symm
    · unfold mObs
      rw [if_neg (by omega)]
      exact hV.2.2.2.2.2.2 t ht
theorem val_obs {w s : Nat} (hV : Val m W H n) (hw : w ≤ 1000) (hs : s < 2147483648) : Val (mObs m W H n (N4 w) (N8 s)) W H n := val_obsK hV hw hs (Nat.le_refl n)
/-! slownesses -/
theorem slo_n {x : Nat} (h : Slo 64 (slw m x)) {c : Nat} (hc : c < 64) : ∃ v, m (x + c) = N8 v ∧ 1 ≤ v ∧ v ≤ 100000 := by
  obtain ⟨h1, h2⟩ := h c hc
  unfold slw at h1 h2
  refine ⟨(m (x + c)).toInt.toNat, ?_, by omega, by omega⟩
  rw [z8_n, Int.toNat_of_nonneg (by omega), z8_of]
theorem val_s8 {c v : Nat} (hV : Val m W H n) (hc : c < 64) (h1 : 1 ≤ v) (h2 : v ≤ 100000) : Val (vp_updL m (8 + c) (N8 v)) W H n := by
  refine val_row hV (fun j hj => if_neg (by omega)) (fun d hd => ?_)
  unfold slw vp_updL
  by_cases q : 8 + d = 8 + c
  · rw [if_pos q, n8_int (by omega)]; omega
  · rw [if_neg q]; exact hV.2.1 d hd
theorem val_row72 {m' : Nat → Int64} (hV : Val m W H n) (h0 : ∀ j, ¬ (72 ≤ j ∧ j < 136) → m' j = m j) (h72 : Slo 64 (slw m' 72)) : Val m' W H n := by
  obtain ⟨v1, v2, v3, v4, v5, v6, v7⟩ := hV
  refine ⟨dm_of v1 (h0 0 (by omega)) (h0 1 (by omega)) (h0 7 (by omega)), fun c hc => ?_, h72, ra_of v4 (fun r hr => ⟨h0 _ (by omega), h0 _ (by omega)⟩), ?_, fun r hr => ?_, fun r hr => ?_⟩
  · rw [slw_of (m := m) (K := 64) (fun c hc => h0 _ (by omega)) c hc]; exact v2 c hc
  · unfold Bnd
    rw [h0 2 (by omega), h0 3 (by omega), h0 4 (by omega), h0 5 (by omega), h0 6 (by omega)]
    exact v5
  · rw [h0 _ (by omega)]; exact v6 r hr
  · rw [h0 _ (by omega)]; exact v7 r hr
theorem val_s72 {c v : Nat} (hV : Val m W H n) (hc : c < 64) (h1 : 1 ≤ v) (h2 : v ≤ 100000) : Val (vp_updL m (72 + c) (N8 v)) W H n := by
  refine val_row72 hV (fun j hj => if_neg (by omega)) (fun d hd => ?_)
  unfold slw vp_updL
  by_cases q : 72 + d = 72 + c
  · rw [if_pos q, n8_int (by omega)]; omega
  · rw [if_neg q]; exact hV.2.2.1 d hd
theorem rnd_n {S c : Nat} (hS : S < 1000000000000) (hc : 0 < c) (hc2 : c < 1000000) : rnd8 (N8 S) (N8 c) = N8 ((2 * S + c) / (2 * c)) := by
  unfold rnd8
  have h1 : (2 * S + c) / (2 * c) * (2 * c) ≤ 2 * S + c := Nat.div_mul_le_self _ _
  have h2 : (2 * S + c) / (2 * c) ≤ 2 * S + c := Nat.div_le_self _ _
  have h3 : (2 * S + c) / (2 * c) * 2 * c = (2 * S + c) / (2 * c) * (2 * c) := Nat.mul_assoc _ _ _
  rw [show (2 : Int64) = N8 2 from rfl, n8_mul, n8_mul, n8_add, n8_div (by omega) (by omega), n8_mul, n8_mul, if_pos ((n8_le (by omega) (by omega)).mpr (by omega))]
theorem rnd_bd {S c : Nat} (hc : 0 < c) (h1 : c ≤ S) (h2 : S ≤ 100000 * c) : 1 ≤ (2 * S + c) / (2 * c) ∧ (2 * S + c) / (2 * c) ≤ 100000 := by
  constructor
  · exact (Nat.le_div_iff_mul_le (by omega)).mpr (by omega)
  · have : (2 * S + c) / (2 * c) < 100001 := (Nat.div_lt_iff_lt_mul (by omega)).mpr (by omega)
    omega
theorem sum_sel (p : Nat → Bool) (h : Slo 64 (slw m 8)) : ∀ K, K ≤ 64 → ∃ S, sum8 (fun o => if p o = true then m (8 + o) else 0) K = N8 S ∧ cnt p K ≤ S ∧ S ≤ 100000 * cnt p K
  | 0, _ => ⟨0, rfl, Nat.le_refl _, by simp [cnt]⟩
  | K + 1, hK => by
    obtain ⟨S, s1, s2, s3⟩ := sum_sel p h K (by omega)
    obtain ⟨v, v1, v2, v3⟩ := slo_n h (show K < 64 by omega)
    simp only [sum8, cnt]
    rw [s1]
    by_cases q : p K = true
    · rw [if_pos q, if_pos q, v1, n8_add]
      exact ⟨S + v, rfl, by omega, by omega⟩
    · rw [if_neg q, if_neg q, show (0 : Int64) = N8 0 from rfl, n8_add]
      exact ⟨S, rfl, by omega, by omega⟩
theorem val_fr {fr : Nat → Int64} (hV : Val m W H n) (hf : ∀ c, c < W * H → 1 ≤ (fr c).toInt ∧ (fr c).toInt ≤ 100000) : Val (mFr m fr (W * H)) W H n := by
  have hK := hV.1.K
  refine val_row hV (fun j hj => if_neg (by omega)) (fun d hd => ?_)
  unfold slw mFr
  by_cases q : 8 ≤ 8 + d ∧ 8 + d < 8 + W * H
  · rw [if_pos q, Nat.add_sub_cancel_left]; exact hf d (by omega)
  · rw [if_neg q]; exact hV.2.1 d hd
theorem smoV_n {k c : Nat} (hV : Val m W H n) (hk : 1 ≤ k) (hk2 : k ≤ 100) (hc : c < W * H) : ∃ v, smoV m W (W * H) k c = N8 v ∧ 1 ≤ v ∧ v ≤ 100000 := by
  have hK := hV.1.K
  obtain ⟨x, x1, x2, x3⟩ := slo_n hV.2.1 (show c < 64 by omega)
  obtain ⟨S, s1, s2, s3⟩ := sum_sel (fun o => decide (mv W c o = 1000)) hV.2.1 (W * H) hK.2
  simp only [decide_eq_true_eq] at s1
  have hcn := cnt_le (fun o => decide (mv W c o = 1000)) (W * H)
  have hx1 : k * 1 ≤ k * x := Nat.mul_le_mul_left k x2
  have hx2 : k * x ≤ k * 100000 := Nat.mul_le_mul_left k x3
  unfold smoV smoS smoN
  rw [x1, s1, n8_mul, n8_add]
  generalize cnt (fun o => decide (mv W c o = 1000)) (W * H) = cc at *
  have hb := rnd_bd (S := k * x + S) (c := k + cc) (by omega) (by omega) (by omega)
  exact ⟨_, rnd_n (by omega) (by omega) (by omega), hb.1, hb.2⟩
theorem val_smo {k : Nat} (hV : Val m W H n) (hk : 1 ≤ k) (hk2 : k ≤ 100) : Val (mSmo m W (W * H) k) W H n := by
  refine val_fr hV (fun c hc => ?_)
  obtain ⟨v, v1, v2, v3⟩ := smoV_n hV hk hk2 hc
  rw [v1, n8_int (by omega)]
  omega
theorem filV_n {c : Nat} (hV : Val m W H n) (hc : c < W * H) : ∃ v, filV m W H n c = N8 v ∧ 1 ≤ v ∧ v ≤ 100000 := by
  have hK := hV.1.K
  unfold filV
  by_cases q : cvr m W H c n = 0 ∧ 0 < filN m W H n c (W * H)
  · rw [if_pos q]
    obtain ⟨S, s1, s2, s3⟩ := sum_sel (filP m W H n c) hV.2.1 (W * H) hK.2
    have hcn := cnt_le (filP m W H n c) (W * H)
    have q2 := q.2
    unfold filS filN at *
    rw [s1]
    have hb := rnd_bd (S := S) (c := cnt (filP m W H n c) (W * H)) q2 s2 s3
    exact ⟨_, rnd_n (by omega) (by omega) (by omega), hb.1, hb.2⟩
  · rw [if_neg q]; exact slo_n hV.2.1 (by omega)
theorem val_fil (hV : Val m W H n) : Val (mFil m W H n) W H n := by
  refine val_fr hV (fun c hc => ?_)
  obtain ⟨v, v1, v2, v3⟩ := filV_n hV hc
  rw [v1, n8_int (by omega)]
  omega
theorem val_beg {c r : Nat} (hV : Val m W H n) (c1 : 2 ≤ c) (c2 : c ≤ 8) (r1 : 2 ≤ r) (r2 : r ≤ 8) : Val (mBeg m (N8 c) (N8 r)) c r 0 := by
  obtain ⟨v1, v2, v3, v4, v5, v6, v7⟩ := hV
  have e : ∀ j, 136 ≤ j ∨ (2 ≤ j ∧ j < 7) → mBeg m (N8 c) (N8 r) j = m j := fun j hj => by
    unfold mBeg vp_updL
    rw [if_neg (by omega), if_neg (by omega), if_neg (by omega), if_neg (by omega)]
  have e8 : ∀ j, 8 ≤ j → j < 136 → mBeg m (N8 c) (N8 r) j = 1000 := fun j h1 h2 => if_pos ⟨h1, h2⟩
  have h1000 : (1000 : Int64).toInt = 1000 := rfl
  refine ⟨⟨?_, ?_, ?_, c1, c2, r1, r2, Nat.zero_le _⟩, fun d hd => ?_, fun d hd => ?_, fun q hq => by omega, ?_, fun q hq => ?_, fun q hq => ?_⟩
  · simp [mBeg, vp_updL]
  · simp [mBeg, vp_updL]
  · simp [mBeg, vp_updL]; rfl
  · unfold slw; rw [e8 _ (by omega) (by omega), h1000]; omega
  · unfold slw; rw [e8 _ (by omega) (by omega), h1000]; omega
  · unfold Bnd
    rw [e 2 (by omega), e 3 (by omega), e 4 (by omega), e 5 (by omega), e 6 (by omega)]
    exact v5
  · rw [e _ (by omega)]; exact v6 q hq
  · rw [e _ (by omega)]; exact v7 q hq
/-- a change at 2 to 6 -/
theorem val_26 {m' : Nat → Int64} (hV : Val m W H n) (e : ∀ j, ¬ (2 ≤ j ∧ j ≤ 6) → m' j = m j) (h : Bnd m') : Val m' W H n := by
  obtain ⟨v1, v2, v3, v4, v5, v6, v7⟩ := hV
  refine ⟨dm_of v1 (e 0 (by omega)) (e 1 (by omega)) (e 7 (by omega)), fun c hc => ?_, fun c hc => ?_, ra_of v4 (fun r hr => ⟨e _ (by omega), e _ (by omega)⟩), h, fun r hr => ?_, fun r hr => ?_⟩
  · rw [slw_of (m := m) (K := 64) (fun c hc => e _ (by omega)) c hc]; exact v2 c hc
  · rw [slw_of (m := m) (K := 64) (fun c hc => e _ (by omega)) c hc]; exact v3 c hc
  · rw [e _ (by omega)]; exact v6 r hr
  · rw [e _ (by omega)]; exact v7 r hr
theorem val_bnd {lo hi : Nat} (hV : Val m W H n) (h1 : 1 ≤ lo) (h2 : lo ≤ hi) (h3 : hi ≤ 100000) : Val (mBnd m (N8 lo) (N8 hi)) W H n := by
  obtain ⟨a, b, re, od, s, a1, a2, a3, a4, a5, a6, a7, a8, a9, a10, a11, a12⟩ := hV.2.2.2.2.1
  refine val_26 hV (fun j hj => by unfold mBnd vp_updL; rw [if_neg (by omega), if_neg (by omega)]) ?_
  refine ⟨lo, hi, re, od, s, by simp [mBnd, vp_updL], by simp [mBnd, vp_updL], h1, h2, h3, ?_, a7, a8, ?_, a10, ?_, a12⟩
  · rw [← a6]; simp [mBnd, vp_updL]
  · rw [← a9]; simp [mBnd, vp_updL]
  · rw [← a11]; simp [mBnd, vp_updL]
theorem val_ord {re od s : Nat} (hV : Val m W H n) (h1 : 1 ≤ re) (h2 : re ≤ 2000) (h3 : od ≤ 3) (h4 : s < 2147483648) : Val (mOrd m (N8 re) (N8 od) (N8 s)) W H n := by
  obtain ⟨lo, hi, re', od', s', a1, a2, a3, a4, a5, a6, a7, a8, a9, a10, a11, a12⟩ := hV.2.2.2.2.1
  refine val_26 hV (fun j hj => by unfold mOrd vp_updL; rw [if_neg (by omega), if_neg (by omega), if_neg (by omega)]) ?_
  refine ⟨lo, hi, re, od, s, ?_, ?_, a3, a4, a5, by simp [mOrd, vp_updL], h1, h2, by simp [mOrd, vp_updL], h3, by simp [mOrd, vp_updL], h4⟩
  · rw [← a1]; simp [mOrd, vp_updL]
  · rw [← a2]; simp [mOrd, vp_updL]
theorem slpV_bd (W : Nat) (a b c : Int64) (k : Nat) : 1 ≤ (slpV W a b c k).toInt ∧ (slpV W a b c k).toInt ≤ 100000 := by
  unfold slpV
  obtain ⟨b1, b2⟩ := held_bd (a := a + b * N8 (k % W) + c * N8 (k / W)) (lo := 1) (hi := 100000) (by decide)
  rw [Int64.le_iff_toInt_le] at b1 b2
  exact ⟨b1, b2⟩
theorem val_slp {x : Nat} {a b c : Int64} (hV : Val m W H n) (hx : x = 8 ∨ x = 72) : Val (mSlp m x W (W * H) a b c) W H n := by
  have hK := hV.1.K
  have hs : ∀ y, y = x → Slo 64 (slw m y) → Slo 64 (slw (mSlp m x W (W * H) a b c) y) := fun y hy h d hd => by
    unfold slw mSlp
    by_cases q : x ≤ y + d ∧ y + d < x + W * H
    · rw [if_pos q]; exact slpV_bd W a b c _
    · rw [if_neg q]; exact h d hd
  rcases hx with rfl | rfl
  · exact val_row hV (fun j hj => if_neg (by omega)) (hs 8 rfl hV.2.1)
  · exact val_row72 hV (fun j hj => if_neg (by omega)) (hs 72 rfl hV.2.2.1)
end VAL
