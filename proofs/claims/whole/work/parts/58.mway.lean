/-! ===== the reference: least times, done; ways ===== -/
def setD (d : Nat → Bool) (b : Nat) : Nat → Bool := fun c => if c = b then true else d c
theorem cnt_setD {d : Nat → Bool} {b : Nat} (hd : d b = false) : ∀ K, b < K → cnt (setD d b) K = cnt d K + 1 := by
  have low : ∀ K, K ≤ b → cnt (setD d b) K = cnt d K := fun K hK => cnt_congr fun i hi => if_neg (by omega)
  intro K
  induction K with
  | zero => intro h; omega
  | succ K ih =>
    intro h
    simp only [cnt]
    by_cases e : K = b
    · rw [e, low b (Nat.le_refl b), show setD d b b = true from if_pos rfl, hd]
      simp
    · rw [ih (by omega), show setD d b K = d K from if_neg e]
      omega
theorem cnt_ex {d : Nat → Bool} : ∀ K, cnt d K < K → ∃ u, u < K ∧ d u = false := by
  intro K
  induction K with
  | zero => intro h; omega
  | succ K ih =>
    intro h
    simp only [cnt] at h
    by_cases e : d K = true
    · rw [if_pos e] at h
      obtain ⟨u, u1, u2⟩ := ih (by omega)
      exact ⟨u, by omega, u2⟩
    · exact ⟨K, by omega, eq_false_of_ne_true e⟩
theorem cnt_all {d : Nat → Bool} {K : Nat} (h : cnt d K = K) : ∀ c, c < K → d c = true := by
  intro c hc
  by_cases e : d c = true
  · exact e
  · have h1 := cnt_setD (eq_false_of_ne_true e) K hc
    have h2 := cnt_le (setD d c) K
    omega
def Inv4 (W K : Nat) (s : Nat → Int) (o : Nat) (ℓ : Nat → Int) (d : Nat → Bool) : Prop :=
  ℓ o = 0 ∧ (∀ a, a < K → d a = true → ∀ b, b < K → mv W a b ≠ 0 → ℓ b ≤ ℓ a + wt W s a b) ∧ (∀ a b, a < K → b < K → d a = true → d b = false → ℓ a ≤ ℓ b) ∧ (∀ c, c < K → c ≠ o → ℓ c = FAR ∨ ∃ b, b < K ∧ d b = true ∧ mv W b c ≠ 0 ∧ ℓ c = ℓ b + wt W s b c)
theorem inv4_step {W K o b : Nat} {s ℓ : Nat → Int} {d : Nat → Bool} (hs : Slo K s) (ho : o < K) (hpos : ∀ c, c < K → 0 ≤ ℓ c) (hI : Inv4 W K s o ℓ d) (hb : b < K) (hd : d b = false) (hmin : ∀ c, c < K → d c = false → ℓ b ≤ ℓ c) : Inv4 W K s o (rlx W s ℓ b) (setD d b) := by
  obtain ⟨i1, i2, i3, i4⟩ := hI
  have le : ∀ c, rlx W s ℓ b c ≤ ℓ c := fun c => by unfold rlx; split <;> omega
  have le2 : ∀ c, mv W b c ≠ 0 → rlx W s ℓ b c ≤ ℓ b + wt W s b c := fun c hm => by
    unfold rlx
    split
    · omega
    · rename_i h
      have : ¬ (ℓ b + wt W s b c < ℓ c) := fun q => h ⟨hm, q⟩
      omega
  have cs : ∀ c, c < K → rlx W s ℓ b c = ℓ c ∨ (mv W b c ≠ 0 ∧ rlx W s ℓ b c = ℓ b + wt W s b c ∧ ℓ b + wt W s b c < ℓ c ∧ 2000 ≤ wt W s b c) := fun c hc => by
    unfold rlx
    split
    · rename_i h
      exact Or.inr ⟨h.1, rfl, h.2, (wt_bd hs hb hc h.1).1⟩
    · exact Or.inl rfl
  have same : ∀ a, a < K → d a = true → rlx W s ℓ b a = ℓ a := fun a ha hda => by
    rcases cs a ha with h | ⟨-, h1, h2, h3⟩
    · exact h
    · have := i3 a b ha hb hda hd
      omega
  have hbb := rlx_self W s ℓ b
  refine ⟨?_, ?_, ?_, ?_⟩
  · rcases cs o ho with h | ⟨-, h1, h2, h3⟩
    · rw [h, i1]
    · have := hpos b hb
      omega
  · intro a ha hda c hc hm
    by_cases e : a = b
    · rw [e] at hm ⊢
      rw [hbb]
      exact le2 c hm
    · have hda' : d a = true := by unfold setD at hda; rw [if_neg e] at hda; exact hda
      rw [same a ha hda']
      have := i2 a ha hda' c hc hm
      have := le c
      omega
  · intro a c ha hc hda hdc
    have ec : c ≠ b := fun e => by unfold setD at hdc; rw [if_pos e] at hdc; cases hdc
    have hdc' : d c = false := by unfold setD at hdc; rw [if_neg ec] at hdc; exact hdc
    have hbc : ℓ b ≤ rlx W s ℓ b c := by
      rcases cs c hc with h | ⟨-, h1, h2, h3⟩
      · rw [h]; exact hmin c hc hdc'
      · omega
    by_cases e : a = b
    · rw [e, hbb]; exact hbc
    · have hda' : d a = true := by unfold setD at hda; rw [if_neg e] at hda; exact hda
      rw [same a ha hda']
      have := i3 a b ha hb hda' hd
      omega
  · intro c hc hco
    rcases cs c hc with h | ⟨h0, h1, h2, h3⟩
    · rcases i4 c hc hco with g | ⟨a, a1, a2, a3, a4⟩
      · exact Or.inl (by rw [h, g])
      · refine Or.inr ⟨a, a1, ?_, a3, ?_⟩
        · unfold setD; split
          · rfl
          · exact a2
        · rw [h, same a a1 a2, a4]
    · exact Or.inr ⟨b, hb, if_pos rfl, h0, by rw [hbb, h1]⟩
theorem spread_rounds {W H n o x : Nat} {σ : Mem} (h : Dm (σ.2 225) W H n) (hx : x + 64 ≤ 200) (hs : Slo (W * H) (slw (σ.2 225) x)) (ho : o < W * H) {σ0 : Mem} {ℓ0 : Nat → Int} {d0 : Nat → Bool} (hF0 : FrS σ σ0) (hl0 : Lab (W * H) σ0 ℓ0 d0) (hI0 : Inv4 W (W * H) (slw (σ.2 225) x) o ℓ0 d0) (hc0 : cnt d0 (W * H) = 0) :
    ∃ τ, f_X12_spread_43 (N4 x) 100000 (N4 0) σ0 = some τ ∧ FrS σ τ ∧ ∃ ℓ d, Lab (W * H) τ ℓ d ∧ Inv4 W (W * H) (slw (σ.2 225) x) o ℓ d ∧ cnt d (W * H) = W * H := by
  have hK := h.K
  refine loopU (fun n' i τ => f_X12_spread_43 (N4 x) n' (N4 i) τ) (W * H) (fun i τ => FrS σ τ ∧ ∃ ℓ d, Lab (W * H) τ ℓ d ∧ Inv4 W (W * H) (slw (σ.2 225) x) o ℓ d ∧ cnt d (W * H) = i) (fun τ => FrS σ τ ∧ ∃ ℓ d, Lab (W * H) τ ℓ d ∧ Inv4 W (W * H) (slw (σ.2 225) x) o ℓ d ∧ cnt d (W * H) = W * H) ?_ ?_ 100000 0 σ0 (by omega) (by omega) ⟨hF0, ℓ0, d0, hl0, hI0, hc0⟩
  · intro n' τ hP
    have hd : Dm (τ.2 225) W H n := by rw [hP.1.dm]; exact h
    refine ⟨τ, ?_, hP⟩
    show f_X12_spread_43 (N4 x) (n' + 1) (N4 (W * H)) τ = some τ
    rw [f_X12_spread_43, m_cells hd, bd_s, if_pos ((n4_le (by omega) (by omega)).mpr (Nat.le_refl _))]
  · intro n' i τ hi hP
    obtain ⟨p1, ℓ, d, p2, p3, p4⟩ := hP
    have hd : Dm (τ.2 225) W H n := by rw [p1.dm]; exact h
    obtain ⟨u, u1, u2⟩ := cnt_ex (W * H) (by omega : cnt d (W * H) < W * H)
    obtain ⟨b, b1, b2, b3, b4⟩ := spread_best (x2 := N4 x) (x3 := N4 i) hd p2 u1 u2
    have hl' : Lab (W * H) (setI τ 229 b (N4 1)) ℓ (setD d b) := fun c hc => by
      obtain ⟨l1, l2, l3, l4⟩ := p2 c hc
      refine ⟨by rw [mI_L]; exact l1, ?_, l3, l4⟩
      by_cases e : c = b
      · rw [e, mI_e, show setD d b b = true from if_pos rfl, if_pos rfl]
      · rw [mI_j e, l2, show setD d b c = d c from if_neg e]
    have hd2 : Dm ((setI τ 229 b (N4 1)).2 225) W H n := hd
    have hs2 : Slo (W * H) (slw ((setI τ 229 b (N4 1)).2 225) x) := by rw [mI_L, p1.dm]; exact hs
    obtain ⟨ρ, r1, r2, r3⟩ := spread_reach hd2 hx hs2 hl' b2
    show ∃ a', f_X12_spread_43 (N4 x) (n' + 1) (N4 i) τ = _ ∧ _
    rw [f_X12_spread_43, m_cells hd, bd_s, if_neg (fun q => by have := (n4_le (by omega) (by omega)).mp q; omega), show (0 : Int32) = N4 0 from rfl, b1, bd_s, gd_inb (by omega) (by omega), n4_nat (by omega), show (1 : Int32) = N4 1 from rfl, r1, bd_s, n4_add]
    refine ⟨ρ, rfl, (p1.i).trans r2, _, _, r3, ?_, ?_⟩
    · rw [mI_L, p1.dm]
      exact inv4_step hs ho (fun c hc => (p2 c hc).2.2.1) p3 b2 b3 b4
    · rw [cnt_setD b3 _ b2, p4]
theorem m_spread {W H n o x : Nat} {σ : Mem} (h : Dm (σ.2 225) W H n) (hx : x + 64 ≤ 200) (hs : Slo (W * H) (slw (σ.2 225) x)) (ho : o < W * H) :
    ∃ τ, f_X12_spread (N4 o) (N4 x) σ = some τ ∧ FrS σ τ ∧ Cert W (W * H) (slw (σ.2 225) x) o (dist W (W * H) (slw (σ.2 225) x) o) ∧ ∀ c, c < W * H → τ.2 228 c = Z8 (dist W (W * H) (slw (σ.2 225) x) o c) := by
  have hK := h.K
  have hFAR : FAR = 1000000000000000 := rfl
  obtain ⟨σ0, a1, a2, a3⟩ := spread_init (x2 := N4 x) h ho
  have hl0 : Lab (W * H) σ0 (fun c => if c = o then 0 else FAR) (fun _ => false) := fun c hc => by
    refine ⟨(a3 c hc).1, (a3 c hc).2, ?_, ?_⟩
    · show 0 ≤ (if c = o then 0 else FAR)
      split <;> omega
    · show (if c = o then 0 else FAR) ≤ FAR
      split <;> omega
  have hI0 : Inv4 W (W * H) (slw (σ.2 225) x) o (fun c => if c = o then 0 else FAR) (fun _ => false) :=
    ⟨if_pos rfl, fun a _ hd => (nomatch hd), fun a b _ _ hd => (nomatch hd), fun c _ hco => Or.inl (if_neg hco)⟩
  have hc0 : cnt (fun _ => false) (W * H) = 0 := by
    have : ∀ k, cnt (fun _ => false) k = 0 := fun k => by
      induction k with
      | zero => rfl
      | succ k ih => simp [cnt, ih]
    exact this _
  obtain ⟨τ, t1, t2, ℓ, d, t3, t4, t5⟩ := spread_rounds h hx hs ho a2 hl0 hI0 hc0
  have hall := cnt_all t5
  obtain ⟨i1, i2, i3, i4⟩ := t4
  have hf : ∀ a b, a < W * H → b < W * H → mv W a b ≠ 0 → ℓ b ≤ ℓ a + wt W (slw (σ.2 225) x) a b := fun a b ha hb hm => i2 a ha (hall a ha) b hb hm
  have hbd := cert_bd h.2.2.2.1 (by have := h.2.2.2.2.1; omega) hK.2 hs ho i1 hf
  have hC : Cert W (W * H) (slw (σ.2 225) x) o ℓ := by
    refine ⟨i1, fun c hc => (t3 c hc).2.2.1, hf, fun c hc hco => ?_⟩
    rcases i4 c hc hco with q | ⟨b, b1, -, b3, b4⟩
    · have := hbd c hc
      omega
    · exact ⟨b, b1, b3, b4⟩
  refine ⟨τ, ?_, t2, dist_cert hC, fun c hc => by rw [(t3 c hc).1, dist_eq hs hC c hc]⟩
  unfold f_X12_spread
  rw [show (0 : Int32) = N4 0 from rfl, a1, bd_s, t1, bd_s]
theorem cert_ex {W H o : Nat} {s : Nat → Int} (hW : 2 ≤ W) (hW8 : W ≤ 8) (hH : 2 ≤ H) (hH8 : H ≤ 8) (hs : Slo (W * H) s) (ho : o < W * H) : Cert W (W * H) s o (dist W (W * H) s o) := by
  let m : Nat → Int64 := fun j => if j = 0 then N8 W else if j = 1 then N8 H else if j = 7 then N8 0 else Z8 (s (j - 8))
  let σ : Mem := (fun _ _ => 0, fun _ => m)
  have hD : Dm (σ.2 225) W H 0 := ⟨rfl, rfl, rfl, hW, hW8, hH, hH8, Nat.zero_le _⟩
  have hK := hD.K
  have he : ∀ c, c < W * H → s c = slw (σ.2 225) 8 c := fun c hc => by
    have h1 := hs c hc
    show s c = (m (8 + c)).toInt
    have : m (8 + c) = Z8 (s c) := by
      show (if 8 + c = 0 then N8 W else if 8 + c = 1 then N8 H else if 8 + c = 7 then N8 0 else Z8 (s (8 + c - 8))) = _
      rw [if_neg (by omega), if_neg (by omega), if_neg (by omega), show 8 + c - 8 = c by omega]
    rw [this, z8_int (by omega) (by omega)]
  have hs' : Slo (W * H) (slw (σ.2 225) 8) := fun c hc => by rw [← he c hc]; exact hs c hc
  obtain ⟨τ, -, -, hC, -⟩ := m_spread (σ := σ) (x := 8) hD (by omega) hs' ho
  rw [dist_congr he]
  exact cert_congr (fun c hc => (he c hc).symm) hC
