/-! ===== the class's search: nearest first, stopping at the target ===== -/
def UNR : Int := 1152921504606846976
def nbs (W K c : Nat) : List Nat := (List.range K).filter (fun b => decide (mv W c b ≠ 0))
theorem nbs_mem {W K c b : Nat} : b ∈ nbs W K c ↔ b < K ∧ mv W c b ≠ 0 := by
  unfold nbs
  rw [List.mem_filter, List.mem_range, decide_eq_true_eq]
theorem nbs_len : ∀ W, W < 9 → ∀ H, H < 9 → ∀ c, c < 64 → 2 ≤ W → (nbs W (W * H) c).length ≤ 8 := by decide +kernel
theorem getD_mem {l : List Nat} {i : Nat} (h : i < l.length) : l.getD i 0 ∈ l := by
  rw [List.getD_eq_getElem?_getD, List.getElem?_eq_getElem h]
  exact List.getElem_mem h
theorem mem_getD {l : List Nat} {b : Nat} (h : b ∈ l) : ∃ i, i < l.length ∧ l.getD i 0 = b := by
  obtain ⟨i, hi, e⟩ := List.mem_iff_getElem.mp h
  exact ⟨i, hi, by rw [List.getD_eq_getElem?_getD, List.getElem?_eq_getElem hi]; exact e⟩
theorem nbs_get {W K c i : Nat} (h : i < (nbs W K c).length) : (nbs W K c).getD i 0 < K ∧ mv W c ((nbs W K c).getD i 0) ≠ 0 := nbs_mem.mp (getD_mem h)
/-! as many different cells as there are -/
def memb (q : Nat → Nat) : Nat → Nat → Bool
  | 0 => fun _ => false
  | k + 1 => setD (memb q k) (q k)
theorem memb_iff (q : Nat → Nat) (c : Nat) : ∀ k, memb q k c = true ↔ ∃ i, i < k ∧ q i = c
  | 0 => by simp [memb]
  | k + 1 => by
    unfold memb setD
    have ih := memb_iff q c k
    by_cases e : c = q k
    · rw [if_pos e]; exact ⟨fun _ => ⟨k, by omega, e.symm⟩, fun _ => rfl⟩
    · rw [if_neg e, ih]
      exact ⟨fun ⟨i, h1, h2⟩ => ⟨i, by omega, h2⟩, fun ⟨i, h1, h2⟩ => ⟨i, by
        rcases Nat.lt_or_ge i k with g | g
        · exact g
        · obtain rfl : i = k := by omega
          exact absurd h2.symm e, h2⟩⟩
theorem cnt_false : ∀ K, cnt (fun _ => false) K = 0
  | 0 => rfl
  | K + 1 => by simp [cnt, cnt_false K]
theorem inj_le {q : Nat → Nat} {K : Nat} : ∀ k, (∀ i, i < k → q i < K) → (∀ i j, i < k → j < k → q i = q j → i = j) → cnt (memb q k) K = k
  | 0, _, _ => by
    exact cnt_false K
  | k + 1, h1, h2 => by
    have ih := inj_le k (fun i hi => h1 i (by omega)) (fun i j hi hj => h2 i j (by omega) (by omega))
    show cnt (setD (memb q k) (q k)) K = k + 1
    rw [cnt_setD (eq_false_of_ne_true (fun e => by
      obtain ⟨i, i1, i2⟩ := (memb_iff q (q k) k).mp e
      have := h2 i k (by omega) (by omega) i2
      omega)) K (h1 k (by omega)), ih]
theorem inj_bd {q : Nat → Nat} {K k : Nat} (h1 : ∀ i, i < k → q i < K) (h2 : ∀ i j, i < k → j < k → q i = q j → i = j) : k ≤ K := by
  have := cnt_le (memb q k) K
  rw [inj_le k h1 h2] at this
  exact this
/-- waiting cells q, k of them; labels D; popped P; expanded X -/
def SI (W K : Nat) (s : Nat → Int) (o : Nat) (L : Nat → Int) (q : Nat → Nat) (k : Nat) (D : Nat → Int) (P X : Nat → Bool) : Prop :=
  (∀ i, i < k → q i < K ∧ P (q i) = false) ∧ (∀ i j, i < k → j < k → q i = q j → i = j) ∧ (∀ c, c < K → (D c ≠ UNR ↔ (P c = true ∨ ∃ i, i < k ∧ q i = c))) ∧ D o = 0 ∧ (∀ c, c < K → 0 ≤ D c ∧ D c ≤ UNR ∧ L c ≤ D c) ∧ (∀ c, c < K → D c ≠ UNR → D c ≤ (cnt X K : Int) * 282800000) ∧ (∀ a, a < K → X a = true → ∀ b, b < K → mv W a b ≠ 0 → D b ≤ D a + wt W s a b) ∧ (∀ a b, a < K → b < K → P a = true → P b = false → D a ≤ D b)
theorem si_pop {W K o k p : Nat} {s L D : Nat → Int} {q : Nat → Nat} {P : Nat → Bool} (h : SI W K s o L q k D P P) (hp : p < k) (hmin : ∀ i, i < k → D (q p) ≤ D (q i)) : SI W K s o L (fun i => if i = p then q (k - 1) else q i) (k - 1) D (setD P (q p)) P := by
  obtain ⟨h1, h2, h3, h4, h5, h6, h7, h8⟩ := h
  have hx := h1 p hp
  have hset : ∀ c, setD P (q p) c = true ↔ (c = q p ∨ P c = true) := fun c => by
    unfold setD; by_cases e : c = q p
    · simp [e]
    · simp [e]
  have hq : ∀ i, i < k - 1 → ∃ j, j < k ∧ j ≠ p ∧ (if i = p then q (k - 1) else q i) = q j := fun i hi => by
    by_cases e : i = p
    · exact ⟨k - 1, by omega, by omega, if_pos e⟩
    · exact ⟨i, by omega, e, if_neg e⟩
  refine ⟨fun i hi => ?_, fun i j hi hj e => ?_, fun c hc => ?_, h4, h5, h6, h7, fun a b ha hb hPa hPb => ?_⟩
  · obtain ⟨j, j1, j2, j3⟩ := hq i hi
    show (if i = p then q (k - 1) else q i) < K ∧ setD P (q p) (if i = p then q (k - 1) else q i) = false
    rw [j3]
    refine ⟨(h1 j j1).1, eq_false_of_ne_true (fun e => ?_)⟩
    rcases (hset _).mp e with e | e
    · exact j2 (h2 j p j1 hp e)
    · rw [(h1 j j1).2] at e; cases e
  · by_cases e1 : i = p
    · by_cases e2 : j = p
      · omega
      · simp only [if_pos e1, if_neg e2] at e
        have := h2 (k - 1) j (by omega) (by omega) e
        omega
    · by_cases e2 : j = p
      · simp only [if_neg e1, if_pos e2] at e
        have := h2 i (k - 1) (by omega) (by omega) e
        omega
      · simp only [if_neg e1, if_neg e2] at e
        exact h2 i j (by omega) (by omega) e
  · rw [h3 c hc, hset]
    constructor
    · rintro (e | ⟨i, i1, i2⟩)
      · exact Or.inl (Or.inr e)
      · by_cases e : i = p
        · exact Or.inl (Or.inl (by rw [← i2, e]))
        · by_cases e2 : i = k - 1
          · by_cases e3 : p = k - 1
            · omega
            · exact Or.inr ⟨p, by omega, by show (if p = p then q (k - 1) else q p) = c; rw [if_pos rfl, ← e2]; exact i2⟩
          · exact Or.inr ⟨i, by omega, by show (if i = p then q (k - 1) else q i) = c; rw [if_neg e]; exact i2⟩
    · rintro ((e | e) | ⟨i, i1, i2⟩)
      · exact Or.inr ⟨p, hp, e.symm⟩
      · exact Or.inl e
      · obtain ⟨j, j1, j2, j3⟩ := hq i i1
        exact Or.inr ⟨j, j1, by rw [← j3]; exact i2⟩
  · have hPb' : P b = false := eq_false_of_ne_true (fun e => by rw [(hset b).mpr (Or.inr e)] at hPb; cases hPb)
    have hbx : b ≠ q p := fun e => by rw [(hset b).mpr (Or.inl e)] at hPb; cases hPb
    rcases (hset a).mp hPa with e | e
    · rw [e]
      by_cases hr : D b = UNR
      · rw [hr]; exact (h5 _ hx.1).2.1
      · rcases (h3 b hb).mp hr with g | ⟨i, i1, i2⟩
        · rw [g] at hPb'; cases hPb'
        · rw [← i2]; exact hmin i i1
    · exact h8 a b ha hb e hPb'
theorem si_reach {W K o k k' x : Nat} {s L D D' : Nat → Int} {q q' : Nat → Nat} {X : Nat → Bool} (hs : Slo K s) (hL : ∀ a b, a < K → b < K → mv W a b ≠ 0 → L b ≤ L a + wt W s a b) (h : SI W K s o L q k D (setD X x) X) (hx : x < K) (hXx : X x = false) (hord : ∀ a, a < K → X a = true → D a ≤ D x) (hDx : D x ≠ UNR) (hK : K ≤ 64) (ho : o < K)
    (hD : ∀ c, c < K → D' c = rlx W s D x c) (h1' : ∀ i, i < k' → q' i < K ∧ setD X x (q' i) = false) (h2' : ∀ i j, i < k' → j < k' → q' i = q' j → i = j) (hm : ∀ c, c < K → ((∃ i, i < k' ∧ q' i = c) ↔ ((∃ i, i < k ∧ q i = c) ∨ (mv W x c ≠ 0 ∧ D c = UNR)))) : SI W K s o L q' k' D' (setD X x) (setD X x) := by
  obtain ⟨h1, h2, h3, h4, h5, h6, h7, h8⟩ := h
  have hcx := cnt_le X K
  have hU : UNR = 1152921504606846976 := rfl
  have hDxb := h6 x hx hDx
  have hDx0 := (h5 x hx).1
  have hord' : ∀ a, a < K → setD X x a = true → D a ≤ D x := fun a ha hPa => by
    unfold setD at hPa
    by_cases e : a = x
    · rw [e]; exact Int.le_refl _
    · rw [if_neg e] at hPa; exact hord a ha hPa
  have cs : ∀ c, c < K → D' c = D c ∨ (mv W x c ≠ 0 ∧ D' c = D x + wt W s x c ∧ D x + wt W s x c < D c ∧ 2000 ≤ wt W s x c ∧ wt W s x c ≤ 282800000) := fun c hc => by
    rw [hD c hc]
    unfold rlx
    split
    · rename_i g
      have := wt_bd hs hx hc g.1
      exact Or.inr ⟨g.1, rfl, g.2, this.1, this.2⟩
    · exact Or.inl rfl
  have le2 : ∀ c, c < K → mv W x c ≠ 0 → D' c ≤ D x + wt W s x c := fun c hc hm => by
    rw [hD c hc]
    unfold rlx
    split
    · omega
    · rename_i g
      have : ¬ (D x + wt W s x c < D c) := fun q => g ⟨hm, q⟩
      omega
  have same : ∀ a, a < K → setD X x a = true → D' a = D a := fun a ha hPa => by
    rcases cs a ha with g | ⟨-, g1, g2, g3, -⟩
    · exact g
    · have := hord' a ha hPa
      omega
  refine ⟨h1', h2', fun c hc => ?_, ?_, fun c hc => ?_, fun c hc hr => ?_, fun a ha hPa b hb hmv => ?_, fun a b ha hb hPa hPb => ?_⟩
  · rw [hm c hc]
    have g3 := h3 c hc
    rcases cs c hc with g | ⟨m1, g1, g2, g4, g5⟩
    · rw [g]
      constructor
      · intro e
        rcases g3.mp e with e | e
        · exact Or.inl e
        · exact Or.inr (Or.inl e)
      · rintro (e | e | e)
        · exact g3.mpr (Or.inl e)
        · exact g3.mpr (Or.inr e)
        · intro _
          have := le2 c hc e.1
          have := wt_bd hs hx hc e.1
          rw [g, e.2] at *
          omega
    · constructor
      · intro _
        by_cases e : D c = UNR
        · exact Or.inr (Or.inr ⟨m1, e⟩)
        · rcases g3.mp e with e | e
          · exact Or.inl e
          · exact Or.inr (Or.inl e)
      · intro _
        rw [g1]
        omega
  · rcases cs o ho with g | ⟨-, g1, g2, g3, -⟩
    · rw [g, h4]
    · omega
  · obtain ⟨b1, b2, b3⟩ := h5 c hc
    rcases cs c hc with g | ⟨m1, g1, g2, g3, -⟩
    · rw [g]; exact ⟨b1, b2, b3⟩
    · have := hL x c hx hc m1
      have := (h5 x hx).2.2
      omega
  · have hcnt : cnt (setD X x) K = cnt X K + 1 := cnt_setD hXx K hx
    rw [hcnt]
    rcases cs c hc with g | ⟨-, g1, g2, g3, g4⟩
    · rw [g] at hr ⊢
      have := h6 c hc hr
      omega
    · omega
  · by_cases e : a = x
    · rw [e] at hmv ⊢
      rw [same x hx (if_pos rfl)]
      exact le2 b hb hmv
    · have hXa : X a = true := by unfold setD at hPa; rw [if_neg e] at hPa; exact hPa
      rw [same a ha hPa]
      have := h7 a ha hXa b hb hmv
      rcases cs b hb with g | ⟨-, g1, g2, -⟩
      · rw [g]; exact this
      · omega
  · rw [same a ha hPa]
    have := hord' a ha hPa
    rcases cs b hb with g | ⟨-, g1, g2, g3, -⟩
    · rw [g]; exact h8 a b ha hb hPa hPb
    · omega
/-- the target is popped: what the labels say -/
theorem si_done {W K o k x : Nat} {s L D : Nat → Int} {q : Nat → Nat} {X : Nat → Bool} (hs : Slo K s) (hC : Cert W K s o L) (h : SI W K s o L q k D (setD X x) X) (hx : x < K) (hord : ∀ a, a < K → X a = true → D a ≤ D x) (ho : o < K) : D x = L x ∧ ∀ c, c < K → L c ≤ L x → D c = L c := by
  obtain ⟨h1, h2, h3, h4, h5, h6, h7, h8⟩ := h
  have key := feas_le (D := fun c => if D c ≤ D x then D c else D x) hs hC (by
      show (if D o ≤ D x then D o else D x) ≤ 0
      split <;> omega) (fun a b ha hb hm => by
      show (if D b ≤ D x then D b else D x) ≤ (if D a ≤ D x then D a else D x) + wt W s a b
      have hw := wt_bd hs ha hb hm
      have hb1 : (if D b ≤ D x then D b else D x) ≤ D x := by split <;> omega
      by_cases e : a = x
      · rw [e, if_pos (Int.le_refl _)]
        rw [e] at hw
        omega
      · by_cases hX : X a = true
        · have := hord a ha hX
          have := h7 a ha hX b hb hm
          rw [if_pos (show D a ≤ D x by omega)]
          have hb2 : (if D b ≤ D x then D b else D x) ≤ D b := by split <;> omega
          omega
        · have hPa : setD X x a = false := by unfold setD; rw [if_neg e]; exact eq_false_of_ne_true hX
          have := h8 x a hx ha (if_pos rfl) hPa
          by_cases q : D a ≤ D x
          · rw [if_pos q]; omega
          · rw [if_neg q]; omega)
  have hxx : D x = L x := by
    have k1 : (if D x ≤ D x then D x else D x) ≤ L x := key x hx
    rw [if_pos (Int.le_refl _)] at k1
    have := (h5 x hx).2.2
    omega
  refine ⟨hxx, fun c hc hle => ?_⟩
  by_cases hco : c = o
  · rw [hco, h4, hC.1]
  · obtain ⟨b, b1, b2, b3⟩ := hC.2.2.2 c hc hco
    have hw := wt_bd hs b1 hc b2
    have k1 : (if D b ≤ D x then D b else D x) ≤ L b := key b b1
    have hb : D b ≤ D x := by
      rcases Int.lt_or_le (D x) (D b) with q | q
      · rw [if_neg (by omega)] at k1; omega
      · exact q
    rw [if_pos hb] at k1
    have hLb := (h5 b b1).2.2
    have hXb : X b = true := by
      by_cases q : setD X x b = true
      · unfold setD at q
        by_cases e : b = x
        · have e2 : L b = L x := by rw [e]
          omega
        · rw [if_neg e] at q; exact q
      · have := h8 x b hx b1 (if_pos rfl) (eq_false_of_ne_true q)
        omega
    have := h7 b b1 hXb c hc b2
    have := (h5 c hc).2.2
    omega
