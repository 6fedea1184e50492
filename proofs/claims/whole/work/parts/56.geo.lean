/-! ===== geometry: moves, least times, the way that is found backwards ===== -/
def mv (W a b : Nat) : Nat :=
  if a = b then 0
  else if a % W ≤ b % W + 1 ∧ b % W ≤ a % W + 1 ∧ a / W ≤ b / W + 1 ∧ b / W ≤ a / W + 1 then (if a % W = b % W ∨ a / W = b / W then 1000 else 1414)
  else 0
theorem mv_self (W a : Nat) : mv W a a = 0 := if_pos rfl
theorem mv_comm (W a b : Nat) : mv W a b = mv W b a := by
  unfold mv
  by_cases h : a = b
  · rw [if_pos h, if_pos h.symm]
  · rw [if_neg h, if_neg (Ne.symm h)]
    have e1 : (a % W ≤ b % W + 1 ∧ b % W ≤ a % W + 1 ∧ a / W ≤ b / W + 1 ∧ b / W ≤ a / W + 1) ↔ (b % W ≤ a % W + 1 ∧ a % W ≤ b % W + 1 ∧ b / W ≤ a / W + 1 ∧ a / W ≤ b / W + 1) := by
      constructor <;> (rintro ⟨h1, h2, h3, h4⟩; exact ⟨h2, h1, h4, h3⟩)
    have e2 : (a % W = b % W ∨ a / W = b / W) ↔ (b % W = a % W ∨ b / W = a / W) := by
      constructor <;> (rintro (h | h) <;> simp [h])
    simp only [e1, e2]
theorem mv_cases (W a b : Nat) : mv W a b = 0 ∨ mv W a b = 1000 ∨ mv W a b = 1414 := by
  unfold mv
  split
  · exact Or.inl rfl
  · split
    · split
      · exact Or.inr (Or.inl rfl)
      · exact Or.inr (Or.inr rfl)
    · exact Or.inl rfl
theorem mv_ne {W a b : Nat} (h : mv W a b ≠ 0) : a ≠ b := fun q => h (by rw [q]; exact mv_self W b)
theorem mv_left : ∀ W, W < 9 → ∀ c, c < 64 → 2 ≤ W → c % W ≠ 0 → mv W (c - 1) c ≠ 0 := by decide +kernel
theorem mv_upB : ∀ W, W < 9 → ∀ c, c < 64 → (2 ≤ W ∧ c % W = 0 ∧ c ≠ 0) → mv W (c - W) c ≠ 0 := by decide +kernel
theorem mv_up (W : Nat) (h1 : W < 9) (c : Nat) (h2 : c < 64) (h3 : 2 ≤ W) (h4 : c % W = 0) (h5 : c ≠ 0) : W ≤ c ∧ mv W (c - W) c ≠ 0 := by
  refine ⟨?_, mv_upB W h1 c h2 ⟨h3, h4, h5⟩⟩
  rcases Nat.lt_or_ge c W with q | q
  · rw [Nat.mod_eq_of_lt q] at h4
    exact absurd h4 h5
  · exact q
def wt (W : Nat) (s : Nat → Int) (a b : Nat) : Int := (mv W a b : Int) * (s a + s b)
theorem wt_comm (W : Nat) (s : Nat → Int) (a b : Nat) : wt W s a b = wt W s b a := by
  unfold wt
  rw [mv_comm, Int.add_comm]
/-- slownesses as they are: 1 to 100000 -/
def Slo (K : Nat) (s : Nat → Int) : Prop := ∀ c, c < K → 1 ≤ s c ∧ s c ≤ 100000
theorem wt_bd {W K : Nat} {s : Nat → Int} {a b : Nat} (hs : Slo K s) (ha : a < K) (hb : b < K) (h : mv W a b ≠ 0) : 2000 ≤ wt W s a b ∧ wt W s a b ≤ 282800000 := by
  have h1 := hs a ha
  have h2 := hs b hb
  unfold wt
  rcases mv_cases W a b with e | e | e
  · exact absurd e h
  · rw [e]; omega
  · rw [e]; omega
theorem wt_bd0 {W K : Nat} {s : Nat → Int} {a b : Nat} (hs : Slo K s) (ha : a < K) (hb : b < K) : 0 ≤ wt W s a b ∧ wt W s a b ≤ 282800000 := by
  by_cases h : mv W a b = 0
  · unfold wt
    rw [h]
    omega
  · have := wt_bd hs ha hb h
    omega
theorem conn {W K : Nat} (hW : 2 ≤ W) (hW8 : W < 9) (hK : K ≤ 64) {P : Nat → Prop} (hcl : ∀ a b, a < K → b < K → mv W a b ≠ 0 → P a → P b) {o : Nat} (ho : o < K) (hP : P o) : ∀ c, c < K → P c := by
  have down : ∀ n, ∀ c, c ≤ n → c < K → P c → P 0 := by
    intro n
    induction n with
    | zero => intro c h1 _ h3; obtain rfl : c = 0 := by omega
              exact h3
    | succ n ih =>
      intro c h1 h2 h3
      by_cases h0 : c = 0
      · subst h0; exact h3
      · by_cases hm : c % W = 0
        · obtain ⟨q1, q2⟩ := mv_up W hW8 c (by omega) hW hm h0
          exact ih (c - W) (by omega) (by omega) (hcl c (c - W) h2 (by omega) (by rw [mv_comm]; exact q2) h3)
        · have q2 := mv_left W hW8 c (by omega) hW hm
          exact ih (c - 1) (by omega) (by omega) (hcl c (c - 1) h2 (by omega) (by rw [mv_comm]; exact q2) h3)
  have h0 := down o o (Nat.le_refl o) ho hP
  have up : ∀ n, ∀ c, c ≤ n → c < K → P c := by
    intro n
    induction n with
    | zero => intro c h1 _; obtain rfl : c = 0 := by omega
              exact h0
    | succ n ih =>
      intro c h1 h2
      by_cases h00 : c = 0
      · subst h00; exact h0
      · by_cases hm : c % W = 0
        · obtain ⟨q1, q2⟩ := mv_up W hW8 c (by omega) hW hm h00
          exact hcl (c - W) c (by omega) h2 q2 (ih (c - W) (by omega) (by omega))
        · have q2 := mv_left W hW8 c (by omega) hW hm
          exact hcl (c - 1) c (by omega) h2 q2 (ih (c - 1) (by omega) (by omega))
  exact fun c hc => up c c (Nat.le_refl c) hc
/-- L is the row of least times from o -/
def Cert (W K : Nat) (s : Nat → Int) (o : Nat) (L : Nat → Int) : Prop :=
  L o = 0 ∧ (∀ c, c < K → 0 ≤ L c) ∧ (∀ a b, a < K → b < K → mv W a b ≠ 0 → L b ≤ L a + wt W s a b) ∧ (∀ c, c < K → c ≠ o → ∃ b, b < K ∧ mv W b c ≠ 0 ∧ L c = L b + wt W s b c)
theorem feas_le {W K : Nat} {s : Nat → Int} {o : Nat} {L D : Nat → Int} (hs : Slo K s) (h : Cert W K s o L) (h0 : D o ≤ 0) (hf : ∀ a b, a < K → b < K → mv W a b ≠ 0 → D b ≤ D a + wt W s a b) : ∀ c, c < K → D c ≤ L c := by
  obtain ⟨h1, h2, -, h4⟩ := h
  have key : ∀ n : Nat, ∀ c, c < K → L c ≤ n → D c ≤ L c := by
    intro n
    induction n with
    | zero =>
      intro c hc hn
      by_cases q : c = o
      · subst q; omega
      · obtain ⟨b, b1, b2, b3⟩ := h4 c hc q
        have := wt_bd hs b1 hc b2
        have := h2 b b1
        omega
    | succ n ih =>
      intro c hc hn
      by_cases q : c = o
      · subst q; omega
      · obtain ⟨b, b1, b2, b3⟩ := h4 c hc q
        have w := wt_bd hs b1 hc b2
        have := ih b b1 (by omega)
        have := hf b c b1 hc b2
        omega
  intro c hc
  exact key (L c).toNat c hc (by have := h2 c hc; omega)
theorem cert_uniq {W K : Nat} {s : Nat → Int} {o : Nat} {L D : Nat → Int} (hs : Slo K s) (h : Cert W K s o L) (h' : Cert W K s o D) : ∀ c, c < K → D c = L c := by
  intro c hc
  have a1 := feas_le hs h (by have := h'.1; omega) h'.2.2.1 c hc
  have a2 := feas_le hs h' (by have := h.1; omega) h.2.2.1 c hc
  omega
theorem cert_bd {W K : Nat} {s : Nat → Int} {o : Nat} {L : Nat → Int} (hW : 2 ≤ W) (hW8 : W < 9) (hK : K ≤ 64) (hs : Slo K s) (ho : o < K) (h0 : L o = 0) (hf : ∀ a b, a < K → b < K → mv W a b ≠ 0 → L b ≤ L a + wt W s a b) : ∀ c, c < K → L c ≤ 35632800000 := by
  have down : ∀ n, ∀ c, c ≤ n → c < K → L 0 ≤ L c + c * 282800000 := by
    intro n
    induction n with
    | zero => intro c h1 _; obtain rfl : c = 0 := by omega
              omega
    | succ n ih =>
      intro c h1 h2
      by_cases h00 : c = 0
      · subst h00; omega
      · by_cases hm : c % W = 0
        · obtain ⟨q1, q2⟩ := mv_up W hW8 c (by omega) hW hm h00
          have := ih (c - W) (by omega) (by omega)
          have q3 : mv W c (c - W) ≠ 0 := by rw [mv_comm]; exact q2
          have := hf c (c - W) h2 (by omega) q3
          have := wt_bd hs h2 (by omega : c - W < K) q3
          omega
        · have q2 := mv_left W hW8 c (by omega) hW hm
          have := ih (c - 1) (by omega) (by omega)
          have q3 : mv W c (c - 1) ≠ 0 := by rw [mv_comm]; exact q2
          have := hf c (c - 1) h2 (by omega) q3
          have := wt_bd hs h2 (by omega : c - 1 < K) q3
          omega
  have up : ∀ n, ∀ c, c ≤ n → c < K → L c ≤ L 0 + c * 282800000 := by
    intro n
    induction n with
    | zero => intro c h1 _; obtain rfl : c = 0 := by omega
              omega
    | succ n ih =>
      intro c h1 h2
      by_cases h00 : c = 0
      · subst h00; omega
      · by_cases hm : c % W = 0
        · obtain ⟨q1, q2⟩ := mv_up W hW8 c (by omega) hW hm h00
          have := ih (c - W) (by omega) (by omega)
          have := hf (c - W) c (by omega) h2 q2
          have := wt_bd hs (by omega : c - W < K) h2 q2
          omega
        · have q2 := mv_left W hW8 c (by omega) hW hm
          have := ih (c - 1) (by omega) (by omega)
          have := hf (c - 1) c (by omega) h2 q2
          have := wt_bd hs (by omega : c - 1 < K) h2 q2
          omega
  intro c hc
  have a1 := down o o (Nat.le_refl o) ho
  have a2 := up c c (Nat.le_refl c) hc
  omega
noncomputable def dist (W K : Nat) (s : Nat → Int) (o : Nat) : Nat → Int := by
  classical
  exact if h : ∃ L, Cert W K s o L then Classical.choose h else fun _ => 0
theorem dist_cert {W K : Nat} {s : Nat → Int} {o : Nat} {L : Nat → Int} (h : Cert W K s o L) : Cert W K s o (dist W K s o) := by
  have hx : ∃ L, Cert W K s o L := ⟨L, h⟩
  unfold dist
  rw [dif_pos hx]
  exact Classical.choose_spec hx
theorem dist_eq {W K : Nat} {s : Nat → Int} {o : Nat} {L : Nat → Int} (hs : Slo K s) (h : Cert W K s o L) : ∀ c, c < K → L c = dist W K s o c := cert_uniq hs (dist_cert h) h
theorem cert_congr {W K : Nat} {s s' : Nat → Int} {o : Nat} {L : Nat → Int} (hq : ∀ c, c < K → s c = s' c) (h : Cert W K s o L) : Cert W K s' o L := by
  have hw : ∀ a b, a < K → b < K → wt W s a b = wt W s' a b := fun a b ha hb => by unfold wt; rw [hq a ha, hq b hb]
  obtain ⟨h1, h2, h3, h4⟩ := h
  refine ⟨h1, h2, fun a b ha hb hm => ?_, fun c hc hco => ?_⟩
  · rw [← hw a b ha hb]; exact h3 a b ha hb hm
  · obtain ⟨b, b1, b2, b3⟩ := h4 c hc hco
    exact ⟨b, b1, b2, by rw [← hw b c b1 hc]; exact b3⟩
theorem dist_congr {W K : Nat} {s s' : Nat → Int} {o : Nat} (hq : ∀ c, c < K → s c = s' c) : dist W K s o = dist W K s' o := by
  have e : Cert W K s o = Cert W K s' o := funext fun L => propext ⟨cert_congr hq, cert_congr (fun c hc => (hq c hc).symm)⟩
  unfold dist
  rw [e]
/-! the first number with a property -/
def fstN (p : Nat → Bool) : Nat → Nat → Nat
  | 0, i => i
  | k + 1, i => if p i = true then i else fstN p k (i + 1)
theorem fstN_spec (p : Nat → Bool) : ∀ k i b, i ≤ b → b < i + k → p b = true → i ≤ fstN p k i ∧ fstN p k i < i + k ∧ p (fstN p k i) = true ∧ ∀ j, i ≤ j → j < fstN p k i → p j = false := by
  intro k
  induction k with
  | zero => intro i b h1 h2; omega
  | succ k ih =>
    intro i b h1 h2 h3
    unfold fstN
    by_cases h : p i = true
    · rw [if_pos h]
      exact ⟨Nat.le_refl i, by omega, h, fun j a1 a2 => by omega⟩
    · rw [if_neg h]
      have hb : i + 1 ≤ b := by
        rcases Nat.lt_or_ge i b with q | q
        · omega
        · obtain rfl : i = b := by omega
          exact absurd h3 h
      obtain ⟨g1, g2, g3, g4⟩ := ih (i + 1) b hb (by omega) h3
      refine ⟨by omega, by omega, g3, fun j a1 a2 => ?_⟩
      by_cases e : j = i
      · subst e; exact eq_false_of_ne_true h
      · exact g4 j (by omega) a2
theorem fstN_uniq {p : Nat → Bool} {k i r : Nat} (h1 : i ≤ r) (h2 : r < i + k) (h3 : p r = true) (h4 : ∀ j, i ≤ j → j < r → p j = false) : fstN p k i = r := by
  obtain ⟨g1, g2, g3, g4⟩ := fstN_spec p k i r h1 h2 h3
  rcases Nat.lt_trichotomy (fstN p k i) r with q | q | q
  · rw [h4 _ g1 q] at g3; cases g3
  · exact q
  · rw [g4 r h1 q] at h3; cases h3
def prP (W : Nat) (s L : Nat → Int) (c : Nat) : Nat → Bool := fun b => decide (mv W b c ≠ 0 ∧ L b + wt W s b c = L c)
def prv (W K : Nat) (s L : Nat → Int) (c : Nat) : Nat := fstN (prP W s L c) K 0
theorem prv_spec {W K : Nat} {s : Nat → Int} {o : Nat} {L : Nat → Int} (h : Cert W K s o L) {c : Nat} (hc : c < K) (hco : c ≠ o) : prv W K s L c < K ∧ mv W (prv W K s L c) c ≠ 0 ∧ L (prv W K s L c) + wt W s (prv W K s L c) c = L c ∧ ∀ j, j < prv W K s L c → prP W s L c j = false := by
  obtain ⟨b, b1, b2, b3⟩ := h.2.2.2 c hc hco
  obtain ⟨-, g2, g3, g4⟩ := fstN_spec (prP W s L c) K 0 b (by omega) (by omega) (by simp only [prP, decide_eq_true_eq]; exact ⟨b2, b3.symm⟩)
  simp only [prP, decide_eq_true_eq] at g3
  exact ⟨by unfold prv; omega, g3.1, g3.2, fun j hj => g4 j (by omega) hj⟩
/-! how many cells are nearer -/
theorem cnt_lt {p q : Nat → Bool} {K i : Nat} (hi : i < K) (hle : ∀ j, j < K → p j = true → q j = true) (hp : p i = false) (hq : q i = true) : cnt p K < cnt q K := by
  have mono : ∀ k, k ≤ K → cnt p k ≤ cnt q k := by
    intro k
    induction k with
    | zero => intro _; exact Nat.le_refl 0
    | succ k ih =>
      intro hk
      have := ih (by omega)
      have := hle k (by omega)
      simp only [cnt]
      by_cases h1 : p k = true
      · rw [if_pos h1, if_pos (this h1)]; omega
      · rw [if_neg h1]; omega
  have key : ∀ k, i < k → k ≤ K → cnt p k < cnt q k := by
    intro k
    induction k with
    | zero => intro h; omega
    | succ k ih =>
      intro h1 h2
      simp only [cnt]
      by_cases e : k = i
      · subst e
        have := mono k (by omega)
        rw [hp, hq]
        simp
        omega
      · have := ih (by omega) (by omega)
        have := hle k (by omega)
        by_cases h3 : p k = true
        · rw [if_pos h3, if_pos (this h3)]; omega
        · rw [if_neg h3]; omega
  exact key K hi (Nat.le_refl K)
def rk (K : Nat) (L : Nat → Int) (c : Nat) : Nat := cnt (fun b => decide (L b < L c)) K
theorem rk_lt {K : Nat} {L : Nat → Int} {a c : Nat} (ha : a < K) (h : L a < L c) : rk K L a < rk K L c := by
  refine cnt_lt ha (fun j _ hj => ?_) (by simp) (by simp [h])
  simp only [decide_eq_true_eq] at hj ⊢
  omega
theorem rk_K {K : Nat} {L : Nat → Int} {c : Nat} (hc : c < K) : rk K L c < K := by
  have h : rk K L c < cnt (fun _ => true) K := cnt_lt hc (fun _ _ _ => rfl) (by simp) rfl
  exact Nat.lt_of_lt_of_le h (cnt_le _ K)
def pth (W K : Nat) (s L : Nat → Int) (o : Nat) : Nat → Nat → List Nat
  | 0, c => [c]
  | n + 1, c => if c = o then [c] else c :: pth W K s L o n (prv W K s L c)
theorem prv_rk {W K : Nat} {s : Nat → Int} {o : Nat} {L : Nat → Int} (hs : Slo K s) (h : Cert W K s o L) {c : Nat} (hc : c < K) (hco : c ≠ o) : L (prv W K s L c) < L c ∧ rk K L (prv W K s L c) < rk K L c := by
  obtain ⟨g1, g2, g3, -⟩ := prv_spec h hc hco
  have := wt_bd hs g1 hc g2
  exact ⟨by omega, rk_lt g1 (by omega)⟩
theorem pth_fuel {W K : Nat} {s : Nat → Int} {o : Nat} {L : Nat → Int} (hs : Slo K s) (h : Cert W K s o L) : ∀ n n' c, c < K → rk K L c ≤ n → rk K L c ≤ n' → pth W K s L o n c = pth W K s L o n' c := by
  have zero : ∀ c, c < K → rk K L c = 0 → c = o := fun c hc h0 => by
    by_cases q : c = o
    · exact q
    · have := (prv_rk hs h hc q).2
      omega
  intro n
  induction n with
  | zero =>
    intro n' c hc h1 h2
    have e := zero c hc (by omega)
    cases n' with
    | zero => rfl
    | succ n' => rw [pth, pth, if_pos e]
  | succ n ih =>
    intro n' c hc h1 h2
    cases n' with
    | zero =>
      have e := zero c hc (by omega)
      rw [pth, pth, if_pos e]
    | succ n' =>
      rw [pth, pth]
      by_cases e : c = o
      · rw [if_pos e, if_pos e]
      · rw [if_neg e, if_neg e]
        have := prv_rk hs h hc e
        rw [ih n' _ (prv_spec h hc e).1 (by omega) (by omega)]
/-- the way, from its last cell to its first -/
def wayl (W K : Nat) (s L : Nat → Int) (o c : Nat) : List Nat := pth W K s L o 64 c
theorem wayl_o {W K : Nat} {s L : Nat → Int} {o : Nat} : wayl W K s L o o = [o] := by
  unfold wayl
  rw [pth, if_pos rfl]
theorem wayl_c {W K : Nat} {s : Nat → Int} {o : Nat} {L : Nat → Int} (hK : K ≤ 64) (hs : Slo K s) (h : Cert W K s o L) {c : Nat} (hc : c < K) (hco : c ≠ o) : wayl W K s L o c = c :: wayl W K s L o (prv W K s L c) := by
  unfold wayl
  have h1 := rk_K (L := L) hc
  have h2 := prv_rk hs h hc hco
  rw [show (64 : Nat) = 63 + 1 from rfl, pth, if_neg hco, pth_fuel hs h 63 (63 + 1) _ (prv_spec h hc hco).1 (by omega) (by omega)]
theorem way_ind {W K : Nat} {s : Nat → Int} {o : Nat} {L : Nat → Int} (hs : Slo K s) (h : Cert W K s o L) (ho : o < K) (P : Nat → Prop) (base : P o) (step : ∀ c, c < K → c ≠ o → P (prv W K s L c) → P c) : ∀ c, c < K → P c := by
  have key : ∀ n c, rk K L c ≤ n → c < K → P c := by
    intro n
    induction n with
    | zero =>
      intro c h1 hc
      by_cases q : c = o
      · rw [q]; exact base
      · have := (prv_rk hs h hc q).2; omega
    | succ n ih =>
      intro c h1 hc
      by_cases q : c = o
      · rw [q]; exact base
      · have := (prv_rk hs h hc q).2
        exact step c hc q (ih _ (by omega) (prv_spec h hc q).1)
  exact fun c hc => key _ c (Nat.le_refl _) hc
theorem wayl_facts {W K : Nat} {s : Nat → Int} {o : Nat} {L : Nat → Int} (hK : K ≤ 64) (hs : Slo K s) (h : Cert W K s o L) (ho : o < K) : ∀ c, c < K → (wayl W K s L o c).length ≤ rk K L c + 1 ∧ (∀ x, x ∈ wayl W K s L o c → x < K ∧ L x ≤ L c) ∧ (wayl W K s L o c).Nodup ∧ 0 < (wayl W K s L o c).length := by
  refine way_ind hs h ho _ ?_ ?_
  · rw [wayl_o]
    refine ⟨by simp, fun x hx => ?_, by simp, by simp⟩
    obtain rfl := List.mem_singleton.mp hx
    exact ⟨ho, Int.le_refl _⟩
  · intro c hc hco ih
    obtain ⟨i1, i2, i3, i4⟩ := ih
    have hr := prv_rk hs h hc hco
    rw [wayl_c hK hs h hc hco]
    refine ⟨by rw [List.length_cons]; omega, fun x hx => ?_, ?_, by simp⟩
    · rcases List.mem_cons.mp hx with rfl | hx
      · exact ⟨hc, Int.le_refl _⟩
      · have := i2 x hx
        exact ⟨this.1, by omega⟩
    · refine List.nodup_cons.mpr ⟨fun hx => ?_, i3⟩
      have := (i2 c hx).2
      omega
/-! lengths of a way in its cells -/
def updN (f : Nat → Nat) (k v : Nat) : Nat → Nat := fun j => if j = k then v else f j
def addL (W : Nat) (f : Nat → Nat) (a b : Nat) : Nat → Nat := updN (updN f a (f a + mv W b a)) b (updN f a (f a + mv W b a) b + mv W b a)
def lenL (W : Nat) : List Nat → (Nat → Nat) → Nat → Nat
  | a :: b :: t, f => lenL W (b :: t) (addL W f a b)
  | _, f => f
theorem addL_ge (W : Nat) (f : Nat → Nat) (a b x : Nat) : f x ≤ addL W f a b x ∧ addL W f a b x ≤ f x + 2828 := by
  have hm : mv W b a ≤ 1414 := by rcases mv_cases W b a with e | e | e <;> omega
  unfold addL updN
  generalize mv W b a = k at hm ⊢
  by_cases h1 : x = b
  · rw [if_pos h1, h1]
    by_cases h3 : b = a
    · rw [if_pos h3, h3]; omega
    · rw [if_neg h3]; omega
  · rw [if_neg h1]
    by_cases h2 : x = a
    · rw [if_pos h2, h2]; omega
    · rw [if_neg h2]; omega
theorem lenL_ge (W : Nat) : ∀ (l : List Nat) (f : Nat → Nat) (x : Nat), f x ≤ lenL W l f x ∧ lenL W l f x ≤ f x + 2828 * l.length := by
  intro l
  induction l with
  | nil => intro f x; exact ⟨Nat.le_refl _, by simp [lenL]⟩
  | cons a t ih =>
    intro f x
    cases t with
    | nil => exact ⟨Nat.le_refl _, by simp [lenL]⟩
    | cons b t =>
      have h1 := ih (addL W f a b) x
      have h2 := addL_ge W f a b x
      simp only [lenL, List.length_cons] at h1 ⊢
      omega
theorem lenL_out (W : Nat) : ∀ (l : List Nat) (f : Nat → Nat) (x : Nat), x ∉ l → lenL W l f x = f x := by
  intro l
  induction l with
  | nil => intro f x _; rfl
  | cons a t ih =>
    intro f x hx
    cases t with
    | nil => rfl
    | cons b t =>
      have h0 : x ≠ a := fun q => hx (by simp [q])
      have h1 : x ≠ b := fun q => hx (by simp [q])
      rw [lenL, ih (addL W f a b) x (fun q => hx (List.mem_cons_of_mem _ q))]
      simp [addL, updN, h0, h1]
theorem addL_pos {W a b : Nat} {f : Nat → Nat} (h : mv W b a ≠ 0) : 0 < addL W f a b a ∧ 0 < addL W f a b b := by
  have := mv_ne h
  unfold addL updN
  constructor
  · simp [Ne.symm this]; omega
  · simp; omega
theorem lenL_pos {W K : Nat} {s : Nat → Int} {o : Nat} {L : Nat → Int} (hK : K ≤ 64) (hs : Slo K s) (h : Cert W K s o L) (ho : o < K) : ∀ c, c < K → ∀ f : Nat → Nat, (c = o → 0 < f c) → ∀ x, x ∈ wayl W K s L o c → 0 < lenL W (wayl W K s L o c) f x := by
  refine way_ind hs h ho _ ?_ ?_
  · intro f hf x hx
    rw [wayl_o] at hx ⊢
    obtain rfl := List.mem_singleton.mp hx
    exact hf rfl
  · intro c hc hco ih f _ x hx
    obtain ⟨p1, p2, p3, -⟩ := prv_spec h hc hco
    rw [wayl_c hK hs h hc hco] at hx ⊢
    have ⟨t, ht⟩ : ∃ t, wayl W K s L o (prv W K s L c) = prv W K s L c :: t := by
      by_cases q : prv W K s L c = o
      · exact ⟨[], by rw [q, wayl_o]⟩
      · exact ⟨_, wayl_c hK hs h p1 q⟩
    have hpos := addL_pos (f := f) p2
    have ih' := ih (addL W f c (prv W K s L c)) (fun _ => hpos.2)
    rw [ht] at hx ih' ⊢
    rw [lenL]
    rcases List.mem_cons.mp hx with rfl | hx
    · exact Nat.lt_of_lt_of_le hpos.1 (lenL_ge W _ _ _).1
    · exact ih' x hx
