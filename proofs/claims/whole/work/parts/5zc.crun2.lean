/-! ===== the class carries out commands and runs ===== -/
section CRUN2
variable {σ τ : Mem} {W H n : Nat} {m : Nat → Int64} {hs : List (Nat → Int64)} {sc : List Nat}
def Car (σ : Mem) (m : Nat → Int64) (W H n k : Nat) (c : Nat × Nat × Nat) : Prop :=
  (∀ p, exC m W H n c = some p → ∃ ρ, f_X11_carryOut (N4 k) σ = some (1, ρ) ∧ CS ρ p.1 W H p.2 ∧ Fk σ ρ) ∧ (exC m W H n c = none → f_X11_carryOut (N4 k) σ = some (0, σ))
theorem car_t {k : Nat} {c : Nat × Nat × Nat} {p0 : (Nat → Int64) × Nat} {ρ : Mem} (e : exC m W H n c = some p0) (f : f_X11_carryOut (N4 k) σ = some (1, ρ)) (h1 : CS ρ p0.1 W H p0.2) (h2 : Fk σ ρ) : Car σ m W H n k c :=
  ⟨fun p hp => by rw [e] at hp; cases hp; exact ⟨ρ, f, h1, h2⟩, fun hp => by rw [e] at hp; cases hp⟩
theorem car_f {k : Nat} {c : Nat × Nat × Nat} (e : exC m W H n c = none) (f : f_X11_carryOut (N4 k) σ = some (0, σ)) : Car σ m W H n k c :=
  ⟨fun p hp => by (rw [e] at hp; cases hp), fun _ => f⟩
theorem car_0 {k w : Nat} (hk : k < 120) (hw : w < 8) (k0 : σ.1 221 k = N4 w) (hp : f_X11_isPossible (N4 w) (σ.1 222 k) (σ.1 223 k) σ = some 0) : f_X11_carryOut (N4 k) σ = some (0, σ) := by
  unfold f_X11_carryOut
  rw [gd_inb hk (by omega), gd_inb hk (by omega), gd_inb hk (by omega), n4_nat (by omega), k0, if_neg (n4_nlt (by omega)), hp, bd_s, if_pos rfl]
theorem c_carry {k : Nat} {c : Nat × Nat × Nat} (h : CS σ m W H n) (hD : DCc σ k c) (hk : k < 120) (hc : CmdB c) : Car σ m W H n k c := by
  have hn := h.1.1.2.2.2.2.2.2.2
  have hK := h.1.1.K
  obtain ⟨ck, ca, cb⟩ := c
  obtain ⟨k0, ka, kb⟩ := hD
  obtain ⟨c8, a6, b6⟩ := hc
  simp only at k0 ka kb c8 a6 b6
  have hck : ck = 0 ∨ ck = 1 ∨ ck = 2 ∨ ck = 3 ∨ ck = 4 ∨ ck = 5 ∨ ck = 6 ∨ ck = 7 := by omega
  rcases hck with rfl | rfl | rfl | rfl | rfl | rfl | rfl | rfl
  · have k0' : σ.1 221 k = N4 0 := k0
    have ea := ka (by decide)
    have eb := kb (by decide)
    have hp := c_pos0 (a := ca) (b := cb) h a6 b6
    rw [← ea, ← eb] at hp
    have ex : exC m W H n (0, ca, cb) = (if ca < H ∧ cb < H ∧ n < 16 then some (mAdd m n (N8 ca) (N8 cb), n + 1) else none) := rfl
    by_cases q : ca < H ∧ cb < H ∧ n < 16
    · obtain ⟨ρ, r1, r2, r3⟩ := c_append h q.1 q.2.1 q.2.2
      rw [if_pos q] at hp
      refine car_t (by rw [ex, if_pos q]) ?_ r2 r3
      unfold f_X11_carryOut
      rw [gd_inb hk (by omega), gd_inb hk (by omega), gd_inb hk (by omega), n4_nat (by omega), k0', if_neg (n4_nlt (by omega)), hp, bd_s, if_neg (show ¬ (1 : Int32) = 0 by decide), gd_inb (by omega) (by omega), gd_inb (by omega) (by omega), if_pos (show swOf (N4 0) = 1 by decide), ea, eb, r1, bd_s]
    · rw [if_neg q] at hp
      exact car_f (by rw [ex, if_neg q]) (car_0 hk (by omega) k0' hp)
  · have k0' : σ.1 221 k = N4 7 := k0
    have ea := ka (by decide)
    have eb := kb (by decide)
    have hp := c_pos7 (σ := σ) (a := ca) (x3 := σ.1 223 k) h a6
    rw [← ea] at hp
    have ex : exC m W H n (1, ca, cb) = (if ca < n then some (mUse m ca (N4 cb), n) else none) := rfl
    by_cases q : ca < n
    · rw [if_pos q] at hp
      have sw : ∀ j : Int32, j ≠ 0 → ¬ swOf (N4 7) = j := fun j hj e => hj (by rw [← e]; decide)
      by_cases z : cb = 0
      · refine car_t (ρ := setI σ 7 ca 0) (by rw [ex, if_pos q]) ?_ (by rw [z]; exact cs_used h q (Or.inl rfl)) (Fz.rfl.i (by unfold ckI; omega))
        unfold f_X11_carryOut
        rw [gd_inb hk (by omega), gd_inb hk (by omega), gd_inb hk (by omega), n4_nat (by omega), k0', if_neg (n4_nlt (by omega)), hp, bd_s, if_neg (show ¬ (1 : Int32) = 0 by decide), gd_inb (by omega) (by omega), gd_inb (by omega) (by omega), if_neg (sw 1 (by decide)), if_neg (sw 2 (by decide)), if_neg (sw 3 (by decide)), if_neg (sw 4 (by decide)), if_neg (sw 5 (by decide)), if_neg (sw 6 (by decide)), if_neg (sw 7 (by decide)), ea, eb, if_pos (show N4 cb = 0 by rw [z]; rfl), gd_inb (by omega) (by omega), n4_nat (by omega)]
      · have em : mUse m ca (N4 cb) = mUse m ca 1 := by
          unfold mUse
          rw [if_neg (n4_ne0 z (by omega)), if_neg (show ¬ (1 : Int32) = 0 by decide)]
        refine car_t (ρ := setI σ 7 ca 1) (by rw [ex, if_pos q]) ?_ (by show CS _ (mUse m ca (N4 cb)) W H n; rw [em]; exact cs_used h q (Or.inr rfl)) (Fz.rfl.i (by unfold ckI; omega))
        unfold f_X11_carryOut
        rw [gd_inb hk (by omega), gd_inb hk (by omega), gd_inb hk (by omega), n4_nat (by omega), k0', if_neg (n4_nlt (by omega)), hp, bd_s, if_neg (show ¬ (1 : Int32) = 0 by decide), gd_inb (by omega) (by omega), gd_inb (by omega) (by omega), if_neg (sw 1 (by decide)), if_neg (sw 2 (by decide)), if_neg (sw 3 (by decide)), if_neg (sw 4 (by decide)), if_neg (sw 5 (by decide)), if_neg (sw 6 (by decide)), if_neg (sw 7 (by decide)), ea, eb, if_neg (n4_ne0 z (by omega)), gd_inb (by omega) (by omega), n4_nat (by omega)]
    · rw [if_neg q] at hp
      exact car_f (by rw [ex, if_neg q]) (car_0 hk (by omega) k0' hp)
  · have k0' : σ.1 221 k = N4 1 := k0
    have ea := ka (by decide)
    have eb := kb (by decide)
    have hp := c_pos12 (a := ca) (b := cb) (Or.inl rfl) h a6 b6
    rw [← ea, ← eb] at hp
    have ex : exC m W H n (2, ca, cb) = (if ca < W * H ∧ 1 ≤ cb ∧ cb ≤ 100000 then some (vp_updL m (8 + ca) (N8 cb), n) else none) := rfl
    by_cases q : ca < W * H ∧ 1 ≤ cb ∧ cb ≤ 100000
    · obtain ⟨ρ, r1, r2, r3⟩ := c_put (c := ca) h (by omega) q.2.1 q.2.2
      rw [if_pos q] at hp
      refine car_t (by rw [ex, if_pos q]) ?_ r2 r3
      unfold f_X11_carryOut
      rw [gd_inb hk (by omega), gd_inb hk (by omega), gd_inb hk (by omega), n4_nat (by omega), k0', if_neg (n4_nlt (by omega)), hp, bd_s, if_neg (show ¬ (1 : Int32) = 0 by decide), gd_inb (by omega) (by omega), gd_inb (by omega) (by omega), if_neg (show ¬ swOf (N4 1) = 1 by decide), if_pos (show swOf (N4 1) = 2 by decide), ea, eb, r1, bd_s]
    · rw [if_neg q] at hp
      exact car_f (by rw [ex, if_neg q]) (car_0 hk (by omega) k0' hp)
  · have k0' : σ.1 221 k = N4 2 := k0
    have ea := ka (by decide)
    have eb := kb (by decide)
    have hp := c_pos12 (a := ca) (b := cb) (Or.inr rfl) h a6 b6
    rw [← ea, ← eb] at hp
    have ex : exC m W H n (3, ca, cb) = (if ca < W * H ∧ 1 ≤ cb ∧ cb ≤ 100000 then some (vp_updL m (72 + ca) (N8 cb), n) else none) := rfl
    by_cases q : ca < W * H ∧ 1 ≤ cb ∧ cb ≤ 100000
    · rw [if_pos q] at hp
      refine car_t (ρ := setI σ 3 ca (N4 cb)) (by rw [ex, if_pos q]) ?_ (cs_true1 (c := ca) h (by omega) q.2.1 q.2.2) (Fz.rfl.i (by unfold ckI; omega))
      unfold f_X11_carryOut
      rw [gd_inb hk (by omega), gd_inb hk (by omega), gd_inb hk (by omega), n4_nat (by omega), k0', if_neg (n4_nlt (by omega)), hp, bd_s, if_neg (show ¬ (1 : Int32) = 0 by decide), gd_inb (by omega) (by omega), gd_inb (by omega) (by omega), if_neg (show ¬ swOf (N4 2) = 1 by decide), if_neg (show ¬ swOf (N4 2) = 2 by decide), if_pos (show swOf (N4 2) = 3 by decide), ea, eb, gd_inb (by omega) (by omega), n4_nat (by omega)]
    · rw [if_neg q] at hp
      exact car_f (by rw [ex, if_neg q]) (car_0 hk (by omega) k0' hp)
  · have k0' : σ.1 221 k = N4 3 := k0
    have ea := ka (by decide)
    have hp := c_pos3 (σ := σ) (a := ca) (x3 := σ.1 223 k) a6
    rw [← ea] at hp
    have ex : exC m W H n (4, ca, cb) = (if ca ≤ 1000 then some (mObs m W H n (N4 ca) (N8 ca), n) else none) := rfl
    by_cases q : ca ≤ 1000
    · obtain ⟨ρ, r1, r2, r3⟩ := c_takes (w := ca) (x2 := N4 ca) (s := ca) h q (n4_64 (by omega)) (by omega)
      rw [if_pos q] at hp
      refine car_t (by rw [ex, if_pos q]) ?_ r2 r3
      unfold f_X11_carryOut
      rw [gd_inb hk (by omega), gd_inb hk (by omega), gd_inb hk (by omega), n4_nat (by omega), k0', if_neg (n4_nlt (by omega)), hp, bd_s, if_neg (show ¬ (1 : Int32) = 0 by decide), gd_inb (by omega) (by omega), gd_inb (by omega) (by omega), if_neg (show ¬ swOf (N4 3) = 1 by decide), if_neg (show ¬ swOf (N4 3) = 2 by decide), if_neg (show ¬ swOf (N4 3) = 3 by decide), if_pos (show swOf (N4 3) = 4 by decide), ea, r1, bd_s]
    · rw [if_neg q] at hp
      exact car_f (by rw [ex, if_neg q]) (car_0 hk (by omega) k0' hp)
  · have k0' : σ.1 221 k = N4 4 := k0
    have ea := ka (by decide)
    have hp := c_pos4 (σ := σ) (a := ca) (x3 := σ.1 223 k) a6
    rw [← ea] at hp
    have ex : exC m W H n (5, ca, cb) = (if 1 ≤ ca ∧ ca ≤ 20 then some (swpK m W H n ca, n) else none) := rfl
    by_cases q : 1 ≤ ca ∧ ca ≤ 20
    · obtain ⟨ρ, r1, r2, r3⟩ := c_sweeps h q.2
      rw [if_pos q] at hp
      refine car_t (by rw [ex, if_pos q]) ?_ r2 r3
      unfold f_X11_carryOut
      rw [gd_inb hk (by omega), gd_inb hk (by omega), gd_inb hk (by omega), n4_nat (by omega), k0', if_neg (n4_nlt (by omega)), hp, bd_s, if_neg (show ¬ (1 : Int32) = 0 by decide), gd_inb (by omega) (by omega), gd_inb (by omega) (by omega), if_neg (show ¬ swOf (N4 4) = 1 by decide), if_neg (show ¬ swOf (N4 4) = 2 by decide), if_neg (show ¬ swOf (N4 4) = 3 by decide), if_neg (show ¬ swOf (N4 4) = 4 by decide), if_pos (show swOf (N4 4) = 5 by decide), ea, r1, bd_s]
    · rw [if_neg q] at hp
      exact car_f (by rw [ex, if_neg q]) (car_0 hk (by omega) k0' hp)
  · have k0' : σ.1 221 k = N4 5 := k0
    have ea := ka (by decide)
    have hp := c_pos5 (σ := σ) (a := ca) (x3 := σ.1 223 k) a6
    rw [← ea] at hp
    have ex : exC m W H n (6, ca, cb) = (if 1 ≤ ca ∧ ca ≤ 100 then some (mSmo m W (W * H) ca, n) else none) := rfl
    by_cases q : 1 ≤ ca ∧ ca ≤ 100
    · obtain ⟨ρ, r1, r2, r3⟩ := c_smooth h q.1 q.2
      rw [if_pos q] at hp
      refine car_t (by rw [ex, if_pos q]) ?_ r2 r3
      unfold f_X11_carryOut
      rw [gd_inb hk (by omega), gd_inb hk (by omega), gd_inb hk (by omega), n4_nat (by omega), k0', if_neg (n4_nlt (by omega)), hp, bd_s, if_neg (show ¬ (1 : Int32) = 0 by decide), gd_inb (by omega) (by omega), gd_inb (by omega) (by omega), if_neg (show ¬ swOf (N4 5) = 1 by decide), if_neg (show ¬ swOf (N4 5) = 2 by decide), if_neg (show ¬ swOf (N4 5) = 3 by decide), if_neg (show ¬ swOf (N4 5) = 4 by decide), if_neg (show ¬ swOf (N4 5) = 5 by decide), if_pos (show swOf (N4 5) = 6 by decide), ea, r1, bd_s]
    · rw [if_neg q] at hp
      exact car_f (by rw [ex, if_neg q]) (car_0 hk (by omega) k0' hp)
  · have k0' : σ.1 221 k = N4 6 := k0
    have hp := c_pos6 (σ := σ) (x2 := σ.1 222 k) (x3 := σ.1 223 k)
    have ex : exC m W H n (7, ca, cb) = some (mFil m W H n, n) := rfl
    obtain ⟨ρ, r1, r2, r3⟩ := c_fillG h
    refine car_t ex ?_ r2 r3
    unfold f_X11_carryOut
    rw [gd_inb hk (by omega), gd_inb hk (by omega), gd_inb hk (by omega), n4_nat (by omega), k0', if_neg (n4_nlt (by omega)), hp, bd_s, if_neg (show ¬ (1 : Int32) = 0 by decide), gd_inb (by omega) (by omega), gd_inb (by omega) (by omega), if_neg (show ¬ swOf (N4 6) = 1 by decide), if_neg (show ¬ swOf (N4 6) = 2 by decide), if_neg (show ¬ swOf (N4 6) = 3 by decide), if_neg (show ¬ swOf (N4 6) = 4 by decide), if_neg (show ¬ swOf (N4 6) = 5 by decide), if_neg (show ¬ swOf (N4 6) = 6 by decide), if_pos (show swOf (N4 6) = 7 by decide), r1, bd_s]
theorem c_run31 : ∀ (l : List (Nat × Nat × Nat)) (q k : Nat) (m : Nat → Int64) (n : Nat) (σ : Mem), l.length < q → k + l.length ≤ 100 → CS σ m W H n → DCl σ k l → (∀ c, c ∈ l → CmdB c) → σ.1 219 5 = N4 (k + l.length) →
    ∃ τ, f_X11_run_31 q (N4 k) σ = some (N4 (k + (runC W H l m n).2.2), τ) ∧ CS τ (runC W H l m n).1 W H (runC W H l m n).2.1 ∧ Fk σ τ
  | l, 0, k, m, n, σ, hq, hk, h, hD, hc, h5 => by omega
  | [], q + 1, k, m, n, σ, hq, hk, h, hD, hc, h5 => by
    have h5' : σ.1 219 5 = N4 k := h5
    rw [f_X11_run_31, h5', if_pos ((n4_le (by simp at hk; omega) (by simp at hk; omega)).mpr (Nat.le_refl _))]
    exact ⟨σ, rfl, h, Fz.rfl⟩
  | c :: t, q + 1, k, m, n, σ, hq, hk, h, hD, hc, h5 => by
    rw [List.length_cons] at hq hk h5
    have hD0 : DCc σ k c := hD 0 (by rw [List.length_cons]; omega)
    obtain ⟨g1, g2⟩ := c_carry (k := k) h hD0 (by omega) (hc c (List.mem_cons_self ..))
    rw [f_X11_run_31, h5, if_neg (fun y => by have := (n4_le (by omega) (by omega)).mp y; omega)]
    unfold runC
    cases e : exC m W H n c with
    | none =>
      rw [g2 e, bd_s, if_pos rfl]
      exact ⟨σ, rfl, h, Fz.rfl⟩
    | some p =>
      obtain ⟨ρ, r1, r2, r3⟩ := g1 p e
      have hrow : ∀ x, 189 ≤ x → ρ.1 x = σ.1 x := fun x hx => r3.rowI (fun j => by unfold ckI; omega)
      obtain ⟨τ, a1, a2, a3⟩ := c_run31 t q (k + 1) p.1 p.2 ρ (by omega) (by omega) r2 (fun j hj => by
        have := hD (j + 1) (by rw [List.length_cons]; omega)
        rw [show k + (j + 1) = k + 1 + j by omega] at this
        exact this.of ⟨by rw [hrow 221 (by omega)], by rw [hrow 222 (by omega)], by rw [hrow 223 (by omega)]⟩) (fun c hc' => hc c (List.mem_cons_of_mem _ hc')) (by rw [hrow 219 (by omega), h5]; congr 1; omega)
      rw [r1, bd_s, if_neg (show ¬ (1 : Int32) = 0 by decide), n4_succ, a1]
      refine ⟨τ, ?_, a2, r3.trans a3⟩
      show some (N4 (k + 1 + (runC W H t p.1 p.2).2.2), τ) = some (N4 (k + ((runC W H t p.1 p.2).2.2 + 1)), τ)
      rw [show k + 1 + (runC W H t p.1 p.2).2.2 = k + ((runC W H t p.1 p.2).2.2 + 1) by omega]
theorem sAll_len (hb : ∀ x, x < sc.length → bat sc x < 128) (hl : sc.length ≤ 120) : ∀ (f i : Nat), i ≤ sc.length → 4 * (sAll sc f i).2.2.length + i ≤ sc.length
  | 0, i, hi => by show 4 * 0 + i ≤ _; omega
  | f + 1, i, hi => by
    have e : sAll sc (f + 1) i = if sc.length ≤ i then (true, i, []) else if (sCmd sc i).1 = true then ((sAll sc f (nSp sc (sCmd sc i).2.1)).1, (sAll sc f (nSp sc (sCmd sc i).2.1)).2.1, (sCmd sc i).2.2 :: (sAll sc f (nSp sc (sCmd sc i).2.1)).2.2) else (false, (sCmd sc i).2.1, []) := rfl
    rw [e]
    by_cases q : sc.length ≤ i
    · rw [if_pos q]; show 4 * 0 + i ≤ _; omega
    · rw [if_neg q]
      obtain ⟨c1, c2, c3⟩ := sCmd_s hb hi hl
      by_cases y : (sCmd sc i).1 = true
      · rw [if_pos y]
        obtain ⟨s1, s2, -⟩ := nSp_s c2 hl
        have := sAll_len hb hl f (nSp sc (sCmd sc i).2.1) s2
        have := (c3 y).1
        show 4 * (_ :: _).length + i ≤ _
        rw [List.length_cons]
        omega
      · rw [if_neg y]; show 4 * 0 + i ≤ _; omega
theorem CI.p (h : CI σ m W H n hs sc) (f : Fz csrI noL σ τ) : CO σ τ m W H n hs sc :=
  ⟨⟨cs_scr h.1 (fun q _ => f.rowI (fun j => by unfold csrI; omega)) (fun q _ => f.row (fun j => fun e => e)), h.2.1.of (fun q _ _ => f.rowI (fun j => by unfold csrI; omega)) (fun q _ _ => f.row (fun j => fun e => e)), h.2.2.p f⟩, fun q hq => ⟨f.rowI (fun j => by unfold csrI; omega), f.row (fun j => fun e => e)⟩⟩
theorem co_run1 (h : CI σ m W H n hs sc) (h1 : (sScr sc).1 = false) : ∃ τ, f_X11_run σ = some (-10 - N4 (sScr sc).2.1, τ) ∧ CO σ τ m W H n hs sc := by
  have hl := h.2.2.1
  obtain ⟨τ, a1, a2, -⟩ := c_parse h.2.2
  have hp : (sScr sc).2.1 < 2147483648 := by
    have : ∀ (f i : Nat), i ≤ sc.length → (sAll sc f i).2.1 ≤ sc.length := by
      intro f
      induction f with
      | zero => exact fun i hi => hi
      | succ f ih =>
        intro i hi
        show (if sc.length ≤ i then (true, i, []) else if (sCmd sc i).1 = true then ((sAll sc f (nSp sc (sCmd sc i).2.1)).1, (sAll sc f (nSp sc (sCmd sc i).2.1)).2.1, (sCmd sc i).2.2 :: (sAll sc f (nSp sc (sCmd sc i).2.1)).2.2) else (false, (sCmd sc i).2.1, []) : Bool × Nat × List (Nat × Nat × Nat)).2.1 ≤ _
        obtain ⟨c1, c2, c3⟩ := sCmd_s (sc := sc) h.2.2.2.1 hi hl
        by_cases q : sc.length ≤ i
        · rw [if_pos q]; exact hi
        · rw [if_neg q]
          by_cases y : (sCmd sc i).1 = true
          · rw [if_pos y]; exact ih _ (nSp_s c2 hl).2.1
          · rw [if_neg y]; exact c2
    have := this 200 (nSp sc 0) (nSp_s (Nat.zero_le _) hl).2.1
    show (sAll sc 200 (nSp sc 0)).2.1 < _
    omega
  unfold f_X11_run
  rw [a1, bd_s]
  refine ⟨τ, ?_, h.p a2⟩
  rw [if_neg (bf h1)]
  show (if N4 (sScr sc).2.1 = -1 then _ else _) = _
  rw [if_neg (n4_neg hp)]
theorem co_run (h : CI σ m W H n hs sc) (h1 : (sScr sc).1 = true) : ∃ τ, f_X11_run σ = some (N4 (runC W H (sScr sc).2.2 m n).2.2, τ) ∧ CO σ τ (runC W H (sScr sc).2.2 m n).1 W H (runC W H (sScr sc).2.2 m n).2.1 (push hs m) sc := by
  have hl := h.2.2.1
  have hlen : 4 * (sScr sc).2.2.length + nSp sc 0 ≤ sc.length := sAll_len h.2.2.2.1 hl 200 _ (nSp_s (Nat.zero_le _) hl).2.1
  obtain ⟨τ, a1, a2, a3⟩ := c_parse h.2.2
  obtain ⟨d1, d2⟩ := a3 h1
  have hT := h.p a2
  obtain ⟨μ, b1, b2, b3⟩ := co_save hT.1
  obtain ⟨u1, u2, u3, u4⟩ := c_save hT.1.1.2.1 hT.1.1.1.2.2.2.2.2.1 hT.1.2.1
  rw [b1] at u2
  have hμ1 : μ = u1 := Option.some.inj u2
  have hrow : ∀ x, 219 ≤ x → μ.1 x = τ.1 x := fun x hx => by rw [hμ1]; exact (u4 x (Or.inr hx)).1
  obtain ⟨ρ, r1, r2, r3⟩ := c_run31 (sScr sc).2.2 100000 0 m n μ (by omega) (by omega) b2.1.1 (fun j hj => (d2 j hj).of ⟨by rw [hrow 221 (by omega)], by rw [hrow 222 (by omega)], by rw [hrow 223 (by omega)]⟩) (sScr_v h.2.2.2.1 hl) (by rw [hrow 219 (by omega), d1, Nat.zero_add])
  have r1' : f_X11_run_31 100000 0 μ = _ := r1
  unfold f_X11_run
  rw [a1, bd_s]
  rw [if_pos h1]
  show ∃ τ', (if (-1 : Int32) = -1 then bd (f_X3_save 1 τ) _ else _) = _ ∧ _
  rw [if_pos rfl, b1, bd_s, r1', bd_s, Nat.zero_add]
  exact ⟨ρ, rfl, CO.trans hT (b2.fk r2 r3)⟩
end CRUN2
