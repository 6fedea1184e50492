/-! ===== scripts: what they say; the reference's reading ===== -/
def nxtp (p : Nat → Bool) (len at1 : Nat) : Nat := fstN (fun i => decide (len ≤ i) || !p i) 200 at1
theorem nxtp_spec (p : Nat → Bool) {len at1 : Nat} (h : at1 ≤ len) (hl : len ≤ 120) : at1 ≤ nxtp p len at1 ∧ nxtp p len at1 ≤ len ∧ (nxtp p len at1 < len → p (nxtp p len at1) = false) ∧ ∀ j, at1 ≤ j → j < nxtp p len at1 → p j = true := by
  obtain ⟨g1, g2, g3, g4⟩ := fstN_spec (fun i => decide (len ≤ i) || !p i) 200 at1 len h (by omega) (by simp)
  have g4' : ∀ j, at1 ≤ j → j < nxtp p len at1 → j < len ∧ p j = true := fun j h1 h2 => by
    have := g4 j h1 h2
    simp only [Bool.or_eq_false_iff, decide_eq_false_iff_not, Bool.not_eq_false'] at this
    exact ⟨by omega, this.2⟩
  refine ⟨g1, ?_, fun h2 => ?_, fun j h1 h2 => (g4' j h1 h2).2⟩
  · rcases Nat.lt_or_ge len (nxtp p len at1) with q | q
    · have := (g4' len h q).1; omega
    · exact q
  · have h3 : (decide (len ≤ nxtp p len at1) || !p (nxtp p len at1)) = true := g3
    rw [Bool.or_eq_true, decide_eq_true_eq, Bool.not_eq_true'] at h3
    rcases h3 with h3 | h3
    · omega
    · exact h3
def bat (sc : List Nat) (i : Nat) : Nat := sc.getD i 0
def isSp (sc : List Nat) (i : Nat) : Bool := decide (bat sc i = 32)
def isLe (sc : List Nat) (i : Nat) : Bool := decide (97 ≤ bat sc i ∧ bat sc i ≤ 122)
def isDg (sc : List Nat) (i : Nat) : Bool := decide (48 ≤ bat sc i ∧ bat sc i ≤ 57)
def nSp (sc : List Nat) (i : Nat) : Nat := nxtp (isSp sc) sc.length i
def nLe (sc : List Nat) (i : Nat) : Nat := nxtp (isLe sc) sc.length i
def nDg (sc : List Nat) (i : Nat) : Nat := nxtp (isDg sc) sc.length i
def wcode (sc : List Nat) (i : Nat) : Nat → Nat
  | 0 => 0
  | k + 1 => wcode sc i k * 128 + bat sc (i + k)
def kd (c : Nat) : Nat := if c = 1880313 then 0 else if c = 1931749 then 1 else if c = 209286764 then 2 else if c = 245152485 then 3 else if c = 244872677 then 4 else if c = 31121306352 then 5 else if c = 3980863994472 then 6 else if c = 215643756 then 7 else 8
/-- the word at i: its kind (8: none) and where it ends -/
def wkd (sc : List Nat) (i : Nat) : Nat := if nLe sc i = i ∨ 6 < nLe sc i - i then 8 else kd (wcode sc i (nLe sc i - i))
def eDg (sc : List Nat) (i : Nat) : Nat := if nDg sc i < i + 6 then nDg sc i else i + 6
def dval (sc : List Nat) (i : Nat) : Nat → Nat
  | 0 => 0
  | k + 1 => 10 * dval sc i k + (bat sc (i + k) - 48)
/-- a number behind i: is it one, where the reading stands then, its value -/
def sNum (sc : List Nat) (i : Nat) : Bool × Nat × Nat :=
  if nSp sc i = i then (false, i, 0)
  else (decide (nSp sc i < eDg sc (nSp sc i)) && !(decide (eDg sc (nSp sc i) < sc.length) && isDg sc (eDg sc (nSp sc i))), eDg sc (nSp sc i), dval sc (nSp sc i) (eDg sc (nSp sc i) - nSp sc i))
def nmK (k : Nat) : Nat := if k ≤ 3 then 2 else if k = 7 then 0 else 1
/-- the numbers of a command: good, where it stands, first, second -/
def sNums (sc : List Nat) (i : Nat) : Nat → Bool × Nat × Nat × Nat
  | 0 => (true, i, 0, 0)
  | 1 => ((sNum sc i).1, (sNum sc i).2.1, (sNum sc i).2.2, 0)
  | _ => if (sNum sc i).1 = true then ((sNum sc (sNum sc i).2.1).1, (sNum sc (sNum sc i).2.1).2.1, (sNum sc i).2.2, (sNum sc (sNum sc i).2.1).2.2) else (false, (sNum sc i).2.1, (sNum sc i).2.2, 0)
/-- a command at i: good, where the reading stands, kind, first, second -/
def sCmd (sc : List Nat) (i : Nat) : Bool × Nat × Nat × Nat × Nat :=
  if wkd sc i = 8 then (false, i, 8, 0, 0)
  else if (sNums sc (nLe sc i) (nmK (wkd sc i))).1 = true then
    (if nSp sc (sNums sc (nLe sc i) (nmK (wkd sc i))).2.1 < sc.length ∧ bat sc (nSp sc (sNums sc (nLe sc i) (nmK (wkd sc i))).2.1) = 59 then (true, nSp sc (sNums sc (nLe sc i) (nmK (wkd sc i))).2.1 + 1, wkd sc i, (sNums sc (nLe sc i) (nmK (wkd sc i))).2.2.1, (sNums sc (nLe sc i) (nmK (wkd sc i))).2.2.2)
    else (false, nSp sc (sNums sc (nLe sc i) (nmK (wkd sc i))).2.1, 8, 0, 0))
  else (false, (sNums sc (nLe sc i) (nmK (wkd sc i))).2.1, 8, 0, 0)
/-- the whole script from i: good, where the reading stands, its commands -/
def sAll (sc : List Nat) : Nat → Nat → Bool × Nat × List (Nat × Nat × Nat)
  | 0, i => (true, i, [])
  | f + 1, i => if sc.length ≤ i then (true, i, [])
    else if (sCmd sc i).1 = true then ((sAll sc f (nSp sc (sCmd sc i).2.1)).1, (sAll sc f (nSp sc (sCmd sc i).2.1)).2.1, (sCmd sc i).2.2 :: (sAll sc f (nSp sc (sCmd sc i).2.1)).2.2)
    else (false, (sCmd sc i).2.1, [])
section SPOS
variable {sc : List Nat} {i : Nat}
theorem nSp_s (h : i ≤ sc.length) (hl : sc.length ≤ 120) : i ≤ nSp sc i ∧ nSp sc i ≤ sc.length ∧ (nSp sc i < sc.length → isSp sc (nSp sc i) = false) ∧ ∀ j, i ≤ j → j < nSp sc i → isSp sc j = true := nxtp_spec _ h hl
theorem nLe_s (h : i ≤ sc.length) (hl : sc.length ≤ 120) : i ≤ nLe sc i ∧ nLe sc i ≤ sc.length ∧ (nLe sc i < sc.length → isLe sc (nLe sc i) = false) ∧ ∀ j, i ≤ j → j < nLe sc i → isLe sc j = true := nxtp_spec _ h hl
theorem nDg_s (h : i ≤ sc.length) (hl : sc.length ≤ 120) : i ≤ nDg sc i ∧ nDg sc i ≤ sc.length ∧ (nDg sc i < sc.length → isDg sc (nDg sc i) = false) ∧ ∀ j, i ≤ j → j < nDg sc i → isDg sc j = true := nxtp_spec _ h hl
theorem eDg_s (h : i ≤ sc.length) (hl : sc.length ≤ 120) : i ≤ eDg sc i ∧ eDg sc i ≤ sc.length ∧ eDg sc i ≤ i + 6 ∧ (eDg sc i < i + 6 → eDg sc i < sc.length → isDg sc (eDg sc i) = false) ∧ ∀ j, i ≤ j → j < eDg sc i → isDg sc j = true := by
  obtain ⟨h1, h2, h3, h4⟩ := nDg_s h hl
  unfold eDg
  by_cases q : nDg sc i < i + 6
  · rw [if_pos q]
    exact ⟨h1, h2, by omega, fun _ => h3, h4⟩
  · rw [if_neg q]
    exact ⟨by omega, by omega, Nat.le_refl _, fun q => by omega, fun j a b => h4 j a (by omega)⟩
theorem sNum_s (h : i ≤ sc.length) (hl : sc.length ≤ 120) : i ≤ (sNum sc i).2.1 ∧ (sNum sc i).2.1 ≤ sc.length := by
  obtain ⟨h1, h2, -⟩ := nSp_s h hl
  unfold sNum
  by_cases q : nSp sc i = i
  · rw [if_pos q]; exact ⟨Nat.le_refl _, h⟩
  · rw [if_neg q]
    obtain ⟨g1, g2, -⟩ := eDg_s h2 hl
    exact ⟨by show i ≤ eDg sc (nSp sc i); omega, g2⟩
theorem sNums_s (h : i ≤ sc.length) (hl : sc.length ≤ 120) (k : Nat) : i ≤ (sNums sc i k).2.1 ∧ (sNums sc i k).2.1 ≤ sc.length := by
  obtain ⟨h1, h2⟩ := sNum_s h hl
  match k with
  | 0 => exact ⟨Nat.le_refl _, h⟩
  | 1 => exact ⟨h1, h2⟩
  | k + 2 =>
    show i ≤ (if (sNum sc i).1 = true then _ else _ : Bool × Nat × Nat × Nat).2.1 ∧ (if (sNum sc i).1 = true then _ else _ : Bool × Nat × Nat × Nat).2.1 ≤ _
    obtain ⟨g1, g2⟩ := sNum_s h2 hl
    by_cases q : (sNum sc i).1 = true
    · rw [if_pos q]; exact ⟨by show i ≤ (sNum sc (sNum sc i).2.1).2.1; omega, g2⟩
    · rw [if_neg q]; exact ⟨h1, h2⟩
theorem wcode_lt {j : Nat} (hb : ∀ x, x < sc.length → bat sc x < 128) : ∀ k, j + k ≤ sc.length → wcode sc j k < 128 ^ k
  | 0, _ => by simp [wcode]
  | k + 1, h => by
    have := wcode_lt (j := j) hb k (by omega)
    have := hb (j + k) (by omega)
    unfold wcode
    rw [Nat.pow_succ]
    omega
theorem kd_3 {k : Nat} (hb : ∀ x, x < sc.length → bat sc x < 128) (h : i + k ≤ sc.length) (hk : kd (wcode sc i k) ≠ 8) : 3 ≤ k := by
  rcases Nat.lt_or_ge k 3 with q | q
  · have h1 := wcode_lt (j := i) hb k h
    have h2 : 128 ^ k ≤ 16384 := by
      have : 128 ^ k ≤ 128 ^ 2 := Nat.pow_le_pow_right (by omega) (by omega)
      simpa using this
    refine absurd ?_ hk
    unfold kd
    rw [if_neg (by omega), if_neg (by omega), if_neg (by omega), if_neg (by omega), if_neg (by omega), if_neg (by omega), if_neg (by omega), if_neg (by omega)]
  · exact q
theorem wkd_3 (hb : ∀ x, x < sc.length → bat sc x < 128) (h : i ≤ sc.length) (hl : sc.length ≤ 120) (hk : wkd sc i ≠ 8) : i + 3 ≤ nLe sc i ∧ nLe sc i ≤ i + 6 ∧ wkd sc i = kd (wcode sc i (nLe sc i - i)) := by
  obtain ⟨h1, h2, -⟩ := nLe_s h hl
  unfold wkd at hk ⊢
  by_cases q : nLe sc i = i ∨ 6 < nLe sc i - i
  · rw [if_pos q] at hk; exact absurd rfl hk
  · rw [if_neg q] at hk ⊢
    have := kd_3 hb (show i + (nLe sc i - i) ≤ sc.length by omega) hk
    exact ⟨by omega, by omega, rfl⟩
/-- a good command takes four bytes at least -/
theorem sCmd_s (hb : ∀ x, x < sc.length → bat sc x < 128) (h : i ≤ sc.length) (hl : sc.length ≤ 120) : i ≤ (sCmd sc i).2.1 ∧ (sCmd sc i).2.1 ≤ sc.length ∧ ((sCmd sc i).1 = true → i + 4 ≤ (sCmd sc i).2.1 ∧ (sCmd sc i).2.2.1 = wkd sc i ∧ wkd sc i ≠ 8) := by
  obtain ⟨h1, h2, -⟩ := nLe_s h hl
  obtain ⟨g1, g2⟩ := sNums_s h2 hl (nmK (wkd sc i))
  obtain ⟨f1, f2, -⟩ := nSp_s g2 hl
  unfold sCmd
  by_cases q : wkd sc i = 8
  · rw [if_pos q]; exact ⟨Nat.le_refl _, h, fun e => nomatch e⟩
  · rw [if_neg q]
    have := (wkd_3 hb h hl q).1
    by_cases q1 : (sNums sc (nLe sc i) (nmK (wkd sc i))).1 = true
    · rw [if_pos q1]
      by_cases q2 : nSp sc (sNums sc (nLe sc i) (nmK (wkd sc i))).2.1 < sc.length ∧ bat sc (nSp sc (sNums sc (nLe sc i) (nmK (wkd sc i))).2.1) = 59
      · rw [if_pos q2]
        refine ⟨?_, ?_, fun _ => ⟨?_, rfl, q⟩⟩
        · show i ≤ nSp sc _ + 1; omega
        · show nSp sc _ + 1 ≤ _; omega
        · show i + 4 ≤ nSp sc _ + 1; omega
      · rw [if_neg q2]
        exact ⟨by show i ≤ nSp sc _; omega, f2, fun e => nomatch e⟩
    · rw [if_neg q1]
      exact ⟨by show i ≤ (sNums sc _ _).2.1; omega, g2, fun e => nomatch e⟩
theorem kd_le (c : Nat) : kd c ≤ 8 := by
  unfold kd
  repeat' split
  all_goals omega
end SPOS
