/-! ===== both sides together ===== -/
/-- every state kept was a good one -/
def HV (hs : List (Nat → Int64)) : Prop := ∀ h, h ∈ hs → ∃ W H n, Val h W H n
/-- the class and the reference stand at the same row, history and script -/
def JJ (σ : Mem) (W H n : Nat) (hs : List (Nat → Int64)) (sc : List Nat) : Prop := CI σ (σ.2 225) W H n hs sc ∧ MInv σ hs sc ∧ HV hs
section INV
variable {σ τ ρ : Mem} {W H n W' H' n' : Nat} {m m' : Nat → Int64} {hs hs' : List (Nat → Int64)} {sc sc' : List Nat} {v : Int64}
theorem HV.push (h : HV hs) (hV : Val m W H n) : HV (push hs m) := by
  intro x hx
  unfold Jvm.Pilot.CSlownessImagerLaw_law_r8109_ad4679.push at hx
  rw [List.mem_append, List.mem_singleton] at hx
  rcases hx with hx | rfl
  · split at hx
    · exact h x (List.mem_of_mem_drop hx)
    · exact h x hx
  · exact ⟨W, H, n, hV⟩
theorem HV.take (h : HV hs) (k : Nat) : HV (hs.take k) := fun x hx => h x (List.mem_of_mem_take hx)
theorem CI.low (h : CI τ m W H n hs sc) (hI : ∀ q, q < 224 → ρ.1 q = τ.1 q) (hL : ∀ q, q < 224 → ρ.2 q = τ.2 q) : CI ρ m W H n hs sc :=
  ⟨cs_scr h.1 (fun q hq => hI q (by omega)) (fun q hq => hL q (by omega)), h.2.1.of (fun q _ _ => hI q (by omega)) (fun q _ _ => hL q (by omega)), h.2.2.of (fun q _ _ => hI q (by omega))⟩
/-- after the class's call and the telling of its answer the reference stands as it stood -/
theorem JJ.pre (h : JJ σ W H n hs sc) (c : Cfr σ τ) : (setL τ 239 0 v).2 225 = σ.2 225 ∧ MInv (setL τ 239 0 v) hs sc := by
  have e1 : (setL τ 239 0 v).2 225 = σ.2 225 := (mL_p (by omega)).trans (c 225 (by omega)).2
  refine ⟨e1, h.2.1.of ?_ ?_ ?_ ?_⟩
  · rw [mL_I, (c 224 (by omega)).1]
  · rw [mL_I, (c 224 (by omega)).1]
  · rw [mL_p (by omega), (c 226 (by omega)).2]
  · rw [mL_I, (c 227 (by omega)).1]
theorem JJ.post (hC : CO σ τ m' W' H' n' hs' sc') (e : ρ.2 225 = m') (hM : MInv ρ hs' sc') (hI : ∀ q, q < 224 → ρ.1 q = (setL τ 239 0 v).1 q) (hL : ∀ q, q < 224 → ρ.2 q = (setL τ 239 0 v).2 q) (hH : HV hs') : JJ ρ W' H' n' hs' sc' := by
  refine ⟨?_, hM, hH⟩
  rw [e]
  exact hC.1.low (fun q hq => (hI q hq).trans rfl) (fun q hq => (hL q hq).trans (mL_p (by omega)))
theorem JJ.mo (hC : CO σ τ m' W' H' n' hs' sc') (hM : MO (setL τ 239 0 v) ρ m' hs' sc') (hH : HV hs') : JJ ρ W' H' n' hs' sc' :=
  JJ.post hC hM.1 hM.2.1 (fun q hq => hM.2.2.1.1 q (Or.inl hq)) (fun q hq => hM.2.2.1.2.1 q (Or.inl hq)) hH
end INV
