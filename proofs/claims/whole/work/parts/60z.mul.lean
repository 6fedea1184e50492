section BORNM
variable {p : Program} {l : Launch} {e : Env} {R : Room} {s : State} {m : MethodId} {args : Array Value} {below : List Frame} {meth : Method} {c : Code} {H : Heap} {locs : List Loc} {cells slots : Nat} {Q : State → Prop}
variable {cc : ByteArray} {nL pc : Nat} {ow : String} {ls : Array Slot} {rest st0 : List Value} {B : Wb} {b n : Nat} {E E' : Nat → va_E}
/-- new int[n][m] -/
theorem bMul (C0 : Cx p s m args meth c cc nL ow) (w : Bx B b n E s H locs) {idx : Nat} (hcl : Cond.classLink ow idx ("[" ++ (FieldType.array .int).toString) ∈ GL) (harr : Cond.arrayClass .int ∈ GL) {i j : Int32} {N M : Nat} (hn : ¬ i < 0) (hm : ¬ j < 0) (hN : i.toNatClampNeg = N) (hM : j.toNatClampNeg = M) (hb1 : N * 4 ≤ 536870912) (hb2 : M * componentBytes .int ≤ 536870912) (hb3 : M ≤ 536870912) (hcells : cells + (1 + N) ≤ R.cells) (hslots : slots + (N + N * M) ≤ R.slots) (d : decode cc pc = .ok (.multianewarray idx 2, 4))
    (kk : ∀ H, Bx B b (n + (1 + N)) (fun q => if q < n then E q else if q = n then .inl (wC B 4, N, .inr (.inr (.inr (.inr (fun r => some (wA B (n + 1 + r))))))) else .inl (wC B 0, M, .inl (fun _ => 0))) s H locs → W p l e R s m args below meth c H locs (cells + 1 + N) (slots + N + N * M) Q (F0 m (pc + 4) ls (.ref (wA B n) :: rest))) : W p l e R s m args below meth c H locs cells slots Q (F0 m pc ls (.int j :: .int i :: rest)) := sorry
end BORNM
