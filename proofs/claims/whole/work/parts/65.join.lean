/-! ===== from the world as it is born to the world of the rows ===== -/
theorem MetI.cg {l : Launch} {y : MethodName} {bytes : ByteArray} {maxL k n' mc ms : Nat} {rm : Room} {B : Wb} {E1 E2 E' : Nat → va_E} {av : List Value} (h : MetI l y bytes maxL rm B k (k + 1) E1 n' E' av mc ms) (he : E1 k = E2 k) : MetI l y bytes maxL rm B k (k + 1) E2 n' E' av mc ms := by
  unfold MetI Bd at h ⊢
  rw [Pl_congr (E' := E2) (fun j h1 h2 => by rw [show j = k by omega]; exact he)] at h
  exact h
theorem Pl_wds {B : Wb} {σ : Mem} : Pl B 0 224 (fin B σ) = wd_s B σ := by
  unfold Pl wd_s
  refine List.map_congr_left (fun i _ => ?_)
  rw [Nat.zero_add]
  rfl
theorem Pl_wdt {B : Wb} {σ : Mem} : Pl B 0 239 (fin B σ) = wd_t B σ := by
  unfold Pl wd_t
  refine List.map_congr_left (fun i _ => ?_)
  rw [Nat.zero_add]
  rfl
theorem Pl_wd {B : Wb} {σ : Mem} : Pl B 0 240 (fin B σ) = wd B σ := by
  unfold Pl wd
  refine List.map_congr_left (fun i _ => ?_)
  rw [Nat.zero_add]
  rfl
theorem AdB.inj {B : Wb} (h : AdB B) : InjB B := fun i j _ _ e => by
  rw [h i, h j] at e
  omega
theorem AdB.injs {B : Wb} (h : AdB B) : InjB_s B := fun i j _ _ e => by
  rw [h i, h j] at e
  omega
theorem AdB.injt {B : Wb} (h : AdB B) : InjB_t B := fun i j _ _ e => by
  rw [h i, h j] at e
  omega
theorem own_AP {B : Wb} (h : AdB B) {sz : Nat} (hsz : wA B 0 ≤ sz) : ∀ q, own_s B sz q → AP B 0 q := by
  intro q hq
  show wA B 0 ≤ q
  rcases hq with ⟨k, -, rfl⟩ | hq
  · rw [h k]; omega
  · omega
theorem own_APt {B : Wb} (h : AdB B) {sz : Nat} (hsz : wA B 0 ≤ sz) : ∀ q, own_t B sz q → AP B 0 q := by
  intro q hq
  show wA B 0 ≤ q
  rcases hq with ⟨k, -, rfl⟩ | hq
  · rw [h k]; omega
  · omega
/-- a place below n, or behind the heap's end: all that lies at wA B 0 or behind it, when the heap ends no later than place n's address -/
theorem AP_own {B : Wb} (h : AdB B) {sz : Nat} (hsz : sz ≤ wA B 224) : ∀ q, AP B 0 q → own_s B sz q := by
  intro q hq
  have hq' : wA B 0 ≤ q := hq
  by_cases hlt : q < sz
  · refine Or.inl ⟨q - wA B 0, ?_, ?_⟩
    · rw [h 224] at hsz; omega
    · rw [h (q - wA B 0)]; omega
  · exact Or.inr (by omega)
theorem AP_ownt {B : Wb} (h : AdB B) {sz : Nat} (hsz : sz ≤ wA B 239) : ∀ q, AP B 0 q → own_t B sz q := by
  intro q hq
  have hq' : wA B 0 ≤ q := hq
  by_cases hlt : q < sz
  · refine Or.inl ⟨q - wA B 0, ?_, ?_⟩
    · rw [h 239] at hsz; omega
    · rw [h (q - wA B 0)]; omega
  · exact Or.inr (by omega)
theorem va_S.re {A A' : Nat → Prop} {H0 H : Heap} {locs : List Loc} (h : va_S A H0 H locs) (h1 : ∀ q, A q → A' q) : va_S A' H0 H locs :=
  ⟨h.1, fun q g1 g2 => h.2.1 q g1 (fun z => g2 (h1 q z)), fun q hq => h1 _ (h.2.2 q hq)⟩
theorem bx_s {B : Wb} {σ : Mem} {s : State} {H : Heap} {locs : List Loc} (w : Bx B 0 224 (fin B σ) s H locs) (hsz : s.heap.size ≤ wA B 224) (hG : Gst B (AP B 0) s s.heap) : Wx_s B σ s H locs := by
  obtain ⟨h1, h2, h3, h4, h5, h6, h7, h8⟩ := w
  exact ⟨by rw [← Pl_wds]; exact h1, h2, h3.injs, h4.re (AP_own h3 hsz), hG.narrow (own_AP h3 h7)⟩
theorem bx_t {B : Wb} {σ : Mem} {s : State} {H : Heap} {locs : List Loc} (w : Bx B 0 239 (fin B σ) s H locs) (hsz : s.heap.size ≤ wA B 239) (hG : Gst B (AP B 0) s s.heap) : Wx_t B σ s H locs := by
  obtain ⟨h1, h2, h3, h4, h5, h6, h7, h8⟩ := w
  exact ⟨by rw [← Pl_wdt]; exact h1, h2, h3.injt, h4.re (AP_ownt h3 hsz), hG.narrow (own_APt h3 h7)⟩
section JOIN
variable {p : Program} {l : Launch} {e : Env} {R : Room} {s : State} {m : MethodId} {args : Array Value} {below : List Frame} {meth : Method} {c : Code} {H : Heap} {locs : List Loc} {cells slots : Nat} {Q : State → Prop}
variable {cc : ByteArray} {nL pc : Nat} {ow : String} {ls : Array Slot} {rest st0 : List Value} {B : Wb} {b n : Nat} {E E' : Nat → va_E}
theorem W.sized {g : JFrame} (h : H.size ≤ s.heap.size + cells → W p l e R s m args below meth c H locs cells slots Q g) : W p l e R s m args below meth c H locs cells slots Q g := by
  intro T hT X
  have h2 : T.heap.size ≤ s.heap.size + cells := X.same.2.2.1
  rw [hT] at h2
  exact h h2 T hT X
theorem bRet_s {σ : Mem} (C0 : Cx p s m args meth c cc nL ow) (hr : meth.sig.returnType = none) (w : Wx_s B σ s H locs) (hA : AdB B) (hsz : s.heap.size = wA B 1) (hcl : cells = 223) (d : decode cc pc = .ok (.return_, 1)) : W p l e R s m args below meth c H locs cells slots (MQ below (QI B 0 224 (fin B σ)) args s cells slots (AP B 0)) (F0 m pc ls []) := by
  refine W.sized fun hup => ?_
  have h223 : (wd_s B σ)[223]? = some (wA B 223, mk B (shp 223) (σ.1 223) (σ.2 223)) := wd_get_s (by decide)
  have hlo : wA B 223 < H.size := (w.1 223 _ h223).lt
  have hz : H.size = wA B 224 := by
    rw [hsz, hcl, hA 1] at hup
    rw [hA 223] at hlo
    rw [hA 224]
    omega
  have hsub := own_AP hA (sz := s.heap.size) (by rw [hsz, hA 1]; omega)
  exact W.vret C0.1.1 C0.1.2.1 hr (fun t ht _ => ⟨⟨rfl, by rw [ht, Pl_wds]; exact w.1, by rw [ht]; exact hz⟩, ⟨by rw [ht]; exact w.2.2.2.1.1, fun q h1 h2 => by rw [ht]; exact w.2.2.2.1.2.1 q h1 (fun z => h2 (hsub q z))⟩⟩) (fun q hq => hsub _ (w.2.2.2.1.2.2 q hq)) d (hlocks := C0.2)
end JOIN
/-- a constructor whose premise says more of the start -/
abbrev MetJ (l : Launch) (y : MethodName) (bytes : ByteArray) (maxL : Nat) (rm : Room) (B : Wb) (b n : Nat) (E : Nat → va_E) (P : State → Prop) (n' : Nat) (E' : Nat → va_E) (av : List Value) (mc ms : Nat) : Prop :=
  Met l y (.code y bytes maxL none :: GL) rm (va_Pc av (fun U => Bd B b n E U ∧ P U)) (QI B b n' E') mc ms (AP B b)
theorem metJ_in {l : Launch} {y : MethodName} {bytes : ByteArray} {maxL b n n' mc ms : Nat} {rm : Room} {B : Wb} {E E' : Nat → va_E} {P : State → Prop} {av : List Value} (hp : plainName y.cls = true) (hy : y.name = "<init>") (hlen : (lg_sl av).length ≤ maxL)
    (body : ∀ p e s m below meth c, Cx p s m av.toArray meth c bytes maxL y.cls → meth.sig.returnType = none → meth.name = "<init>" → Bx B b n E s s.heap [] → s.heap.size = wA B n → P s → ∀ ls, lv_has ls maxL (lv_args 0 av) → W p l e rm s m av.toArray below meth c s.heap [] 0 0 (MQ below (QI B b n' E') av.toArray s mc ms (AP B b)) (F0 m 0 ls [])) : MetJ l y bytes maxL rm B b n E P n' E' av mc ms := by
  refine Met.ofW (cc := bytes) (maxL := maxL) (ret := none) hp rfl ?_
  intro p e s m args below meth c s₁ B0 hml hv
  obtain ⟨rfl, hw, hP⟩ := hv
  have hts := atoms_spec (ws := .code y bytes maxL none :: GL) B0.pre
  have hown : s.vm.findClass y.cls = some m.cls := findClass_of_methodNamed B0.named
  rw [lg_entry_eq]
  exact body p e s m below meth c ⟨⟨B0.exec, B0.bytes, hml, hown, fun w h => hts w (List.mem_cons_of_mem _ h)⟩, B0.notSynchronized⟩ B0.returns ((name_of_methodNamed B0.named B0.method).1.trans hy) (bx_in hw) hw.2.2.2.2.1 hP _ (lv_entry av hlen)
