/-! ===== from the world as it is born to the world of the rows ===== -/
theorem MetI.cg {l : Launch} {y : MethodName} {bytes : ByteArray} {maxL k n' mc ms : Nat} {rm : Room} {B : Wb} {E1 E2 E' : Nat → va_E} {av : List Value} (h : MetI l y bytes maxL rm B k (k + 1) E1 n' E' av mc ms) (he : E1 k = E2 k) : MetI l y bytes maxL rm B k (k + 1) E2 n' E' av mc ms := by
  unfold MetI Bd at h ⊢
  rw [Pl_congr (E' := E2) (fun j h1 h2 => by rw [show j = k by omega]; exact he)] at h
  exact h
theorem Pl_wds {B : Wb} {σ : Mem} : Pl B 0 224 (fin B σ) = wd_s B σ := by
  unfold Pl wd_s
  refine List.map_congr_left (fun i _ => ?_)
  rw [Nat.zero_add]
  rfl
theorem Pl_wdt {B : Wb} {σ : Mem} : Pl B 0 239 (fin B σ) = wd_t B σ := by
  unfold Pl wd_t
  refine List.map_congr_left (fun i _ => ?_)
  rw [Nat.zero_add]
  rfl
theorem Pl_wd {B : Wb} {σ : Mem} : Pl B 0 240 (fin B σ) = wd B σ := by
  unfold Pl wd
  refine List.map_congr_left (fun i _ => ?_)
  rw [Nat.zero_add]
  rfl
theorem AdB.inj {B : Wb} (h : AdB B) : InjB B := fun i j _ _ e => by
  rw [h i, h j] at e
  omega
theorem AdB.injs {B : Wb} (h : AdB B) : InjB_s B := fun i j _ _ e => by
  rw [h i, h j] at e
  omega
theorem AdB.injt {B : Wb} (h : AdB B) : InjB_t B := fun i j _ _ e => by
  rw [h i, h j] at e
  omega
theorem own_AP {B : Wb} (h : AdB B) {sz : Nat} (hsz : wA B 0 ≤ sz) : ∀ q, own_s B sz q → AP B 0 q := by
  intro q hq
  show wA B 0 ≤ q
  rcases hq with ⟨k, -, rfl⟩ | hq
  · rw [h k]; omega
  · omega
theorem own_APt {B : Wb} (h : AdB B) {sz : Nat} (hsz : wA B 0 ≤ sz) : ∀ q, own_t B sz q → AP B 0 q := by
  intro q hq
  show wA B 0 ≤ q
  rcases hq with ⟨k, -, rfl⟩ | hq
  · rw [h k]; omega
  · omega
/-- a place below n, or behind the heap's end: all that lies at wA B 0 or behind it, when the heap ends no later than place n's address -/
theorem AP_own {B : Wb} (h : AdB B) {sz : Nat} (hsz : sz ≤ wA B 224) : ∀ q, AP B 0 q → own_s B sz q := by
  intro q hq
  have hq' : wA B 0 ≤ q := hq
  by_cases hlt : q < sz
  · refine Or.inl ⟨q - wA B 0, ?_, ?_⟩
    · rw [h 224] at hsz; omega
    · rw [h (q - wA B 0)]; omega
  · exact Or.inr (by omega)
theorem AP_ownt {B : Wb} (h : AdB B) {sz : Nat} (hsz : sz ≤ wA B 239) : ∀ q, AP B 0 q → own_t B sz q := by
  intro q hq
  have hq' : wA B 0 ≤ q := hq
  by_cases hlt : q < sz
  · refine Or.inl ⟨q - wA B 0, ?_, ?_⟩
    · rw [h 239] at hsz; omega
    · rw [h (q - wA B 0)]; omega
  · exact Or.inr (by omega)
theorem va_S.re {A A' : Nat → Prop} {H0 H : Heap} {locs : List Loc} (h : va_S A H0 H locs) (h1 : ∀ q, A q → A' q) : va_S A' H0 H locs :=
  ⟨h.1, fun q g1 g2 => h.2.1 q g1 (fun z => g2 (h1 q z)), fun q hq => h1 _ (h.2.2 q hq)⟩
theorem bx_s {B : Wb} {σ : Mem} {s : State} {H : Heap} {locs : List Loc} (w : Bx B 0 224 (fin B σ) s H locs) (hsz : s.heap.size ≤ wA B 224) (hG : Gst B (AP B 0) s s.heap) : Wx_s B σ s H locs := by
  obtain ⟨h1, h2, h3, h4, h5, h6, h7, h8⟩ := w
  exact ⟨by rw [← Pl_wds]; exact h1, h2, h3.injs, h4.re (AP_own h3 hsz), hG.narrow (own_AP h3 h7)⟩
theorem bx_t {B : Wb} {σ : Mem} {s : State} {H : Heap} {locs : List Loc} (w : Bx B 0 239 (fin B σ) s H locs) (hsz : s.heap.size ≤ wA B 239) (hG : Gst B (AP B 0) s s.heap) : Wx_t B σ s H locs := by
  obtain ⟨h1, h2, h3, h4, h5, h6, h7, h8⟩ := w
  exact ⟨by rw [← Pl_wdt]; exact h1, h2, h3.injt, h4.re (AP_ownt h3 hsz), hG.narrow (own_APt h3 h7)⟩
