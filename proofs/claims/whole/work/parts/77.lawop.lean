section LAWO
variable {p : Program} {l : Launch} {e : Env} {s : State} {m : MethodId} {args : Array Value} {below : List Frame} {meth : Method} {c : Code} {H : Heap} {locs : List Loc} {cells slots : Nat} {Q : State → Prop}
variable {ls : Array Slot} {B : Wb} {σ : Mem} {b L : Nat} {xs : Nat → Int32}
theorem kc_L_134 : Cond.constantLong RL 134 4294967295 ∈ GL := gl_in 1499 (by decide +kernel) (by decide +kernel)
set_option maxHeartbeats 4000000 in
set_option maxRecDepth 100000 in
theorem law_0 (hfl : l.stackTraces = false) (C0 : Cx p s m args meth c cL_law 8 RL) (w : Wx B σ s H locs) (X : LX b L xs B s) (hJ : JX σ) {i : Nat} (hi : i + 5 ≤ L) (hl : lv_has ls 8 (LB b B i)) (hcs : cells + 1 ≤ 601024 ∧ slots + 6 ≤ 7293034) (kk : ∀ σ' H locs ls, Wx B σ' s H locs → JX σ' → lv_has ls 8 (LB b B i) → W p l e room_1 s m args below meth c H locs (cells + 1) (slots + 6) Q (F0 m 1947 ls [])) : W p l e room_1 s m args below meth c H locs cells slots Q (F0 m 168 ls []) := by
  have hx := C0.1.1
  have hb := C0.1.2.1
  have hl : lv_has ls 8 [(4, .int (nI i)), (3, .ref (wA B 239)), (2, .ref (wA B 224)), (1, .ref (wA B 0)), (0, .ref b)] := hl
  obtain ⟨hc, hs⟩ := hcs
  obtain ⟨W9, H9, n9, hs9, sc9, hJ⟩ := hJ
  refine lv_aload_n hx hb dL_law_168 rfl (lv_at hl 3 rfl) ?_
  have hop : OpI (hlpI xIA xIA (f_X11_begin (xs (i + 1)) (xs (i + 2)))) (f_X12_begin (xs (i + 1)) (xs (i + 2))) σ := agr1_I hJ (ag_begin hJ)
  obtain ⟨k9, σ1, b9, σ2, e1, e2, e3, e4, hJ2⟩ := hop
  refine lawA C0 w X (i := i) (q := 1) (by omega) (lv_at hl 0 rfl) (lv_at hl 4 rfl) (by decide +kernel) (n4_add i 1) dL_law_169 dL_law_170 dL_law_172 dL_law_173 dL_law_174 ?_
  refine lawA C0 w X (i := i) (q := 2) (by omega) (lv_at hl 0 rfl) (lv_at hl 4 rfl) (by decide +kernel) (n4_add i 2) dL_law_175 dL_law_176 dL_law_178 dL_law_179 dL_law_180 ?_
  refine lv_aload_n hx hb dL_law_181 rfl (lv_at hl 1 rfl) ?_
  refine cSL (As := [.ref (wA B 0), .int (xs (i + 1)), .int (xs (i + 2)), .ref (wA B 239)]) (rest := []) (hh := [(0, 10, 13, 13)]) C0 w (m_L_begin l hfl B _ σ (xs (i + 1)) (xs (i + 2)) k9 σ1 e1) kw_L_begin ks_L_begin lk_L_105 ⟨rfl, rfl⟩ ⟨Nat.le_of_ble_eq_true rfl, Nat.le_of_ble_eq_true rfl⟩ ⟨hc, hs⟩ rfl (by rfl) (Nat.le_of_ble_eq_true rfl) hl.1 dL_law_182 (fun H locs w => ?_)
  refine lv_istore (lv' := [(5, .int k9), (4, .int (nI i)), (3, .ref (wA B 239)), (2, .ref (wA B 224)), (1, .ref (wA B 0)), (0, .ref b)]) hx hb dL_law_185 hl (by decide) rfl (fun ls hl => ?_)
  refine lv_aload_n hx hb dL_law_187 rfl (lv_at hl 3 rfl) ?_
  refine lawA C0 w X (i := i) (q := 1) (by omega) (lv_at hl 1 rfl) (lv_at hl 5 rfl) (by decide +kernel) (n4_add i 1) dL_law_188 dL_law_189 dL_law_191 dL_law_192 dL_law_193 ?_
  refine lawA C0 w X (i := i) (q := 2) (by omega) (lv_at hl 1 rfl) (lv_at hl 5 rfl) (by decide +kernel) (n4_add i 2) dL_law_194 dL_law_195 dL_law_197 dL_law_198 dL_law_199 ?_
  refine cV (As := [.int (xs (i + 1)), .int (xs (i + 2))]) (rest := []) (k := 224) (ci := 10) (T := TX12) (N := 22) C0 w (m_X12_begin l B _ σ1 (xs (i + 1)) (xs (i + 2)) (b9, σ2) e2) ky_X12_begin kv_X12_begin lk_L_110 rfl (by decide +kernel) ⟨Nat.le_of_ble_eq_true rfl, Nat.le_of_ble_eq_true rfl⟩ ⟨hc, hs⟩ rfl (by rfl) (Nat.le_of_ble_eq_true rfl) hl.1 dL_law_200 (fun H locs w => ?_)
  refine lv_istore (lv' := [(6, .int b9), (5, .int k9), (4, .int (nI i)), (3, .ref (wA B 239)), (2, .ref (wA B 224)), (1, .ref (wA B 0)), (0, .ref b)]) hx hb dL_law_203 hl (by decide) rfl (fun ls hl => ?_)
  refine lv_aload_n hx hb dL_law_205 rfl (lv_at hl 4 rfl) ?_
  refine cV (As := []) (rest := []) (k := 224) (ci := 10) (T := TX12) (N := 22) C0 w (m_X12_thrown l B _ σ2 _ rfl) ky_X12_thrown kv_X12_thrown lk_L_111 rfl (by decide +kernel) ⟨Nat.le_of_ble_eq_true rfl, Nat.le_of_ble_eq_true rfl⟩ ⟨hc, hs⟩ rfl (by rfl) (Nat.le_of_ble_eq_true rfl) hl.1 dL_law_206 (fun H locs w => ?_)
  refine lv_iload hx hb dL_law_209 (lv_at hl 1 rfl) ?_
  refine lv_icmp_eq (tgt := 216) hx hb dL_law_211 (by decide) (fun _ => ?_) (fun c1 => absurd e3 c1)
  refine lv_iload hx hb dL_law_216 (lv_at hl 1 rfl) ?_
  refine lv_if_ne (tgt := 233) hx hb dL_law_218 (by decide) (fun c1 => ?_) (fun c1 => ?_)
  · refine lv_goto (tgt := 1947) hx hb dL_law_233 (by decide) ?_
    exact kk σ2 H locs ls w hJ2 (lv_sub hl [2, 3, 4, 5, 6] rfl)
  · refine lv_aload_n hx hb dL_law_221 rfl (lv_at hl 3 rfl) ?_
    refine lv_iconst (v := 0) hx hb dL_law_222 (by decide) ?_
    refine aL C0 w (n := 1) (by decide +kernel) (inbE (by decide)) dL_law_223 ?_
    refine lv_iload hx hb dL_law_224 (lv_at hl 0 rfl) ?_
    refine lv_i2l hx hb dL_law_226 rfl ?_
    refine lc_eq (tgt := 233) C0 dL_law_227 dL_law_228 (by decide) (fun _ => ?_) (fun c2 => absurd (e4 c1) c2)
    refine lv_goto (tgt := 1947) hx hb dL_law_233 (by decide) ?_
    exact kk σ2 H locs ls w hJ2 (lv_sub hl [2, 3, 4, 5, 6] rfl)
set_option maxHeartbeats 4000000 in
set_option maxRecDepth 100000 in
theorem law_1 (hfl : l.stackTraces = false) (C0 : Cx p s m args meth c cL_law 8 RL) (w : Wx B σ s H locs) (X : LX b L xs B s) (hJ : JX σ) {i : Nat} (hi : i + 5 ≤ L) (hl : lv_has ls 8 (LB b B i)) (hcs : cells + 1 ≤ 601024 ∧ slots + 6 ≤ 7293034) (kk : ∀ σ' H locs ls, Wx B σ' s H locs → JX σ' → lv_has ls 8 (LB b B i) → W p l e room_1 s m args below meth c H locs (cells + 1) (slots + 6) Q (F0 m 1947 ls [])) : W p l e room_1 s m args below meth c H locs cells slots Q (F0 m 236 ls []) := by
  have hx := C0.1.1
  have hb := C0.1.2.1
  have hl : lv_has ls 8 [(4, .int (nI i)), (3, .ref (wA B 239)), (2, .ref (wA B 224)), (1, .ref (wA B 0)), (0, .ref b)] := hl
  obtain ⟨hc, hs⟩ := hcs
  obtain ⟨W9, H9, n9, hs9, sc9, hJ⟩ := hJ
  refine lv_aload_n hx hb dL_law_236 rfl (lv_at hl 3 rfl) ?_
  have hop : OpI (hlpI xIO xIA (f_X11_setCell (xs (i + 1)) (xs (i + 2)))) (f_X12_setCell (xs (i + 1)) (xs (i + 2))) σ := agr_I hJ (by decide +kernel) (ag_setCell hJ)
  obtain ⟨k9, σ1, b9, σ2, e1, e2, e3, e4, hJ2⟩ := hop
  refine lawA C0 w X (i := i) (q := 1) (by omega) (lv_at hl 0 rfl) (lv_at hl 4 rfl) (by decide +kernel) (n4_add i 1) dL_law_237 dL_law_238 dL_law_240 dL_law_241 dL_law_242 ?_
  refine lawA C0 w X (i := i) (q := 2) (by omega) (lv_at hl 0 rfl) (lv_at hl 4 rfl) (by decide +kernel) (n4_add i 2) dL_law_243 dL_law_244 dL_law_246 dL_law_247 dL_law_248 ?_
  refine lv_aload_n hx hb dL_law_249 rfl (lv_at hl 1 rfl) ?_
  refine cSL (As := [.ref (wA B 0), .int (xs (i + 1)), .int (xs (i + 2)), .ref (wA B 239)]) (rest := []) (hh := [(0, 10, 13, 18), (0, 10, 17, 13)]) C0 w (m_L_setCell l hfl B _ σ (xs (i + 1)) (xs (i + 2)) k9 σ1 e1) kw_L_setCell ks_L_setCell lk_L_114 ⟨rfl, rfl⟩ ⟨Nat.le_of_ble_eq_true rfl, Nat.le_of_ble_eq_true rfl⟩ ⟨hc, hs⟩ rfl (by rfl) (Nat.le_of_ble_eq_true rfl) hl.1 dL_law_250 (fun H locs w => ?_)
  refine lv_istore (lv' := [(5, .int k9), (4, .int (nI i)), (3, .ref (wA B 239)), (2, .ref (wA B 224)), (1, .ref (wA B 0)), (0, .ref b)]) hx hb dL_law_253 hl (by decide) rfl (fun ls hl => ?_)
  refine lv_aload_n hx hb dL_law_255 rfl (lv_at hl 3 rfl) ?_
  refine lawA C0 w X (i := i) (q := 1) (by omega) (lv_at hl 1 rfl) (lv_at hl 5 rfl) (by decide +kernel) (n4_add i 1) dL_law_256 dL_law_257 dL_law_259 dL_law_260 dL_law_261 ?_
  refine lawA C0 w X (i := i) (q := 2) (by omega) (lv_at hl 1 rfl) (lv_at hl 5 rfl) (by decide +kernel) (n4_add i 2) dL_law_262 dL_law_263 dL_law_265 dL_law_266 dL_law_267 ?_
  refine cV (As := [.int (xs (i + 1)), .int (xs (i + 2))]) (rest := []) (k := 224) (ci := 10) (T := TX12) (N := 22) C0 w (m_X12_setCell l B _ σ1 (xs (i + 1)) (xs (i + 2)) (b9, σ2) e2) ky_X12_setCell kv_X12_setCell lk_L_116 rfl (by decide +kernel) ⟨Nat.le_of_ble_eq_true rfl, Nat.le_of_ble_eq_true rfl⟩ ⟨hc, hs⟩ rfl (by rfl) (Nat.le_of_ble_eq_true rfl) hl.1 dL_law_268 (fun H locs w => ?_)
  refine lv_istore (lv' := [(6, .int b9), (5, .int k9), (4, .int (nI i)), (3, .ref (wA B 239)), (2, .ref (wA B 224)), (1, .ref (wA B 0)), (0, .ref b)]) hx hb dL_law_271 hl (by decide) rfl (fun ls hl => ?_)
  refine lv_aload_n hx hb dL_law_273 rfl (lv_at hl 4 rfl) ?_
  refine cV (As := []) (rest := []) (k := 224) (ci := 10) (T := TX12) (N := 22) C0 w (m_X12_thrown l B _ σ2 _ rfl) ky_X12_thrown kv_X12_thrown lk_L_111 rfl (by decide +kernel) ⟨Nat.le_of_ble_eq_true rfl, Nat.le_of_ble_eq_true rfl⟩ ⟨hc, hs⟩ rfl (by rfl) (Nat.le_of_ble_eq_true rfl) hl.1 dL_law_274 (fun H locs w => ?_)
  refine lv_iload hx hb dL_law_277 (lv_at hl 1 rfl) ?_
  refine lv_icmp_eq (tgt := 284) hx hb dL_law_279 (by decide) (fun _ => ?_) (fun c1 => absurd e3 c1)
  refine lv_iload hx hb dL_law_284 (lv_at hl 1 rfl) ?_
  refine lv_if_ne (tgt := 301) hx hb dL_law_286 (by decide) (fun c1 => ?_) (fun c1 => ?_)
  · refine lv_goto (tgt := 1947) hx hb dL_law_301 (by decide) ?_
    exact kk σ2 H locs ls w hJ2 (lv_sub hl [2, 3, 4, 5, 6] rfl)
  · refine lv_aload_n hx hb dL_law_289 rfl (lv_at hl 3 rfl) ?_
    refine lv_iconst (v := 0) hx hb dL_law_290 (by decide) ?_
    refine aL C0 w (n := 1) (by decide +kernel) (inbE (by decide)) dL_law_291 ?_
    refine lv_iload hx hb dL_law_292 (lv_at hl 0 rfl) ?_
    refine lv_i2l hx hb dL_law_294 rfl ?_
    refine lc_eq (tgt := 301) C0 dL_law_295 dL_law_296 (by decide) (fun _ => ?_) (fun c2 => absurd (e4 c1) c2)
    refine lv_goto (tgt := 1947) hx hb dL_law_301 (by decide) ?_
    exact kk σ2 H locs ls w hJ2 (lv_sub hl [2, 3, 4, 5, 6] rfl)
set_option maxHeartbeats 4000000 in
set_option maxRecDepth 100000 in
theorem law_2 (hfl : l.stackTraces = false) (C0 : Cx p s m args meth c cL_law 8 RL) (w : Wx B σ s H locs) (X : LX b L xs B s) (hJ : JX σ) {i : Nat} (hi : i + 5 ≤ L) (hl : lv_has ls 8 (LB b B i)) (hcs : cells + 1 ≤ 601024 ∧ slots + 6 ≤ 7293034) (kk : ∀ σ' H locs ls, Wx B σ' s H locs → JX σ' → lv_has ls 8 (LB b B i) → W p l e room_1 s m args below meth c H locs (cells + 1) (slots + 6) Q (F0 m 1947 ls [])) : W p l e room_1 s m args below meth c H locs cells slots Q (F0 m 304 ls []) := by
  have hx := C0.1.1
  have hb := C0.1.2.1
  have hl : lv_has ls 8 [(4, .int (nI i)), (3, .ref (wA B 239)), (2, .ref (wA B 224)), (1, .ref (wA B 0)), (0, .ref b)] := hl
  obtain ⟨hc, hs⟩ := hcs
  obtain ⟨W9, H9, n9, hs9, sc9, hJ⟩ := hJ
  refine lv_aload_n hx hb dL_law_304 rfl (lv_at hl 3 rfl) ?_
  have hop : OpI (hlpI xIO xIA (f_X11_setTrue (xs (i + 1)) (xs (i + 2)))) (f_X12_setTrue (xs (i + 1)) (xs (i + 2))) σ := agr_I hJ (by decide +kernel) (ag_setTrue hJ)
  obtain ⟨k9, σ1, b9, σ2, e1, e2, e3, e4, hJ2⟩ := hop
  refine lawA C0 w X (i := i) (q := 1) (by omega) (lv_at hl 0 rfl) (lv_at hl 4 rfl) (by decide +kernel) (n4_add i 1) dL_law_305 dL_law_306 dL_law_308 dL_law_309 dL_law_310 ?_
  refine lawA C0 w X (i := i) (q := 2) (by omega) (lv_at hl 0 rfl) (lv_at hl 4 rfl) (by decide +kernel) (n4_add i 2) dL_law_311 dL_law_312 dL_law_314 dL_law_315 dL_law_316 ?_
  refine lv_aload_n hx hb dL_law_317 rfl (lv_at hl 1 rfl) ?_
  refine cSL (As := [.ref (wA B 0), .int (xs (i + 1)), .int (xs (i + 2)), .ref (wA B 239)]) (rest := []) (hh := [(0, 10, 13, 18), (0, 10, 17, 13)]) C0 w (m_L_setTrue l hfl B _ σ (xs (i + 1)) (xs (i + 2)) k9 σ1 e1) kw_L_setTrue ks_L_setTrue lk_L_117 ⟨rfl, rfl⟩ ⟨Nat.le_of_ble_eq_true rfl, Nat.le_of_ble_eq_true rfl⟩ ⟨hc, hs⟩ rfl (by rfl) (Nat.le_of_ble_eq_true rfl) hl.1 dL_law_318 (fun H locs w => ?_)
  refine lv_istore (lv' := [(5, .int k9), (4, .int (nI i)), (3, .ref (wA B 239)), (2, .ref (wA B 224)), (1, .ref (wA B 0)), (0, .ref b)]) hx hb dL_law_321 hl (by decide) rfl (fun ls hl => ?_)
  refine lv_aload_n hx hb dL_law_323 rfl (lv_at hl 3 rfl) ?_
  refine lawA C0 w X (i := i) (q := 1) (by omega) (lv_at hl 1 rfl) (lv_at hl 5 rfl) (by decide +kernel) (n4_add i 1) dL_law_324 dL_law_325 dL_law_327 dL_law_328 dL_law_329 ?_
  refine lawA C0 w X (i := i) (q := 2) (by omega) (lv_at hl 1 rfl) (lv_at hl 5 rfl) (by decide +kernel) (n4_add i 2) dL_law_330 dL_law_331 dL_law_333 dL_law_334 dL_law_335 ?_
  refine cV (As := [.int (xs (i + 1)), .int (xs (i + 2))]) (rest := []) (k := 224) (ci := 10) (T := TX12) (N := 22) C0 w (m_X12_setTrue l B _ σ1 (xs (i + 1)) (xs (i + 2)) (b9, σ2) e2) ky_X12_setTrue kv_X12_setTrue lk_L_119 rfl (by decide +kernel) ⟨Nat.le_of_ble_eq_true rfl, Nat.le_of_ble_eq_true rfl⟩ ⟨hc, hs⟩ rfl (by rfl) (Nat.le_of_ble_eq_true rfl) hl.1 dL_law_336 (fun H locs w => ?_)
  refine lv_istore (lv' := [(6, .int b9), (5, .int k9), (4, .int (nI i)), (3, .ref (wA B 239)), (2, .ref (wA B 224)), (1, .ref (wA B 0)), (0, .ref b)]) hx hb dL_law_339 hl (by decide) rfl (fun ls hl => ?_)
  refine lv_aload_n hx hb dL_law_341 rfl (lv_at hl 4 rfl) ?_
  refine cV (As := []) (rest := []) (k := 224) (ci := 10) (T := TX12) (N := 22) C0 w (m_X12_thrown l B _ σ2 _ rfl) ky_X12_thrown kv_X12_thrown lk_L_111 rfl (by decide +kernel) ⟨Nat.le_of_ble_eq_true rfl, Nat.le_of_ble_eq_true rfl⟩ ⟨hc, hs⟩ rfl (by rfl) (Nat.le_of_ble_eq_true rfl) hl.1 dL_law_342 (fun H locs w => ?_)
  refine lv_iload hx hb dL_law_345 (lv_at hl 1 rfl) ?_
  refine lv_icmp_eq (tgt := 352) hx hb dL_law_347 (by decide) (fun _ => ?_) (fun c1 => absurd e3 c1)
  refine lv_iload hx hb dL_law_352 (lv_at hl 1 rfl) ?_
  refine lv_if_ne (tgt := 369) hx hb dL_law_354 (by decide) (fun c1 => ?_) (fun c1 => ?_)
  · refine lv_goto (tgt := 1947) hx hb dL_law_369 (by decide) ?_
    exact kk σ2 H locs ls w hJ2 (lv_sub hl [2, 3, 4, 5, 6] rfl)
  · refine lv_aload_n hx hb dL_law_357 rfl (lv_at hl 3 rfl) ?_
    refine lv_iconst (v := 0) hx hb dL_law_358 (by decide) ?_
    refine aL C0 w (n := 1) (by decide +kernel) (inbE (by decide)) dL_law_359 ?_
    refine lv_iload hx hb dL_law_360 (lv_at hl 0 rfl) ?_
    refine lv_i2l hx hb dL_law_362 rfl ?_
    refine lc_eq (tgt := 369) C0 dL_law_363 dL_law_364 (by decide) (fun _ => ?_) (fun c2 => absurd (e4 c1) c2)
    refine lv_goto (tgt := 1947) hx hb dL_law_369 (by decide) ?_
    exact kk σ2 H locs ls w hJ2 (lv_sub hl [2, 3, 4, 5, 6] rfl)
set_option maxHeartbeats 4000000 in
set_option maxRecDepth 100000 in
theorem law_3 (hfl : l.stackTraces = false) (C0 : Cx p s m args meth c cL_law 8 RL) (w : Wx B σ s H locs) (X : LX b L xs B s) (hJ : JX σ) {i : Nat} (hi : i + 5 ≤ L) (hl : lv_has ls 8 (LB b B i)) (hcs : cells + 1 ≤ 601024 ∧ slots + 6 ≤ 7293034) (kk : ∀ σ' H locs ls, Wx B σ' s H locs → JX σ' → lv_has ls 8 (LB b B i) → W p l e room_1 s m args below meth c H locs (cells + 1) (slots + 6) Q (F0 m 1947 ls [])) : W p l e room_1 s m args below meth c H locs cells slots Q (F0 m 372 ls []) := by
  have hx := C0.1.1
  have hb := C0.1.2.1
  have hl : lv_has ls 8 [(4, .int (nI i)), (3, .ref (wA B 239)), (2, .ref (wA B 224)), (1, .ref (wA B 0)), (0, .ref b)] := hl
  obtain ⟨hc, hs⟩ := hcs
  obtain ⟨W9, H9, n9, hs9, sc9, hJ⟩ := hJ
  refine lv_aload_n hx hb dL_law_372 rfl (lv_at hl 3 rfl) ?_
  have hop : OpI (hlpI xIA xIA (f_X11_slope (if (xs (i + 1)) = 0 then 0 else 1) (xs (i + 2)) (xs (i + 3)) (xs (i + 4)))) (f_X12_slope (if (xs (i + 1)) = 0 then 0 else 1) (xs (i + 2)) (xs (i + 3)) (xs (i + 4))) σ := agr1_I hJ (ag_slope hJ)
  obtain ⟨k9, σ1, b9, σ2, e1, e2, e3, e4, hJ2⟩ := hop
  refine lawA C0 w X (i := i) (q := 1) (by omega) (lv_at hl 0 rfl) (lv_at hl 4 rfl) (by decide +kernel) (n4_add i 1) dL_law_373 dL_law_374 dL_law_376 dL_law_377 dL_law_378 ?_
  refine lawB C0 (tgt := 386) (tgt2 := 387) dL_law_379 dL_law_382 dL_law_383 dL_law_386 (by decide) (by decide) rfl ?_
  refine lawA C0 w X (i := i) (q := 2) (by omega) (lv_at hl 0 rfl) (lv_at hl 4 rfl) (by decide +kernel) (n4_add i 2) dL_law_387 dL_law_388 dL_law_390 dL_law_391 dL_law_392 ?_
  refine lawA C0 w X (i := i) (q := 3) (by omega) (lv_at hl 0 rfl) (lv_at hl 4 rfl) (by decide +kernel) (n4_add i 3) dL_law_393 dL_law_394 dL_law_396 dL_law_397 dL_law_398 ?_
  refine lawA C0 w X (i := i) (q := 4) (by omega) (lv_at hl 0 rfl) (lv_at hl 4 rfl) (by decide +kernel) (n4_add i 4) dL_law_399 dL_law_400 dL_law_402 dL_law_403 dL_law_404 ?_
  refine lv_aload_n hx hb dL_law_405 rfl (lv_at hl 1 rfl) ?_
  refine cSL (As := [.ref (wA B 0), .int (if (xs (i + 1)) = 0 then 0 else 1), .int (xs (i + 2)), .int (xs (i + 3)), .int (xs (i + 4)), .ref (wA B 239)]) (rest := []) (hh := [(0, 14, 17, 13)]) C0 w (m_L_slope l hfl B _ σ (if (xs (i + 1)) = 0 then 0 else 1) (xs (i + 2)) (xs (i + 3)) (xs (i + 4)) k9 σ1 e1) kw_L_slope ks_L_slope lk_L_120 ⟨rfl, rfl⟩ ⟨Nat.le_of_ble_eq_true rfl, Nat.le_of_ble_eq_true rfl⟩ ⟨hc, hs⟩ rfl (by rfl) (Nat.le_of_ble_eq_true rfl) hl.1 dL_law_406 (fun H locs w => ?_)
  refine lv_istore (lv' := [(5, .int k9), (4, .int (nI i)), (3, .ref (wA B 239)), (2, .ref (wA B 224)), (1, .ref (wA B 0)), (0, .ref b)]) hx hb dL_law_409 hl (by decide) rfl (fun ls hl => ?_)
  refine lv_aload_n hx hb dL_law_411 rfl (lv_at hl 3 rfl) ?_
  refine lawA C0 w X (i := i) (q := 1) (by omega) (lv_at hl 1 rfl) (lv_at hl 5 rfl) (by decide +kernel) (n4_add i 1) dL_law_412 dL_law_413 dL_law_415 dL_law_416 dL_law_417 ?_
  refine lawB C0 (tgt := 425) (tgt2 := 426) dL_law_418 dL_law_421 dL_law_422 dL_law_425 (by decide) (by decide) rfl ?_
  refine lawA C0 w X (i := i) (q := 2) (by omega) (lv_at hl 1 rfl) (lv_at hl 5 rfl) (by decide +kernel) (n4_add i 2) dL_law_426 dL_law_427 dL_law_429 dL_law_430 dL_law_431 ?_
  refine lawA C0 w X (i := i) (q := 3) (by omega) (lv_at hl 1 rfl) (lv_at hl 5 rfl) (by decide +kernel) (n4_add i 3) dL_law_432 dL_law_433 dL_law_435 dL_law_436 dL_law_437 ?_
  refine lawA C0 w X (i := i) (q := 4) (by omega) (lv_at hl 1 rfl) (lv_at hl 5 rfl) (by decide +kernel) (n4_add i 4) dL_law_438 dL_law_439 dL_law_441 dL_law_442 dL_law_443 ?_
  refine cV (As := [.int (if (xs (i + 1)) = 0 then 0 else 1), .int (xs (i + 2)), .int (xs (i + 3)), .int (xs (i + 4))]) (rest := []) (k := 224) (ci := 10) (T := TX12) (N := 22) C0 w (m_X12_slope l B _ σ1 (if (xs (i + 1)) = 0 then 0 else 1) (xs (i + 2)) (xs (i + 3)) (xs (i + 4)) (b9, σ2) e2) ky_X12_slope kv_X12_slope lk_L_123 rfl (by decide +kernel) ⟨Nat.le_of_ble_eq_true rfl, Nat.le_of_ble_eq_true rfl⟩ ⟨hc, hs⟩ rfl (by rfl) (Nat.le_of_ble_eq_true rfl) hl.1 dL_law_444 (fun H locs w => ?_)
  refine lv_istore (lv' := [(6, .int b9), (5, .int k9), (4, .int (nI i)), (3, .ref (wA B 239)), (2, .ref (wA B 224)), (1, .ref (wA B 0)), (0, .ref b)]) hx hb dL_law_447 hl (by decide) rfl (fun ls hl => ?_)
  refine lv_aload_n hx hb dL_law_449 rfl (lv_at hl 4 rfl) ?_
  refine cV (As := []) (rest := []) (k := 224) (ci := 10) (T := TX12) (N := 22) C0 w (m_X12_thrown l B _ σ2 _ rfl) ky_X12_thrown kv_X12_thrown lk_L_111 rfl (by decide +kernel) ⟨Nat.le_of_ble_eq_true rfl, Nat.le_of_ble_eq_true rfl⟩ ⟨hc, hs⟩ rfl (by rfl) (Nat.le_of_ble_eq_true rfl) hl.1 dL_law_450 (fun H locs w => ?_)
  refine lv_iload hx hb dL_law_453 (lv_at hl 1 rfl) ?_
  refine lv_icmp_eq (tgt := 460) hx hb dL_law_455 (by decide) (fun _ => ?_) (fun c1 => absurd e3 c1)
  refine lv_iload hx hb dL_law_460 (lv_at hl 1 rfl) ?_
  refine lv_if_ne (tgt := 477) hx hb dL_law_462 (by decide) (fun c1 => ?_) (fun c1 => ?_)
  · refine lv_goto (tgt := 1947) hx hb dL_law_477 (by decide) ?_
    exact kk σ2 H locs ls w hJ2 (lv_sub hl [2, 3, 4, 5, 6] rfl)
  · refine lv_aload_n hx hb dL_law_465 rfl (lv_at hl 3 rfl) ?_
    refine lv_iconst (v := 0) hx hb dL_law_466 (by decide) ?_
    refine aL C0 w (n := 1) (by decide +kernel) (inbE (by decide)) dL_law_467 ?_
    refine lv_iload hx hb dL_law_468 (lv_at hl 0 rfl) ?_
    refine lv_i2l hx hb dL_law_470 rfl ?_
    refine lc_eq (tgt := 477) C0 dL_law_471 dL_law_472 (by decide) (fun _ => ?_) (fun c2 => absurd (e4 c1) c2)
    refine lv_goto (tgt := 1947) hx hb dL_law_477 (by decide) ?_
    exact kk σ2 H locs ls w hJ2 (lv_sub hl [2, 3, 4, 5, 6] rfl)
set_option maxHeartbeats 4000000 in
set_option maxRecDepth 100000 in
theorem law_4 (hfl : l.stackTraces = false) (C0 : Cx p s m args meth c cL_law 8 RL) (w : Wx B σ s H locs) (X : LX b L xs B s) (hJ : JX σ) {i : Nat} (hi : i + 5 ≤ L) (hl : lv_has ls 8 (LB b B i)) (hcs : cells + 1 ≤ 601024 ∧ slots + 6 ≤ 7293034) (kk : ∀ σ' H locs ls, Wx B σ' s H locs → JX σ' → lv_has ls 8 (LB b B i) → W p l e room_1 s m args below meth c H locs (cells + 1) (slots + 6) Q (F0 m 1947 ls [])) : W p l e room_1 s m args below meth c H locs cells slots Q (F0 m 480 ls []) := by
  have hx := C0.1.1
  have hb := C0.1.2.1
  have hl : lv_has ls 8 [(4, .int (nI i)), (3, .ref (wA B 239)), (2, .ref (wA B 224)), (1, .ref (wA B 0)), (0, .ref b)] := hl
  obtain ⟨hc, hs⟩ := hcs
  obtain ⟨W9, H9, n9, hs9, sc9, hJ⟩ := hJ
  refine lv_aload_n hx hb dL_law_480 rfl (lv_at hl 3 rfl) ?_
  have hop : OpI (hlpI xIA xIA (f_X11_setBounds (xs (i + 1)) (xs (i + 2)))) (f_X12_setBounds (xs (i + 1)) (xs (i + 2))) σ := agr1_I hJ (ag_setBounds hJ)
  obtain ⟨k9, σ1, b9, σ2, e1, e2, e3, e4, hJ2⟩ := hop
  refine lawA C0 w X (i := i) (q := 1) (by omega) (lv_at hl 0 rfl) (lv_at hl 4 rfl) (by decide +kernel) (n4_add i 1) dL_law_481 dL_law_482 dL_law_484 dL_law_485 dL_law_486 ?_
  refine lawA C0 w X (i := i) (q := 2) (by omega) (lv_at hl 0 rfl) (lv_at hl 4 rfl) (by decide +kernel) (n4_add i 2) dL_law_487 dL_law_488 dL_law_490 dL_law_491 dL_law_492 ?_
  refine lv_aload_n hx hb dL_law_493 rfl (lv_at hl 1 rfl) ?_
  refine cSL (As := [.ref (wA B 0), .int (xs (i + 1)), .int (xs (i + 2)), .ref (wA B 239)]) (rest := []) (hh := [(0, 10, 13, 13)]) C0 w (m_L_setBounds l hfl B _ σ (xs (i + 1)) (xs (i + 2)) k9 σ1 e1) kw_L_setBounds ks_L_setBounds lk_L_124 ⟨rfl, rfl⟩ ⟨Nat.le_of_ble_eq_true rfl, Nat.le_of_ble_eq_true rfl⟩ ⟨hc, hs⟩ rfl (by rfl) (Nat.le_of_ble_eq_true rfl) hl.1 dL_law_494 (fun H locs w => ?_)
  refine lv_istore (lv' := [(5, .int k9), (4, .int (nI i)), (3, .ref (wA B 239)), (2, .ref (wA B 224)), (1, .ref (wA B 0)), (0, .ref b)]) hx hb dL_law_497 hl (by decide) rfl (fun ls hl => ?_)
  refine lv_aload_n hx hb dL_law_499 rfl (lv_at hl 3 rfl) ?_
  refine lawA C0 w X (i := i) (q := 1) (by omega) (lv_at hl 1 rfl) (lv_at hl 5 rfl) (by decide +kernel) (n4_add i 1) dL_law_500 dL_law_501 dL_law_503 dL_law_504 dL_law_505 ?_
  refine lawA C0 w X (i := i) (q := 2) (by omega) (lv_at hl 1 rfl) (lv_at hl 5 rfl) (by decide +kernel) (n4_add i 2) dL_law_506 dL_law_507 dL_law_509 dL_law_510 dL_law_511 ?_
  refine cV (As := [.int (xs (i + 1)), .int (xs (i + 2))]) (rest := []) (k := 224) (ci := 10) (T := TX12) (N := 22) C0 w (m_X12_setBounds l B _ σ1 (xs (i + 1)) (xs (i + 2)) (b9, σ2) e2) ky_X12_setBounds kv_X12_setBounds lk_L_126 rfl (by decide +kernel) ⟨Nat.le_of_ble_eq_true rfl, Nat.le_of_ble_eq_true rfl⟩ ⟨hc, hs⟩ rfl (by rfl) (Nat.le_of_ble_eq_true rfl) hl.1 dL_law_512 (fun H locs w => ?_)
  refine lv_istore (lv' := [(6, .int b9), (5, .int k9), (4, .int (nI i)), (3, .ref (wA B 239)), (2, .ref (wA B 224)), (1, .ref (wA B 0)), (0, .ref b)]) hx hb dL_law_515 hl (by decide) rfl (fun ls hl => ?_)
  refine lv_aload_n hx hb dL_law_517 rfl (lv_at hl 4 rfl) ?_
  refine cV (As := []) (rest := []) (k := 224) (ci := 10) (T := TX12) (N := 22) C0 w (m_X12_thrown l B _ σ2 _ rfl) ky_X12_thrown kv_X12_thrown lk_L_111 rfl (by decide +kernel) ⟨Nat.le_of_ble_eq_true rfl, Nat.le_of_ble_eq_true rfl⟩ ⟨hc, hs⟩ rfl (by rfl) (Nat.le_of_ble_eq_true rfl) hl.1 dL_law_518 (fun H locs w => ?_)
  refine lv_iload hx hb dL_law_521 (lv_at hl 1 rfl) ?_
  refine lv_icmp_eq (tgt := 528) hx hb dL_law_523 (by decide) (fun _ => ?_) (fun c1 => absurd e3 c1)
  refine lv_iload hx hb dL_law_528 (lv_at hl 1 rfl) ?_
  refine lv_if_ne (tgt := 545) hx hb dL_law_530 (by decide) (fun c1 => ?_) (fun c1 => ?_)
  · refine lv_goto (tgt := 1947) hx hb dL_law_545 (by decide) ?_
    exact kk σ2 H locs ls w hJ2 (lv_sub hl [2, 3, 4, 5, 6] rfl)
  · refine lv_aload_n hx hb dL_law_533 rfl (lv_at hl 3 rfl) ?_
    refine lv_iconst (v := 0) hx hb dL_law_534 (by decide) ?_
    refine aL C0 w (n := 1) (by decide +kernel) (inbE (by decide)) dL_law_535 ?_
    refine lv_iload hx hb dL_law_536 (lv_at hl 0 rfl) ?_
    refine lv_i2l hx hb dL_law_538 rfl ?_
    refine lc_eq (tgt := 545) C0 dL_law_539 dL_law_540 (by decide) (fun _ => ?_) (fun c2 => absurd (e4 c1) c2)
    refine lv_goto (tgt := 1947) hx hb dL_law_545 (by decide) ?_
    exact kk σ2 H locs ls w hJ2 (lv_sub hl [2, 3, 4, 5, 6] rfl)
set_option maxHeartbeats 4000000 in
set_option maxRecDepth 100000 in
theorem law_5 (hfl : l.stackTraces = false) (C0 : Cx p s m args meth c cL_law 8 RL) (w : Wx B σ s H locs) (X : LX b L xs B s) (hJ : JX σ) {i : Nat} (hi : i + 5 ≤ L) (hl : lv_has ls 8 (LB b B i)) (hcs : cells + 1 ≤ 601024 ∧ slots + 6 ≤ 7293034) (kk : ∀ σ' H locs ls, Wx B σ' s H locs → JX σ' → lv_has ls 8 (LB b B i) → W p l e room_1 s m args below meth c H locs (cells + 1) (slots + 6) Q (F0 m 1947 ls [])) : W p l e room_1 s m args below meth c H locs cells slots Q (F0 m 548 ls []) := by
  have hx := C0.1.1
  have hb := C0.1.2.1
  have hl : lv_has ls 8 [(4, .int (nI i)), (3, .ref (wA B 239)), (2, .ref (wA B 224)), (1, .ref (wA B 0)), (0, .ref b)] := hl
  obtain ⟨hc, hs⟩ := hcs
  obtain ⟨W9, H9, n9, hs9, sc9, hJ⟩ := hJ
  refine lv_aload_n hx hb dL_law_548 rfl (lv_at hl 3 rfl) ?_
  have hop : OpI (hlpI xIO xIS (f_X11_addRay (xs (i + 1)) (xs (i + 2)))) (f_X12_addRay (xs (i + 1)) (xs (i + 2))) σ := agr_I hJ (by decide +kernel) (ag_addRay hJ)
  obtain ⟨k9, σ1, b9, σ2, e1, e2, e3, e4, hJ2⟩ := hop
  refine lawA C0 w X (i := i) (q := 1) (by omega) (lv_at hl 0 rfl) (lv_at hl 4 rfl) (by decide +kernel) (n4_add i 1) dL_law_549 dL_law_550 dL_law_552 dL_law_553 dL_law_554 ?_
  refine lawA C0 w X (i := i) (q := 2) (by omega) (lv_at hl 0 rfl) (lv_at hl 4 rfl) (by decide +kernel) (n4_add i 2) dL_law_555 dL_law_556 dL_law_558 dL_law_559 dL_law_560 ?_
  refine lv_aload_n hx hb dL_law_561 rfl (lv_at hl 1 rfl) ?_
  refine cSL (As := [.ref (wA B 0), .int (xs (i + 1)), .int (xs (i + 2)), .ref (wA B 239)]) (rest := []) (hh := [(0, 10, 13, 18), (0, 10, 17, 33)]) C0 w (m_L_addRay l hfl B _ σ (xs (i + 1)) (xs (i + 2)) k9 σ1 e1) kw_L_addRay ks_L_addRay lk_L_127 ⟨rfl, rfl⟩ ⟨Nat.le_of_ble_eq_true rfl, Nat.le_of_ble_eq_true rfl⟩ ⟨hc, hs⟩ rfl (by rfl) (Nat.le_of_ble_eq_true rfl) hl.1 dL_law_562 (fun H locs w => ?_)
  refine lv_istore (lv' := [(5, .int k9), (4, .int (nI i)), (3, .ref (wA B 239)), (2, .ref (wA B 224)), (1, .ref (wA B 0)), (0, .ref b)]) hx hb dL_law_565 hl (by decide) rfl (fun ls hl => ?_)
  refine lv_aload_n hx hb dL_law_567 rfl (lv_at hl 3 rfl) ?_
  refine lawA C0 w X (i := i) (q := 1) (by omega) (lv_at hl 1 rfl) (lv_at hl 5 rfl) (by decide +kernel) (n4_add i 1) dL_law_568 dL_law_569 dL_law_571 dL_law_572 dL_law_573 ?_
  refine lawA C0 w X (i := i) (q := 2) (by omega) (lv_at hl 1 rfl) (lv_at hl 5 rfl) (by decide +kernel) (n4_add i 2) dL_law_574 dL_law_575 dL_law_577 dL_law_578 dL_law_579 ?_
  refine cV (As := [.int (xs (i + 1)), .int (xs (i + 2))]) (rest := []) (k := 224) (ci := 10) (T := TX12) (N := 22) C0 w (m_X12_addRay l B _ σ1 (xs (i + 1)) (xs (i + 2)) (b9, σ2) e2) ky_X12_addRay kv_X12_addRay lk_L_129 rfl (by decide +kernel) ⟨Nat.le_of_ble_eq_true rfl, Nat.le_of_ble_eq_true rfl⟩ ⟨hc, hs⟩ rfl (by rfl) (Nat.le_of_ble_eq_true rfl) hl.1 dL_law_580 (fun H locs w => ?_)
  refine lv_istore (lv' := [(6, .int b9), (5, .int k9), (4, .int (nI i)), (3, .ref (wA B 239)), (2, .ref (wA B 224)), (1, .ref (wA B 0)), (0, .ref b)]) hx hb dL_law_583 hl (by decide) rfl (fun ls hl => ?_)
  refine lv_aload_n hx hb dL_law_585 rfl (lv_at hl 4 rfl) ?_
  refine cV (As := []) (rest := []) (k := 224) (ci := 10) (T := TX12) (N := 22) C0 w (m_X12_thrown l B _ σ2 _ rfl) ky_X12_thrown kv_X12_thrown lk_L_111 rfl (by decide +kernel) ⟨Nat.le_of_ble_eq_true rfl, Nat.le_of_ble_eq_true rfl⟩ ⟨hc, hs⟩ rfl (by rfl) (Nat.le_of_ble_eq_true rfl) hl.1 dL_law_586 (fun H locs w => ?_)
  refine lv_iload hx hb dL_law_589 (lv_at hl 1 rfl) ?_
  refine lv_icmp_eq (tgt := 596) hx hb dL_law_591 (by decide) (fun _ => ?_) (fun c1 => absurd e3 c1)
  refine lv_iload hx hb dL_law_596 (lv_at hl 1 rfl) ?_
  refine lv_if_ne (tgt := 613) hx hb dL_law_598 (by decide) (fun c1 => ?_) (fun c1 => ?_)
  · refine lv_goto (tgt := 1947) hx hb dL_law_613 (by decide) ?_
    exact kk σ2 H locs ls w hJ2 (lv_sub hl [2, 3, 4, 5, 6] rfl)
  · refine lv_aload_n hx hb dL_law_601 rfl (lv_at hl 3 rfl) ?_
    refine lv_iconst (v := 0) hx hb dL_law_602 (by decide) ?_
    refine aL C0 w (n := 1) (by decide +kernel) (inbE (by decide)) dL_law_603 ?_
    refine lv_iload hx hb dL_law_604 (lv_at hl 0 rfl) ?_
    refine lv_i2l hx hb dL_law_606 rfl ?_
    refine lc_eq (tgt := 613) C0 dL_law_607 dL_law_608 (by decide) (fun _ => ?_) (fun c2 => absurd (e4 c1) c2)
    refine lv_goto (tgt := 1947) hx hb dL_law_613 (by decide) ?_
    exact kk σ2 H locs ls w hJ2 (lv_sub hl [2, 3, 4, 5, 6] rfl)
set_option maxHeartbeats 4000000 in
set_option maxRecDepth 100000 in
theorem law_6 (hfl : l.stackTraces = false) (C0 : Cx p s m args meth c cL_law 8 RL) (w : Wx B σ s H locs) (X : LX b L xs B s) (hJ : JX σ) {i : Nat} (hi : i + 5 ≤ L) (hl : lv_has ls 8 (LB b B i)) (hcs : cells + 1 ≤ 601024 ∧ slots + 6 ≤ 7293034) (kk : ∀ σ' H locs ls, Wx B σ' s H locs → JX σ' → lv_has ls 8 (LB b B i) → W p l e room_1 s m args below meth c H locs (cells + 1) (slots + 6) Q (F0 m 1947 ls [])) : W p l e room_1 s m args below meth c H locs cells slots Q (F0 m 616 ls []) := by
  have hx := C0.1.1
  have hb := C0.1.2.1
  have hl : lv_has ls 8 [(4, .int (nI i)), (3, .ref (wA B 239)), (2, .ref (wA B 224)), (1, .ref (wA B 0)), (0, .ref b)] := hl
  obtain ⟨hc, hs⟩ := hcs
  obtain ⟨W9, H9, n9, hs9, sc9, hJ⟩ := hJ
  refine lv_aload_n hx hb dL_law_616 rfl (lv_at hl 3 rfl) ?_
  have hop : OpI (hlpI xIO xIO (f_X11_setUsed (xs (i + 1)) (if (xs (i + 2)) = 0 then 0 else 1))) (f_X12_setUsed (xs (i + 1)) (if (xs (i + 2)) = 0 then 0 else 1)) σ := agr1_I hJ (ag_setUsed hJ ite01)
  obtain ⟨k9, σ1, b9, σ2, e1, e2, e3, e4, hJ2⟩ := hop
  refine lawA C0 w X (i := i) (q := 1) (by omega) (lv_at hl 0 rfl) (lv_at hl 4 rfl) (by decide +kernel) (n4_add i 1) dL_law_617 dL_law_618 dL_law_620 dL_law_621 dL_law_622 ?_
  refine lawA C0 w X (i := i) (q := 2) (by omega) (lv_at hl 0 rfl) (lv_at hl 4 rfl) (by decide +kernel) (n4_add i 2) dL_law_623 dL_law_624 dL_law_626 dL_law_627 dL_law_628 ?_
  refine lawB C0 (tgt := 636) (tgt2 := 637) dL_law_629 dL_law_632 dL_law_633 dL_law_636 (by decide) (by decide) rfl ?_
  refine lv_aload_n hx hb dL_law_637 rfl (lv_at hl 1 rfl) ?_
  refine cSL (As := [.ref (wA B 0), .int (xs (i + 1)), .int (if (xs (i + 2)) = 0 then 0 else 1), .ref (wA B 239)]) (rest := []) (hh := [(0, 10, 13, 18)]) C0 w (m_L_setUsed l hfl B _ σ (xs (i + 1)) (if (xs (i + 2)) = 0 then 0 else 1) k9 σ1 e1) kw_L_setUsed ks_L_setUsed lk_L_130 ⟨rfl, rfl⟩ ⟨Nat.le_of_ble_eq_true rfl, Nat.le_of_ble_eq_true rfl⟩ ⟨hc, hs⟩ rfl (by rfl) (Nat.le_of_ble_eq_true rfl) hl.1 dL_law_638 (fun H locs w => ?_)
  refine lv_istore (lv' := [(5, .int k9), (4, .int (nI i)), (3, .ref (wA B 239)), (2, .ref (wA B 224)), (1, .ref (wA B 0)), (0, .ref b)]) hx hb dL_law_641 hl (by decide) rfl (fun ls hl => ?_)
  refine lv_aload_n hx hb dL_law_643 rfl (lv_at hl 3 rfl) ?_
  refine lawA C0 w X (i := i) (q := 1) (by omega) (lv_at hl 1 rfl) (lv_at hl 5 rfl) (by decide +kernel) (n4_add i 1) dL_law_644 dL_law_645 dL_law_647 dL_law_648 dL_law_649 ?_
  refine lawA C0 w X (i := i) (q := 2) (by omega) (lv_at hl 1 rfl) (lv_at hl 5 rfl) (by decide +kernel) (n4_add i 2) dL_law_650 dL_law_651 dL_law_653 dL_law_654 dL_law_655 ?_
  refine lawB C0 (tgt := 663) (tgt2 := 664) dL_law_656 dL_law_659 dL_law_660 dL_law_663 (by decide) (by decide) rfl ?_
  refine cV (As := [.int (xs (i + 1)), .int (if (xs (i + 2)) = 0 then 0 else 1)]) (rest := []) (k := 224) (ci := 10) (T := TX12) (N := 22) C0 w (m_X12_setUsed l B _ σ1 (xs (i + 1)) (if (xs (i + 2)) = 0 then 0 else 1) (b9, σ2) e2) ky_X12_setUsed kv_X12_setUsed lk_L_133 rfl (by decide +kernel) ⟨Nat.le_of_ble_eq_true rfl, Nat.le_of_ble_eq_true rfl⟩ ⟨hc, hs⟩ rfl (by rfl) (Nat.le_of_ble_eq_true rfl) hl.1 dL_law_664 (fun H locs w => ?_)
  refine lv_istore (lv' := [(6, .int b9), (5, .int k9), (4, .int (nI i)), (3, .ref (wA B 239)), (2, .ref (wA B 224)), (1, .ref (wA B 0)), (0, .ref b)]) hx hb dL_law_667 hl (by decide) rfl (fun ls hl => ?_)
  refine lv_aload_n hx hb dL_law_669 rfl (lv_at hl 4 rfl) ?_
  refine cV (As := []) (rest := []) (k := 224) (ci := 10) (T := TX12) (N := 22) C0 w (m_X12_thrown l B _ σ2 _ rfl) ky_X12_thrown kv_X12_thrown lk_L_111 rfl (by decide +kernel) ⟨Nat.le_of_ble_eq_true rfl, Nat.le_of_ble_eq_true rfl⟩ ⟨hc, hs⟩ rfl (by rfl) (Nat.le_of_ble_eq_true rfl) hl.1 dL_law_670 (fun H locs w => ?_)
  refine lv_iload hx hb dL_law_673 (lv_at hl 1 rfl) ?_
  refine lv_icmp_eq (tgt := 680) hx hb dL_law_675 (by decide) (fun _ => ?_) (fun c1 => absurd e3 c1)
  refine lv_iload hx hb dL_law_680 (lv_at hl 1 rfl) ?_
  refine lv_if_ne (tgt := 697) hx hb dL_law_682 (by decide) (fun c1 => ?_) (fun c1 => ?_)
  · refine lv_goto (tgt := 1947) hx hb dL_law_697 (by decide) ?_
    exact kk σ2 H locs ls w hJ2 (lv_sub hl [2, 3, 4, 5, 6] rfl)
  · refine lv_aload_n hx hb dL_law_685 rfl (lv_at hl 3 rfl) ?_
    refine lv_iconst (v := 0) hx hb dL_law_686 (by decide) ?_
    refine aL C0 w (n := 1) (by decide +kernel) (inbE (by decide)) dL_law_687 ?_
    refine lv_iload hx hb dL_law_688 (lv_at hl 0 rfl) ?_
    refine lv_i2l hx hb dL_law_690 rfl ?_
    refine lc_eq (tgt := 697) C0 dL_law_691 dL_law_692 (by decide) (fun _ => ?_) (fun c2 => absurd (e4 c1) c2)
    refine lv_goto (tgt := 1947) hx hb dL_law_697 (by decide) ?_
    exact kk σ2 H locs ls w hJ2 (lv_sub hl [2, 3, 4, 5, 6] rfl)
set_option maxHeartbeats 4000000 in
set_option maxRecDepth 100000 in
theorem law_7 (hfl : l.stackTraces = false) (C0 : Cx p s m args meth c cL_law 8 RL) (w : Wx B σ s H locs) (X : LX b L xs B s) (hJ : JX σ) {i : Nat} (hi : i + 5 ≤ L) (hl : lv_has ls 8 (LB b B i)) (hcs : cells + 1 ≤ 601024 ∧ slots + 6 ≤ 7293034) (kk : ∀ σ' H locs ls, Wx B σ' s H locs → JX σ' → lv_has ls 8 (LB b B i) → W p l e room_1 s m args below meth c H locs (cells + 1) (slots + 6) Q (F0 m 1947 ls [])) : W p l e room_1 s m args below meth c H locs cells slots Q (F0 m 700 ls []) := by
  have hx := C0.1.1
  have hb := C0.1.2.1
  have hl : lv_has ls 8 [(4, .int (nI i)), (3, .ref (wA B 239)), (2, .ref (wA B 224)), (1, .ref (wA B 0)), (0, .ref b)] := hl
  obtain ⟨hc, hs⟩ := hcs
  obtain ⟨W9, H9, n9, hs9, sc9, hJ⟩ := hJ
  refine lv_aload_n hx hb dL_law_700 rfl (lv_at hl 3 rfl) ?_
  have hop : OpL (hlpL xIO xIA (f_X11_setTime (xs (i + 1)) ((hiW (xs (i + 2))) ||| (Int32.toInt64 (xs (i + 3)) &&& 4294967295)))) (f_X12_setTime (xs (i + 1)) ((hiW (xs (i + 2))) ||| (Int32.toInt64 (xs (i + 3)) &&& 4294967295))) σ := agr_L hJ (by decide +kernel) (ag_setTime hJ)
  obtain ⟨k9, σ1, b9, σ2, e1, e2, e3, e4, hJ2⟩ := hop
  refine lawA C0 w X (i := i) (q := 1) (by omega) (lv_at hl 0 rfl) (lv_at hl 4 rfl) (by decide +kernel) (n4_add i 1) dL_law_701 dL_law_702 dL_law_704 dL_law_705 dL_law_706 ?_
  refine lawA C0 w X (i := i) (q := 2) (by omega) (lv_at hl 0 rfl) (lv_at hl 4 rfl) (by decide +kernel) (n4_add i 2) dL_law_707 dL_law_708 dL_law_710 dL_law_711 dL_law_712 ?_
  refine lv_i2l hx hb dL_law_713 rfl ?_
  refine lv_bipush (v := 32) hx hb dL_law_714 (by decide) ?_
  refine lv_lshl (v := hiW (xs (i + 2))) hx hb dL_law_716 rfl ?_
  refine lawA C0 w X (i := i) (q := 3) (by omega) (lv_at hl 0 rfl) (lv_at hl 4 rfl) (by decide +kernel) (n4_add i 3) dL_law_717 dL_law_718 dL_law_720 dL_law_721 dL_law_722 ?_
  refine lv_i2l hx hb dL_law_723 rfl ?_
  refine kLg C0 4294967295 kc_L_134 dL_law_724 ?_
  refine lv_land hx hb dL_law_727 ?_
  refine lv_lor hx hb dL_law_728 ?_
  refine lv_aload_n hx hb dL_law_729 rfl (lv_at hl 1 rfl) ?_
  refine cSL (As := [.ref (wA B 0), .int (xs (i + 1)), .long ((hiW (xs (i + 2))) ||| (Int32.toInt64 (xs (i + 3)) &&& 4294967295)), .ref (wA B 239)]) (rest := []) (hh := [(0, 10, 13, 18), (0, 10, 17, 13)]) C0 w (m_L_setTime l hfl B _ σ (xs (i + 1)) ((hiW (xs (i + 2))) ||| (Int32.toInt64 (xs (i + 3)) &&& 4294967295)) k9 σ1 e1) kw_L_setTime ks_L_setTime lk_L_136 ⟨rfl, rfl⟩ ⟨Nat.le_of_ble_eq_true rfl, Nat.le_of_ble_eq_true rfl⟩ ⟨hc, hs⟩ rfl (by rfl) (Nat.le_of_ble_eq_true rfl) hl.1 dL_law_730 (fun H locs w => ?_)
  refine lv_istore (lv' := [(5, .int k9), (4, .int (nI i)), (3, .ref (wA B 239)), (2, .ref (wA B 224)), (1, .ref (wA B 0)), (0, .ref b)]) hx hb dL_law_733 hl (by decide) rfl (fun ls hl => ?_)
  refine lv_aload_n hx hb dL_law_735 rfl (lv_at hl 3 rfl) ?_
  refine lawA C0 w X (i := i) (q := 1) (by omega) (lv_at hl 1 rfl) (lv_at hl 5 rfl) (by decide +kernel) (n4_add i 1) dL_law_736 dL_law_737 dL_law_739 dL_law_740 dL_law_741 ?_
  refine lawA C0 w X (i := i) (q := 2) (by omega) (lv_at hl 1 rfl) (lv_at hl 5 rfl) (by decide +kernel) (n4_add i 2) dL_law_742 dL_law_743 dL_law_745 dL_law_746 dL_law_747 ?_
  refine lv_i2l hx hb dL_law_748 rfl ?_
  refine lv_bipush (v := 32) hx hb dL_law_749 (by decide) ?_
  refine lv_lshl (v := hiW (xs (i + 2))) hx hb dL_law_751 rfl ?_
  refine lawA C0 w X (i := i) (q := 3) (by omega) (lv_at hl 1 rfl) (lv_at hl 5 rfl) (by decide +kernel) (n4_add i 3) dL_law_752 dL_law_753 dL_law_755 dL_law_756 dL_law_757 ?_
  refine lv_i2l hx hb dL_law_758 rfl ?_
  refine kLg C0 4294967295 kc_L_134 dL_law_759 ?_
  refine lv_land hx hb dL_law_762 ?_
  refine lv_lor hx hb dL_law_763 ?_
  refine cV (As := [.int (xs (i + 1)), .long ((hiW (xs (i + 2))) ||| (Int32.toInt64 (xs (i + 3)) &&& 4294967295))]) (rest := []) (k := 224) (ci := 10) (T := TX12) (N := 22) C0 w (m_X12_setTime l B _ σ1 (xs (i + 1)) ((hiW (xs (i + 2))) ||| (Int32.toInt64 (xs (i + 3)) &&& 4294967295)) (b9, σ2) e2) ky_X12_setTime kv_X12_setTime lk_L_139 rfl (by decide +kernel) ⟨Nat.le_of_ble_eq_true rfl, Nat.le_of_ble_eq_true rfl⟩ ⟨hc, hs⟩ rfl (by rfl) (Nat.le_of_ble_eq_true rfl) hl.1 dL_law_764 (fun H locs w => ?_)
  refine lv_lstore (lv' := [(6, .long b9), (5, .int k9), (4, .int (nI i)), (3, .ref (wA B 239)), (2, .ref (wA B 224)), (1, .ref (wA B 0)), (0, .ref b)]) hx hb dL_law_767 hl (by decide) rfl (fun ls hl => ?_)
  refine lv_aload_n hx hb dL_law_769 rfl (lv_at hl 4 rfl) ?_
  refine cV (As := []) (rest := []) (k := 224) (ci := 10) (T := TX12) (N := 22) C0 w (m_X12_thrown l B _ σ2 _ rfl) ky_X12_thrown kv_X12_thrown lk_L_111 rfl (by decide +kernel) ⟨Nat.le_of_ble_eq_true rfl, Nat.le_of_ble_eq_true rfl⟩ ⟨hc, hs⟩ rfl (by rfl) (Nat.le_of_ble_eq_true rfl) hl.1 dL_law_770 (fun H locs w => ?_)
  refine lv_iload hx hb dL_law_773 (lv_at hl 1 rfl) ?_
  refine lv_icmp_eq (tgt := 780) hx hb dL_law_775 (by decide) (fun _ => ?_) (fun c1 => absurd e3 c1)
  refine lv_iload hx hb dL_law_780 (lv_at hl 1 rfl) ?_
  refine lv_if_ne (tgt := 796) hx hb dL_law_782 (by decide) (fun c1 => ?_) (fun c1 => ?_)
  · refine lv_goto (tgt := 1947) hx hb dL_law_796 (by decide) ?_
    exact kk σ2 H locs ls w hJ2 (lv_sub hl [2, 3, 4, 5, 6] rfl)
  · refine lv_aload_n hx hb dL_law_785 rfl (lv_at hl 3 rfl) ?_
    refine lv_iconst (v := 0) hx hb dL_law_786 (by decide) ?_
    refine aL C0 w (n := 1) (by decide +kernel) (inbE (by decide)) dL_law_787 ?_
    refine lv_lload hx hb dL_law_788 (lv_at hl 0 rfl) ?_
    refine lc_eq (tgt := 796) C0 dL_law_790 dL_law_791 (by decide) (fun _ => ?_) (fun c2 => absurd (e4 c1) c2)
    refine lv_goto (tgt := 1947) hx hb dL_law_796 (by decide) ?_
    exact kk σ2 H locs ls w hJ2 (lv_sub hl [2, 3, 4, 5, 6] rfl)
set_option maxHeartbeats 4000000 in
set_option maxRecDepth 100000 in
theorem law_8 (hfl : l.stackTraces = false) (C0 : Cx p s m args meth c cL_law 8 RL) (w : Wx B σ s H locs) (X : LX b L xs B s) (hJ : JX σ) {i : Nat} (hi : i + 5 ≤ L) (hl : lv_has ls 8 (LB b B i)) (hcs : cells + 1 ≤ 601024 ∧ slots + 6 ≤ 7293034) (kk : ∀ σ' H locs ls, Wx B σ' s H locs → JX σ' → lv_has ls 8 (LB b B i) → W p l e room_1 s m args below meth c H locs (cells + 1) (slots + 6) Q (F0 m 1947 ls [])) : W p l e room_1 s m args below meth c H locs cells slots Q (F0 m 799 ls []) := by
  have hx := C0.1.1
  have hb := C0.1.2.1
  have hl : lv_has ls 8 [(4, .int (nI i)), (3, .ref (wA B 239)), (2, .ref (wA B 224)), (1, .ref (wA B 0)), (0, .ref b)] := hl
  obtain ⟨hc, hs⟩ := hcs
  obtain ⟨W9, H9, n9, hs9, sc9, hJ⟩ := hJ
  refine lv_aload_n hx hb dL_law_799 rfl (lv_at hl 3 rfl) ?_
  have hop : OpI (hlpI xIA xIA (f_X11_observe (xs (i + 1)) (xs (i + 2)))) (f_X12_observe (xs (i + 1)) (xs (i + 2))) σ := agr1_I hJ (ag_observe hJ)
  obtain ⟨k9, σ1, b9, σ2, e1, e2, e3, e4, hJ2⟩ := hop
  refine lawA C0 w X (i := i) (q := 1) (by omega) (lv_at hl 0 rfl) (lv_at hl 4 rfl) (by decide +kernel) (n4_add i 1) dL_law_800 dL_law_801 dL_law_803 dL_law_804 dL_law_805 ?_
  refine lawA C0 w X (i := i) (q := 2) (by omega) (lv_at hl 0 rfl) (lv_at hl 4 rfl) (by decide +kernel) (n4_add i 2) dL_law_806 dL_law_807 dL_law_809 dL_law_810 dL_law_811 ?_
  refine lv_aload_n hx hb dL_law_812 rfl (lv_at hl 1 rfl) ?_
  refine cSL (As := [.ref (wA B 0), .int (xs (i + 1)), .int (xs (i + 2)), .ref (wA B 239)]) (rest := []) (hh := [(0, 10, 13, 13)]) C0 w (m_L_observe l hfl B _ σ (xs (i + 1)) (xs (i + 2)) k9 σ1 e1) kw_L_observe ks_L_observe lk_L_140 ⟨rfl, rfl⟩ ⟨Nat.le_of_ble_eq_true rfl, Nat.le_of_ble_eq_true rfl⟩ ⟨hc, hs⟩ rfl (by rfl) (Nat.le_of_ble_eq_true rfl) hl.1 dL_law_813 (fun H locs w => ?_)
  refine lv_istore (lv' := [(5, .int k9), (4, .int (nI i)), (3, .ref (wA B 239)), (2, .ref (wA B 224)), (1, .ref (wA B 0)), (0, .ref b)]) hx hb dL_law_816 hl (by decide) rfl (fun ls hl => ?_)
  refine lv_aload_n hx hb dL_law_818 rfl (lv_at hl 3 rfl) ?_
  refine lawA C0 w X (i := i) (q := 1) (by omega) (lv_at hl 1 rfl) (lv_at hl 5 rfl) (by decide +kernel) (n4_add i 1) dL_law_819 dL_law_820 dL_law_822 dL_law_823 dL_law_824 ?_
  refine lawA C0 w X (i := i) (q := 2) (by omega) (lv_at hl 1 rfl) (lv_at hl 5 rfl) (by decide +kernel) (n4_add i 2) dL_law_825 dL_law_826 dL_law_828 dL_law_829 dL_law_830 ?_
  refine cV (As := [.int (xs (i + 1)), .int (xs (i + 2))]) (rest := []) (k := 224) (ci := 10) (T := TX12) (N := 22) C0 w (m_X12_observe l B _ σ1 (xs (i + 1)) (xs (i + 2)) (b9, σ2) e2) ky_X12_observe kv_X12_observe lk_L_142 rfl (by decide +kernel) ⟨Nat.le_of_ble_eq_true rfl, Nat.le_of_ble_eq_true rfl⟩ ⟨hc, hs⟩ rfl (by rfl) (Nat.le_of_ble_eq_true rfl) hl.1 dL_law_831 (fun H locs w => ?_)
  refine lv_istore (lv' := [(6, .int b9), (5, .int k9), (4, .int (nI i)), (3, .ref (wA B 239)), (2, .ref (wA B 224)), (1, .ref (wA B 0)), (0, .ref b)]) hx hb dL_law_834 hl (by decide) rfl (fun ls hl => ?_)
  refine lv_aload_n hx hb dL_law_836 rfl (lv_at hl 4 rfl) ?_
  refine cV (As := []) (rest := []) (k := 224) (ci := 10) (T := TX12) (N := 22) C0 w (m_X12_thrown l B _ σ2 _ rfl) ky_X12_thrown kv_X12_thrown lk_L_111 rfl (by decide +kernel) ⟨Nat.le_of_ble_eq_true rfl, Nat.le_of_ble_eq_true rfl⟩ ⟨hc, hs⟩ rfl (by rfl) (Nat.le_of_ble_eq_true rfl) hl.1 dL_law_837 (fun H locs w => ?_)
  refine lv_iload hx hb dL_law_840 (lv_at hl 1 rfl) ?_
  refine lv_icmp_eq (tgt := 847) hx hb dL_law_842 (by decide) (fun _ => ?_) (fun c1 => absurd e3 c1)
  refine lv_iload hx hb dL_law_847 (lv_at hl 1 rfl) ?_
  refine lv_if_ne (tgt := 864) hx hb dL_law_849 (by decide) (fun c1 => ?_) (fun c1 => ?_)
  · refine lv_goto (tgt := 1947) hx hb dL_law_864 (by decide) ?_
    exact kk σ2 H locs ls w hJ2 (lv_sub hl [2, 3, 4, 5, 6] rfl)
  · refine lv_aload_n hx hb dL_law_852 rfl (lv_at hl 3 rfl) ?_
    refine lv_iconst (v := 0) hx hb dL_law_853 (by decide) ?_
    refine aL C0 w (n := 1) (by decide +kernel) (inbE (by decide)) dL_law_854 ?_
    refine lv_iload hx hb dL_law_855 (lv_at hl 0 rfl) ?_
    refine lv_i2l hx hb dL_law_857 rfl ?_
    refine lc_eq (tgt := 864) C0 dL_law_858 dL_law_859 (by decide) (fun _ => ?_) (fun c2 => absurd (e4 c1) c2)
    refine lv_goto (tgt := 1947) hx hb dL_law_864 (by decide) ?_
    exact kk σ2 H locs ls w hJ2 (lv_sub hl [2, 3, 4, 5, 6] rfl)
set_option maxHeartbeats 4000000 in
set_option maxRecDepth 100000 in
theorem law_9 (hfl : l.stackTraces = false) (C0 : Cx p s m args meth c cL_law 8 RL) (w : Wx B σ s H locs) (X : LX b L xs B s) (hJ : JX σ) {i : Nat} (hi : i + 5 ≤ L) (hl : lv_has ls 8 (LB b B i)) (hcs : cells + 1 ≤ 601024 ∧ slots + 6 ≤ 7293034) (kk : ∀ σ' H locs ls, Wx B σ' s H locs → JX σ' → lv_has ls 8 (LB b B i) → W p l e room_1 s m args below meth c H locs (cells + 1) (slots + 6) Q (F0 m 1947 ls [])) : W p l e room_1 s m args below meth c H locs cells slots Q (F0 m 867 ls []) := by
  have hx := C0.1.1
  have hb := C0.1.2.1
  have hl : lv_has ls 8 [(4, .int (nI i)), (3, .ref (wA B 239)), (2, .ref (wA B 224)), (1, .ref (wA B 0)), (0, .ref b)] := hl
  obtain ⟨hc, hs⟩ := hcs
  obtain ⟨W9, H9, n9, hs9, sc9, hJ⟩ := hJ
  refine lv_aload_n hx hb dL_law_867 rfl (lv_at hl 3 rfl) ?_
  have hop : OpI (hlpI xIA xIA (f_X11_setOrder (xs (i + 1)) (xs (i + 2)) (xs (i + 3)))) (f_X12_setOrder (xs (i + 1)) (xs (i + 2)) (xs (i + 3))) σ := agr1_I hJ (ag_setOrder hJ)
  obtain ⟨k9, σ1, b9, σ2, e1, e2, e3, e4, hJ2⟩ := hop
  refine lawA C0 w X (i := i) (q := 1) (by omega) (lv_at hl 0 rfl) (lv_at hl 4 rfl) (by decide +kernel) (n4_add i 1) dL_law_868 dL_law_869 dL_law_871 dL_law_872 dL_law_873 ?_
  refine lawA C0 w X (i := i) (q := 2) (by omega) (lv_at hl 0 rfl) (lv_at hl 4 rfl) (by decide +kernel) (n4_add i 2) dL_law_874 dL_law_875 dL_law_877 dL_law_878 dL_law_879 ?_
  refine lawA C0 w X (i := i) (q := 3) (by omega) (lv_at hl 0 rfl) (lv_at hl 4 rfl) (by decide +kernel) (n4_add i 3) dL_law_880 dL_law_881 dL_law_883 dL_law_884 dL_law_885 ?_
  refine lv_aload_n hx hb dL_law_886 rfl (lv_at hl 1 rfl) ?_
  refine cSL (As := [.ref (wA B 0), .int (xs (i + 1)), .int (xs (i + 2)), .int (xs (i + 3)), .ref (wA B 239)]) (rest := []) (hh := [(0, 12, 15, 13)]) C0 w (m_L_setOrder l hfl B _ σ (xs (i + 1)) (xs (i + 2)) (xs (i + 3)) k9 σ1 e1) kw_L_setOrder ks_L_setOrder lk_L_143 ⟨rfl, rfl⟩ ⟨Nat.le_of_ble_eq_true rfl, Nat.le_of_ble_eq_true rfl⟩ ⟨hc, hs⟩ rfl (by rfl) (Nat.le_of_ble_eq_true rfl) hl.1 dL_law_887 (fun H locs w => ?_)
  refine lv_istore (lv' := [(5, .int k9), (4, .int (nI i)), (3, .ref (wA B 239)), (2, .ref (wA B 224)), (1, .ref (wA B 0)), (0, .ref b)]) hx hb dL_law_890 hl (by decide) rfl (fun ls hl => ?_)
  refine lv_aload_n hx hb dL_law_892 rfl (lv_at hl 3 rfl) ?_
  refine lawA C0 w X (i := i) (q := 1) (by omega) (lv_at hl 1 rfl) (lv_at hl 5 rfl) (by decide +kernel) (n4_add i 1) dL_law_893 dL_law_894 dL_law_896 dL_law_897 dL_law_898 ?_
  refine lawA C0 w X (i := i) (q := 2) (by omega) (lv_at hl 1 rfl) (lv_at hl 5 rfl) (by decide +kernel) (n4_add i 2) dL_law_899 dL_law_900 dL_law_902 dL_law_903 dL_law_904 ?_
  refine lawA C0 w X (i := i) (q := 3) (by omega) (lv_at hl 1 rfl) (lv_at hl 5 rfl) (by decide +kernel) (n4_add i 3) dL_law_905 dL_law_906 dL_law_908 dL_law_909 dL_law_910 ?_
  refine cV (As := [.int (xs (i + 1)), .int (xs (i + 2)), .int (xs (i + 3))]) (rest := []) (k := 224) (ci := 10) (T := TX12) (N := 22) C0 w (m_X12_setOrder l B _ σ1 (xs (i + 1)) (xs (i + 2)) (xs (i + 3)) (b9, σ2) e2) ky_X12_setOrder kv_X12_setOrder lk_L_146 rfl (by decide +kernel) ⟨Nat.le_of_ble_eq_true rfl, Nat.le_of_ble_eq_true rfl⟩ ⟨hc, hs⟩ rfl (by rfl) (Nat.le_of_ble_eq_true rfl) hl.1 dL_law_911 (fun H locs w => ?_)
  refine lv_istore (lv' := [(6, .int b9), (5, .int k9), (4, .int (nI i)), (3, .ref (wA B 239)), (2, .ref (wA B 224)), (1, .ref (wA B 0)), (0, .ref b)]) hx hb dL_law_914 hl (by decide) rfl (fun ls hl => ?_)
  refine lv_aload_n hx hb dL_law_916 rfl (lv_at hl 4 rfl) ?_
  refine cV (As := []) (rest := []) (k := 224) (ci := 10) (T := TX12) (N := 22) C0 w (m_X12_thrown l B _ σ2 _ rfl) ky_X12_thrown kv_X12_thrown lk_L_111 rfl (by decide +kernel) ⟨Nat.le_of_ble_eq_true rfl, Nat.le_of_ble_eq_true rfl⟩ ⟨hc, hs⟩ rfl (by rfl) (Nat.le_of_ble_eq_true rfl) hl.1 dL_law_917 (fun H locs w => ?_)
  refine lv_iload hx hb dL_law_920 (lv_at hl 1 rfl) ?_
  refine lv_icmp_eq (tgt := 927) hx hb dL_law_922 (by decide) (fun _ => ?_) (fun c1 => absurd e3 c1)
  refine lv_iload hx hb dL_law_927 (lv_at hl 1 rfl) ?_
  refine lv_if_ne (tgt := 944) hx hb dL_law_929 (by decide) (fun c1 => ?_) (fun c1 => ?_)
  · refine lv_goto (tgt := 1947) hx hb dL_law_944 (by decide) ?_
    exact kk σ2 H locs ls w hJ2 (lv_sub hl [2, 3, 4, 5, 6] rfl)
  · refine lv_aload_n hx hb dL_law_932 rfl (lv_at hl 3 rfl) ?_
    refine lv_iconst (v := 0) hx hb dL_law_933 (by decide) ?_
    refine aL C0 w (n := 1) (by decide +kernel) (inbE (by decide)) dL_law_934 ?_
    refine lv_iload hx hb dL_law_935 (lv_at hl 0 rfl) ?_
    refine lv_i2l hx hb dL_law_937 rfl ?_
    refine lc_eq (tgt := 944) C0 dL_law_938 dL_law_939 (by decide) (fun _ => ?_) (fun c2 => absurd (e4 c1) c2)
    refine lv_goto (tgt := 1947) hx hb dL_law_944 (by decide) ?_
    exact kk σ2 H locs ls w hJ2 (lv_sub hl [2, 3, 4, 5, 6] rfl)
set_option maxHeartbeats 4000000 in
set_option maxRecDepth 100000 in
theorem law_10 (hfl : l.stackTraces = false) (C0 : Cx p s m args meth c cL_law 8 RL) (w : Wx B σ s H locs) (X : LX b L xs B s) (hJ : JX σ) {i : Nat} (hi : i + 5 ≤ L) (hl : lv_has ls 8 (LB b B i)) (hcs : cells + 1 ≤ 601024 ∧ slots + 6 ≤ 7293034) (kk : ∀ σ' H locs ls, Wx B σ' s H locs → JX σ' → lv_has ls 8 (LB b B i) → W p l e room_1 s m args below meth c H locs (cells + 1) (slots + 6) Q (F0 m 1947 ls [])) : W p l e room_1 s m args below meth c H locs cells slots Q (F0 m 947 ls []) := by
  have hx := C0.1.1
  have hb := C0.1.2.1
  have hl : lv_has ls 8 [(4, .int (nI i)), (3, .ref (wA B 239)), (2, .ref (wA B 224)), (1, .ref (wA B 0)), (0, .ref b)] := hl
  obtain ⟨hc, hs⟩ := hcs
  obtain ⟨W9, H9, n9, hs9, sc9, hJ⟩ := hJ
  refine lv_aload_n hx hb dL_law_947 rfl (lv_at hl 3 rfl) ?_
  have hop : OpI (hlpI xIO xIS (f_X11_correct (xs (i + 1)))) (f_X12_correct (xs (i + 1))) σ := agr_I hJ (by decide +kernel) (ag_correct hJ)
  obtain ⟨k9, σ1, b9, σ2, e1, e2, e3, e4, hJ2⟩ := hop
  refine lawA C0 w X (i := i) (q := 1) (by omega) (lv_at hl 0 rfl) (lv_at hl 4 rfl) (by decide +kernel) (n4_add i 1) dL_law_948 dL_law_949 dL_law_951 dL_law_952 dL_law_953 ?_
  refine lv_aload_n hx hb dL_law_954 rfl (lv_at hl 1 rfl) ?_
  refine cSL (As := [.ref (wA B 0), .int (xs (i + 1)), .ref (wA B 239)]) (rest := []) (hh := [(0, 9, 12, 18), (0, 9, 15, 33)]) C0 w (m_L_correct l hfl B _ σ (xs (i + 1)) k9 σ1 e1) kw_L_correct ks_L_correct lk_L_147 ⟨rfl, rfl⟩ ⟨Nat.le_of_ble_eq_true rfl, Nat.le_of_ble_eq_true rfl⟩ ⟨hc, hs⟩ rfl (by rfl) (Nat.le_of_ble_eq_true rfl) hl.1 dL_law_955 (fun H locs w => ?_)
  refine lv_istore (lv' := [(5, .int k9), (4, .int (nI i)), (3, .ref (wA B 239)), (2, .ref (wA B 224)), (1, .ref (wA B 0)), (0, .ref b)]) hx hb dL_law_958 hl (by decide) rfl (fun ls hl => ?_)
  refine lv_aload_n hx hb dL_law_960 rfl (lv_at hl 3 rfl) ?_
  refine lawA C0 w X (i := i) (q := 1) (by omega) (lv_at hl 1 rfl) (lv_at hl 5 rfl) (by decide +kernel) (n4_add i 1) dL_law_961 dL_law_962 dL_law_964 dL_law_965 dL_law_966 ?_
  refine cV (As := [.int (xs (i + 1))]) (rest := []) (k := 224) (ci := 10) (T := TX12) (N := 22) C0 w (m_X12_correct l B _ σ1 (xs (i + 1)) (b9, σ2) e2) ky_X12_correct kv_X12_correct lk_L_150 rfl (by decide +kernel) ⟨Nat.le_of_ble_eq_true rfl, Nat.le_of_ble_eq_true rfl⟩ ⟨hc, hs⟩ rfl (by rfl) (Nat.le_of_ble_eq_true rfl) hl.1 dL_law_967 (fun H locs w => ?_)
  refine lv_istore (lv' := [(6, .int b9), (5, .int k9), (4, .int (nI i)), (3, .ref (wA B 239)), (2, .ref (wA B 224)), (1, .ref (wA B 0)), (0, .ref b)]) hx hb dL_law_970 hl (by decide) rfl (fun ls hl => ?_)
  refine lv_aload_n hx hb dL_law_972 rfl (lv_at hl 4 rfl) ?_
  refine cV (As := []) (rest := []) (k := 224) (ci := 10) (T := TX12) (N := 22) C0 w (m_X12_thrown l B _ σ2 _ rfl) ky_X12_thrown kv_X12_thrown lk_L_111 rfl (by decide +kernel) ⟨Nat.le_of_ble_eq_true rfl, Nat.le_of_ble_eq_true rfl⟩ ⟨hc, hs⟩ rfl (by rfl) (Nat.le_of_ble_eq_true rfl) hl.1 dL_law_973 (fun H locs w => ?_)
  refine lv_iload hx hb dL_law_976 (lv_at hl 1 rfl) ?_
  refine lv_icmp_eq (tgt := 983) hx hb dL_law_978 (by decide) (fun _ => ?_) (fun c1 => absurd e3 c1)
  refine lv_iload hx hb dL_law_983 (lv_at hl 1 rfl) ?_
  refine lv_if_ne (tgt := 1000) hx hb dL_law_985 (by decide) (fun c1 => ?_) (fun c1 => ?_)
  · refine lv_goto (tgt := 1947) hx hb dL_law_1000 (by decide) ?_
    exact kk σ2 H locs ls w hJ2 (lv_sub hl [2, 3, 4, 5, 6] rfl)
  · refine lv_aload_n hx hb dL_law_988 rfl (lv_at hl 3 rfl) ?_
    refine lv_iconst (v := 0) hx hb dL_law_989 (by decide) ?_
    refine aL C0 w (n := 1) (by decide +kernel) (inbE (by decide)) dL_law_990 ?_
    refine lv_iload hx hb dL_law_991 (lv_at hl 0 rfl) ?_
    refine lv_i2l hx hb dL_law_993 rfl ?_
    refine lc_eq (tgt := 1000) C0 dL_law_994 dL_law_995 (by decide) (fun _ => ?_) (fun c2 => absurd (e4 c1) c2)
    refine lv_goto (tgt := 1947) hx hb dL_law_1000 (by decide) ?_
    exact kk σ2 H locs ls w hJ2 (lv_sub hl [2, 3, 4, 5, 6] rfl)
set_option maxHeartbeats 4000000 in
set_option maxRecDepth 100000 in
theorem law_11 (hfl : l.stackTraces = false) (C0 : Cx p s m args meth c cL_law 8 RL) (w : Wx B σ s H locs) (X : LX b L xs B s) (hJ : JX σ) {i : Nat} (hi : i + 5 ≤ L) (hl : lv_has ls 8 (LB b B i)) (hcs : cells + 1 ≤ 601024 ∧ slots + 6 ≤ 7293034) (kk : ∀ σ' H locs ls, Wx B σ' s H locs → JX σ' → lv_has ls 8 (LB b B i) → W p l e room_1 s m args below meth c H locs (cells + 1) (slots + 6) Q (F0 m 1947 ls [])) : W p l e room_1 s m args below meth c H locs cells slots Q (F0 m 1003 ls []) := by
  have hx := C0.1.1
  have hb := C0.1.2.1
  have hl : lv_has ls 8 [(4, .int (nI i)), (3, .ref (wA B 239)), (2, .ref (wA B 224)), (1, .ref (wA B 0)), (0, .ref b)] := hl
  obtain ⟨hc, hs⟩ := hcs
  obtain ⟨W9, H9, n9, hs9, sc9, hJ⟩ := hJ
  refine lv_aload_n hx hb dL_law_1003 rfl (lv_at hl 3 rfl) ?_
  have hop : OpI (hlpI xIA xIA (f_X11_sweep (xs (i + 1)))) (f_X12_sweep (xs (i + 1))) σ := agr1_I hJ (ag_sweep hJ)
  obtain ⟨k9, σ1, b9, σ2, e1, e2, e3, e4, hJ2⟩ := hop
  refine lawA C0 w X (i := i) (q := 1) (by omega) (lv_at hl 0 rfl) (lv_at hl 4 rfl) (by decide +kernel) (n4_add i 1) dL_law_1004 dL_law_1005 dL_law_1007 dL_law_1008 dL_law_1009 ?_
  refine lv_aload_n hx hb dL_law_1010 rfl (lv_at hl 1 rfl) ?_
  refine cSL (As := [.ref (wA B 0), .int (xs (i + 1)), .ref (wA B 239)]) (rest := []) (hh := [(0, 9, 12, 13)]) C0 w (m_L_sweep l hfl B _ σ (xs (i + 1)) k9 σ1 e1) kw_L_sweep ks_L_sweep lk_L_151 ⟨rfl, rfl⟩ ⟨Nat.le_of_ble_eq_true rfl, Nat.le_of_ble_eq_true rfl⟩ ⟨hc, hs⟩ rfl (by rfl) (Nat.le_of_ble_eq_true rfl) hl.1 dL_law_1011 (fun H locs w => ?_)
  refine lv_istore (lv' := [(5, .int k9), (4, .int (nI i)), (3, .ref (wA B 239)), (2, .ref (wA B 224)), (1, .ref (wA B 0)), (0, .ref b)]) hx hb dL_law_1014 hl (by decide) rfl (fun ls hl => ?_)
  refine lv_aload_n hx hb dL_law_1016 rfl (lv_at hl 3 rfl) ?_
  refine lawA C0 w X (i := i) (q := 1) (by omega) (lv_at hl 1 rfl) (lv_at hl 5 rfl) (by decide +kernel) (n4_add i 1) dL_law_1017 dL_law_1018 dL_law_1020 dL_law_1021 dL_law_1022 ?_
  refine cV (As := [.int (xs (i + 1))]) (rest := []) (k := 224) (ci := 10) (T := TX12) (N := 22) C0 w (m_X12_sweep l B _ σ1 (xs (i + 1)) (b9, σ2) e2) ky_X12_sweep kv_X12_sweep lk_L_153 rfl (by decide +kernel) ⟨Nat.le_of_ble_eq_true rfl, Nat.le_of_ble_eq_true rfl⟩ ⟨hc, hs⟩ rfl (by rfl) (Nat.le_of_ble_eq_true rfl) hl.1 dL_law_1023 (fun H locs w => ?_)
  refine lv_istore (lv' := [(6, .int b9), (5, .int k9), (4, .int (nI i)), (3, .ref (wA B 239)), (2, .ref (wA B 224)), (1, .ref (wA B 0)), (0, .ref b)]) hx hb dL_law_1026 hl (by decide) rfl (fun ls hl => ?_)
  refine lv_aload_n hx hb dL_law_1028 rfl (lv_at hl 4 rfl) ?_
  refine cV (As := []) (rest := []) (k := 224) (ci := 10) (T := TX12) (N := 22) C0 w (m_X12_thrown l B _ σ2 _ rfl) ky_X12_thrown kv_X12_thrown lk_L_111 rfl (by decide +kernel) ⟨Nat.le_of_ble_eq_true rfl, Nat.le_of_ble_eq_true rfl⟩ ⟨hc, hs⟩ rfl (by rfl) (Nat.le_of_ble_eq_true rfl) hl.1 dL_law_1029 (fun H locs w => ?_)
  refine lv_iload hx hb dL_law_1032 (lv_at hl 1 rfl) ?_
  refine lv_icmp_eq (tgt := 1039) hx hb dL_law_1034 (by decide) (fun _ => ?_) (fun c1 => absurd e3 c1)
  refine lv_iload hx hb dL_law_1039 (lv_at hl 1 rfl) ?_
  refine lv_if_ne (tgt := 1056) hx hb dL_law_1041 (by decide) (fun c1 => ?_) (fun c1 => ?_)
  · refine lv_goto (tgt := 1947) hx hb dL_law_1056 (by decide) ?_
    exact kk σ2 H locs ls w hJ2 (lv_sub hl [2, 3, 4, 5, 6] rfl)
  · refine lv_aload_n hx hb dL_law_1044 rfl (lv_at hl 3 rfl) ?_
    refine lv_iconst (v := 0) hx hb dL_law_1045 (by decide) ?_
    refine aL C0 w (n := 1) (by decide +kernel) (inbE (by decide)) dL_law_1046 ?_
    refine lv_iload hx hb dL_law_1047 (lv_at hl 0 rfl) ?_
    refine lv_i2l hx hb dL_law_1049 rfl ?_
    refine lc_eq (tgt := 1056) C0 dL_law_1050 dL_law_1051 (by decide) (fun _ => ?_) (fun c2 => absurd (e4 c1) c2)
    refine lv_goto (tgt := 1947) hx hb dL_law_1056 (by decide) ?_
    exact kk σ2 H locs ls w hJ2 (lv_sub hl [2, 3, 4, 5, 6] rfl)
set_option maxHeartbeats 4000000 in
set_option maxRecDepth 100000 in
theorem law_12 (hfl : l.stackTraces = false) (C0 : Cx p s m args meth c cL_law 8 RL) (w : Wx B σ s H locs) (X : LX b L xs B s) (hJ : JX σ) {i : Nat} (hi : i + 5 ≤ L) (hl : lv_has ls 8 (LB b B i)) (hcs : cells + 1 ≤ 601024 ∧ slots + 6 ≤ 7293034) (kk : ∀ σ' H locs ls, Wx B σ' s H locs → JX σ' → lv_has ls 8 (LB b B i) → W p l e room_1 s m args below meth c H locs (cells + 1) (slots + 6) Q (F0 m 1947 ls [])) : W p l e room_1 s m args below meth c H locs cells slots Q (F0 m 1059 ls []) := by
  have hx := C0.1.1
  have hb := C0.1.2.1
  have hl : lv_has ls 8 [(4, .int (nI i)), (3, .ref (wA B 239)), (2, .ref (wA B 224)), (1, .ref (wA B 0)), (0, .ref b)] := hl
  obtain ⟨hc, hs⟩ := hcs
  obtain ⟨W9, H9, n9, hs9, sc9, hJ⟩ := hJ
  refine lv_aload_n hx hb dL_law_1059 rfl (lv_at hl 3 rfl) ?_
  have hop : OpI (hlpI xIA xIA (f_X11_smooth (xs (i + 1)))) (f_X12_smooth (xs (i + 1))) σ := agr1_I hJ (ag_smooth hJ)
  obtain ⟨k9, σ1, b9, σ2, e1, e2, e3, e4, hJ2⟩ := hop
  refine lawA C0 w X (i := i) (q := 1) (by omega) (lv_at hl 0 rfl) (lv_at hl 4 rfl) (by decide +kernel) (n4_add i 1) dL_law_1060 dL_law_1061 dL_law_1063 dL_law_1064 dL_law_1065 ?_
  refine lv_aload_n hx hb dL_law_1066 rfl (lv_at hl 1 rfl) ?_
  refine cSL (As := [.ref (wA B 0), .int (xs (i + 1)), .ref (wA B 239)]) (rest := []) (hh := [(0, 9, 12, 13)]) C0 w (m_L_smooth l hfl B _ σ (xs (i + 1)) k9 σ1 e1) kw_L_smooth ks_L_smooth lk_L_154 ⟨rfl, rfl⟩ ⟨Nat.le_of_ble_eq_true rfl, Nat.le_of_ble_eq_true rfl⟩ ⟨hc, hs⟩ rfl (by rfl) (Nat.le_of_ble_eq_true rfl) hl.1 dL_law_1067 (fun H locs w => ?_)
  refine lv_istore (lv' := [(5, .int k9), (4, .int (nI i)), (3, .ref (wA B 239)), (2, .ref (wA B 224)), (1, .ref (wA B 0)), (0, .ref b)]) hx hb dL_law_1070 hl (by decide) rfl (fun ls hl => ?_)
  refine lv_aload_n hx hb dL_law_1072 rfl (lv_at hl 3 rfl) ?_
  refine lawA C0 w X (i := i) (q := 1) (by omega) (lv_at hl 1 rfl) (lv_at hl 5 rfl) (by decide +kernel) (n4_add i 1) dL_law_1073 dL_law_1074 dL_law_1076 dL_law_1077 dL_law_1078 ?_
  refine cV (As := [.int (xs (i + 1))]) (rest := []) (k := 224) (ci := 10) (T := TX12) (N := 22) C0 w (m_X12_smooth l B _ σ1 (xs (i + 1)) (b9, σ2) e2) ky_X12_smooth kv_X12_smooth lk_L_156 rfl (by decide +kernel) ⟨Nat.le_of_ble_eq_true rfl, Nat.le_of_ble_eq_true rfl⟩ ⟨hc, hs⟩ rfl (by rfl) (Nat.le_of_ble_eq_true rfl) hl.1 dL_law_1079 (fun H locs w => ?_)
  refine lv_istore (lv' := [(6, .int b9), (5, .int k9), (4, .int (nI i)), (3, .ref (wA B 239)), (2, .ref (wA B 224)), (1, .ref (wA B 0)), (0, .ref b)]) hx hb dL_law_1082 hl (by decide) rfl (fun ls hl => ?_)
  refine lv_aload_n hx hb dL_law_1084 rfl (lv_at hl 4 rfl) ?_
  refine cV (As := []) (rest := []) (k := 224) (ci := 10) (T := TX12) (N := 22) C0 w (m_X12_thrown l B _ σ2 _ rfl) ky_X12_thrown kv_X12_thrown lk_L_111 rfl (by decide +kernel) ⟨Nat.le_of_ble_eq_true rfl, Nat.le_of_ble_eq_true rfl⟩ ⟨hc, hs⟩ rfl (by rfl) (Nat.le_of_ble_eq_true rfl) hl.1 dL_law_1085 (fun H locs w => ?_)
  refine lv_iload hx hb dL_law_1088 (lv_at hl 1 rfl) ?_
  refine lv_icmp_eq (tgt := 1095) hx hb dL_law_1090 (by decide) (fun _ => ?_) (fun c1 => absurd e3 c1)
  refine lv_iload hx hb dL_law_1095 (lv_at hl 1 rfl) ?_
  refine lv_if_ne (tgt := 1112) hx hb dL_law_1097 (by decide) (fun c1 => ?_) (fun c1 => ?_)
  · refine lv_goto (tgt := 1947) hx hb dL_law_1112 (by decide) ?_
    exact kk σ2 H locs ls w hJ2 (lv_sub hl [2, 3, 4, 5, 6] rfl)
  · refine lv_aload_n hx hb dL_law_1100 rfl (lv_at hl 3 rfl) ?_
    refine lv_iconst (v := 0) hx hb dL_law_1101 (by decide) ?_
    refine aL C0 w (n := 1) (by decide +kernel) (inbE (by decide)) dL_law_1102 ?_
    refine lv_iload hx hb dL_law_1103 (lv_at hl 0 rfl) ?_
    refine lv_i2l hx hb dL_law_1105 rfl ?_
    refine lc_eq (tgt := 1112) C0 dL_law_1106 dL_law_1107 (by decide) (fun _ => ?_) (fun c2 => absurd (e4 c1) c2)
    refine lv_goto (tgt := 1947) hx hb dL_law_1112 (by decide) ?_
    exact kk σ2 H locs ls w hJ2 (lv_sub hl [2, 3, 4, 5, 6] rfl)
set_option maxHeartbeats 4000000 in
set_option maxRecDepth 100000 in
theorem law_13 (hfl : l.stackTraces = false) (C0 : Cx p s m args meth c cL_law 8 RL) (w : Wx B σ s H locs) (X : LX b L xs B s) (hJ : JX σ) {i : Nat} (hi : i + 5 ≤ L) (hl : lv_has ls 8 (LB b B i)) (hcs : cells + 1 ≤ 601024 ∧ slots + 6 ≤ 7293034) (kk : ∀ σ' H locs ls, Wx B σ' s H locs → JX σ' → lv_has ls 8 (LB b B i) → W p l e room_1 s m args below meth c H locs (cells + 1) (slots + 6) Q (F0 m 1947 ls [])) : W p l e room_1 s m args below meth c H locs cells slots Q (F0 m 1115 ls []) := by
  have hx := C0.1.1
  have hb := C0.1.2.1
  have hl : lv_has ls 8 [(4, .int (nI i)), (3, .ref (wA B 239)), (2, .ref (wA B 224)), (1, .ref (wA B 0)), (0, .ref b)] := hl
  obtain ⟨hc, hs⟩ := hcs
  obtain ⟨W9, H9, n9, hs9, sc9, hJ⟩ := hJ
  obtain ⟨v9, σ1, σ2, e1, e2, hJ2⟩ := ag_fill hJ
  refine lv_aload_n hx hb dL_law_1115 rfl (lv_at hl 3 rfl) ?_
  have hc0 : cells ≤ 601024 := by omega
  have hs0 : slots ≤ 7293034 := by omega
  refine cV (As := []) (rest := []) (k := 0) (ci := 9) (T := TX11) (N := 9) C0 w (m_X11_fill l B _ σ (v9, σ1) e1) ky_X11_fill kv_X11_fill lk_L_157 rfl (by decide +kernel) ⟨Nat.le_of_ble_eq_true rfl, Nat.le_of_ble_eq_true rfl⟩ ⟨hc0, hs0⟩ rfl (by rfl) (Nat.le_of_ble_eq_true rfl) hl.1 dL_law_1116 (fun H locs w => ?_)
  refine lv_aload_n hx hb dL_law_1119 rfl (lv_at hl 2 rfl) ?_
  refine cV (As := []) (rest := [.int v9]) (k := 224) (ci := 10) (T := TX12) (N := 22) C0 w (m_X12_fill l B _ σ1 (v9, σ2) e2) ky_X12_fill kv_X12_fill lk_L_160 rfl (by decide +kernel) ⟨Nat.le_of_ble_eq_true rfl, Nat.le_of_ble_eq_true rfl⟩ ⟨hc0, hs0⟩ rfl (by rfl) (Nat.le_of_ble_eq_true rfl) hl.1 dL_law_1120 (fun H locs w => ?_)
  refine lv_icmp_eq (tgt := 1947) hx hb dL_law_1123 (by decide) (fun _ => ?_) (fun c1 => absurd rfl c1)
  refine W.widen (k := cells + 1) (n := slots + 6) (Nat.le_succ _) (Nat.le_add_right _ 6) ?_
  exact kk σ2 H locs ls w hJ2 hl
set_option maxHeartbeats 4000000 in
set_option maxRecDepth 100000 in
theorem law_14 (hfl : l.stackTraces = false) (C0 : Cx p s m args meth c cL_law 8 RL) (w : Wx B σ s H locs) (X : LX b L xs B s) (hJ : JX σ) {i : Nat} (hi : i + 5 ≤ L) (hl : lv_has ls 8 (LB b B i)) (hcs : cells + 1 ≤ 601024 ∧ slots + 6 ≤ 7293034) (kk : ∀ σ' H locs ls, Wx B σ' s H locs → JX σ' → lv_has ls 8 (LB b B i) → W p l e room_1 s m args below meth c H locs (cells + 1) (slots + 6) Q (F0 m 1947 ls [])) : W p l e room_1 s m args below meth c H locs cells slots Q (F0 m 1128 ls []) := by
  have hx := C0.1.1
  have hb := C0.1.2.1
  have hl : lv_has ls 8 [(4, .int (nI i)), (3, .ref (wA B 239)), (2, .ref (wA B 224)), (1, .ref (wA B 0)), (0, .ref b)] := hl
  obtain ⟨hc, hs⟩ := hcs
  obtain ⟨W9, H9, n9, hs9, sc9, hJ⟩ := hJ
  refine lv_aload_n hx hb dL_law_1128 rfl (lv_at hl 3 rfl) ?_
  have hop : OpI (hlpI xIO xIA (f_X11_ray (xs (i + 1)) (xs (i + 2)))) (f_X12_ray (xs (i + 1)) (xs (i + 2))) σ := agr_I hJ (by decide +kernel) (ag_ray hJ)
  obtain ⟨k9, σ1, b9, σ2, e1, e2, e3, e4, hJ2⟩ := hop
  refine lawA C0 w X (i := i) (q := 1) (by omega) (lv_at hl 0 rfl) (lv_at hl 4 rfl) (by decide +kernel) (n4_add i 1) dL_law_1129 dL_law_1130 dL_law_1132 dL_law_1133 dL_law_1134 ?_
  refine lawA C0 w X (i := i) (q := 2) (by omega) (lv_at hl 0 rfl) (lv_at hl 4 rfl) (by decide +kernel) (n4_add i 2) dL_law_1135 dL_law_1136 dL_law_1138 dL_law_1139 dL_law_1140 ?_
  refine lv_aload_n hx hb dL_law_1141 rfl (lv_at hl 1 rfl) ?_
  refine cSL (As := [.ref (wA B 0), .int (xs (i + 1)), .int (xs (i + 2)), .ref (wA B 239)]) (rest := []) (hh := [(0, 10, 13, 18), (0, 10, 17, 13)]) C0 w (m_L_ray l hfl B _ σ (xs (i + 1)) (xs (i + 2)) k9 σ1 e1) kw_L_ray ks_L_ray lk_L_161 ⟨rfl, rfl⟩ ⟨Nat.le_of_ble_eq_true rfl, Nat.le_of_ble_eq_true rfl⟩ ⟨hc, hs⟩ rfl (by rfl) (Nat.le_of_ble_eq_true rfl) hl.1 dL_law_1142 (fun H locs w => ?_)
  refine lv_istore (lv' := [(5, .int k9), (4, .int (nI i)), (3, .ref (wA B 239)), (2, .ref (wA B 224)), (1, .ref (wA B 0)), (0, .ref b)]) hx hb dL_law_1145 hl (by decide) rfl (fun ls hl => ?_)
  refine lv_aload_n hx hb dL_law_1147 rfl (lv_at hl 3 rfl) ?_
  refine lawA C0 w X (i := i) (q := 1) (by omega) (lv_at hl 1 rfl) (lv_at hl 5 rfl) (by decide +kernel) (n4_add i 1) dL_law_1148 dL_law_1149 dL_law_1151 dL_law_1152 dL_law_1153 ?_
  refine lawA C0 w X (i := i) (q := 2) (by omega) (lv_at hl 1 rfl) (lv_at hl 5 rfl) (by decide +kernel) (n4_add i 2) dL_law_1154 dL_law_1155 dL_law_1157 dL_law_1158 dL_law_1159 ?_
  refine cV (As := [.int (xs (i + 1)), .int (xs (i + 2))]) (rest := []) (k := 224) (ci := 10) (T := TX12) (N := 22) C0 w (m_X12_ray l B _ σ1 (xs (i + 1)) (xs (i + 2)) (b9, σ2) e2) ky_X12_ray kv_X12_ray lk_L_163 rfl (by decide +kernel) ⟨Nat.le_of_ble_eq_true rfl, Nat.le_of_ble_eq_true rfl⟩ ⟨hc, hs⟩ rfl (by rfl) (Nat.le_of_ble_eq_true rfl) hl.1 dL_law_1160 (fun H locs w => ?_)
  refine lv_istore (lv' := [(6, .int b9), (5, .int k9), (4, .int (nI i)), (3, .ref (wA B 239)), (2, .ref (wA B 224)), (1, .ref (wA B 0)), (0, .ref b)]) hx hb dL_law_1163 hl (by decide) rfl (fun ls hl => ?_)
  refine lv_aload_n hx hb dL_law_1165 rfl (lv_at hl 4 rfl) ?_
  refine cV (As := []) (rest := []) (k := 224) (ci := 10) (T := TX12) (N := 22) C0 w (m_X12_thrown l B _ σ2 _ rfl) ky_X12_thrown kv_X12_thrown lk_L_111 rfl (by decide +kernel) ⟨Nat.le_of_ble_eq_true rfl, Nat.le_of_ble_eq_true rfl⟩ ⟨hc, hs⟩ rfl (by rfl) (Nat.le_of_ble_eq_true rfl) hl.1 dL_law_1166 (fun H locs w => ?_)
  refine lv_iload hx hb dL_law_1169 (lv_at hl 1 rfl) ?_
  refine lv_icmp_eq (tgt := 1176) hx hb dL_law_1171 (by decide) (fun _ => ?_) (fun c1 => absurd e3 c1)
  refine lv_iload hx hb dL_law_1176 (lv_at hl 1 rfl) ?_
  refine lv_if_ne (tgt := 1193) hx hb dL_law_1178 (by decide) (fun c1 => ?_) (fun c1 => ?_)
  · refine lv_goto (tgt := 1947) hx hb dL_law_1193 (by decide) ?_
    exact kk σ2 H locs ls w hJ2 (lv_sub hl [2, 3, 4, 5, 6] rfl)
  · refine lv_aload_n hx hb dL_law_1181 rfl (lv_at hl 3 rfl) ?_
    refine lv_iconst (v := 0) hx hb dL_law_1182 (by decide) ?_
    refine aL C0 w (n := 1) (by decide +kernel) (inbE (by decide)) dL_law_1183 ?_
    refine lv_iload hx hb dL_law_1184 (lv_at hl 0 rfl) ?_
    refine lv_i2l hx hb dL_law_1186 rfl ?_
    refine lc_eq (tgt := 1193) C0 dL_law_1187 dL_law_1188 (by decide) (fun _ => ?_) (fun c2 => absurd (e4 c1) c2)
    refine lv_goto (tgt := 1947) hx hb dL_law_1193 (by decide) ?_
    exact kk σ2 H locs ls w hJ2 (lv_sub hl [2, 3, 4, 5, 6] rfl)
end LAWO
