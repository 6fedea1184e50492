section LAWO
variable {p : Program} {l : Launch} {e : Env} {s : State} {m : MethodId} {args : Array Value} {below : List Frame} {meth : Method} {c : Code} {H : Heap} {locs : List Loc} {cells slots : Nat} {Q : State → Prop}
variable {ls : Array Slot} {B : Wb} {σ : Mem} {b L : Nat} {xs : Nat → Int32}
set_option maxHeartbeats 4000000 in
set_option maxRecDepth 100000 in
theorem law_15 (hfl : l.stackTraces = false) (C0 : Cx p s m args meth c cL_law 8 RL) (w : Wx B σ s H locs) (X : LX b L xs B s) (hJ : JX σ) {i : Nat} (hi : i + 5 ≤ L) (hl : lv_has ls 8 (LB b B i)) (hcs : cells + 1 ≤ 601024 ∧ slots + 6 ≤ 7293034) (kk : ∀ σ' H locs ls, Wx B σ' s H locs → JX σ' → lv_has ls 8 (LB b B i) → W p l e room_1 s m args below meth c H locs (cells + 1) (slots + 6) Q (F0 m 1947 ls [])) : W p l e room_1 s m args below meth c H locs cells slots Q (F0 m 1196 ls []) := by
  have hx := C0.1.1
  have hb := C0.1.2.1
  have hl : lv_has ls 8 [(4, .int (nI i)), (3, .ref (wA B 239)), (2, .ref (wA B 224)), (1, .ref (wA B 0)), (0, .ref b)] := hl
  obtain ⟨hc, hs⟩ := hcs
  obtain ⟨W9, H9, n9, hs9, sc9, hJ⟩ := hJ
  refine lv_aload_n hx hb dL_law_1196 rfl (lv_at hl 3 rfl) ?_
  have hop : OpL (hlpL xIO xIA (f_X11_time (xs (i + 1)) (xs (i + 2)))) (f_X12_time (xs (i + 1)) (xs (i + 2))) σ := agr_L hJ (by decide +kernel) (ag_time hJ)
  obtain ⟨k9, σ1, b9, σ2, e1, e2, e3, e4, hJ2⟩ := hop
  refine lawA C0 w X (i := i) (q := 1) (by omega) (lv_at hl 0 rfl) (lv_at hl 4 rfl) (by decide +kernel) (n4_add i 1) dL_law_1197 dL_law_1198 dL_law_1200 dL_law_1201 dL_law_1202 ?_
  refine lawA C0 w X (i := i) (q := 2) (by omega) (lv_at hl 0 rfl) (lv_at hl 4 rfl) (by decide +kernel) (n4_add i 2) dL_law_1203 dL_law_1204 dL_law_1206 dL_law_1207 dL_law_1208 ?_
  refine lv_aload_n hx hb dL_law_1209 rfl (lv_at hl 1 rfl) ?_
  refine cSL (As := [.ref (wA B 0), .int (xs (i + 1)), .int (xs (i + 2)), .ref (wA B 239)]) (rest := []) (hh := [(0, 9, 12, 18), (0, 9, 16, 13)]) C0 w (m_L_time l hfl B _ σ (xs (i + 1)) (xs (i + 2)) k9 σ1 e1) kw_L_time ks_L_time lk_L_164 ⟨rfl, rfl⟩ ⟨Nat.le_of_ble_eq_true rfl, Nat.le_of_ble_eq_true rfl⟩ ⟨hc, hs⟩ rfl (by rfl) (Nat.le_of_ble_eq_true rfl) hl.1 dL_law_1210 (fun H locs w => ?_)
  refine lv_istore (lv' := [(5, .int k9), (4, .int (nI i)), (3, .ref (wA B 239)), (2, .ref (wA B 224)), (1, .ref (wA B 0)), (0, .ref b)]) hx hb dL_law_1213 hl (by decide) rfl (fun ls hl => ?_)
  refine lv_aload_n hx hb dL_law_1215 rfl (lv_at hl 3 rfl) ?_
  refine lawA C0 w X (i := i) (q := 1) (by omega) (lv_at hl 1 rfl) (lv_at hl 5 rfl) (by decide +kernel) (n4_add i 1) dL_law_1216 dL_law_1217 dL_law_1219 dL_law_1220 dL_law_1221 ?_
  refine lawA C0 w X (i := i) (q := 2) (by omega) (lv_at hl 1 rfl) (lv_at hl 5 rfl) (by decide +kernel) (n4_add i 2) dL_law_1222 dL_law_1223 dL_law_1225 dL_law_1226 dL_law_1227 ?_
  refine cV (As := [.int (xs (i + 1)), .int (xs (i + 2))]) (rest := []) (k := 224) (ci := 10) (T := TX12) (N := 22) C0 w (m_X12_time l B _ σ1 (xs (i + 1)) (xs (i + 2)) (b9, σ2) e2) ky_X12_time kv_X12_time lk_L_166 rfl (by decide +kernel) ⟨Nat.le_of_ble_eq_true rfl, Nat.le_of_ble_eq_true rfl⟩ ⟨hc, hs⟩ rfl (by rfl) (Nat.le_of_ble_eq_true rfl) hl.1 dL_law_1228 (fun H locs w => ?_)
  refine lv_lstore (lv' := [(6, .long b9), (5, .int k9), (4, .int (nI i)), (3, .ref (wA B 239)), (2, .ref (wA B 224)), (1, .ref (wA B 0)), (0, .ref b)]) hx hb dL_law_1231 hl (by decide) rfl (fun ls hl => ?_)
  refine lv_aload_n hx hb dL_law_1233 rfl (lv_at hl 4 rfl) ?_
  refine cV (As := []) (rest := []) (k := 224) (ci := 10) (T := TX12) (N := 22) C0 w (m_X12_thrown l B _ σ2 _ rfl) ky_X12_thrown kv_X12_thrown lk_L_111 rfl (by decide +kernel) ⟨Nat.le_of_ble_eq_true rfl, Nat.le_of_ble_eq_true rfl⟩ ⟨hc, hs⟩ rfl (by rfl) (Nat.le_of_ble_eq_true rfl) hl.1 dL_law_1234 (fun H locs w => ?_)
  refine lv_iload hx hb dL_law_1237 (lv_at hl 1 rfl) ?_
  refine lv_icmp_eq (tgt := 1244) hx hb dL_law_1239 (by decide) (fun _ => ?_) (fun c1 => absurd e3 c1)
  refine lv_iload hx hb dL_law_1244 (lv_at hl 1 rfl) ?_
  refine lv_if_ne (tgt := 1260) hx hb dL_law_1246 (by decide) (fun c1 => ?_) (fun c1 => ?_)
  · refine lv_goto (tgt := 1947) hx hb dL_law_1260 (by decide) ?_
    exact kk σ2 H locs ls w hJ2 (lv_sub hl [2, 3, 4, 5, 6] rfl)
  · refine lv_aload_n hx hb dL_law_1249 rfl (lv_at hl 3 rfl) ?_
    refine lv_iconst (v := 0) hx hb dL_law_1250 (by decide) ?_
    refine aL C0 w (n := 1) (by decide +kernel) (inbE (by decide)) dL_law_1251 ?_
    refine lv_lload hx hb dL_law_1252 (lv_at hl 0 rfl) ?_
    refine lc_eq (tgt := 1260) C0 dL_law_1254 dL_law_1255 (by decide) (fun _ => ?_) (fun c2 => absurd (e4 c1) c2)
    refine lv_goto (tgt := 1947) hx hb dL_law_1260 (by decide) ?_
    exact kk σ2 H locs ls w hJ2 (lv_sub hl [2, 3, 4, 5, 6] rfl)
set_option maxHeartbeats 4000000 in
set_option maxRecDepth 100000 in
theorem law_16 (hfl : l.stackTraces = false) (C0 : Cx p s m args meth c cL_law 8 RL) (w : Wx B σ s H locs) (X : LX b L xs B s) (hJ : JX σ) {i : Nat} (hi : i + 5 ≤ L) (hl : lv_has ls 8 (LB b B i)) (hcs : cells + 1 ≤ 601024 ∧ slots + 6 ≤ 7293034) (kk : ∀ σ' H locs ls, Wx B σ' s H locs → JX σ' → lv_has ls 8 (LB b B i) → W p l e room_1 s m args below meth c H locs (cells + 1) (slots + 6) Q (F0 m 1947 ls [])) : W p l e room_1 s m args below meth c H locs cells slots Q (F0 m 1263 ls []) := by
  have hx := C0.1.1
  have hb := C0.1.2.1
  have hl : lv_has ls 8 [(4, .int (nI i)), (3, .ref (wA B 239)), (2, .ref (wA B 224)), (1, .ref (wA B 0)), (0, .ref b)] := hl
  obtain ⟨hc, hs⟩ := hcs
  obtain ⟨W9, H9, n9, hs9, sc9, hJ⟩ := hJ
  refine lv_aload_n hx hb dL_law_1263 rfl (lv_at hl 3 rfl) ?_
  have hop : OpL (hlpL xIO xIS (f_X11_residual (xs (i + 1)))) (f_X12_residual (xs (i + 1))) σ := agr_L hJ (by decide +kernel) (ag_residual hJ)
  obtain ⟨k9, σ1, b9, σ2, e1, e2, e3, e4, hJ2⟩ := hop
  refine lawA C0 w X (i := i) (q := 1) (by omega) (lv_at hl 0 rfl) (lv_at hl 4 rfl) (by decide +kernel) (n4_add i 1) dL_law_1264 dL_law_1265 dL_law_1267 dL_law_1268 dL_law_1269 ?_
  refine lv_aload_n hx hb dL_law_1270 rfl (lv_at hl 1 rfl) ?_
  refine cSL (As := [.ref (wA B 0), .int (xs (i + 1)), .ref (wA B 239)]) (rest := []) (hh := [(0, 8, 11, 18), (0, 8, 14, 33)]) C0 w (m_L_residual l hfl B _ σ (xs (i + 1)) k9 σ1 e1) kw_L_residual ks_L_residual lk_L_167 ⟨rfl, rfl⟩ ⟨Nat.le_of_ble_eq_true rfl, Nat.le_of_ble_eq_true rfl⟩ ⟨hc, hs⟩ rfl (by rfl) (Nat.le_of_ble_eq_true rfl) hl.1 dL_law_1271 (fun H locs w => ?_)
  refine lv_istore (lv' := [(5, .int k9), (4, .int (nI i)), (3, .ref (wA B 239)), (2, .ref (wA B 224)), (1, .ref (wA B 0)), (0, .ref b)]) hx hb dL_law_1274 hl (by decide) rfl (fun ls hl => ?_)
  refine lv_aload_n hx hb dL_law_1276 rfl (lv_at hl 3 rfl) ?_
  refine lawA C0 w X (i := i) (q := 1) (by omega) (lv_at hl 1 rfl) (lv_at hl 5 rfl) (by decide +kernel) (n4_add i 1) dL_law_1277 dL_law_1278 dL_law_1280 dL_law_1281 dL_law_1282 ?_
  refine cV (As := [.int (xs (i + 1))]) (rest := []) (k := 224) (ci := 10) (T := TX12) (N := 22) C0 w (m_X12_residual l B _ σ1 (xs (i + 1)) (b9, σ2) e2) ky_X12_residual kv_X12_residual lk_L_169 rfl (by decide +kernel) ⟨Nat.le_of_ble_eq_true rfl, Nat.le_of_ble_eq_true rfl⟩ ⟨hc, hs⟩ rfl (by rfl) (Nat.le_of_ble_eq_true rfl) hl.1 dL_law_1283 (fun H locs w => ?_)
  refine lv_lstore (lv' := [(6, .long b9), (5, .int k9), (4, .int (nI i)), (3, .ref (wA B 239)), (2, .ref (wA B 224)), (1, .ref (wA B 0)), (0, .ref b)]) hx hb dL_law_1286 hl (by decide) rfl (fun ls hl => ?_)
  refine lv_aload_n hx hb dL_law_1288 rfl (lv_at hl 4 rfl) ?_
  refine cV (As := []) (rest := []) (k := 224) (ci := 10) (T := TX12) (N := 22) C0 w (m_X12_thrown l B _ σ2 _ rfl) ky_X12_thrown kv_X12_thrown lk_L_111 rfl (by decide +kernel) ⟨Nat.le_of_ble_eq_true rfl, Nat.le_of_ble_eq_true rfl⟩ ⟨hc, hs⟩ rfl (by rfl) (Nat.le_of_ble_eq_true rfl) hl.1 dL_law_1289 (fun H locs w => ?_)
  refine lv_iload hx hb dL_law_1292 (lv_at hl 1 rfl) ?_
  refine lv_icmp_eq (tgt := 1299) hx hb dL_law_1294 (by decide) (fun _ => ?_) (fun c1 => absurd e3 c1)
  refine lv_iload hx hb dL_law_1299 (lv_at hl 1 rfl) ?_
  refine lv_if_ne (tgt := 1315) hx hb dL_law_1301 (by decide) (fun c1 => ?_) (fun c1 => ?_)
  · refine lv_goto (tgt := 1947) hx hb dL_law_1315 (by decide) ?_
    exact kk σ2 H locs ls w hJ2 (lv_sub hl [2, 3, 4, 5, 6] rfl)
  · refine lv_aload_n hx hb dL_law_1304 rfl (lv_at hl 3 rfl) ?_
    refine lv_iconst (v := 0) hx hb dL_law_1305 (by decide) ?_
    refine aL C0 w (n := 1) (by decide +kernel) (inbE (by decide)) dL_law_1306 ?_
    refine lv_lload hx hb dL_law_1307 (lv_at hl 0 rfl) ?_
    refine lc_eq (tgt := 1315) C0 dL_law_1309 dL_law_1310 (by decide) (fun _ => ?_) (fun c2 => absurd (e4 c1) c2)
    refine lv_goto (tgt := 1947) hx hb dL_law_1315 (by decide) ?_
    exact kk σ2 H locs ls w hJ2 (lv_sub hl [2, 3, 4, 5, 6] rfl)
set_option maxHeartbeats 4000000 in
set_option maxRecDepth 100000 in
theorem law_17 (hfl : l.stackTraces = false) (C0 : Cx p s m args meth c cL_law 8 RL) (w : Wx B σ s H locs) (X : LX b L xs B s) (hJ : JX σ) {i : Nat} (hi : i + 5 ≤ L) (hl : lv_has ls 8 (LB b B i)) (hcs : cells + 1 ≤ 601024 ∧ slots + 6 ≤ 7293034) (kk : ∀ σ' H locs ls, Wx B σ' s H locs → JX σ' → lv_has ls 8 (LB b B i) → W p l e room_1 s m args below meth c H locs (cells + 1) (slots + 6) Q (F0 m 1947 ls [])) : W p l e room_1 s m args below meth c H locs cells slots Q (F0 m 1318 ls []) := by
  have hx := C0.1.1
  have hb := C0.1.2.1
  have hl : lv_has ls 8 [(4, .int (nI i)), (3, .ref (wA B 239)), (2, .ref (wA B 224)), (1, .ref (wA B 0)), (0, .ref b)] := hl
  obtain ⟨hc, hs⟩ := hcs
  obtain ⟨W9, H9, n9, hs9, sc9, hJ⟩ := hJ
  refine lv_aload_n hx hb dL_law_1318 rfl (lv_at hl 3 rfl) ?_
  have hop : OpI (hlpI xIO xIA (f_X11_wayCell (xs (i + 1)) (xs (i + 2)))) (f_X12_wayCell (xs (i + 1)) (xs (i + 2))) σ := agr_I hJ (by decide +kernel) (ag_wayCell hJ)
  obtain ⟨k9, σ1, b9, σ2, e1, e2, e3, e4, hJ2⟩ := hop
  refine lawA C0 w X (i := i) (q := 1) (by omega) (lv_at hl 0 rfl) (lv_at hl 4 rfl) (by decide +kernel) (n4_add i 1) dL_law_1319 dL_law_1320 dL_law_1322 dL_law_1323 dL_law_1324 ?_
  refine lawA C0 w X (i := i) (q := 2) (by omega) (lv_at hl 0 rfl) (lv_at hl 4 rfl) (by decide +kernel) (n4_add i 2) dL_law_1325 dL_law_1326 dL_law_1328 dL_law_1329 dL_law_1330 ?_
  refine lv_aload_n hx hb dL_law_1331 rfl (lv_at hl 1 rfl) ?_
  refine cSL (As := [.ref (wA B 0), .int (xs (i + 1)), .int (xs (i + 2)), .ref (wA B 239)]) (rest := []) (hh := [(0, 10, 13, 18), (0, 10, 17, 13)]) C0 w (m_L_wayCell l hfl B _ σ (xs (i + 1)) (xs (i + 2)) k9 σ1 e1) kw_L_wayCell ks_L_wayCell lk_L_170 ⟨rfl, rfl⟩ ⟨Nat.le_of_ble_eq_true rfl, Nat.le_of_ble_eq_true rfl⟩ ⟨hc, hs⟩ rfl (by rfl) (Nat.le_of_ble_eq_true rfl) hl.1 dL_law_1332 (fun H locs w => ?_)
  refine lv_istore (lv' := [(5, .int k9), (4, .int (nI i)), (3, .ref (wA B 239)), (2, .ref (wA B 224)), (1, .ref (wA B 0)), (0, .ref b)]) hx hb dL_law_1335 hl (by decide) rfl (fun ls hl => ?_)
  refine lv_aload_n hx hb dL_law_1337 rfl (lv_at hl 3 rfl) ?_
  refine lawA C0 w X (i := i) (q := 1) (by omega) (lv_at hl 1 rfl) (lv_at hl 5 rfl) (by decide +kernel) (n4_add i 1) dL_law_1338 dL_law_1339 dL_law_1341 dL_law_1342 dL_law_1343 ?_
  refine lawA C0 w X (i := i) (q := 2) (by omega) (lv_at hl 1 rfl) (lv_at hl 5 rfl) (by decide +kernel) (n4_add i 2) dL_law_1344 dL_law_1345 dL_law_1347 dL_law_1348 dL_law_1349 ?_
  refine cV (As := [.int (xs (i + 1)), .int (xs (i + 2))]) (rest := []) (k := 224) (ci := 10) (T := TX12) (N := 22) C0 w (m_X12_wayCell l B _ σ1 (xs (i + 1)) (xs (i + 2)) (b9, σ2) e2) ky_X12_wayCell kv_X12_wayCell lk_L_172 rfl (by decide +kernel) ⟨Nat.le_of_ble_eq_true rfl, Nat.le_of_ble_eq_true rfl⟩ ⟨hc, hs⟩ rfl (by rfl) (Nat.le_of_ble_eq_true rfl) hl.1 dL_law_1350 (fun H locs w => ?_)
  refine lv_istore (lv' := [(6, .int b9), (5, .int k9), (4, .int (nI i)), (3, .ref (wA B 239)), (2, .ref (wA B 224)), (1, .ref (wA B 0)), (0, .ref b)]) hx hb dL_law_1353 hl (by decide) rfl (fun ls hl => ?_)
  refine lv_aload_n hx hb dL_law_1355 rfl (lv_at hl 4 rfl) ?_
  refine cV (As := []) (rest := []) (k := 224) (ci := 10) (T := TX12) (N := 22) C0 w (m_X12_thrown l B _ σ2 _ rfl) ky_X12_thrown kv_X12_thrown lk_L_111 rfl (by decide +kernel) ⟨Nat.le_of_ble_eq_true rfl, Nat.le_of_ble_eq_true rfl⟩ ⟨hc, hs⟩ rfl (by rfl) (Nat.le_of_ble_eq_true rfl) hl.1 dL_law_1356 (fun H locs w => ?_)
  refine lv_iload hx hb dL_law_1359 (lv_at hl 1 rfl) ?_
  refine lv_icmp_eq (tgt := 1366) hx hb dL_law_1361 (by decide) (fun _ => ?_) (fun c1 => absurd e3 c1)
  refine lv_iload hx hb dL_law_1366 (lv_at hl 1 rfl) ?_
  refine lv_if_ne (tgt := 1383) hx hb dL_law_1368 (by decide) (fun c1 => ?_) (fun c1 => ?_)
  · refine lv_goto (tgt := 1947) hx hb dL_law_1383 (by decide) ?_
    exact kk σ2 H locs ls w hJ2 (lv_sub hl [2, 3, 4, 5, 6] rfl)
  · refine lv_aload_n hx hb dL_law_1371 rfl (lv_at hl 3 rfl) ?_
    refine lv_iconst (v := 0) hx hb dL_law_1372 (by decide) ?_
    refine aL C0 w (n := 1) (by decide +kernel) (inbE (by decide)) dL_law_1373 ?_
    refine lv_iload hx hb dL_law_1374 (lv_at hl 0 rfl) ?_
    refine lv_i2l hx hb dL_law_1376 rfl ?_
    refine lc_eq (tgt := 1383) C0 dL_law_1377 dL_law_1378 (by decide) (fun _ => ?_) (fun c2 => absurd (e4 c1) c2)
    refine lv_goto (tgt := 1947) hx hb dL_law_1383 (by decide) ?_
    exact kk σ2 H locs ls w hJ2 (lv_sub hl [2, 3, 4, 5, 6] rfl)
set_option maxHeartbeats 4000000 in
set_option maxRecDepth 100000 in
theorem law_18 (hfl : l.stackTraces = false) (C0 : Cx p s m args meth c cL_law 8 RL) (w : Wx B σ s H locs) (X : LX b L xs B s) (hJ : JX σ) {i : Nat} (hi : i + 5 ≤ L) (hl : lv_has ls 8 (LB b B i)) (hcs : cells + 1 ≤ 601024 ∧ slots + 6 ≤ 7293034) (kk : ∀ σ' H locs ls, Wx B σ' s H locs → JX σ' → lv_has ls 8 (LB b B i) → W p l e room_1 s m args below meth c H locs (cells + 1) (slots + 6) Q (F0 m 1947 ls [])) : W p l e room_1 s m args below meth c H locs cells slots Q (F0 m 1386 ls []) := by
  have hx := C0.1.1
  have hb := C0.1.2.1
  have hl : lv_has ls 8 [(4, .int (nI i)), (3, .ref (wA B 239)), (2, .ref (wA B 224)), (1, .ref (wA B 0)), (0, .ref b)] := hl
  obtain ⟨hc, hs⟩ := hcs
  obtain ⟨W9, H9, n9, hs9, sc9, hJ⟩ := hJ
  refine lv_aload_n hx hb dL_law_1386 rfl (lv_at hl 3 rfl) ?_
  have hop : OpI (hlpI xIO xIO (f_X11_length (xs (i + 1)) (xs (i + 2)))) (f_X12_length (xs (i + 1)) (xs (i + 2))) σ := agr1_I hJ (ag_length hJ)
  obtain ⟨k9, σ1, b9, σ2, e1, e2, e3, e4, hJ2⟩ := hop
  refine lawA C0 w X (i := i) (q := 1) (by omega) (lv_at hl 0 rfl) (lv_at hl 4 rfl) (by decide +kernel) (n4_add i 1) dL_law_1387 dL_law_1388 dL_law_1390 dL_law_1391 dL_law_1392 ?_
  refine lawA C0 w X (i := i) (q := 2) (by omega) (lv_at hl 0 rfl) (lv_at hl 4 rfl) (by decide +kernel) (n4_add i 2) dL_law_1393 dL_law_1394 dL_law_1396 dL_law_1397 dL_law_1398 ?_
  refine lv_aload_n hx hb dL_law_1399 rfl (lv_at hl 1 rfl) ?_
  refine cSL (As := [.ref (wA B 0), .int (xs (i + 1)), .int (xs (i + 2)), .ref (wA B 239)]) (rest := []) (hh := [(0, 10, 13, 18)]) C0 w (m_L_length l hfl B _ σ (xs (i + 1)) (xs (i + 2)) k9 σ1 e1) kw_L_length ks_L_length lk_L_173 ⟨rfl, rfl⟩ ⟨Nat.le_of_ble_eq_true rfl, Nat.le_of_ble_eq_true rfl⟩ ⟨hc, hs⟩ rfl (by rfl) (Nat.le_of_ble_eq_true rfl) hl.1 dL_law_1400 (fun H locs w => ?_)
  refine lv_istore (lv' := [(5, .int k9), (4, .int (nI i)), (3, .ref (wA B 239)), (2, .ref (wA B 224)), (1, .ref (wA B 0)), (0, .ref b)]) hx hb dL_law_1403 hl (by decide) rfl (fun ls hl => ?_)
  refine lv_aload_n hx hb dL_law_1405 rfl (lv_at hl 3 rfl) ?_
  refine lawA C0 w X (i := i) (q := 1) (by omega) (lv_at hl 1 rfl) (lv_at hl 5 rfl) (by decide +kernel) (n4_add i 1) dL_law_1406 dL_law_1407 dL_law_1409 dL_law_1410 dL_law_1411 ?_
  refine lawA C0 w X (i := i) (q := 2) (by omega) (lv_at hl 1 rfl) (lv_at hl 5 rfl) (by decide +kernel) (n4_add i 2) dL_law_1412 dL_law_1413 dL_law_1415 dL_law_1416 dL_law_1417 ?_
  refine cV (As := [.int (xs (i + 1)), .int (xs (i + 2))]) (rest := []) (k := 224) (ci := 10) (T := TX12) (N := 22) C0 w (m_X12_length l B _ σ1 (xs (i + 1)) (xs (i + 2)) (b9, σ2) e2) ky_X12_length kv_X12_length lk_L_175 rfl (by decide +kernel) ⟨Nat.le_of_ble_eq_true rfl, Nat.le_of_ble_eq_true rfl⟩ ⟨hc, hs⟩ rfl (by rfl) (Nat.le_of_ble_eq_true rfl) hl.1 dL_law_1418 (fun H locs w => ?_)
  refine lv_istore (lv' := [(6, .int b9), (5, .int k9), (4, .int (nI i)), (3, .ref (wA B 239)), (2, .ref (wA B 224)), (1, .ref (wA B 0)), (0, .ref b)]) hx hb dL_law_1421 hl (by decide) rfl (fun ls hl => ?_)
  refine lv_aload_n hx hb dL_law_1423 rfl (lv_at hl 4 rfl) ?_
  refine cV (As := []) (rest := []) (k := 224) (ci := 10) (T := TX12) (N := 22) C0 w (m_X12_thrown l B _ σ2 _ rfl) ky_X12_thrown kv_X12_thrown lk_L_111 rfl (by decide +kernel) ⟨Nat.le_of_ble_eq_true rfl, Nat.le_of_ble_eq_true rfl⟩ ⟨hc, hs⟩ rfl (by rfl) (Nat.le_of_ble_eq_true rfl) hl.1 dL_law_1424 (fun H locs w => ?_)
  refine lv_iload hx hb dL_law_1427 (lv_at hl 1 rfl) ?_
  refine lv_icmp_eq (tgt := 1434) hx hb dL_law_1429 (by decide) (fun _ => ?_) (fun c1 => absurd e3 c1)
  refine lv_iload hx hb dL_law_1434 (lv_at hl 1 rfl) ?_
  refine lv_if_ne (tgt := 1451) hx hb dL_law_1436 (by decide) (fun c1 => ?_) (fun c1 => ?_)
  · refine lv_goto (tgt := 1947) hx hb dL_law_1451 (by decide) ?_
    exact kk σ2 H locs ls w hJ2 (lv_sub hl [2, 3, 4, 5, 6] rfl)
  · refine lv_aload_n hx hb dL_law_1439 rfl (lv_at hl 3 rfl) ?_
    refine lv_iconst (v := 0) hx hb dL_law_1440 (by decide) ?_
    refine aL C0 w (n := 1) (by decide +kernel) (inbE (by decide)) dL_law_1441 ?_
    refine lv_iload hx hb dL_law_1442 (lv_at hl 0 rfl) ?_
    refine lv_i2l hx hb dL_law_1444 rfl ?_
    refine lc_eq (tgt := 1451) C0 dL_law_1445 dL_law_1446 (by decide) (fun _ => ?_) (fun c2 => absurd (e4 c1) c2)
    refine lv_goto (tgt := 1947) hx hb dL_law_1451 (by decide) ?_
    exact kk σ2 H locs ls w hJ2 (lv_sub hl [2, 3, 4, 5, 6] rfl)
set_option maxHeartbeats 4000000 in
set_option maxRecDepth 100000 in
theorem law_19 (hfl : l.stackTraces = false) (C0 : Cx p s m args meth c cL_law 8 RL) (w : Wx B σ s H locs) (X : LX b L xs B s) (hJ : JX σ) {i : Nat} (hi : i + 5 ≤ L) (hl : lv_has ls 8 (LB b B i)) (hcs : cells + 1 ≤ 601024 ∧ slots + 6 ≤ 7293034) (kk : ∀ σ' H locs ls, Wx B σ' s H locs → JX σ' → lv_has ls 8 (LB b B i) → W p l e room_1 s m args below meth c H locs (cells + 1) (slots + 6) Q (F0 m 1947 ls [])) : W p l e room_1 s m args below meth c H locs cells slots Q (F0 m 1454 ls []) := by
  have hx := C0.1.1
  have hb := C0.1.2.1
  have hl : lv_has ls 8 [(4, .int (nI i)), (3, .ref (wA B 239)), (2, .ref (wA B 224)), (1, .ref (wA B 0)), (0, .ref b)] := hl
  obtain ⟨hc, hs⟩ := hcs
  obtain ⟨W9, H9, n9, hs9, sc9, hJ⟩ := hJ
  refine lv_aload_n hx hb dL_law_1454 rfl (lv_at hl 3 rfl) ?_
  have hop : OpL (hlpL xIO xIO (f_X11_least (xs (i + 1)) (xs (i + 2)) (if (xs (i + 3)) = 0 then 0 else 1))) (f_X12_least (xs (i + 1)) (xs (i + 2)) (if (xs (i + 3)) = 0 then 0 else 1)) σ := agr1_L hJ (ag_least hJ)
  obtain ⟨k9, σ1, b9, σ2, e1, e2, e3, e4, hJ2⟩ := hop
  refine lawA C0 w X (i := i) (q := 1) (by omega) (lv_at hl 0 rfl) (lv_at hl 4 rfl) (by decide +kernel) (n4_add i 1) dL_law_1455 dL_law_1456 dL_law_1458 dL_law_1459 dL_law_1460 ?_
  refine lawA C0 w X (i := i) (q := 2) (by omega) (lv_at hl 0 rfl) (lv_at hl 4 rfl) (by decide +kernel) (n4_add i 2) dL_law_1461 dL_law_1462 dL_law_1464 dL_law_1465 dL_law_1466 ?_
  refine lawA C0 w X (i := i) (q := 3) (by omega) (lv_at hl 0 rfl) (lv_at hl 4 rfl) (by decide +kernel) (n4_add i 3) dL_law_1467 dL_law_1468 dL_law_1470 dL_law_1471 dL_law_1472 ?_
  refine lawB C0 (tgt := 1480) (tgt2 := 1481) dL_law_1473 dL_law_1476 dL_law_1477 dL_law_1480 (by decide) (by decide) rfl ?_
  refine lv_aload_n hx hb dL_law_1481 rfl (lv_at hl 1 rfl) ?_
  refine cSL (As := [.ref (wA B 0), .int (xs (i + 1)), .int (xs (i + 2)), .int (if (xs (i + 3)) = 0 then 0 else 1), .ref (wA B 239)]) (rest := []) (hh := [(0, 11, 14, 18)]) C0 w (m_L_least l hfl B _ σ (xs (i + 1)) (xs (i + 2)) (if (xs (i + 3)) = 0 then 0 else 1) k9 σ1 e1) kw_L_least ks_L_least lk_L_176 ⟨rfl, rfl⟩ ⟨Nat.le_of_ble_eq_true rfl, Nat.le_of_ble_eq_true rfl⟩ ⟨hc, hs⟩ rfl (by rfl) (Nat.le_of_ble_eq_true rfl) hl.1 dL_law_1482 (fun H locs w => ?_)
  refine lv_istore (lv' := [(5, .int k9), (4, .int (nI i)), (3, .ref (wA B 239)), (2, .ref (wA B 224)), (1, .ref (wA B 0)), (0, .ref b)]) hx hb dL_law_1485 hl (by decide) rfl (fun ls hl => ?_)
  refine lv_aload_n hx hb dL_law_1487 rfl (lv_at hl 3 rfl) ?_
  refine lawA C0 w X (i := i) (q := 1) (by omega) (lv_at hl 1 rfl) (lv_at hl 5 rfl) (by decide +kernel) (n4_add i 1) dL_law_1488 dL_law_1489 dL_law_1491 dL_law_1492 dL_law_1493 ?_
  refine lawA C0 w X (i := i) (q := 2) (by omega) (lv_at hl 1 rfl) (lv_at hl 5 rfl) (by decide +kernel) (n4_add i 2) dL_law_1494 dL_law_1495 dL_law_1497 dL_law_1498 dL_law_1499 ?_
  refine lawA C0 w X (i := i) (q := 3) (by omega) (lv_at hl 1 rfl) (lv_at hl 5 rfl) (by decide +kernel) (n4_add i 3) dL_law_1500 dL_law_1501 dL_law_1503 dL_law_1504 dL_law_1505 ?_
  refine lawB C0 (tgt := 1513) (tgt2 := 1514) dL_law_1506 dL_law_1509 dL_law_1510 dL_law_1513 (by decide) (by decide) rfl ?_
  refine cV (As := [.int (xs (i + 1)), .int (xs (i + 2)), .int (if (xs (i + 3)) = 0 then 0 else 1)]) (rest := []) (k := 224) (ci := 10) (T := TX12) (N := 22) C0 w (m_X12_least l B _ σ1 (xs (i + 1)) (xs (i + 2)) (if (xs (i + 3)) = 0 then 0 else 1) (b9, σ2) e2) ky_X12_least kv_X12_least lk_L_179 rfl (by decide +kernel) ⟨Nat.le_of_ble_eq_true rfl, Nat.le_of_ble_eq_true rfl⟩ ⟨hc, hs⟩ rfl (by rfl) (Nat.le_of_ble_eq_true rfl) hl.1 dL_law_1514 (fun H locs w => ?_)
  refine lv_lstore (lv' := [(6, .long b9), (5, .int k9), (4, .int (nI i)), (3, .ref (wA B 239)), (2, .ref (wA B 224)), (1, .ref (wA B 0)), (0, .ref b)]) hx hb dL_law_1517 hl (by decide) rfl (fun ls hl => ?_)
  refine lv_aload_n hx hb dL_law_1519 rfl (lv_at hl 4 rfl) ?_
  refine cV (As := []) (rest := []) (k := 224) (ci := 10) (T := TX12) (N := 22) C0 w (m_X12_thrown l B _ σ2 _ rfl) ky_X12_thrown kv_X12_thrown lk_L_111 rfl (by decide +kernel) ⟨Nat.le_of_ble_eq_true rfl, Nat.le_of_ble_eq_true rfl⟩ ⟨hc, hs⟩ rfl (by rfl) (Nat.le_of_ble_eq_true rfl) hl.1 dL_law_1520 (fun H locs w => ?_)
  refine lv_iload hx hb dL_law_1523 (lv_at hl 1 rfl) ?_
  refine lv_icmp_eq (tgt := 1530) hx hb dL_law_1525 (by decide) (fun _ => ?_) (fun c1 => absurd e3 c1)
  refine lv_iload hx hb dL_law_1530 (lv_at hl 1 rfl) ?_
  refine lv_if_ne (tgt := 1546) hx hb dL_law_1532 (by decide) (fun c1 => ?_) (fun c1 => ?_)
  · refine lv_goto (tgt := 1947) hx hb dL_law_1546 (by decide) ?_
    exact kk σ2 H locs ls w hJ2 (lv_sub hl [2, 3, 4, 5, 6] rfl)
  · refine lv_aload_n hx hb dL_law_1535 rfl (lv_at hl 3 rfl) ?_
    refine lv_iconst (v := 0) hx hb dL_law_1536 (by decide) ?_
    refine aL C0 w (n := 1) (by decide +kernel) (inbE (by decide)) dL_law_1537 ?_
    refine lv_lload hx hb dL_law_1538 (lv_at hl 0 rfl) ?_
    refine lc_eq (tgt := 1546) C0 dL_law_1540 dL_law_1541 (by decide) (fun _ => ?_) (fun c2 => absurd (e4 c1) c2)
    refine lv_goto (tgt := 1947) hx hb dL_law_1546 (by decide) ?_
    exact kk σ2 H locs ls w hJ2 (lv_sub hl [2, 3, 4, 5, 6] rfl)
set_option maxHeartbeats 4000000 in
set_option maxRecDepth 100000 in
theorem law_20 (hfl : l.stackTraces = false) (C0 : Cx p s m args meth c cL_law 8 RL) (w : Wx B σ s H locs) (X : LX b L xs B s) (hJ : JX σ) {i : Nat} (hi : i + 5 ≤ L) (hl : lv_has ls 8 (LB b B i)) (hcs : cells + 1 ≤ 601024 ∧ slots + 6 ≤ 7293034) (kk : ∀ σ' H locs ls, Wx B σ' s H locs → JX σ' → lv_has ls 8 (LB b B i) → W p l e room_1 s m args below meth c H locs (cells + 1) (slots + 6) Q (F0 m 1947 ls [])) : W p l e room_1 s m args below meth c H locs cells slots Q (F0 m 1549 ls []) := by
  have hx := C0.1.1
  have hb := C0.1.2.1
  have hl : lv_has ls 8 [(4, .int (nI i)), (3, .ref (wA B 239)), (2, .ref (wA B 224)), (1, .ref (wA B 0)), (0, .ref b)] := hl
  obtain ⟨hc, hs⟩ := hcs
  obtain ⟨W9, H9, n9, hs9, sc9, hJ⟩ := hJ
  refine lv_aload_n hx hb dL_law_1549 rfl (lv_at hl 3 rfl) ?_
  have hop : OpI (hlpI xIO xIA (f_X11_cell (xs (i + 1)) (xs (i + 2)))) (f_X12_cell (xs (i + 1)) (xs (i + 2))) σ := agr_I hJ (by decide +kernel) (ag_cell hJ)
  obtain ⟨k9, σ1, b9, σ2, e1, e2, e3, e4, hJ2⟩ := hop
  refine lawA C0 w X (i := i) (q := 1) (by omega) (lv_at hl 0 rfl) (lv_at hl 4 rfl) (by decide +kernel) (n4_add i 1) dL_law_1550 dL_law_1551 dL_law_1553 dL_law_1554 dL_law_1555 ?_
  refine lawA C0 w X (i := i) (q := 2) (by omega) (lv_at hl 0 rfl) (lv_at hl 4 rfl) (by decide +kernel) (n4_add i 2) dL_law_1556 dL_law_1557 dL_law_1559 dL_law_1560 dL_law_1561 ?_
  refine lv_aload_n hx hb dL_law_1562 rfl (lv_at hl 1 rfl) ?_
  refine cSL (As := [.ref (wA B 0), .int (xs (i + 1)), .int (xs (i + 2)), .ref (wA B 239)]) (rest := []) (hh := [(0, 10, 13, 18), (0, 10, 17, 13)]) C0 w (m_L_cell l hfl B _ σ (xs (i + 1)) (xs (i + 2)) k9 σ1 e1) kw_L_cell ks_L_cell lk_L_180 ⟨rfl, rfl⟩ ⟨Nat.le_of_ble_eq_true rfl, Nat.le_of_ble_eq_true rfl⟩ ⟨hc, hs⟩ rfl (by rfl) (Nat.le_of_ble_eq_true rfl) hl.1 dL_law_1563 (fun H locs w => ?_)
  refine lv_istore (lv' := [(5, .int k9), (4, .int (nI i)), (3, .ref (wA B 239)), (2, .ref (wA B 224)), (1, .ref (wA B 0)), (0, .ref b)]) hx hb dL_law_1566 hl (by decide) rfl (fun ls hl => ?_)
  refine lv_aload_n hx hb dL_law_1568 rfl (lv_at hl 3 rfl) ?_
  refine lawA C0 w X (i := i) (q := 1) (by omega) (lv_at hl 1 rfl) (lv_at hl 5 rfl) (by decide +kernel) (n4_add i 1) dL_law_1569 dL_law_1570 dL_law_1572 dL_law_1573 dL_law_1574 ?_
  refine lawA C0 w X (i := i) (q := 2) (by omega) (lv_at hl 1 rfl) (lv_at hl 5 rfl) (by decide +kernel) (n4_add i 2) dL_law_1575 dL_law_1576 dL_law_1578 dL_law_1579 dL_law_1580 ?_
  refine cV (As := [.int (xs (i + 1)), .int (xs (i + 2))]) (rest := []) (k := 224) (ci := 10) (T := TX12) (N := 22) C0 w (m_X12_cell l B _ σ1 (xs (i + 1)) (xs (i + 2)) (b9, σ2) e2) ky_X12_cell kv_X12_cell lk_L_182 rfl (by decide +kernel) ⟨Nat.le_of_ble_eq_true rfl, Nat.le_of_ble_eq_true rfl⟩ ⟨hc, hs⟩ rfl (by rfl) (Nat.le_of_ble_eq_true rfl) hl.1 dL_law_1581 (fun H locs w => ?_)
  refine lv_istore (lv' := [(6, .int b9), (5, .int k9), (4, .int (nI i)), (3, .ref (wA B 239)), (2, .ref (wA B 224)), (1, .ref (wA B 0)), (0, .ref b)]) hx hb dL_law_1584 hl (by decide) rfl (fun ls hl => ?_)
  refine lv_aload_n hx hb dL_law_1586 rfl (lv_at hl 4 rfl) ?_
  refine cV (As := []) (rest := []) (k := 224) (ci := 10) (T := TX12) (N := 22) C0 w (m_X12_thrown l B _ σ2 _ rfl) ky_X12_thrown kv_X12_thrown lk_L_111 rfl (by decide +kernel) ⟨Nat.le_of_ble_eq_true rfl, Nat.le_of_ble_eq_true rfl⟩ ⟨hc, hs⟩ rfl (by rfl) (Nat.le_of_ble_eq_true rfl) hl.1 dL_law_1587 (fun H locs w => ?_)
  refine lv_iload hx hb dL_law_1590 (lv_at hl 1 rfl) ?_
  refine lv_icmp_eq (tgt := 1597) hx hb dL_law_1592 (by decide) (fun _ => ?_) (fun c1 => absurd e3 c1)
  refine lv_iload hx hb dL_law_1597 (lv_at hl 1 rfl) ?_
  refine lv_if_ne (tgt := 1614) hx hb dL_law_1599 (by decide) (fun c1 => ?_) (fun c1 => ?_)
  · refine lv_goto (tgt := 1947) hx hb dL_law_1614 (by decide) ?_
    exact kk σ2 H locs ls w hJ2 (lv_sub hl [2, 3, 4, 5, 6] rfl)
  · refine lv_aload_n hx hb dL_law_1602 rfl (lv_at hl 3 rfl) ?_
    refine lv_iconst (v := 0) hx hb dL_law_1603 (by decide) ?_
    refine aL C0 w (n := 1) (by decide +kernel) (inbE (by decide)) dL_law_1604 ?_
    refine lv_iload hx hb dL_law_1605 (lv_at hl 0 rfl) ?_
    refine lv_i2l hx hb dL_law_1607 rfl ?_
    refine lc_eq (tgt := 1614) C0 dL_law_1608 dL_law_1609 (by decide) (fun _ => ?_) (fun c2 => absurd (e4 c1) c2)
    refine lv_goto (tgt := 1947) hx hb dL_law_1614 (by decide) ?_
    exact kk σ2 H locs ls w hJ2 (lv_sub hl [2, 3, 4, 5, 6] rfl)
set_option maxHeartbeats 4000000 in
set_option maxRecDepth 100000 in
theorem law_21 (hfl : l.stackTraces = false) (C0 : Cx p s m args meth c cL_law 8 RL) (w : Wx B σ s H locs) (X : LX b L xs B s) (hJ : JX σ) {i : Nat} (hi : i + 5 ≤ L) (hl : lv_has ls 8 (LB b B i)) (hcs : cells + 1 ≤ 601024 ∧ slots + 6 ≤ 7293034) (kk : ∀ σ' H locs ls, Wx B σ' s H locs → JX σ' → lv_has ls 8 (LB b B i) → W p l e room_1 s m args below meth c H locs (cells + 1) (slots + 6) Q (F0 m 1947 ls [])) : W p l e room_1 s m args below meth c H locs cells slots Q (F0 m 1617 ls []) := by
  have hx := C0.1.1
  have hb := C0.1.2.1
  have hl : lv_has ls 8 [(4, .int (nI i)), (3, .ref (wA B 239)), (2, .ref (wA B 224)), (1, .ref (wA B 0)), (0, .ref b)] := hl
  obtain ⟨hc, hs⟩ := hcs
  obtain ⟨W9, H9, n9, hs9, sc9, hJ⟩ := hJ
  refine lv_aload_n hx hb dL_law_1617 rfl (lv_at hl 3 rfl) ?_
  have hop : OpI (hlpI xIA xIA (f_X11_section (xs (i + 1)))) (f_X12_section (xs (i + 1))) σ := agr1_I hJ (ag_section hJ)
  obtain ⟨k9, σ1, b9, σ2, e1, e2, e3, e4, hJ2⟩ := hop
  refine lawA C0 w X (i := i) (q := 1) (by omega) (lv_at hl 0 rfl) (lv_at hl 4 rfl) (by decide +kernel) (n4_add i 1) dL_law_1618 dL_law_1619 dL_law_1621 dL_law_1622 dL_law_1623 ?_
  refine lv_aload_n hx hb dL_law_1624 rfl (lv_at hl 1 rfl) ?_
  refine cSL (As := [.ref (wA B 0), .int (xs (i + 1)), .ref (wA B 239)]) (rest := []) (hh := [(0, 9, 12, 13)]) C0 w (m_L_section l hfl B _ σ (xs (i + 1)) k9 σ1 e1) kw_L_section ks_L_section lk_L_183 ⟨rfl, rfl⟩ ⟨Nat.le_of_ble_eq_true rfl, Nat.le_of_ble_eq_true rfl⟩ ⟨hc, hs⟩ rfl (by rfl) (Nat.le_of_ble_eq_true rfl) hl.1 dL_law_1625 (fun H locs w => ?_)
  refine lv_istore (lv' := [(5, .int k9), (4, .int (nI i)), (3, .ref (wA B 239)), (2, .ref (wA B 224)), (1, .ref (wA B 0)), (0, .ref b)]) hx hb dL_law_1628 hl (by decide) rfl (fun ls hl => ?_)
  refine lv_aload_n hx hb dL_law_1630 rfl (lv_at hl 3 rfl) ?_
  refine lawA C0 w X (i := i) (q := 1) (by omega) (lv_at hl 1 rfl) (lv_at hl 5 rfl) (by decide +kernel) (n4_add i 1) dL_law_1631 dL_law_1632 dL_law_1634 dL_law_1635 dL_law_1636 ?_
  refine cV (As := [.int (xs (i + 1))]) (rest := []) (k := 224) (ci := 10) (T := TX12) (N := 22) C0 w (m_X12_section l B _ σ1 (xs (i + 1)) (b9, σ2) e2) ky_X12_section kv_X12_section lk_L_185 rfl (by decide +kernel) ⟨Nat.le_of_ble_eq_true rfl, Nat.le_of_ble_eq_true rfl⟩ ⟨hc, hs⟩ rfl (by rfl) (Nat.le_of_ble_eq_true rfl) hl.1 dL_law_1637 (fun H locs w => ?_)
  refine lv_istore (lv' := [(6, .int b9), (5, .int k9), (4, .int (nI i)), (3, .ref (wA B 239)), (2, .ref (wA B 224)), (1, .ref (wA B 0)), (0, .ref b)]) hx hb dL_law_1640 hl (by decide) rfl (fun ls hl => ?_)
  refine lv_aload_n hx hb dL_law_1642 rfl (lv_at hl 4 rfl) ?_
  refine cV (As := []) (rest := []) (k := 224) (ci := 10) (T := TX12) (N := 22) C0 w (m_X12_thrown l B _ σ2 _ rfl) ky_X12_thrown kv_X12_thrown lk_L_111 rfl (by decide +kernel) ⟨Nat.le_of_ble_eq_true rfl, Nat.le_of_ble_eq_true rfl⟩ ⟨hc, hs⟩ rfl (by rfl) (Nat.le_of_ble_eq_true rfl) hl.1 dL_law_1643 (fun H locs w => ?_)
  refine lv_iload hx hb dL_law_1646 (lv_at hl 1 rfl) ?_
  refine lv_icmp_eq (tgt := 1653) hx hb dL_law_1648 (by decide) (fun _ => ?_) (fun c1 => absurd e3 c1)
  refine lv_iload hx hb dL_law_1653 (lv_at hl 1 rfl) ?_
  refine lv_if_ne (tgt := 1670) hx hb dL_law_1655 (by decide) (fun c1 => ?_) (fun c1 => ?_)
  · refine lv_goto (tgt := 1947) hx hb dL_law_1670 (by decide) ?_
    exact kk σ2 H locs ls w hJ2 (lv_sub hl [2, 3, 4, 5, 6] rfl)
  · refine lv_aload_n hx hb dL_law_1658 rfl (lv_at hl 3 rfl) ?_
    refine lv_iconst (v := 0) hx hb dL_law_1659 (by decide) ?_
    refine aL C0 w (n := 1) (by decide +kernel) (inbE (by decide)) dL_law_1660 ?_
    refine lv_iload hx hb dL_law_1661 (lv_at hl 0 rfl) ?_
    refine lv_i2l hx hb dL_law_1663 rfl ?_
    refine lc_eq (tgt := 1670) C0 dL_law_1664 dL_law_1665 (by decide) (fun _ => ?_) (fun c2 => absurd (e4 c1) c2)
    refine lv_goto (tgt := 1947) hx hb dL_law_1670 (by decide) ?_
    exact kk σ2 H locs ls w hJ2 (lv_sub hl [2, 3, 4, 5, 6] rfl)
set_option maxHeartbeats 4000000 in
set_option maxRecDepth 100000 in
theorem law_22 (hfl : l.stackTraces = false) (C0 : Cx p s m args meth c cL_law 8 RL) (w : Wx B σ s H locs) (X : LX b L xs B s) (hJ : JX σ) {i : Nat} (hi : i + 5 ≤ L) (hl : lv_has ls 8 (LB b B i)) (hcs : cells + 1 ≤ 601024 ∧ slots + 6 ≤ 7293034) (kk : ∀ σ' H locs ls, Wx B σ' s H locs → JX σ' → lv_has ls 8 (LB b B i) → W p l e room_1 s m args below meth c H locs (cells + 1) (slots + 6) Q (F0 m 1947 ls [])) : W p l e room_1 s m args below meth c H locs cells slots Q (F0 m 1673 ls []) := by
  have hx := C0.1.1
  have hb := C0.1.2.1
  have hl : lv_has ls 8 [(4, .int (nI i)), (3, .ref (wA B 239)), (2, .ref (wA B 224)), (1, .ref (wA B 0)), (0, .ref b)] := hl
  obtain ⟨hc, hs⟩ := hcs
  obtain ⟨W9, H9, n9, hs9, sc9, hJ⟩ := hJ
  refine lv_aload_n hx hb dL_law_1673 rfl (lv_at hl 3 rfl) ?_
  have hop : OpL (hlpL xIA xIA (f_X11_fit (xs (i + 1)))) (f_X12_fit (xs (i + 1))) σ := agr1_L hJ (ag_fit hJ)
  obtain ⟨k9, σ1, b9, σ2, e1, e2, e3, e4, hJ2⟩ := hop
  refine lawA C0 w X (i := i) (q := 1) (by omega) (lv_at hl 0 rfl) (lv_at hl 4 rfl) (by decide +kernel) (n4_add i 1) dL_law_1674 dL_law_1675 dL_law_1677 dL_law_1678 dL_law_1679 ?_
  refine lv_aload_n hx hb dL_law_1680 rfl (lv_at hl 1 rfl) ?_
  refine cSL (As := [.ref (wA B 0), .int (xs (i + 1)), .ref (wA B 239)]) (rest := []) (hh := [(0, 8, 11, 13)]) C0 w (m_L_fit l hfl B _ σ (xs (i + 1)) k9 σ1 e1) kw_L_fit ks_L_fit lk_L_186 ⟨rfl, rfl⟩ ⟨Nat.le_of_ble_eq_true rfl, Nat.le_of_ble_eq_true rfl⟩ ⟨hc, hs⟩ rfl (by rfl) (Nat.le_of_ble_eq_true rfl) hl.1 dL_law_1681 (fun H locs w => ?_)
  refine lv_istore (lv' := [(5, .int k9), (4, .int (nI i)), (3, .ref (wA B 239)), (2, .ref (wA B 224)), (1, .ref (wA B 0)), (0, .ref b)]) hx hb dL_law_1684 hl (by decide) rfl (fun ls hl => ?_)
  refine lv_aload_n hx hb dL_law_1686 rfl (lv_at hl 3 rfl) ?_
  refine lawA C0 w X (i := i) (q := 1) (by omega) (lv_at hl 1 rfl) (lv_at hl 5 rfl) (by decide +kernel) (n4_add i 1) dL_law_1687 dL_law_1688 dL_law_1690 dL_law_1691 dL_law_1692 ?_
  refine cV (As := [.int (xs (i + 1))]) (rest := []) (k := 224) (ci := 10) (T := TX12) (N := 22) C0 w (m_X12_fit l B _ σ1 (xs (i + 1)) (b9, σ2) e2) ky_X12_fit kv_X12_fit lk_L_188 rfl (by decide +kernel) ⟨Nat.le_of_ble_eq_true rfl, Nat.le_of_ble_eq_true rfl⟩ ⟨hc, hs⟩ rfl (by rfl) (Nat.le_of_ble_eq_true rfl) hl.1 dL_law_1693 (fun H locs w => ?_)
  refine lv_lstore (lv' := [(6, .long b9), (5, .int k9), (4, .int (nI i)), (3, .ref (wA B 239)), (2, .ref (wA B 224)), (1, .ref (wA B 0)), (0, .ref b)]) hx hb dL_law_1696 hl (by decide) rfl (fun ls hl => ?_)
  refine lv_aload_n hx hb dL_law_1698 rfl (lv_at hl 4 rfl) ?_
  refine cV (As := []) (rest := []) (k := 224) (ci := 10) (T := TX12) (N := 22) C0 w (m_X12_thrown l B _ σ2 _ rfl) ky_X12_thrown kv_X12_thrown lk_L_111 rfl (by decide +kernel) ⟨Nat.le_of_ble_eq_true rfl, Nat.le_of_ble_eq_true rfl⟩ ⟨hc, hs⟩ rfl (by rfl) (Nat.le_of_ble_eq_true rfl) hl.1 dL_law_1699 (fun H locs w => ?_)
  refine lv_iload hx hb dL_law_1702 (lv_at hl 1 rfl) ?_
  refine lv_icmp_eq (tgt := 1709) hx hb dL_law_1704 (by decide) (fun _ => ?_) (fun c1 => absurd e3 c1)
  refine lv_iload hx hb dL_law_1709 (lv_at hl 1 rfl) ?_
  refine lv_if_ne (tgt := 1725) hx hb dL_law_1711 (by decide) (fun c1 => ?_) (fun c1 => ?_)
  · refine lv_goto (tgt := 1947) hx hb dL_law_1725 (by decide) ?_
    exact kk σ2 H locs ls w hJ2 (lv_sub hl [2, 3, 4, 5, 6] rfl)
  · refine lv_aload_n hx hb dL_law_1714 rfl (lv_at hl 3 rfl) ?_
    refine lv_iconst (v := 0) hx hb dL_law_1715 (by decide) ?_
    refine aL C0 w (n := 1) (by decide +kernel) (inbE (by decide)) dL_law_1716 ?_
    refine lv_lload hx hb dL_law_1717 (lv_at hl 0 rfl) ?_
    refine lc_eq (tgt := 1725) C0 dL_law_1719 dL_law_1720 (by decide) (fun _ => ?_) (fun c2 => absurd (e4 c1) c2)
    refine lv_goto (tgt := 1947) hx hb dL_law_1725 (by decide) ?_
    exact kk σ2 H locs ls w hJ2 (lv_sub hl [2, 3, 4, 5, 6] rfl)
set_option maxHeartbeats 4000000 in
set_option maxRecDepth 100000 in
theorem law_23 (hfl : l.stackTraces = false) (C0 : Cx p s m args meth c cL_law 8 RL) (w : Wx B σ s H locs) (X : LX b L xs B s) (hJ : JX σ) {i : Nat} (hi : i + 5 ≤ L) (hl : lv_has ls 8 (LB b B i)) (hcs : cells + 1 ≤ 601024 ∧ slots + 6 ≤ 7293034) (kk : ∀ σ' H locs ls, Wx B σ' s H locs → JX σ' → lv_has ls 8 (LB b B i) → W p l e room_1 s m args below meth c H locs (cells + 1) (slots + 6) Q (F0 m 1947 ls [])) : W p l e room_1 s m args below meth c H locs cells slots Q (F0 m 1728 ls []) := by
  have hx := C0.1.1
  have hb := C0.1.2.1
  have hl : lv_has ls 8 [(4, .int (nI i)), (3, .ref (wA B 239)), (2, .ref (wA B 224)), (1, .ref (wA B 0)), (0, .ref b)] := hl
  obtain ⟨hc, hs⟩ := hcs
  obtain ⟨W9, H9, n9, hs9, sc9, hJ⟩ := hJ
  refine lv_aload_n hx hb dL_law_1728 rfl (lv_at hl 3 rfl) ?_
  have hop : OpL (hlpL xIO xIA (f_X11_whatIf (xs (i + 1)) (xs (i + 2)) (xs (i + 3)))) (f_X12_whatIf (xs (i + 1)) (xs (i + 2)) (xs (i + 3))) σ := agr_L hJ (by decide +kernel) (ag_whatIf hJ)
  obtain ⟨k9, σ1, b9, σ2, e1, e2, e3, e4, hJ2⟩ := hop
  refine lawA C0 w X (i := i) (q := 1) (by omega) (lv_at hl 0 rfl) (lv_at hl 4 rfl) (by decide +kernel) (n4_add i 1) dL_law_1729 dL_law_1730 dL_law_1732 dL_law_1733 dL_law_1734 ?_
  refine lawA C0 w X (i := i) (q := 2) (by omega) (lv_at hl 0 rfl) (lv_at hl 4 rfl) (by decide +kernel) (n4_add i 2) dL_law_1735 dL_law_1736 dL_law_1738 dL_law_1739 dL_law_1740 ?_
  refine lawA C0 w X (i := i) (q := 3) (by omega) (lv_at hl 0 rfl) (lv_at hl 4 rfl) (by decide +kernel) (n4_add i 3) dL_law_1741 dL_law_1742 dL_law_1744 dL_law_1745 dL_law_1746 ?_
  refine lv_aload_n hx hb dL_law_1747 rfl (lv_at hl 1 rfl) ?_
  refine cSL (As := [.ref (wA B 0), .int (xs (i + 1)), .int (xs (i + 2)), .int (xs (i + 3)), .ref (wA B 239)]) (rest := []) (hh := [(0, 11, 14, 18), (0, 11, 18, 13)]) C0 w (m_L_whatIf l hfl B _ σ (xs (i + 1)) (xs (i + 2)) (xs (i + 3)) k9 σ1 e1) kw_L_whatIf ks_L_whatIf lk_L_189 ⟨rfl, rfl⟩ ⟨Nat.le_of_ble_eq_true rfl, Nat.le_of_ble_eq_true rfl⟩ ⟨hc, hs⟩ rfl (by rfl) (Nat.le_of_ble_eq_true rfl) hl.1 dL_law_1748 (fun H locs w => ?_)
  refine lv_istore (lv' := [(5, .int k9), (4, .int (nI i)), (3, .ref (wA B 239)), (2, .ref (wA B 224)), (1, .ref (wA B 0)), (0, .ref b)]) hx hb dL_law_1751 hl (by decide) rfl (fun ls hl => ?_)
  refine lv_aload_n hx hb dL_law_1753 rfl (lv_at hl 3 rfl) ?_
  refine lawA C0 w X (i := i) (q := 1) (by omega) (lv_at hl 1 rfl) (lv_at hl 5 rfl) (by decide +kernel) (n4_add i 1) dL_law_1754 dL_law_1755 dL_law_1757 dL_law_1758 dL_law_1759 ?_
  refine lawA C0 w X (i := i) (q := 2) (by omega) (lv_at hl 1 rfl) (lv_at hl 5 rfl) (by decide +kernel) (n4_add i 2) dL_law_1760 dL_law_1761 dL_law_1763 dL_law_1764 dL_law_1765 ?_
  refine lawA C0 w X (i := i) (q := 3) (by omega) (lv_at hl 1 rfl) (lv_at hl 5 rfl) (by decide +kernel) (n4_add i 3) dL_law_1766 dL_law_1767 dL_law_1769 dL_law_1770 dL_law_1771 ?_
  refine cV (As := [.int (xs (i + 1)), .int (xs (i + 2)), .int (xs (i + 3))]) (rest := []) (k := 224) (ci := 10) (T := TX12) (N := 22) C0 w (m_X12_whatIf l B _ σ1 (xs (i + 1)) (xs (i + 2)) (xs (i + 3)) (b9, σ2) e2) ky_X12_whatIf kv_X12_whatIf lk_L_191 rfl (by decide +kernel) ⟨Nat.le_of_ble_eq_true rfl, Nat.le_of_ble_eq_true rfl⟩ ⟨hc, hs⟩ rfl (by rfl) (Nat.le_of_ble_eq_true rfl) hl.1 dL_law_1772 (fun H locs w => ?_)
  refine lv_lstore (lv' := [(6, .long b9), (5, .int k9), (4, .int (nI i)), (3, .ref (wA B 239)), (2, .ref (wA B 224)), (1, .ref (wA B 0)), (0, .ref b)]) hx hb dL_law_1775 hl (by decide) rfl (fun ls hl => ?_)
  refine lv_aload_n hx hb dL_law_1777 rfl (lv_at hl 4 rfl) ?_
  refine cV (As := []) (rest := []) (k := 224) (ci := 10) (T := TX12) (N := 22) C0 w (m_X12_thrown l B _ σ2 _ rfl) ky_X12_thrown kv_X12_thrown lk_L_111 rfl (by decide +kernel) ⟨Nat.le_of_ble_eq_true rfl, Nat.le_of_ble_eq_true rfl⟩ ⟨hc, hs⟩ rfl (by rfl) (Nat.le_of_ble_eq_true rfl) hl.1 dL_law_1778 (fun H locs w => ?_)
  refine lv_iload hx hb dL_law_1781 (lv_at hl 1 rfl) ?_
  refine lv_icmp_eq (tgt := 1788) hx hb dL_law_1783 (by decide) (fun _ => ?_) (fun c1 => absurd e3 c1)
  refine lv_iload hx hb dL_law_1788 (lv_at hl 1 rfl) ?_
  refine lv_if_ne (tgt := 1804) hx hb dL_law_1790 (by decide) (fun c1 => ?_) (fun c1 => ?_)
  · refine lv_goto (tgt := 1947) hx hb dL_law_1804 (by decide) ?_
    exact kk σ2 H locs ls w hJ2 (lv_sub hl [2, 3, 4, 5, 6] rfl)
  · refine lv_aload_n hx hb dL_law_1793 rfl (lv_at hl 3 rfl) ?_
    refine lv_iconst (v := 0) hx hb dL_law_1794 (by decide) ?_
    refine aL C0 w (n := 1) (by decide +kernel) (inbE (by decide)) dL_law_1795 ?_
    refine lv_lload hx hb dL_law_1796 (lv_at hl 0 rfl) ?_
    refine lc_eq (tgt := 1804) C0 dL_law_1798 dL_law_1799 (by decide) (fun _ => ?_) (fun c2 => absurd (e4 c1) c2)
    refine lv_goto (tgt := 1947) hx hb dL_law_1804 (by decide) ?_
    exact kk σ2 H locs ls w hJ2 (lv_sub hl [2, 3, 4, 5, 6] rfl)
set_option maxHeartbeats 4000000 in
set_option maxRecDepth 100000 in
theorem law_24 (hfl : l.stackTraces = false) (C0 : Cx p s m args meth c cL_law 8 RL) (w : Wx B σ s H locs) (X : LX b L xs B s) (hJ : JX σ) {i : Nat} (hi : i + 5 ≤ L) (hl : lv_has ls 8 (LB b B i)) (hcs : cells + 1 ≤ 601024 ∧ slots + 6 ≤ 7293034) (kk : ∀ σ' H locs ls, Wx B σ' s H locs → JX σ' → lv_has ls 8 (LB b B i) → W p l e room_1 s m args below meth c H locs (cells + 1) (slots + 6) Q (F0 m 1947 ls [])) : W p l e room_1 s m args below meth c H locs cells slots Q (F0 m 1807 ls []) := by
  have hx := C0.1.1
  have hb := C0.1.2.1
  have hl : lv_has ls 8 [(4, .int (nI i)), (3, .ref (wA B 239)), (2, .ref (wA B 224)), (1, .ref (wA B 0)), (0, .ref b)] := hl
  obtain ⟨hc, hs⟩ := hcs
  obtain ⟨W9, H9, n9, hs9, sc9, hJ⟩ := hJ
  refine lv_aload_n hx hb dL_law_1807 rfl (lv_at hl 3 rfl) ?_
  have hop : OpI (hlpI xIA xIS (f_X11_type (xs (i + 1)))) (f_X12_type (xs (i + 1))) σ := agr_I hJ (by decide +kernel) (ag_type hJ)
  obtain ⟨k9, σ1, b9, σ2, e1, e2, e3, e4, hJ2⟩ := hop
  refine lawA C0 w X (i := i) (q := 1) (by omega) (lv_at hl 0 rfl) (lv_at hl 4 rfl) (by decide +kernel) (n4_add i 1) dL_law_1808 dL_law_1809 dL_law_1811 dL_law_1812 dL_law_1813 ?_
  refine lv_aload_n hx hb dL_law_1814 rfl (lv_at hl 1 rfl) ?_
  refine cSL (As := [.ref (wA B 0), .int (xs (i + 1)), .ref (wA B 239)]) (rest := []) (hh := [(0, 9, 12, 13), (0, 9, 15, 33)]) C0 w (m_L_type l hfl B _ σ (xs (i + 1)) k9 σ1 e1) kw_L_type ks_L_type lk_L_192 ⟨rfl, rfl⟩ ⟨Nat.le_of_ble_eq_true rfl, Nat.le_of_ble_eq_true rfl⟩ ⟨hc, hs⟩ rfl (by rfl) (Nat.le_of_ble_eq_true rfl) hl.1 dL_law_1815 (fun H locs w => ?_)
  refine lv_istore (lv' := [(5, .int k9), (4, .int (nI i)), (3, .ref (wA B 239)), (2, .ref (wA B 224)), (1, .ref (wA B 0)), (0, .ref b)]) hx hb dL_law_1818 hl (by decide) rfl (fun ls hl => ?_)
  refine lv_aload_n hx hb dL_law_1820 rfl (lv_at hl 3 rfl) ?_
  refine lawA C0 w X (i := i) (q := 1) (by omega) (lv_at hl 1 rfl) (lv_at hl 5 rfl) (by decide +kernel) (n4_add i 1) dL_law_1821 dL_law_1822 dL_law_1824 dL_law_1825 dL_law_1826 ?_
  refine cV (As := [.int (xs (i + 1))]) (rest := []) (k := 224) (ci := 10) (T := TX12) (N := 22) C0 w (m_X12_type l B _ σ1 (xs (i + 1)) (b9, σ2) e2) ky_X12_type kv_X12_type lk_L_194 rfl (by decide +kernel) ⟨Nat.le_of_ble_eq_true rfl, Nat.le_of_ble_eq_true rfl⟩ ⟨hc, hs⟩ rfl (by rfl) (Nat.le_of_ble_eq_true rfl) hl.1 dL_law_1827 (fun H locs w => ?_)
  refine lv_istore (lv' := [(6, .int b9), (5, .int k9), (4, .int (nI i)), (3, .ref (wA B 239)), (2, .ref (wA B 224)), (1, .ref (wA B 0)), (0, .ref b)]) hx hb dL_law_1830 hl (by decide) rfl (fun ls hl => ?_)
  refine lv_aload_n hx hb dL_law_1832 rfl (lv_at hl 4 rfl) ?_
  refine cV (As := []) (rest := []) (k := 224) (ci := 10) (T := TX12) (N := 22) C0 w (m_X12_thrown l B _ σ2 _ rfl) ky_X12_thrown kv_X12_thrown lk_L_111 rfl (by decide +kernel) ⟨Nat.le_of_ble_eq_true rfl, Nat.le_of_ble_eq_true rfl⟩ ⟨hc, hs⟩ rfl (by rfl) (Nat.le_of_ble_eq_true rfl) hl.1 dL_law_1833 (fun H locs w => ?_)
  refine lv_iload hx hb dL_law_1836 (lv_at hl 1 rfl) ?_
  refine lv_icmp_eq (tgt := 1843) hx hb dL_law_1838 (by decide) (fun _ => ?_) (fun c1 => absurd e3 c1)
  refine lv_iload hx hb dL_law_1843 (lv_at hl 1 rfl) ?_
  refine lv_if_ne (tgt := 1860) hx hb dL_law_1845 (by decide) (fun c1 => ?_) (fun c1 => ?_)
  · refine lv_goto (tgt := 1947) hx hb dL_law_1860 (by decide) ?_
    exact kk σ2 H locs ls w hJ2 (lv_sub hl [2, 3, 4, 5, 6] rfl)
  · refine lv_aload_n hx hb dL_law_1848 rfl (lv_at hl 3 rfl) ?_
    refine lv_iconst (v := 0) hx hb dL_law_1849 (by decide) ?_
    refine aL C0 w (n := 1) (by decide +kernel) (inbE (by decide)) dL_law_1850 ?_
    refine lv_iload hx hb dL_law_1851 (lv_at hl 0 rfl) ?_
    refine lv_i2l hx hb dL_law_1853 rfl ?_
    refine lc_eq (tgt := 1860) C0 dL_law_1854 dL_law_1855 (by decide) (fun _ => ?_) (fun c2 => absurd (e4 c1) c2)
    refine lv_goto (tgt := 1947) hx hb dL_law_1860 (by decide) ?_
    exact kk σ2 H locs ls w hJ2 (lv_sub hl [2, 3, 4, 5, 6] rfl)
set_option maxHeartbeats 4000000 in
set_option maxRecDepth 100000 in
theorem law_25 (hfl : l.stackTraces = false) (C0 : Cx p s m args meth c cL_law 8 RL) (w : Wx B σ s H locs) (X : LX b L xs B s) (hJ : JX σ) {i : Nat} (hi : i + 5 ≤ L) (hl : lv_has ls 8 (LB b B i)) (hcs : cells + 1 ≤ 601024 ∧ slots + 6 ≤ 7293034) (kk : ∀ σ' H locs ls, Wx B σ' s H locs → JX σ' → lv_has ls 8 (LB b B i) → W p l e room_1 s m args below meth c H locs (cells + 1) (slots + 6) Q (F0 m 1947 ls [])) : W p l e room_1 s m args below meth c H locs cells slots Q (F0 m 1863 ls []) := by
  have hx := C0.1.1
  have hb := C0.1.2.1
  have hl : lv_has ls 8 [(4, .int (nI i)), (3, .ref (wA B 239)), (2, .ref (wA B 224)), (1, .ref (wA B 0)), (0, .ref b)] := hl
  obtain ⟨hc, hs⟩ := hcs
  obtain ⟨W9, H9, n9, hs9, sc9, hJ⟩ := hJ
  obtain ⟨v9, σ1, σ2, e1, e2, hJ2⟩ := ag_clear hJ
  refine lv_aload_n hx hb dL_law_1863 rfl (lv_at hl 3 rfl) ?_
  have hc0 : cells ≤ 601024 := by omega
  have hs0 : slots ≤ 7293034 := by omega
  refine cV (As := []) (rest := []) (k := 0) (ci := 9) (T := TX11) (N := 9) C0 w (m_X11_clearScript l B _ σ (v9, σ1) e1) ky_X11_clearScript kv_X11_clearScript lk_L_195 rfl (by decide +kernel) ⟨Nat.le_of_ble_eq_true rfl, Nat.le_of_ble_eq_true rfl⟩ ⟨hc0, hs0⟩ rfl (by rfl) (Nat.le_of_ble_eq_true rfl) hl.1 dL_law_1864 (fun H locs w => ?_)
  refine lv_aload_n hx hb dL_law_1867 rfl (lv_at hl 2 rfl) ?_
  refine cV (As := []) (rest := [.int v9]) (k := 224) (ci := 10) (T := TX12) (N := 22) C0 w (m_X12_clearScript l B _ σ1 (v9, σ2) e2) ky_X12_clearScript kv_X12_clearScript lk_L_198 rfl (by decide +kernel) ⟨Nat.le_of_ble_eq_true rfl, Nat.le_of_ble_eq_true rfl⟩ ⟨hc0, hs0⟩ rfl (by rfl) (Nat.le_of_ble_eq_true rfl) hl.1 dL_law_1868 (fun H locs w => ?_)
  refine lv_icmp_eq (tgt := 1947) hx hb dL_law_1871 (by decide) (fun _ => ?_) (fun c1 => absurd rfl c1)
  refine W.widen (k := cells + 1) (n := slots + 6) (Nat.le_succ _) (Nat.le_add_right _ 6) ?_
  exact kk σ2 H locs ls w hJ2 hl
set_option maxHeartbeats 4000000 in
set_option maxRecDepth 100000 in
theorem law_26 (hfl : l.stackTraces = false) (C0 : Cx p s m args meth c cL_law 8 RL) (w : Wx B σ s H locs) (X : LX b L xs B s) (hJ : JX σ) {i : Nat} (hi : i + 5 ≤ L) (hl : lv_has ls 8 (LB b B i)) (hcs : cells + 1 ≤ 601024 ∧ slots + 6 ≤ 7293034) (kk : ∀ σ' H locs ls, Wx B σ' s H locs → JX σ' → lv_has ls 8 (LB b B i) → W p l e room_1 s m args below meth c H locs (cells + 1) (slots + 6) Q (F0 m 1947 ls [])) : W p l e room_1 s m args below meth c H locs cells slots Q (F0 m 1876 ls []) := by
  have hx := C0.1.1
  have hb := C0.1.2.1
  have hl : lv_has ls 8 [(4, .int (nI i)), (3, .ref (wA B 239)), (2, .ref (wA B 224)), (1, .ref (wA B 0)), (0, .ref b)] := hl
  obtain ⟨hc, hs⟩ := hcs
  obtain ⟨W9, H9, n9, hs9, sc9, hJ⟩ := hJ
  obtain ⟨v9, σ1, σ2, e1, e2, hJ2⟩ := ag_run hJ
  refine lv_aload_n hx hb dL_law_1876 rfl (lv_at hl 3 rfl) ?_
  have hc0 : cells ≤ 601024 := by omega
  have hs0 : slots ≤ 7293034 := by omega
  refine cV (As := []) (rest := []) (k := 0) (ci := 9) (T := TX11) (N := 9) C0 w (m_X11_run l B _ σ (v9, σ1) e1) ky_X11_run kv_X11_run lk_L_199 rfl (by decide +kernel) ⟨Nat.le_of_ble_eq_true rfl, Nat.le_of_ble_eq_true rfl⟩ ⟨hc0, hs0⟩ rfl (by rfl) (Nat.le_of_ble_eq_true rfl) hl.1 dL_law_1877 (fun H locs w => ?_)
  refine lv_aload_n hx hb dL_law_1880 rfl (lv_at hl 2 rfl) ?_
  refine cV (As := []) (rest := [.int v9]) (k := 224) (ci := 10) (T := TX12) (N := 22) C0 w (m_X12_run l B _ σ1 (v9, σ2) e2) ky_X12_run kv_X12_run lk_L_202 rfl (by decide +kernel) ⟨Nat.le_of_ble_eq_true rfl, Nat.le_of_ble_eq_true rfl⟩ ⟨hc0, hs0⟩ rfl (by rfl) (Nat.le_of_ble_eq_true rfl) hl.1 dL_law_1881 (fun H locs w => ?_)
  refine lv_icmp_eq (tgt := 1947) hx hb dL_law_1884 (by decide) (fun _ => ?_) (fun c1 => absurd rfl c1)
  refine W.widen (k := cells + 1) (n := slots + 6) (Nat.le_succ _) (Nat.le_add_right _ 6) ?_
  exact kk σ2 H locs ls w hJ2 hl
set_option maxHeartbeats 4000000 in
set_option maxRecDepth 100000 in
theorem law_27 (hfl : l.stackTraces = false) (C0 : Cx p s m args meth c cL_law 8 RL) (w : Wx B σ s H locs) (X : LX b L xs B s) (hJ : JX σ) {i : Nat} (hi : i + 5 ≤ L) (hl : lv_has ls 8 (LB b B i)) (hcs : cells + 1 ≤ 601024 ∧ slots + 6 ≤ 7293034) (kk : ∀ σ' H locs ls, Wx B σ' s H locs → JX σ' → lv_has ls 8 (LB b B i) → W p l e room_1 s m args below meth c H locs (cells + 1) (slots + 6) Q (F0 m 1947 ls [])) : W p l e room_1 s m args below meth c H locs cells slots Q (F0 m 1889 ls []) := by
  have hx := C0.1.1
  have hb := C0.1.2.1
  have hl : lv_has ls 8 [(4, .int (nI i)), (3, .ref (wA B 239)), (2, .ref (wA B 224)), (1, .ref (wA B 0)), (0, .ref b)] := hl
  obtain ⟨hc, hs⟩ := hcs
  obtain ⟨W9, H9, n9, hs9, sc9, hJ⟩ := hJ
  refine lv_aload_n hx hb dL_law_1889 rfl (lv_at hl 3 rfl) ?_
  have hop : OpI (hlpI xIS xIS f_X11_undo) f_X12_undo σ := agr1_I hJ (ag_undo hJ)
  obtain ⟨k9, σ1, b9, σ2, e1, e2, e3, e4, hJ2⟩ := hop
  refine lv_aload_n hx hb dL_law_1890 rfl (lv_at hl 1 rfl) ?_
  refine cSL (As := [.ref (wA B 0), .ref (wA B 239)]) (rest := []) (hh := [(0, 8, 11, 33)]) C0 w (m_L_undo l hfl B _ σ k9 σ1 e1) kw_L_undo ks_L_undo lk_L_203 ⟨rfl, rfl⟩ ⟨Nat.le_of_ble_eq_true rfl, Nat.le_of_ble_eq_true rfl⟩ ⟨hc, hs⟩ rfl (by rfl) (Nat.le_of_ble_eq_true rfl) hl.1 dL_law_1891 (fun H locs w => ?_)
  refine lv_istore (lv' := [(5, .int k9), (4, .int (nI i)), (3, .ref (wA B 239)), (2, .ref (wA B 224)), (1, .ref (wA B 0)), (0, .ref b)]) hx hb dL_law_1894 hl (by decide) rfl (fun ls hl => ?_)
  refine lv_aload_n hx hb dL_law_1896 rfl (lv_at hl 3 rfl) ?_
  refine cV (As := []) (rest := []) (k := 224) (ci := 10) (T := TX12) (N := 22) C0 w (m_X12_undo l B _ σ1 (b9, σ2) e2) ky_X12_undo kv_X12_undo lk_L_206 rfl (by decide +kernel) ⟨Nat.le_of_ble_eq_true rfl, Nat.le_of_ble_eq_true rfl⟩ ⟨hc, hs⟩ rfl (by rfl) (Nat.le_of_ble_eq_true rfl) hl.1 dL_law_1897 (fun H locs w => ?_)
  refine lv_istore (lv' := [(6, .int b9), (5, .int k9), (4, .int (nI i)), (3, .ref (wA B 239)), (2, .ref (wA B 224)), (1, .ref (wA B 0)), (0, .ref b)]) hx hb dL_law_1900 hl (by decide) rfl (fun ls hl => ?_)
  refine lv_aload_n hx hb dL_law_1902 rfl (lv_at hl 4 rfl) ?_
  refine cV (As := []) (rest := []) (k := 224) (ci := 10) (T := TX12) (N := 22) C0 w (m_X12_thrown l B _ σ2 _ rfl) ky_X12_thrown kv_X12_thrown lk_L_111 rfl (by decide +kernel) ⟨Nat.le_of_ble_eq_true rfl, Nat.le_of_ble_eq_true rfl⟩ ⟨hc, hs⟩ rfl (by rfl) (Nat.le_of_ble_eq_true rfl) hl.1 dL_law_1903 (fun H locs w => ?_)
  refine lv_iload hx hb dL_law_1906 (lv_at hl 1 rfl) ?_
  refine lv_icmp_eq (tgt := 1913) hx hb dL_law_1908 (by decide) (fun _ => ?_) (fun c1 => absurd e3 c1)
  refine lv_iload hx hb dL_law_1913 (lv_at hl 1 rfl) ?_
  refine lv_if_ne (tgt := 1930) hx hb dL_law_1915 (by decide) (fun c1 => ?_) (fun c1 => ?_)
  · refine lv_goto (tgt := 1947) hx hb dL_law_1930 (by decide) ?_
    exact kk σ2 H locs ls w hJ2 (lv_sub hl [2, 3, 4, 5, 6] rfl)
  · refine lv_aload_n hx hb dL_law_1918 rfl (lv_at hl 3 rfl) ?_
    refine lv_iconst (v := 0) hx hb dL_law_1919 (by decide) ?_
    refine aL C0 w (n := 1) (by decide +kernel) (inbE (by decide)) dL_law_1920 ?_
    refine lv_iload hx hb dL_law_1921 (lv_at hl 0 rfl) ?_
    refine lv_i2l hx hb dL_law_1923 rfl ?_
    refine lc_eq (tgt := 1930) C0 dL_law_1924 dL_law_1925 (by decide) (fun _ => ?_) (fun c2 => absurd (e4 c1) c2)
    refine lv_goto (tgt := 1947) hx hb dL_law_1930 (by decide) ?_
    exact kk σ2 H locs ls w hJ2 (lv_sub hl [2, 3, 4, 5, 6] rfl)
set_option maxHeartbeats 4000000 in
set_option maxRecDepth 100000 in
theorem law_28 (hfl : l.stackTraces = false) (C0 : Cx p s m args meth c cL_law 8 RL) (w : Wx B σ s H locs) (X : LX b L xs B s) (hJ : JX σ) {i : Nat} (hi : i + 5 ≤ L) (hl : lv_has ls 8 (LB b B i)) (hcs : cells + 1 ≤ 601024 ∧ slots + 6 ≤ 7293034) (kk : ∀ σ' H locs ls, Wx B σ' s H locs → JX σ' → lv_has ls 8 (LB b B i) → W p l e room_1 s m args below meth c H locs (cells + 1) (slots + 6) Q (F0 m 1947 ls [])) : W p l e room_1 s m args below meth c H locs cells slots Q (F0 m 1933 ls []) := by
  have hx := C0.1.1
  have hb := C0.1.2.1
  have hl : lv_has ls 8 [(4, .int (nI i)), (3, .ref (wA B 239)), (2, .ref (wA B 224)), (1, .ref (wA B 0)), (0, .ref b)] := hl
  obtain ⟨hc, hs⟩ := hcs
  obtain ⟨W9, H9, n9, hs9, sc9, hJ⟩ := hJ
  obtain ⟨v9, σ1, σ2, e1, e2, hJ2⟩ := ag_digest hJ
  refine lv_aload_n hx hb dL_law_1933 rfl (lv_at hl 3 rfl) ?_
  have hc0 : cells ≤ 601024 := by omega
  have hs0 : slots ≤ 7293034 := by omega
  refine cV (As := []) (rest := []) (k := 0) (ci := 9) (T := TX11) (N := 9) C0 w (m_X11_digest l B _ σ (v9, σ1) e1) ky_X11_digest kv_X11_digest lk_L_207 rfl (by decide +kernel) ⟨Nat.le_of_ble_eq_true rfl, Nat.le_of_ble_eq_true rfl⟩ ⟨hc0, hs0⟩ rfl (by rfl) (Nat.le_of_ble_eq_true rfl) hl.1 dL_law_1934 (fun H locs w => ?_)
  refine lv_aload_n hx hb dL_law_1937 rfl (lv_at hl 2 rfl) ?_
  refine cV (As := []) (rest := [.long v9]) (k := 224) (ci := 10) (T := TX12) (N := 22) C0 w (m_X12_digest l B _ σ1 (v9, σ2) e2) ky_X12_digest kv_X12_digest lk_L_211 rfl (by decide +kernel) ⟨Nat.le_of_ble_eq_true rfl, Nat.le_of_ble_eq_true rfl⟩ ⟨hc0, hs0⟩ rfl (by rfl) (Nat.le_of_ble_eq_true rfl) hl.1 dL_law_1938 (fun H locs w => ?_)
  refine lc_eq (tgt := 1947) C0 dL_law_1941 dL_law_1942 (by decide) (fun _ => ?_) (fun c1 => absurd rfl c1)
  refine W.widen (k := cells + 1) (n := slots + 6) (Nat.le_succ _) (Nat.le_add_right _ 6) ?_
  exact kk σ2 H locs ls w hJ2 hl
end LAWO
