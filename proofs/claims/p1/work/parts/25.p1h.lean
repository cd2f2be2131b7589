theorem am_wal {C : am_C} {d mi pc : Nat} {lv : am_V} {st : List Value} {h : List am_E} {Q : Option Value → List am_E → Prop} {len : Nat} {x : am_X} {l : List Int32} {v : Int32} (hat : am_at C mi pc = some (.arraylength, len, x)) (ha : C.2.2.2.1 = some l) (hv : Int32.ofNat l.length = v) (hg : am_W C d mi (pc + 1) lv (.int v :: st) h Q) : am_W C d mi pc lv (.ref 0 :: st) h Q := by
  refine am_w0 (z := (pc + 1, lv, .int v :: st, h)) hat rfl ?_ hg
  show am_len C.2.2.2.1 C.2.2.2.2 pc lv (.ref 0 :: st) h = _
  simp [am_len, ha, hv]
set_option maxRecDepth 100000 in
set_option maxHeartbeats 4000000 in
theorem pm_ren (xs : Option (List Int32)) (p : Int32) (q : Int64) (Q : Option Value → List am_E → Prop) (hQ : Q (some (.int (-1))) hp_5) : am_W (am_CX xs) 19 200 0 [(0, .ref 32), (1, .int p), (2, .long q)] [] hp_4 Q := by
  refine am_wn 2 (pc1 := 2) (lv1 := [(0, .ref 32), (1, .int p), (2, .long q)]) (st1 := [.int p, .ref 32]) (h1 := hp_4) rfl ?_
  refine am_wc rfl rfl rfl ?_
  show am_W _ _ 183 0 [(0, .ref 32), (1, .int p)] [] hp_4 _
  refine am_wn 1 (pc1 := 1) (lv1 := [(0, .ref 32), (1, .int p)]) (st1 := [.ref 32]) (h1 := hp_4) rfl ?_
  refine am_wc rfl rfl rfl ?_
  refine am_wx cl_8 ?_
  show am_W _ _ 183 4 [(0, .ref 32), (1, .int p)] [.int 1] hp_5 _
  refine am_wn 8 (pc1 := 58) (lv1 := [(3, .int 0), (2, .int 1), (0, .ref 32), (1, .int p)]) (st1 := [.int (-1)]) (h1 := hp_5) rfl ?_
  refine am_wr rfl rfl rfl ?_
  show am_W _ _ 200 5 [(0, .ref 32), (1, .int p), (2, .long q)] [.int (-1)] hp_5 _
  refine am_wn 2 (pc1 := 8) (lv1 := [(4, .int (-1)), (0, .ref 32), (1, .int p), (2, .long q)]) (st1 := [.long q]) (h1 := hp_5) rfl ?_
  refine am_wc rfl rfl rfl ?_
  refine em_nl _ _ _ _ _ (fun v => ?_)
  show am_W _ _ 200 11 [(4, .int (-1)), (0, .ref 32), (1, .int p), (2, .long q)] [.int v] hp_5 _
  refine am_wn 4 (pc1 := 24) (lv1 := [(5, .int v), (4, .int (-1)), (0, .ref 32), (1, .int p), (2, .long q)]) (st1 := [.int (-1)]) (h1 := hp_5) rfl ?_
  refine am_wr rfl rfl rfl ?_
  exact hQ
set_option maxRecDepth 100000 in
set_option maxHeartbeats 4000000 in
theorem pl_1 (w0 w1 w2 w3 w4 : Int32) (hw : w0 &&& 15 = nI 1) : am_W (am_CX (some [w0, w1, w2, w3, w4])) 20 0 26 [(3, .int 0), (2, .ref 32), (1, .ref 2), (0, .ref 0)] [] hp_0 (fun r _ => r = some (.int 1)) := by
  refine am_wn 5 (pc1 := 32) (lv1 := [(3, .int 0), (2, .ref 32), (1, .ref 2), (0, .ref 0)]) (st1 := [.int (w0 &&& 15)]) (h1 := hp_0) rfl ?_
  refine am_wsw (tgt := 185) rfl (by rw [hw]; decide +kernel) ?_
  refine am_wn 1 (pc1 := 186) (lv1 := [(3, .int 0), (2, .ref 32), (1, .ref 2), (0, .ref 0)]) (st1 := [.ref 2]) (h1 := hp_0) rfl ?_
  refine am_wc rfl rfl rfl ?_
  refine am_wx cl_9 ?_
  show am_W _ _ 0 189 [(3, .int 0), (2, .ref 32), (1, .ref 2), (0, .ref 0)] [.int 0] hp_0 _
  refine am_wn 1 (pc1 := 190) (lv1 := [(3, .int 0), (2, .ref 32), (1, .ref 2), (0, .ref 0)]) (st1 := [.ref 32, .int 0]) (h1 := hp_0) rfl ?_
  refine am_wc rfl rfl rfl ?_
  refine am_wx cl_10 ?_
  show am_W _ _ 0 193 [(3, .int 0), (2, .ref 32), (1, .ref 2), (0, .ref 0)] [.int 0, .int 0] hp_0 _
  refine am_wn 5 (pc1 := 20) (lv1 := [(3, .int 5), (2, .ref 32), (1, .ref 2), (0, .ref 0)]) (st1 := [.ref 0, .int 5]) (h1 := hp_0) rfl ?_
  refine am_wal (v := 5) rfl rfl (congrArg Int32.ofNat (rfl : ([w0, w1, w2, w3, w4] : List Int32).length = 5)) ?_
  refine am_wn 4 (pc1 := 537) (lv1 := [(3, .int 5), (2, .ref 32), (1, .ref 2), (0, .ref 0)]) (st1 := [.int 1]) (h1 := hp_0) rfl ?_
  refine am_wr rfl rfl rfl ?_
  rfl
set_option maxRecDepth 100000 in
set_option maxHeartbeats 4000000 in
theorem pl_2 (w0 w1 w2 w3 w4 : Int32) (hw : w0 &&& 15 = nI 2) : am_W (am_CX (some [w0, w1, w2, w3, w4])) 20 0 26 [(3, .int 0), (2, .ref 32), (1, .ref 2), (0, .ref 0)] [] hp_0 (fun r _ => r = some (.int 1)) := by
  refine am_wn 5 (pc1 := 32) (lv1 := [(3, .int 0), (2, .ref 32), (1, .ref 2), (0, .ref 0)]) (st1 := [.int (w0 &&& 15)]) (h1 := hp_0) rfl ?_
  refine am_wsw (tgt := 198) rfl (by rw [hw]; decide +kernel) ?_
  refine am_wn 6 (pc1 := 204) (lv1 := [(3, .int 0), (2, .ref 32), (1, .ref 2), (0, .ref 0)]) (st1 := [.int w1, .ref 2]) (h1 := hp_0) rfl ?_
  refine am_wc rfl rfl rfl ?_
  refine px_ch _ _ _ ?_
  show am_W _ _ 0 207 [(3, .int 0), (2, .ref 32), (1, .ref 2), (0, .ref 0)] [.int (-1)] hp_0 _
  refine am_wn 6 (pc1 := 213) (lv1 := [(3, .int 0), (2, .ref 32), (1, .ref 2), (0, .ref 0)]) (st1 := [.int w1, .ref 32, .int (-1)]) (h1 := hp_0) rfl ?_
  refine am_wc rfl rfl rfl ?_
  refine pm_ch _ _ _ ?_
  show am_W _ _ 0 216 [(3, .int 0), (2, .ref 32), (1, .ref 2), (0, .ref 0)] [.int (-1), .int (-1)] hp_0 _
  refine am_wn 5 (pc1 := 20) (lv1 := [(3, .int 5), (2, .ref 32), (1, .ref 2), (0, .ref 0)]) (st1 := [.ref 0, .int 5]) (h1 := hp_0) rfl ?_
  refine am_wal (v := 5) rfl rfl (congrArg Int32.ofNat (rfl : ([w0, w1, w2, w3, w4] : List Int32).length = 5)) ?_
  refine am_wn 4 (pc1 := 537) (lv1 := [(3, .int 5), (2, .ref 32), (1, .ref 2), (0, .ref 0)]) (st1 := [.int 1]) (h1 := hp_0) rfl ?_
  refine am_wr rfl rfl rfl ?_
  rfl
set_option maxRecDepth 100000 in
set_option maxHeartbeats 4000000 in
theorem pl_3 (w0 w1 w2 w3 w4 : Int32) (hw : w0 &&& 15 = nI 3) : am_W (am_CX (some [w0, w1, w2, w3, w4])) 20 0 26 [(3, .int 0), (2, .ref 32), (1, .ref 2), (0, .ref 0)] [] hp_0 (fun r _ => r = some (.int 1)) := by
  refine am_wn 5 (pc1 := 32) (lv1 := [(3, .int 0), (2, .ref 32), (1, .ref 2), (0, .ref 0)]) (st1 := [.int (w0 &&& 15)]) (h1 := hp_0) rfl ?_
  refine am_wsw (tgt := 221) rfl (by rw [hw]; decide +kernel) ?_
  refine am_wn 1 (pc1 := 222) (lv1 := [(3, .int 0), (2, .ref 32), (1, .ref 2), (0, .ref 0)]) (st1 := [.ref 2]) (h1 := hp_0) rfl ?_
  refine am_wc rfl rfl rfl ?_
  refine am_wx cl_11 ?_
  show am_W _ _ 0 225 [(3, .int 0), (2, .ref 32), (1, .ref 2), (0, .ref 0)] [.int 1] hp_4 _
  refine am_wn 1 (pc1 := 226) (lv1 := [(3, .int 0), (2, .ref 32), (1, .ref 2), (0, .ref 0)]) (st1 := [.ref 32, .int 1]) (h1 := hp_4) rfl ?_
  refine am_wc rfl rfl rfl ?_
  refine am_wx cl_12 ?_
  show am_W _ _ 0 229 [(3, .int 0), (2, .ref 32), (1, .ref 2), (0, .ref 0)] [.int 1, .int 1] hp_5 _
  refine am_wn 5 (pc1 := 20) (lv1 := [(3, .int 5), (2, .ref 32), (1, .ref 2), (0, .ref 0)]) (st1 := [.ref 0, .int 5]) (h1 := hp_5) rfl ?_
  refine am_wal (v := 5) rfl rfl (congrArg Int32.ofNat (rfl : ([w0, w1, w2, w3, w4] : List Int32).length = 5)) ?_
  refine am_wn 4 (pc1 := 537) (lv1 := [(3, .int 5), (2, .ref 32), (1, .ref 2), (0, .ref 0)]) (st1 := [.int 1]) (h1 := hp_5) rfl ?_
  refine am_wr rfl rfl rfl ?_
  rfl
set_option maxRecDepth 100000 in
set_option maxHeartbeats 4000000 in
theorem pl_4 (w0 w1 w2 w3 w4 : Int32) (hw : w0 &&& 15 = nI 4) : am_W (am_CX (some [w0, w1, w2, w3, w4])) 20 0 26 [(3, .int 0), (2, .ref 32), (1, .ref 2), (0, .ref 0)] [] hp_0 (fun r _ => r = some (.int 1)) := by
  refine am_wn 5 (pc1 := 32) (lv1 := [(3, .int 0), (2, .ref 32), (1, .ref 2), (0, .ref 0)]) (st1 := [.int (w0 &&& 15)]) (h1 := hp_0) rfl ?_
  refine am_wsw (tgt := 234) rfl (by rw [hw]; decide +kernel) ?_
  refine am_wn 6 (pc1 := 240) (lv1 := [(3, .int 0), (2, .ref 32), (1, .ref 2), (0, .ref 0)]) (st1 := [.int w1, .ref 2]) (h1 := hp_0) rfl ?_
  refine am_wc rfl rfl rfl ?_
  refine px_tok _ _ _ ?_
  show am_W _ _ 0 243 [(3, .int 0), (2, .ref 32), (1, .ref 2), (0, .ref 0)] [.int (if w1 = 0 then 7 else -1)] hp_4 _
  refine am_wn 6 (pc1 := 249) (lv1 := [(3, .int 0), (2, .ref 32), (1, .ref 2), (0, .ref 0)]) (st1 := [.int w1, .ref 32, .int (if w1 = 0 then 7 else -1)]) (h1 := hp_4) rfl ?_
  refine am_wc rfl rfl rfl ?_
  refine pm_tok _ _ _ ?_
  show am_W _ _ 0 252 [(3, .int 0), (2, .ref 32), (1, .ref 2), (0, .ref 0)] [.int (if w1 = 0 then 7 else -1), .int (if w1 = 0 then 7 else -1)] hp_5 _
  refine am_wb2 rfl true (decide_eq_true rfl) rfl ?_
  refine am_wn 4 (pc1 := 20) (lv1 := [(3, .int 5), (2, .ref 32), (1, .ref 2), (0, .ref 0)]) (st1 := [.ref 0, .int 5]) (h1 := hp_5) rfl ?_
  refine am_wal (v := 5) rfl rfl (congrArg Int32.ofNat (rfl : ([w0, w1, w2, w3, w4] : List Int32).length = 5)) ?_
  refine am_wn 4 (pc1 := 537) (lv1 := [(3, .int 5), (2, .ref 32), (1, .ref 2), (0, .ref 0)]) (st1 := [.int 1]) (h1 := hp_5) rfl ?_
  refine am_wr rfl rfl rfl ?_
  rfl
set_option maxRecDepth 100000 in
set_option maxHeartbeats 4000000 in
theorem pl_5 (w0 w1 w2 w3 w4 : Int32) (hw : w0 &&& 15 = nI 5) : am_W (am_CX (some [w0, w1, w2, w3, w4])) 20 0 26 [(3, .int 0), (2, .ref 32), (1, .ref 2), (0, .ref 0)] [] hp_0 (fun r _ => r = some (.int 1)) := by
  refine am_wn 5 (pc1 := 32) (lv1 := [(3, .int 0), (2, .ref 32), (1, .ref 2), (0, .ref 0)]) (st1 := [.int (w0 &&& 15)]) (h1 := hp_0) rfl ?_
  refine am_wsw (tgt := 257) rfl (by rw [hw]; decide +kernel) ?_
  refine am_wn 1 (pc1 := 258) (lv1 := [(3, .int 0), (2, .ref 32), (1, .ref 2), (0, .ref 0)]) (st1 := [.ref 2]) (h1 := hp_0) rfl ?_
  refine am_wc rfl rfl rfl ?_
  refine am_wx cl_13 ?_
  show am_W _ _ 0 261 [(3, .int 0), (2, .ref 32), (1, .ref 2), (0, .ref 0)] [.int 0] hp_4 _
  refine am_wn 1 (pc1 := 262) (lv1 := [(3, .int 0), (2, .ref 32), (1, .ref 2), (0, .ref 0)]) (st1 := [.ref 32, .int 0]) (h1 := hp_4) rfl ?_
  refine am_wc rfl rfl rfl ?_
  refine am_wx cl_14 ?_
  show am_W _ _ 0 265 [(3, .int 0), (2, .ref 32), (1, .ref 2), (0, .ref 0)] [.int 0, .int 0] hp_5 _
  refine am_wn 5 (pc1 := 20) (lv1 := [(3, .int 5), (2, .ref 32), (1, .ref 2), (0, .ref 0)]) (st1 := [.ref 0, .int 5]) (h1 := hp_5) rfl ?_
  refine am_wal (v := 5) rfl rfl (congrArg Int32.ofNat (rfl : ([w0, w1, w2, w3, w4] : List Int32).length = 5)) ?_
  refine am_wn 4 (pc1 := 537) (lv1 := [(3, .int 5), (2, .ref 32), (1, .ref 2), (0, .ref 0)]) (st1 := [.int 1]) (h1 := hp_5) rfl ?_
  refine am_wr rfl rfl rfl ?_
  rfl
set_option maxRecDepth 100000 in
set_option maxHeartbeats 4000000 in
theorem pl_6 (w0 w1 w2 w3 w4 : Int32) (hw : w0 &&& 15 = nI 6) : am_W (am_CX (some [w0, w1, w2, w3, w4])) 20 0 26 [(3, .int 0), (2, .ref 32), (1, .ref 2), (0, .ref 0)] [] hp_0 (fun r _ => r = some (.int 1)) := by
  refine am_wn 5 (pc1 := 32) (lv1 := [(3, .int 0), (2, .ref 32), (1, .ref 2), (0, .ref 0)]) (st1 := [.int (w0 &&& 15)]) (h1 := hp_0) rfl ?_
  refine am_wsw (tgt := 270) rfl (by rw [hw]; decide +kernel) ?_
  refine am_wn 1 (pc1 := 271) (lv1 := [(3, .int 0), (2, .ref 32), (1, .ref 2), (0, .ref 0)]) (st1 := [.ref 2]) (h1 := hp_0) rfl ?_
  refine am_wc rfl rfl rfl ?_
  refine am_wx cl_15 ?_
  show am_W _ _ 0 274 [(3, .int 0), (2, .ref 32), (1, .ref 2), (0, .ref 0)] [.int (-1)] hp_4 _
  refine am_wn 1 (pc1 := 275) (lv1 := [(3, .int 0), (2, .ref 32), (1, .ref 2), (0, .ref 0)]) (st1 := [.ref 32, .int (-1)]) (h1 := hp_4) rfl ?_
  refine am_wc rfl rfl rfl ?_
  refine am_wx cl_16 ?_
  show am_W _ _ 0 278 [(3, .int 0), (2, .ref 32), (1, .ref 2), (0, .ref 0)] [.int (-1), .int (-1)] hp_5 _
  refine am_wn 5 (pc1 := 20) (lv1 := [(3, .int 5), (2, .ref 32), (1, .ref 2), (0, .ref 0)]) (st1 := [.ref 0, .int 5]) (h1 := hp_5) rfl ?_
  refine am_wal (v := 5) rfl rfl (congrArg Int32.ofNat (rfl : ([w0, w1, w2, w3, w4] : List Int32).length = 5)) ?_
  refine am_wn 4 (pc1 := 537) (lv1 := [(3, .int 5), (2, .ref 32), (1, .ref 2), (0, .ref 0)]) (st1 := [.int 1]) (h1 := hp_5) rfl ?_
  refine am_wr rfl rfl rfl ?_
  rfl
set_option maxRecDepth 100000 in
set_option maxHeartbeats 4000000 in
theorem pl_7 (w0 w1 w2 w3 w4 : Int32) (hw : w0 &&& 15 = nI 7) : am_W (am_CX (some [w0, w1, w2, w3, w4])) 20 0 26 [(3, .int 0), (2, .ref 32), (1, .ref 2), (0, .ref 0)] [] hp_0 (fun r _ => r = some (.int 1)) := by
  refine am_wn 5 (pc1 := 32) (lv1 := [(3, .int 0), (2, .ref 32), (1, .ref 2), (0, .ref 0)]) (st1 := [.int (w0 &&& 15)]) (h1 := hp_0) rfl ?_
  refine am_wsw (tgt := 283) rfl (by rw [hw]; decide +kernel) ?_
  refine am_wn 11 (pc1 := 294) (lv1 := [(3, .int 0), (2, .ref 32), (1, .ref 2), (0, .ref 0)]) (st1 := [.int w2, .int w1, .ref 2]) (h1 := hp_0) rfl ?_
  refine am_wc rfl rfl rfl ?_
  refine px_ext _ _ _ _ ?_
  show am_W _ _ 0 297 [(3, .int 0), (2, .ref 32), (1, .ref 2), (0, .ref 0)] [.int (-1)] hp_4 _
  refine am_wn 11 (pc1 := 308) (lv1 := [(3, .int 0), (2, .ref 32), (1, .ref 2), (0, .ref 0)]) (st1 := [.int w2, .int w1, .ref 32, .int (-1)]) (h1 := hp_4) rfl ?_
  refine am_wc rfl rfl rfl ?_
  refine pm_ext _ _ _ _ ?_
  show am_W _ _ 0 311 [(3, .int 0), (2, .ref 32), (1, .ref 2), (0, .ref 0)] [.int (-1), .int (-1)] hp_5 _
  refine am_wn 5 (pc1 := 20) (lv1 := [(3, .int 5), (2, .ref 32), (1, .ref 2), (0, .ref 0)]) (st1 := [.ref 0, .int 5]) (h1 := hp_5) rfl ?_
  refine am_wal (v := 5) rfl rfl (congrArg Int32.ofNat (rfl : ([w0, w1, w2, w3, w4] : List Int32).length = 5)) ?_
  refine am_wn 4 (pc1 := 537) (lv1 := [(3, .int 5), (2, .ref 32), (1, .ref 2), (0, .ref 0)]) (st1 := [.int 1]) (h1 := hp_5) rfl ?_
  refine am_wr rfl rfl rfl ?_
  rfl
set_option maxRecDepth 100000 in
set_option maxHeartbeats 4000000 in
theorem pl_8 (w0 w1 w2 w3 w4 : Int32) (hw : w0 &&& 15 = nI 8) : am_W (am_CX (some [w0, w1, w2, w3, w4])) 20 0 26 [(3, .int 0), (2, .ref 32), (1, .ref 2), (0, .ref 0)] [] hp_0 (fun r _ => r = some (.int 1)) := by
  refine am_wn 5 (pc1 := 32) (lv1 := [(3, .int 0), (2, .ref 32), (1, .ref 2), (0, .ref 0)]) (st1 := [.int (w0 &&& 15)]) (h1 := hp_0) rfl ?_
  refine am_wsw (tgt := 316) rfl (by rw [hw]; decide +kernel) ?_
  refine am_wn 1 (pc1 := 317) (lv1 := [(3, .int 0), (2, .ref 32), (1, .ref 2), (0, .ref 0)]) (st1 := [.ref 2]) (h1 := hp_0) rfl ?_
  refine am_wc rfl rfl rfl ?_
  refine am_wx cl_17 ?_
  show am_W _ _ 0 320 [(3, .int 0), (2, .ref 32), (1, .ref 2), (0, .ref 0)] [.int 1] hp_4 _
  refine am_wn 1 (pc1 := 321) (lv1 := [(3, .int 0), (2, .ref 32), (1, .ref 2), (0, .ref 0)]) (st1 := [.ref 32, .int 1]) (h1 := hp_4) rfl ?_
  refine am_wc rfl rfl rfl ?_
  refine am_wx cl_18 ?_
  show am_W _ _ 0 324 [(3, .int 0), (2, .ref 32), (1, .ref 2), (0, .ref 0)] [.int 1, .int 1] hp_5 _
  refine am_wn 5 (pc1 := 20) (lv1 := [(3, .int 5), (2, .ref 32), (1, .ref 2), (0, .ref 0)]) (st1 := [.ref 0, .int 5]) (h1 := hp_5) rfl ?_
  refine am_wal (v := 5) rfl rfl (congrArg Int32.ofNat (rfl : ([w0, w1, w2, w3, w4] : List Int32).length = 5)) ?_
  refine am_wn 4 (pc1 := 537) (lv1 := [(3, .int 5), (2, .ref 32), (1, .ref 2), (0, .ref 0)]) (st1 := [.int 1]) (h1 := hp_5) rfl ?_
  refine am_wr rfl rfl rfl ?_
  rfl
set_option maxRecDepth 100000 in
set_option maxHeartbeats 4000000 in
theorem pl_9 (w0 w1 w2 w3 w4 : Int32) (hw : w0 &&& 15 = nI 9) : am_W (am_CX (some [w0, w1, w2, w3, w4])) 20 0 26 [(3, .int 0), (2, .ref 32), (1, .ref 2), (0, .ref 0)] [] hp_0 (fun r _ => r = some (.int 1)) := by
  refine am_wn 5 (pc1 := 32) (lv1 := [(3, .int 0), (2, .ref 32), (1, .ref 2), (0, .ref 0)]) (st1 := [.int (w0 &&& 15)]) (h1 := hp_0) rfl ?_
  refine am_wsw (tgt := 329) rfl (by rw [hw]; decide +kernel) ?_
  refine am_wn 6 (pc1 := 335) (lv1 := [(3, .int 0), (2, .ref 32), (1, .ref 2), (0, .ref 0)]) (st1 := [.int w1, .ref 2]) (h1 := hp_0) rfl ?_
  refine am_wc rfl rfl rfl ?_
  refine px_sco _ _ _ ?_
  show am_W _ _ 0 338 [(3, .int 0), (2, .ref 32), (1, .ref 2), (0, .ref 0)] [.int (if w1 = 0 then 0 else -1)] hp_4 _
  refine am_wn 6 (pc1 := 344) (lv1 := [(3, .int 0), (2, .ref 32), (1, .ref 2), (0, .ref 0)]) (st1 := [.int w1, .ref 32, .int (if w1 = 0 then 0 else -1)]) (h1 := hp_4) rfl ?_
  refine am_wc rfl rfl rfl ?_
  refine pm_sco _ _ _ ?_
  show am_W _ _ 0 347 [(3, .int 0), (2, .ref 32), (1, .ref 2), (0, .ref 0)] [.int (if w1 = 0 then 0 else -1), .int (if w1 = 0 then 0 else -1)] hp_5 _
  refine am_wb2 rfl true (decide_eq_true rfl) rfl ?_
  refine am_wn 4 (pc1 := 20) (lv1 := [(3, .int 5), (2, .ref 32), (1, .ref 2), (0, .ref 0)]) (st1 := [.ref 0, .int 5]) (h1 := hp_5) rfl ?_
  refine am_wal (v := 5) rfl rfl (congrArg Int32.ofNat (rfl : ([w0, w1, w2, w3, w4] : List Int32).length = 5)) ?_
  refine am_wn 4 (pc1 := 537) (lv1 := [(3, .int 5), (2, .ref 32), (1, .ref 2), (0, .ref 0)]) (st1 := [.int 1]) (h1 := hp_5) rfl ?_
  refine am_wr rfl rfl rfl ?_
  rfl
set_option maxRecDepth 100000 in
set_option maxHeartbeats 4000000 in
theorem pl_10 (w0 w1 w2 w3 w4 : Int32) (hw : w0 &&& 15 = nI 10) : am_W (am_CX (some [w0, w1, w2, w3, w4])) 20 0 26 [(3, .int 0), (2, .ref 32), (1, .ref 2), (0, .ref 0)] [] hp_0 (fun r _ => r = some (.int 1)) := by
  refine am_wn 5 (pc1 := 32) (lv1 := [(3, .int 0), (2, .ref 32), (1, .ref 2), (0, .ref 0)]) (st1 := [.int (w0 &&& 15)]) (h1 := hp_0) rfl ?_
  refine am_wsw (tgt := 352) rfl (by rw [hw]; decide +kernel) ?_
  refine am_wn 1 (pc1 := 353) (lv1 := [(3, .int 0), (2, .ref 32), (1, .ref 2), (0, .ref 0)]) (st1 := [.ref 2]) (h1 := hp_0) rfl ?_
  refine am_wc rfl rfl rfl ?_
  refine am_wx cl_19 ?_
  show am_W _ _ 0 356 [(3, .int 0), (2, .ref 32), (1, .ref 2), (0, .ref 0)] [.int 0] hp_4 _
  refine am_wn 1 (pc1 := 357) (lv1 := [(3, .int 0), (2, .ref 32), (1, .ref 2), (0, .ref 0)]) (st1 := [.ref 32, .int 0]) (h1 := hp_4) rfl ?_
  refine am_wc rfl rfl rfl ?_
  refine am_wx cl_20 ?_
  show am_W _ _ 0 360 [(3, .int 0), (2, .ref 32), (1, .ref 2), (0, .ref 0)] [.int 0, .int 0] hp_5 _
  refine am_wn 5 (pc1 := 20) (lv1 := [(3, .int 5), (2, .ref 32), (1, .ref 2), (0, .ref 0)]) (st1 := [.ref 0, .int 5]) (h1 := hp_5) rfl ?_
  refine am_wal (v := 5) rfl rfl (congrArg Int32.ofNat (rfl : ([w0, w1, w2, w3, w4] : List Int32).length = 5)) ?_
  refine am_wn 4 (pc1 := 537) (lv1 := [(3, .int 5), (2, .ref 32), (1, .ref 2), (0, .ref 0)]) (st1 := [.int 1]) (h1 := hp_5) rfl ?_
  refine am_wr rfl rfl rfl ?_
  rfl
set_option maxRecDepth 100000 in
set_option maxHeartbeats 4000000 in
theorem pl_11 (w0 w1 w2 w3 w4 : Int32) (hw : w0 &&& 15 = nI 11) : am_W (am_CX (some [w0, w1, w2, w3, w4])) 20 0 26 [(3, .int 0), (2, .ref 32), (1, .ref 2), (0, .ref 0)] [] hp_0 (fun r _ => r = some (.int 1)) := by
  refine am_wn 5 (pc1 := 32) (lv1 := [(3, .int 0), (2, .ref 32), (1, .ref 2), (0, .ref 0)]) (st1 := [.int (w0 &&& 15)]) (h1 := hp_0) rfl ?_
  refine am_wsw (tgt := 365) rfl (by rw [hw]; decide +kernel) ?_
  refine am_wn 6 (pc1 := 371) (lv1 := [(3, .int 0), (2, .ref 32), (1, .ref 2), (0, .ref 0)]) (st1 := [.int w1, .ref 2]) (h1 := hp_0) rfl ?_
  refine am_wc rfl rfl rfl ?_
  refine px_nam _ _ _ ?_
  show am_W _ _ 0 374 [(3, .int 0), (2, .ref 32), (1, .ref 2), (0, .ref 0)] [.int (-1)] hp_4 _
  refine am_wn 6 (pc1 := 380) (lv1 := [(3, .int 0), (2, .ref 32), (1, .ref 2), (0, .ref 0)]) (st1 := [.int w1, .ref 32, .int (-1)]) (h1 := hp_4) rfl ?_
  refine am_wc rfl rfl rfl ?_
  refine pm_nam _ _ _ ?_
  show am_W _ _ 0 383 [(3, .int 0), (2, .ref 32), (1, .ref 2), (0, .ref 0)] [.int (-1), .int (-1)] hp_5 _
  refine am_wn 5 (pc1 := 20) (lv1 := [(3, .int 5), (2, .ref 32), (1, .ref 2), (0, .ref 0)]) (st1 := [.ref 0, .int 5]) (h1 := hp_5) rfl ?_
  refine am_wal (v := 5) rfl rfl (congrArg Int32.ofNat (rfl : ([w0, w1, w2, w3, w4] : List Int32).length = 5)) ?_
  refine am_wn 4 (pc1 := 537) (lv1 := [(3, .int 5), (2, .ref 32), (1, .ref 2), (0, .ref 0)]) (st1 := [.int 1]) (h1 := hp_5) rfl ?_
  refine am_wr rfl rfl rfl ?_
  rfl
set_option maxRecDepth 100000 in
set_option maxHeartbeats 4000000 in
theorem pl_12 (w0 w1 w2 w3 w4 : Int32) (hw : w0 &&& 15 = nI 12) : am_W (am_CX (some [w0, w1, w2, w3, w4])) 20 0 26 [(3, .int 0), (2, .ref 32), (1, .ref 2), (0, .ref 0)] [] hp_0 (fun r _ => r = some (.int 1)) := by
  refine am_wn 5 (pc1 := 32) (lv1 := [(3, .int 0), (2, .ref 32), (1, .ref 2), (0, .ref 0)]) (st1 := [.int (w0 &&& 15)]) (h1 := hp_0) rfl ?_
  refine am_wsw (tgt := 388) rfl (by rw [hw]; decide +kernel) ?_
  refine am_wn 6 (pc1 := 394) (lv1 := [(3, .int 0), (2, .ref 32), (1, .ref 2), (0, .ref 0)]) (st1 := [.int w1, .ref 2]) (h1 := hp_0) rfl ?_
  refine am_wc rfl rfl rfl ?_
  refine px_res _ _ _ ?_
  show am_W _ _ 0 397 [(3, .int 0), (2, .ref 32), (1, .ref 2), (0, .ref 0)] [.int (-1)] hp_4 _
  refine am_wn 6 (pc1 := 403) (lv1 := [(3, .int 0), (2, .ref 32), (1, .ref 2), (0, .ref 0)]) (st1 := [.int w1, .ref 32, .int (-1)]) (h1 := hp_4) rfl ?_
  refine am_wc rfl rfl rfl ?_
  refine pm_res _ _ _ ?_
  show am_W _ _ 0 406 [(3, .int 0), (2, .ref 32), (1, .ref 2), (0, .ref 0)] [.int (-1), .int (-1)] hp_5 _
  refine am_wn 5 (pc1 := 20) (lv1 := [(3, .int 5), (2, .ref 32), (1, .ref 2), (0, .ref 0)]) (st1 := [.ref 0, .int 5]) (h1 := hp_5) rfl ?_
  refine am_wal (v := 5) rfl rfl (congrArg Int32.ofNat (rfl : ([w0, w1, w2, w3, w4] : List Int32).length = 5)) ?_
  refine am_wn 4 (pc1 := 537) (lv1 := [(3, .int 5), (2, .ref 32), (1, .ref 2), (0, .ref 0)]) (st1 := [.int 1]) (h1 := hp_5) rfl ?_
  refine am_wr rfl rfl rfl ?_
  rfl
set_option maxRecDepth 100000 in
set_option maxHeartbeats 4000000 in
theorem pl_13 (w0 w1 w2 w3 w4 : Int32) (hw : w0 &&& 15 = nI 13) : am_W (am_CX (some [w0, w1, w2, w3, w4])) 20 0 26 [(3, .int 0), (2, .ref 32), (1, .ref 2), (0, .ref 0)] [] hp_0 (fun r _ => r = some (.int 1)) := by
  refine am_wn 5 (pc1 := 32) (lv1 := [(3, .int 0), (2, .ref 32), (1, .ref 2), (0, .ref 0)]) (st1 := [.int (w0 &&& 15)]) (h1 := hp_0) rfl ?_
  refine am_wsw (tgt := 411) rfl (by rw [hw]; decide +kernel) ?_
  refine am_wn 6 (pc1 := 417) (lv1 := [(3, .int 0), (2, .ref 32), (1, .ref 2), (0, .ref 0)]) (st1 := [.int w1, .ref 2]) (h1 := hp_0) rfl ?_
  refine am_wc rfl rfl rfl ?_
  refine px_def _ _ _ ?_
  show am_W _ _ 0 420 [(3, .int 0), (2, .ref 32), (1, .ref 2), (0, .ref 0)] [.int (-1)] hp_4 _
  refine am_wn 6 (pc1 := 426) (lv1 := [(3, .int 0), (2, .ref 32), (1, .ref 2), (0, .ref 0)]) (st1 := [.int w1, .ref 32, .int (-1)]) (h1 := hp_4) rfl ?_
  refine am_wc rfl rfl rfl ?_
  refine pm_def _ _ _ ?_
  show am_W _ _ 0 429 [(3, .int 0), (2, .ref 32), (1, .ref 2), (0, .ref 0)] [.int (-1), .int (-1)] hp_5 _
  refine am_wn 5 (pc1 := 20) (lv1 := [(3, .int 5), (2, .ref 32), (1, .ref 2), (0, .ref 0)]) (st1 := [.ref 0, .int 5]) (h1 := hp_5) rfl ?_
  refine am_wal (v := 5) rfl rfl (congrArg Int32.ofNat (rfl : ([w0, w1, w2, w3, w4] : List Int32).length = 5)) ?_
  refine am_wn 4 (pc1 := 537) (lv1 := [(3, .int 5), (2, .ref 32), (1, .ref 2), (0, .ref 0)]) (st1 := [.int 1]) (h1 := hp_5) rfl ?_
  refine am_wr rfl rfl rfl ?_
  rfl
set_option maxRecDepth 100000 in
set_option maxHeartbeats 4000000 in
theorem pl_14 (w0 w1 w2 w3 w4 : Int32) (hw : w0 &&& 15 = nI 14) : am_W (am_CX (some [w0, w1, w2, w3, w4])) 20 0 26 [(3, .int 0), (2, .ref 32), (1, .ref 2), (0, .ref 0)] [] hp_0 (fun r _ => r = some (.int 1)) := by
  refine am_wn 5 (pc1 := 32) (lv1 := [(3, .int 0), (2, .ref 32), (1, .ref 2), (0, .ref 0)]) (st1 := [.int (w0 &&& 15)]) (h1 := hp_0) rfl ?_
  refine am_wsw (tgt := 434) rfl (by rw [hw]; decide +kernel) ?_
  refine am_wn 11 (pc1 := 445) (lv1 := [(3, .int 0), (2, .ref 32), (1, .ref 2), (0, .ref 0)]) (st1 := [.int w2, .int w1, .ref 2]) (h1 := hp_0) rfl ?_
  refine am_wc rfl rfl rfl ?_
  refine px_ref _ _ _ _ ?_
  show am_W _ _ 0 448 [(3, .int 0), (2, .ref 32), (1, .ref 2), (0, .ref 0)] [.int (-1)] hp_4 _
  refine am_wn 11 (pc1 := 459) (lv1 := [(3, .int 0), (2, .ref 32), (1, .ref 2), (0, .ref 0)]) (st1 := [.int w2, .int w1, .ref 32, .int (-1)]) (h1 := hp_4) rfl ?_
  refine am_wc rfl rfl rfl ?_
  refine pm_ref _ _ _ _ ?_
  show am_W _ _ 0 462 [(3, .int 0), (2, .ref 32), (1, .ref 2), (0, .ref 0)] [.int (-1), .int (-1)] hp_5 _
  refine am_wn 5 (pc1 := 20) (lv1 := [(3, .int 5), (2, .ref 32), (1, .ref 2), (0, .ref 0)]) (st1 := [.ref 0, .int 5]) (h1 := hp_5) rfl ?_
  refine am_wal (v := 5) rfl rfl (congrArg Int32.ofNat (rfl : ([w0, w1, w2, w3, w4] : List Int32).length = 5)) ?_
  refine am_wn 4 (pc1 := 537) (lv1 := [(3, .int 5), (2, .ref 32), (1, .ref 2), (0, .ref 0)]) (st1 := [.int 1]) (h1 := hp_5) rfl ?_
  refine am_wr rfl rfl rfl ?_
  rfl
set_option maxRecDepth 100000 in
set_option maxHeartbeats 4000000 in
theorem pl_15 (w0 w1 w2 w3 w4 : Int32) (hw : w0 &&& 15 = nI 15) : am_W (am_CX (some [w0, w1, w2, w3, w4])) 20 0 26 [(3, .int 0), (2, .ref 32), (1, .ref 2), (0, .ref 0)] [] hp_0 (fun r _ => r = some (.int 1)) := by
  refine am_wn 5 (pc1 := 32) (lv1 := [(3, .int 0), (2, .ref 32), (1, .ref 2), (0, .ref 0)]) (st1 := [.int (w0 &&& 15)]) (h1 := hp_0) rfl ?_
  refine am_wsw (tgt := 467) rfl (by rw [hw]; decide +kernel) ?_
  refine am_wn 23 (pc1 := 493) (lv1 := [(3, .int 0), (2, .ref 32), (1, .ref 2), (0, .ref 0)]) (st1 := [.long (((Int32.toInt64 w2) <<< (Int32.toInt64 32 &&& 63)) ||| ((Int32.toInt64 w3) &&& 4294967295)), .int w1, .ref 2]) (h1 := hp_0) rfl ?_
  refine am_wc rfl rfl rfl ?_
  refine px_ren _ _ _ _ ?_
  show am_W _ _ 0 496 [(3, .int 0), (2, .ref 32), (1, .ref 2), (0, .ref 0)] [.int (-1)] hp_4 _
  refine am_wn 23 (pc1 := 522) (lv1 := [(3, .int 0), (2, .ref 32), (1, .ref 2), (0, .ref 0)]) (st1 := [.long (((Int32.toInt64 w2) <<< (Int32.toInt64 32 &&& 63)) ||| ((Int32.toInt64 w3) &&& 4294967295)), .int w1, .ref 32, .int (-1)]) (h1 := hp_4) rfl ?_
  refine am_wc rfl rfl rfl ?_
  refine pm_ren _ _ _ _ ?_
  show am_W _ _ 0 525 [(3, .int 0), (2, .ref 32), (1, .ref 2), (0, .ref 0)] [.int (-1), .int (-1)] hp_5 _
  refine am_wn 5 (pc1 := 20) (lv1 := [(3, .int 5), (2, .ref 32), (1, .ref 2), (0, .ref 0)]) (st1 := [.ref 0, .int 5]) (h1 := hp_5) rfl ?_
  refine am_wal (v := 5) rfl rfl (congrArg Int32.ofNat (rfl : ([w0, w1, w2, w3, w4] : List Int32).length = 5)) ?_
  refine am_wn 4 (pc1 := 537) (lv1 := [(3, .int 5), (2, .ref 32), (1, .ref 2), (0, .ref 0)]) (st1 := [.int 1]) (h1 := hp_5) rfl ?_
  refine am_wr rfl rfl rfl ?_
  rfl
set_option maxRecDepth 100000 in
set_option maxHeartbeats 4000000 in
theorem pl_0n (w0 w1 w2 w3 w4 : Int32) (hw : w0 &&& 15 = nI 0) (hpq : ¬ (w1 = 0 ∧ w2 = 0)) : am_W (am_CX (some [w0, w1, w2, w3, w4])) 20 0 26 [(3, .int 0), (2, .ref 32), (1, .ref 2), (0, .ref 0)] [] hp_0 (fun r _ => r = some (.int 1)) := by
  refine am_wn 5 (pc1 := 32) (lv1 := [(3, .int 0), (2, .ref 32), (1, .ref 2), (0, .ref 0)]) (st1 := [.int (w0 &&& 15)]) (h1 := hp_0) rfl ?_
  refine am_wsw (tgt := 112) rfl (by rw [hw]; decide +kernel) ?_
  refine am_wn 28 (pc1 := 143) (lv1 := [(3, .int 0), (2, .ref 32), (1, .ref 2), (0, .ref 0)]) (st1 := [.long (((Int32.toInt64 w3) <<< (Int32.toInt64 32 &&& 63)) ||| ((Int32.toInt64 w4) &&& 4294967295)), .int w2, .int w1, .ref 2]) (h1 := hp_0) rfl ?_
  refine am_wc rfl rfl rfl ?_
  refine ec_edn _ _ _ _ _ _ hpq ?_
  show am_W _ _ 0 146 [(3, .int 0), (2, .ref 32), (1, .ref 2), (0, .ref 0)] [.int (-1)] hp_0 _
  refine am_wn 28 (pc1 := 177) (lv1 := [(3, .int 0), (2, .ref 32), (1, .ref 2), (0, .ref 0)]) (st1 := [.long (((Int32.toInt64 w3) <<< (Int32.toInt64 32 &&& 63)) ||| ((Int32.toInt64 w4) &&& 4294967295)), .int w2, .int w1, .ref 32, .int (-1)]) (h1 := hp_0) rfl ?_
  refine am_wc rfl rfl rfl ?_
  show am_W _ _ 132 0 [(0, .ref 32), (1, .int w1), (2, .int w2), (3, .long (((Int32.toInt64 w3) <<< (Int32.toInt64 32 &&& 63)) ||| ((Int32.toInt64 w4) &&& 4294967295)))] [] (hm_f (.inr (0, [.ref 3, .ref 5, .ref 10, .ref 13, .ref 17, .ref 26, .ref 27, .ref 28, .int 1])) (.inr (1, [.ref 4, .int 0])) (.inl (true, List.replicate 200 0)) (.inr (9, [.int 0, .ref 33, .ref 34, .ref 35, .int 1, .int 0, .ref 36, .ref 37, .ref 38, .ref 39, .ref 40, .ref 41, .int 0, .int 0, .int 0, .ref 42, .ref 43, .int 0, .int 0, .int 0, .int 0, .ref 44, .ref 45, .int 0, .ref 46, .ref 47, .ref 48, .ref 49, .ref 50, .ref 51, .ref 52, .int 0, .ref 53, .int 0, .int 0, .ref 54, .ref 55])) (.inl (false, List.replicate 200 0))) _
  refine em_edn _ _ _ _ _ _ _ _ _ _ hpq ?_
  show am_W _ _ 0 180 [(3, .int 0), (2, .ref 32), (1, .ref 2), (0, .ref 0)] [.int (-1), .int (-1)] (hm_f (.inr (0, [.ref 3, .ref 5, .ref 10, .ref 13, .ref 17, .ref 26, .ref 27, .ref 28, .int 1])) (.inr (1, [.ref 4, .int 0])) (.inl (true, List.replicate 200 0)) (.inr (9, [.int 0, .ref 33, .ref 34, .ref 35, .int 1, .int 0, .ref 36, .ref 37, .ref 38, .ref 39, .ref 40, .ref 41, .int 0, .int 0, .int 0, .ref 42, .ref 43, .int 0, .int 0, .int 0, .int 0, .ref 44, .ref 45, .int 0, .ref 46, .ref 47, .ref 48, .ref 49, .ref 50, .ref 51, .ref 52, .int 0, .ref 53, .int 0, .int 0, .ref 54, .ref 55])) (.inl (false, List.replicate 200 0))) _
  refine am_wn 5 (pc1 := 20) (lv1 := [(3, .int 5), (2, .ref 32), (1, .ref 2), (0, .ref 0)]) (st1 := [.ref 0, .int 5]) (h1 := (hm_f (.inr (0, [.ref 3, .ref 5, .ref 10, .ref 13, .ref 17, .ref 26, .ref 27, .ref 28, .int 1])) (.inr (1, [.ref 4, .int 0])) (.inl (true, List.replicate 200 0)) (.inr (9, [.int 0, .ref 33, .ref 34, .ref 35, .int 1, .int 0, .ref 36, .ref 37, .ref 38, .ref 39, .ref 40, .ref 41, .int 0, .int 0, .int 0, .ref 42, .ref 43, .int 0, .int 0, .int 0, .int 0, .ref 44, .ref 45, .int 0, .ref 46, .ref 47, .ref 48, .ref 49, .ref 50, .ref 51, .ref 52, .int 0, .ref 53, .int 0, .int 0, .ref 54, .ref 55])) (.inl (false, List.replicate 200 0)))) rfl ?_
  refine am_wal (v := 5) rfl rfl (congrArg Int32.ofNat (rfl : ([w0, w1, w2, w3, w4] : List Int32).length = 5)) ?_
  refine am_wn 4 (pc1 := 537) (lv1 := [(3, .int 5), (2, .ref 32), (1, .ref 2), (0, .ref 0)]) (st1 := [.int 1]) (h1 := (hm_f (.inr (0, [.ref 3, .ref 5, .ref 10, .ref 13, .ref 17, .ref 26, .ref 27, .ref 28, .int 1])) (.inr (1, [.ref 4, .int 0])) (.inl (true, List.replicate 200 0)) (.inr (9, [.int 0, .ref 33, .ref 34, .ref 35, .int 1, .int 0, .ref 36, .ref 37, .ref 38, .ref 39, .ref 40, .ref 41, .int 0, .int 0, .int 0, .ref 42, .ref 43, .int 0, .int 0, .int 0, .int 0, .ref 44, .ref 45, .int 0, .ref 46, .ref 47, .ref 48, .ref 49, .ref 50, .ref 51, .ref 52, .int 0, .ref 53, .int 0, .int 0, .ref 54, .ref 55])) (.inl (false, List.replicate 200 0)))) rfl ?_
  refine am_wr rfl rfl rfl ?_
  rfl
set_option maxRecDepth 100000 in
set_option maxHeartbeats 4000000 in
theorem pl_0f (w0 w3 w4 : Int32) (hw : w0 &&& 15 = nI 0) (hal : ed_al ((Int32.toInt64 w3 <<< (Int32.toInt64 32 &&& 63)) ||| (Int32.toInt64 w4 &&& 4294967295)) 8 = false) : am_W (am_CX (some [w0, 0, 0, w3, w4])) 20 0 26 [(3, .int 0), (2, .ref 32), (1, .ref 2), (0, .ref 0)] [] hp_0 (fun r _ => r = some (.int 1)) := by
  refine am_wn 5 (pc1 := 32) (lv1 := [(3, .int 0), (2, .ref 32), (1, .ref 2), (0, .ref 0)]) (st1 := [.int (w0 &&& 15)]) (h1 := hp_0) rfl ?_
  refine am_wsw (tgt := 112) rfl (by rw [hw]; decide +kernel) ?_
  refine am_wn 28 (pc1 := 143) (lv1 := [(3, .int 0), (2, .ref 32), (1, .ref 2), (0, .ref 0)]) (st1 := [.long (((Int32.toInt64 w3) <<< (Int32.toInt64 32 &&& 63)) ||| ((Int32.toInt64 w4) &&& 4294967295)), .int 0, .int 0, .ref 2]) (h1 := hp_0) rfl ?_
  refine am_wc rfl rfl rfl ?_
  show am_W _ _ 109 0 [(0, .ref 2), (1, .int 0), (2, .int 0), (3, .long (((Int32.toInt64 w3) <<< (Int32.toInt64 32 &&& 63)) ||| ((Int32.toInt64 w4) &&& 4294967295)))] [] (hm_f (.inr (0, [.ref 3, .ref 5, .ref 10, .ref 13, .ref 17, .ref 26, .ref 27, .ref 28, .int 1])) (.inr (1, [.ref 4, .int 0])) (.inl (true, List.replicate 200 0)) (.inr (9, [.int 0, .ref 33, .ref 34, .ref 35, .int 1, .int 0, .ref 36, .ref 37, .ref 38, .ref 39, .ref 40, .ref 41, .int 0, .int 0, .int 0, .ref 42, .ref 43, .int 0, .int 0, .int 0, .int 0, .ref 44, .ref 45, .int 0, .ref 46, .ref 47, .ref 48, .ref 49, .ref 50, .ref 51, .ref 52, .int 0, .ref 53, .int 0, .int 0, .ref 54, .ref 55])) (.inl (false, List.replicate 200 0))) _
  refine ec_edy _ _ _ _ _ _ (by decide) _ (fun _ => ?_) (fun ha => absurd (hal.symm.trans ha) (by decide))
  show am_W _ _ 0 146 [(3, .int 0), (2, .ref 32), (1, .ref 2), (0, .ref 0)] [.int (-1)] (hm_f (.inr (0, [.ref 3, .ref 5, .ref 10, .ref 13, .ref 17, .ref 26, .ref 27, .ref 28, .int 1])) (.inr (1, [.ref 4, .int 0])) (.inl (true, List.replicate 200 0)) (.inr (9, [.int 0, .ref 33, .ref 34, .ref 35, .int 1, .int 0, .ref 36, .ref 37, .ref 38, .ref 39, .ref 40, .ref 41, .int 0, .int 0, .int 0, .ref 42, .ref 43, .int 0, .int 0, .int 0, .int 0, .ref 44, .ref 45, .int 0, .ref 46, .ref 47, .ref 48, .ref 49, .ref 50, .ref 51, .ref 52, .int 0, .ref 53, .int 0, .int 0, .ref 54, .ref 55])) (.inl (false, List.replicate 200 0))) _
  refine am_wn 28 (pc1 := 177) (lv1 := [(3, .int 0), (2, .ref 32), (1, .ref 2), (0, .ref 0)]) (st1 := [.long (((Int32.toInt64 w3) <<< (Int32.toInt64 32 &&& 63)) ||| ((Int32.toInt64 w4) &&& 4294967295)), .int 0, .int 0, .ref 32, .int (-1)]) (h1 := (hm_f (.inr (0, [.ref 3, .ref 5, .ref 10, .ref 13, .ref 17, .ref 26, .ref 27, .ref 28, .int 1])) (.inr (1, [.ref 4, .int 0])) (.inl (true, List.replicate 200 0)) (.inr (9, [.int 0, .ref 33, .ref 34, .ref 35, .int 1, .int 0, .ref 36, .ref 37, .ref 38, .ref 39, .ref 40, .ref 41, .int 0, .int 0, .int 0, .ref 42, .ref 43, .int 0, .int 0, .int 0, .int 0, .ref 44, .ref 45, .int 0, .ref 46, .ref 47, .ref 48, .ref 49, .ref 50, .ref 51, .ref 52, .int 0, .ref 53, .int 0, .int 0, .ref 54, .ref 55])) (.inl (false, List.replicate 200 0)))) rfl ?_
  refine am_wc rfl rfl rfl ?_
  show am_W _ _ 132 0 [(0, .ref 32), (1, .int 0), (2, .int 0), (3, .long (((Int32.toInt64 w3) <<< (Int32.toInt64 32 &&& 63)) ||| ((Int32.toInt64 w4) &&& 4294967295)))] [] (hm_f (.inr (0, [.ref 3, .ref 5, .ref 10, .ref 13, .ref 17, .ref 26, .ref 27, .ref 28, .int 1])) (.inr (1, [.ref 4, .int 0])) (.inl (true, List.replicate 200 0)) (.inr (9, [.int 0, .ref 33, .ref 34, .ref 35, .int 1, .int 0, .ref 36, .ref 37, .ref 38, .ref 39, .ref 40, .ref 41, .int 0, .int 0, .int 0, .ref 42, .ref 43, .int 0, .int 0, .int 0, .int 0, .ref 44, .ref 45, .int 0, .ref 46, .ref 47, .ref 48, .ref 49, .ref 50, .ref 51, .ref 52, .int 0, .ref 53, .int 0, .int 0, .ref 54, .ref 55])) (.inl (false, List.replicate 200 0))) _
  refine em_edy _ _ _ _ _ _ _ (by decide) _ (fun _ => ?_) (fun ha => absurd (hal.symm.trans ha) (by decide))
  show am_W _ _ 0 180 [(3, .int 0), (2, .ref 32), (1, .ref 2), (0, .ref 0)] [.int (-1), .int (-1)] (hm_f (.inr (0, [.ref 3, .ref 5, .ref 10, .ref 13, .ref 17, .ref 26, .ref 27, .ref 28, .int 1])) (.inr (1, [.ref 4, .int 0])) (.inl (true, List.replicate 200 0)) (.inr (9, [.int 0, .ref 33, .ref 34, .ref 35, .int 1, .int 0, .ref 36, .ref 37, .ref 38, .ref 39, .ref 40, .ref 41, .int 0, .int 0, .int 0, .ref 42, .ref 43, .int 0, .int 0, .int 0, .int 0, .ref 44, .ref 45, .int 0, .ref 46, .ref 47, .ref 48, .ref 49, .ref 50, .ref 51, .ref 52, .int 0, .ref 53, .int 0, .int 0, .ref 54, .ref 55])) (.inl (false, List.replicate 200 0))) _
  refine am_wn 5 (pc1 := 20) (lv1 := [(3, .int 5), (2, .ref 32), (1, .ref 2), (0, .ref 0)]) (st1 := [.ref 0, .int 5]) (h1 := (hm_f (.inr (0, [.ref 3, .ref 5, .ref 10, .ref 13, .ref 17, .ref 26, .ref 27, .ref 28, .int 1])) (.inr (1, [.ref 4, .int 0])) (.inl (true, List.replicate 200 0)) (.inr (9, [.int 0, .ref 33, .ref 34, .ref 35, .int 1, .int 0, .ref 36, .ref 37, .ref 38, .ref 39, .ref 40, .ref 41, .int 0, .int 0, .int 0, .ref 42, .ref 43, .int 0, .int 0, .int 0, .int 0, .ref 44, .ref 45, .int 0, .ref 46, .ref 47, .ref 48, .ref 49, .ref 50, .ref 51, .ref 52, .int 0, .ref 53, .int 0, .int 0, .ref 54, .ref 55])) (.inl (false, List.replicate 200 0)))) rfl ?_
  refine am_wal (v := 5) rfl rfl (congrArg Int32.ofNat (rfl : ([w0, 0, 0, w3, w4] : List Int32).length = 5)) ?_
  refine am_wn 4 (pc1 := 537) (lv1 := [(3, .int 5), (2, .ref 32), (1, .ref 2), (0, .ref 0)]) (st1 := [.int 1]) (h1 := (hm_f (.inr (0, [.ref 3, .ref 5, .ref 10, .ref 13, .ref 17, .ref 26, .ref 27, .ref 28, .int 1])) (.inr (1, [.ref 4, .int 0])) (.inl (true, List.replicate 200 0)) (.inr (9, [.int 0, .ref 33, .ref 34, .ref 35, .int 1, .int 0, .ref 36, .ref 37, .ref 38, .ref 39, .ref 40, .ref 41, .int 0, .int 0, .int 0, .ref 42, .ref 43, .int 0, .int 0, .int 0, .int 0, .ref 44, .ref 45, .int 0, .ref 46, .ref 47, .ref 48, .ref 49, .ref 50, .ref 51, .ref 52, .int 0, .ref 53, .int 0, .int 0, .ref 54, .ref 55])) (.inl (false, List.replicate 200 0)))) rfl ?_
  refine am_wr rfl rfl rfl ?_
  rfl
set_option maxRecDepth 100000 in
set_option maxHeartbeats 4000000 in
theorem pl_0t (w0 w3 w4 : Int32) (hw : w0 &&& 15 = nI 0) (hal : ed_al ((Int32.toInt64 w3 <<< (Int32.toInt64 32 &&& 63)) ||| (Int32.toInt64 w4 &&& 4294967295)) 8 = true) : am_W (am_CX (some [w0, 0, 0, w3, w4])) 20 0 26 [(3, .int 0), (2, .ref 32), (1, .ref 2), (0, .ref 0)] [] hp_0 (fun r _ => r = some (.int 1)) := by
  refine am_wn 5 (pc1 := 32) (lv1 := [(3, .int 0), (2, .ref 32), (1, .ref 2), (0, .ref 0)]) (st1 := [.int (w0 &&& 15)]) (h1 := hp_0) rfl ?_
  refine am_wsw (tgt := 112) rfl (by rw [hw]; decide +kernel) ?_
  refine am_wn 28 (pc1 := 143) (lv1 := [(3, .int 0), (2, .ref 32), (1, .ref 2), (0, .ref 0)]) (st1 := [.long (((Int32.toInt64 w3) <<< (Int32.toInt64 32 &&& 63)) ||| ((Int32.toInt64 w4) &&& 4294967295)), .int 0, .int 0, .ref 2]) (h1 := hp_0) rfl ?_
  refine am_wc rfl rfl rfl ?_
  show am_W _ _ 109 0 [(0, .ref 2), (1, .int 0), (2, .int 0), (3, .long (((Int32.toInt64 w3) <<< (Int32.toInt64 32 &&& 63)) ||| ((Int32.toInt64 w4) &&& 4294967295)))] [] (hm_f (.inr (0, [.ref 3, .ref 5, .ref 10, .ref 13, .ref 17, .ref 26, .ref 27, .ref 28, .int 1])) (.inr (1, [.ref 4, .int 0])) (.inl (true, List.replicate 200 0)) (.inr (9, [.int 0, .ref 33, .ref 34, .ref 35, .int 1, .int 0, .ref 36, .ref 37, .ref 38, .ref 39, .ref 40, .ref 41, .int 0, .int 0, .int 0, .ref 42, .ref 43, .int 0, .int 0, .int 0, .int 0, .ref 44, .ref 45, .int 0, .ref 46, .ref 47, .ref 48, .ref 49, .ref 50, .ref 51, .ref 52, .int 0, .ref 53, .int 0, .int 0, .ref 54, .ref 55])) (.inl (false, List.replicate 200 0))) _
  refine ec_edy _ _ _ _ _ _ (by decide) _ (fun ha => absurd (hal.symm.trans ha) (by decide)) (fun _ l2 hl2 => ?_)
  show am_W _ _ 0 146 [(3, .int 0), (2, .ref 32), (1, .ref 2), (0, .ref 0)] [.int (0 + (nI (ed_n ((Int32.toInt64 w3 <<< (Int32.toInt64 32 &&& 63)) ||| (Int32.toInt64 w4 &&& 4294967295)) 8)))] (hm_f (.inr (0, [.ref 3, .ref 5, .ref 10, .ref 13, .ref 17, .ref 26, .ref 27, .ref 28, .int 1])) (.inr (1, [.ref 4, .int (0 + (nI (ed_n ((Int32.toInt64 w3 <<< (Int32.toInt64 32 &&& 63)) ||| (Int32.toInt64 w4 &&& 4294967295)) 8)))])) (.inl (true, l2)) (.inr (9, [.int 0, .ref 33, .ref 34, .ref 35, .int 1, .int 0, .ref 36, .ref 37, .ref 38, .ref 39, .ref 40, .ref 41, .int 0, .int 0, .int 0, .ref 42, .ref 43, .int 0, .int 0, .int 0, .int 0, .ref 44, .ref 45, .int 0, .ref 46, .ref 47, .ref 48, .ref 49, .ref 50, .ref 51, .ref 52, .int 0, .ref 53, .int 0, .int 0, .ref 54, .ref 55])) (.inl (false, List.replicate 200 0))) _
  refine am_wn 28 (pc1 := 177) (lv1 := [(3, .int 0), (2, .ref 32), (1, .ref 2), (0, .ref 0)]) (st1 := [.long (((Int32.toInt64 w3) <<< (Int32.toInt64 32 &&& 63)) ||| ((Int32.toInt64 w4) &&& 4294967295)), .int 0, .int 0, .ref 32, .int (0 + (nI (ed_n ((Int32.toInt64 w3 <<< (Int32.toInt64 32 &&& 63)) ||| (Int32.toInt64 w4 &&& 4294967295)) 8)))]) (h1 := (hm_f (.inr (0, [.ref 3, .ref 5, .ref 10, .ref 13, .ref 17, .ref 26, .ref 27, .ref 28, .int 1])) (.inr (1, [.ref 4, .int (0 + (nI (ed_n ((Int32.toInt64 w3 <<< (Int32.toInt64 32 &&& 63)) ||| (Int32.toInt64 w4 &&& 4294967295)) 8)))])) (.inl (true, l2)) (.inr (9, [.int 0, .ref 33, .ref 34, .ref 35, .int 1, .int 0, .ref 36, .ref 37, .ref 38, .ref 39, .ref 40, .ref 41, .int 0, .int 0, .int 0, .ref 42, .ref 43, .int 0, .int 0, .int 0, .int 0, .ref 44, .ref 45, .int 0, .ref 46, .ref 47, .ref 48, .ref 49, .ref 50, .ref 51, .ref 52, .int 0, .ref 53, .int 0, .int 0, .ref 54, .ref 55])) (.inl (false, List.replicate 200 0)))) rfl ?_
  refine am_wc rfl rfl rfl ?_
  show am_W _ _ 132 0 [(0, .ref 32), (1, .int 0), (2, .int 0), (3, .long (((Int32.toInt64 w3) <<< (Int32.toInt64 32 &&& 63)) ||| ((Int32.toInt64 w4) &&& 4294967295)))] [] (hm_f (.inr (0, [.ref 3, .ref 5, .ref 10, .ref 13, .ref 17, .ref 26, .ref 27, .ref 28, .int 1])) (.inr (1, [.ref 4, .int (0 + (nI (ed_n ((Int32.toInt64 w3 <<< (Int32.toInt64 32 &&& 63)) ||| (Int32.toInt64 w4 &&& 4294967295)) 8)))])) (.inl (true, l2)) (.inr (9, [.int 0, .ref 33, .ref 34, .ref 35, .int 1, .int 0, .ref 36, .ref 37, .ref 38, .ref 39, .ref 40, .ref 41, .int 0, .int 0, .int 0, .ref 42, .ref 43, .int 0, .int 0, .int 0, .int 0, .ref 44, .ref 45, .int 0, .ref 46, .ref 47, .ref 48, .ref 49, .ref 50, .ref 51, .ref 52, .int 0, .ref 53, .int 0, .int 0, .ref 54, .ref 55])) (.inl (false, List.replicate 200 0))) _
  refine em_edy _ _ _ _ _ _ _ (by decide) _ (fun ha => absurd (hal.symm.trans ha) (by decide)) (fun _ l3 hl3 => ?_)
  show am_W _ _ 0 180 [(3, .int 0), (2, .ref 32), (1, .ref 2), (0, .ref 0)] [.int (0 + (nI (ed_n ((Int32.toInt64 w3 <<< (Int32.toInt64 32 &&& 63)) ||| (Int32.toInt64 w4 &&& 4294967295)) 8))), .int (0 + (nI (ed_n ((Int32.toInt64 w3 <<< (Int32.toInt64 32 &&& 63)) ||| (Int32.toInt64 w4 &&& 4294967295)) 8)))] (hm_f (.inr (0, [.ref 3, .ref 5, .ref 10, .ref 13, .ref 17, .ref 26, .ref 27, .ref 28, .int 1])) (.inr (1, [.ref 4, .int (0 + (nI (ed_n ((Int32.toInt64 w3 <<< (Int32.toInt64 32 &&& 63)) ||| (Int32.toInt64 w4 &&& 4294967295)) 8)))])) (.inl (true, l2)) (.inr (9, [.int (0 + (nI (ed_n ((Int32.toInt64 w3 <<< (Int32.toInt64 32 &&& 63)) ||| (Int32.toInt64 w4 &&& 4294967295)) 8))), .ref 33, .ref 34, .ref 35, .int 1, .int 0, .ref 36, .ref 37, .ref 38, .ref 39, .ref 40, .ref 41, .int 0, .int 0, .int 0, .ref 42, .ref 43, .int 0, .int 0, .int 0, .int 0, .ref 44, .ref 45, .int 0, .ref 46, .ref 47, .ref 48, .ref 49, .ref 50, .ref 51, .ref 52, .int 0, .ref 53, .int 0, .int 0, .ref 54, .ref 55])) (.inl (false, l3))) _
  refine am_wb2 rfl true (decide_eq_true rfl) rfl ?_
  refine am_wn 4 (pc1 := 20) (lv1 := [(3, .int 5), (2, .ref 32), (1, .ref 2), (0, .ref 0)]) (st1 := [.ref 0, .int 5]) (h1 := (hm_f (.inr (0, [.ref 3, .ref 5, .ref 10, .ref 13, .ref 17, .ref 26, .ref 27, .ref 28, .int 1])) (.inr (1, [.ref 4, .int (0 + (nI (ed_n ((Int32.toInt64 w3 <<< (Int32.toInt64 32 &&& 63)) ||| (Int32.toInt64 w4 &&& 4294967295)) 8)))])) (.inl (true, l2)) (.inr (9, [.int (0 + (nI (ed_n ((Int32.toInt64 w3 <<< (Int32.toInt64 32 &&& 63)) ||| (Int32.toInt64 w4 &&& 4294967295)) 8))), .ref 33, .ref 34, .ref 35, .int 1, .int 0, .ref 36, .ref 37, .ref 38, .ref 39, .ref 40, .ref 41, .int 0, .int 0, .int 0, .ref 42, .ref 43, .int 0, .int 0, .int 0, .int 0, .ref 44, .ref 45, .int 0, .ref 46, .ref 47, .ref 48, .ref 49, .ref 50, .ref 51, .ref 52, .int 0, .ref 53, .int 0, .int 0, .ref 54, .ref 55])) (.inl (false, l3)))) rfl ?_
  refine am_wal (v := 5) rfl rfl (congrArg Int32.ofNat (rfl : ([w0, 0, 0, w3, w4] : List Int32).length = 5)) ?_
  refine am_wn 4 (pc1 := 537) (lv1 := [(3, .int 5), (2, .ref 32), (1, .ref 2), (0, .ref 0)]) (st1 := [.int 1]) (h1 := (hm_f (.inr (0, [.ref 3, .ref 5, .ref 10, .ref 13, .ref 17, .ref 26, .ref 27, .ref 28, .int 1])) (.inr (1, [.ref 4, .int (0 + (nI (ed_n ((Int32.toInt64 w3 <<< (Int32.toInt64 32 &&& 63)) ||| (Int32.toInt64 w4 &&& 4294967295)) 8)))])) (.inl (true, l2)) (.inr (9, [.int (0 + (nI (ed_n ((Int32.toInt64 w3 <<< (Int32.toInt64 32 &&& 63)) ||| (Int32.toInt64 w4 &&& 4294967295)) 8))), .ref 33, .ref 34, .ref 35, .int 1, .int 0, .ref 36, .ref 37, .ref 38, .ref 39, .ref 40, .ref 41, .int 0, .int 0, .int 0, .ref 42, .ref 43, .int 0, .int 0, .int 0, .int 0, .ref 44, .ref 45, .int 0, .ref 46, .ref 47, .ref 48, .ref 49, .ref 50, .ref 51, .ref 52, .int 0, .ref 53, .int 0, .int 0, .ref 54, .ref 55])) (.inl (false, l3)))) rfl ?_
  refine am_wr rfl rfl rfl ?_
  rfl
theorem pl_0 (w0 w1 w2 w3 w4 : Int32) (hw : w0 &&& 15 = nI 0) : am_W (am_CX (some [w0, w1, w2, w3, w4])) 20 0 26 [(3, .int 0), (2, .ref 32), (1, .ref 2), (0, .ref 0)] [] hp_0 (fun r _ => r = some (.int 1)) := by
  by_cases hpq : w1 = 0 ∧ w2 = 0
  · obtain ⟨rfl, rfl⟩ := hpq
    cases hal : ed_al ((Int32.toInt64 w3 <<< (Int32.toInt64 32 &&& 63)) ||| (Int32.toInt64 w4 &&& 4294967295)) 8 with
    | false => exact pl_0f w0 w3 w4 hw hal
    | true => exact pl_0t w0 w3 w4 hw hal
  · exact pl_0n w0 w1 w2 w3 w4 hw hpq
set_option maxRecDepth 100000 in
set_option maxHeartbeats 4000000 in
theorem pl_w5 (w0 w1 w2 w3 w4 : Int32) : am_W (am_CX (some [w0, w1, w2, w3, w4])) 20 0 16 [(2, .ref 32), (1, .ref 2), (0, .ref 0)] [] hp_0 (fun r _ => r = some (.int 1)) := by
  refine am_wn 4 (pc1 := 20) (lv1 := [(3, .int 0), (2, .ref 32), (1, .ref 2), (0, .ref 0)]) (st1 := [.ref 0, .int 0]) (h1 := hp_0) rfl ?_
  refine am_wal (v := 5) rfl rfl (congrArg Int32.ofNat (rfl : ([w0, w1, w2, w3, w4] : List Int32).length = 5)) ?_
  refine am_wn 3 (pc1 := 26) (lv1 := [(3, .int 0), (2, .ref 32), (1, .ref 2), (0, .ref 0)]) (st1 := []) (h1 := hp_0) rfl ?_
  obtain ⟨j, hj, hw⟩ := pk_andE w0 (m := 15) 4 (by decide +kernel)
  match j, hj, hw with
  | 0, _, hw => exact pl_0 w0 w1 w2 w3 w4 hw
  | 1, _, hw => exact pl_1 w0 w1 w2 w3 w4 hw
  | 2, _, hw => exact pl_2 w0 w1 w2 w3 w4 hw
  | 3, _, hw => exact pl_3 w0 w1 w2 w3 w4 hw
  | 4, _, hw => exact pl_4 w0 w1 w2 w3 w4 hw
  | 5, _, hw => exact pl_5 w0 w1 w2 w3 w4 hw
  | 6, _, hw => exact pl_6 w0 w1 w2 w3 w4 hw
  | 7, _, hw => exact pl_7 w0 w1 w2 w3 w4 hw
  | 8, _, hw => exact pl_8 w0 w1 w2 w3 w4 hw
  | 9, _, hw => exact pl_9 w0 w1 w2 w3 w4 hw
  | 10, _, hw => exact pl_10 w0 w1 w2 w3 w4 hw
  | 11, _, hw => exact pl_11 w0 w1 w2 w3 w4 hw
  | 12, _, hw => exact pl_12 w0 w1 w2 w3 w4 hw
  | 13, _, hw => exact pl_13 w0 w1 w2 w3 w4 hw
  | 14, _, hw => exact pl_14 w0 w1 w2 w3 w4 hw
  | 15, _, hw => exact pl_15 w0 w1 w2 w3 w4 hw
  | j + 16, hj, _ => exact absurd hj (by omega)
set_option maxRecDepth 100000 in
set_option maxHeartbeats 4000000 in
theorem pl_s0 : am_W (am_CX (some [])) 20 0 16 [(2, .ref 32), (1, .ref 2), (0, .ref 0)] [] hp_0 (fun r _ => r = some (.int 1)) := by
  refine am_wn 4 (pc1 := 20) (lv1 := [(3, .int 0), (2, .ref 32), (1, .ref 2), (0, .ref 0)]) (st1 := [.ref 0, .int 0]) (h1 := hp_0) rfl ?_
  refine am_wal (v := 0) rfl rfl (congrArg Int32.ofNat (rfl : ([] : List Int32).length = 0)) ?_
  refine am_wn 4 (pc1 := 537) (lv1 := [(3, .int 0), (2, .ref 32), (1, .ref 2), (0, .ref 0)]) (st1 := [.int 1]) (h1 := hp_0) rfl ?_
  refine am_wr rfl rfl rfl ?_
  rfl
set_option maxRecDepth 100000 in
set_option maxHeartbeats 4000000 in
theorem pl_s1 (w0 : Int32) : am_W (am_CX (some [w0])) 20 0 16 [(2, .ref 32), (1, .ref 2), (0, .ref 0)] [] hp_0 (fun r _ => r = some (.int 1)) := by
  refine am_wn 4 (pc1 := 20) (lv1 := [(3, .int 0), (2, .ref 32), (1, .ref 2), (0, .ref 0)]) (st1 := [.ref 0, .int 0]) (h1 := hp_0) rfl ?_
  refine am_wal (v := 1) rfl rfl (congrArg Int32.ofNat (rfl : ([w0] : List Int32).length = 1)) ?_
  refine am_wn 4 (pc1 := 537) (lv1 := [(3, .int 0), (2, .ref 32), (1, .ref 2), (0, .ref 0)]) (st1 := [.int 1]) (h1 := hp_0) rfl ?_
  refine am_wr rfl rfl rfl ?_
  rfl
set_option maxRecDepth 100000 in
set_option maxHeartbeats 4000000 in
theorem pl_s2 (w0 w1 : Int32) : am_W (am_CX (some [w0, w1])) 20 0 16 [(2, .ref 32), (1, .ref 2), (0, .ref 0)] [] hp_0 (fun r _ => r = some (.int 1)) := by
  refine am_wn 4 (pc1 := 20) (lv1 := [(3, .int 0), (2, .ref 32), (1, .ref 2), (0, .ref 0)]) (st1 := [.ref 0, .int 0]) (h1 := hp_0) rfl ?_
  refine am_wal (v := 2) rfl rfl (congrArg Int32.ofNat (rfl : ([w0, w1] : List Int32).length = 2)) ?_
  refine am_wn 4 (pc1 := 537) (lv1 := [(3, .int 0), (2, .ref 32), (1, .ref 2), (0, .ref 0)]) (st1 := [.int 1]) (h1 := hp_0) rfl ?_
  refine am_wr rfl rfl rfl ?_
  rfl
set_option maxRecDepth 100000 in
set_option maxHeartbeats 4000000 in
theorem pl_s3 (w0 w1 w2 : Int32) : am_W (am_CX (some [w0, w1, w2])) 20 0 16 [(2, .ref 32), (1, .ref 2), (0, .ref 0)] [] hp_0 (fun r _ => r = some (.int 1)) := by
  refine am_wn 4 (pc1 := 20) (lv1 := [(3, .int 0), (2, .ref 32), (1, .ref 2), (0, .ref 0)]) (st1 := [.ref 0, .int 0]) (h1 := hp_0) rfl ?_
  refine am_wal (v := 3) rfl rfl (congrArg Int32.ofNat (rfl : ([w0, w1, w2] : List Int32).length = 3)) ?_
  refine am_wn 4 (pc1 := 537) (lv1 := [(3, .int 0), (2, .ref 32), (1, .ref 2), (0, .ref 0)]) (st1 := [.int 1]) (h1 := hp_0) rfl ?_
  refine am_wr rfl rfl rfl ?_
  rfl
set_option maxRecDepth 100000 in
set_option maxHeartbeats 4000000 in
theorem pl_s4 (w0 w1 w2 w3 : Int32) : am_W (am_CX (some [w0, w1, w2, w3])) 20 0 16 [(2, .ref 32), (1, .ref 2), (0, .ref 0)] [] hp_0 (fun r _ => r = some (.int 1)) := by
  refine am_wn 4 (pc1 := 20) (lv1 := [(3, .int 0), (2, .ref 32), (1, .ref 2), (0, .ref 0)]) (st1 := [.ref 0, .int 0]) (h1 := hp_0) rfl ?_
  refine am_wal (v := 4) rfl rfl (congrArg Int32.ofNat (rfl : ([w0, w1, w2, w3] : List Int32).length = 4)) ?_
  refine am_wn 4 (pc1 := 537) (lv1 := [(3, .int 0), (2, .ref 32), (1, .ref 2), (0, .ref 0)]) (st1 := [.int 1]) (h1 := hp_0) rfl ?_
  refine am_wr rfl rfl rfl ?_
  rfl
set_option maxRecDepth 100000 in
set_option maxHeartbeats 4000000 in
theorem pl_go (xs : Option (List Int32)) (hg : am_W (am_CX xs) 20 0 16 [(2, .ref 32), (1, .ref 2), (0, .ref 0)] [] hp_0 (fun r _ => r = some (.int 1))) : ∃ h1 : List am_E, am_G (am_CX xs) 20 0 0 [(0, .ref 0)] [] [] (some (.int 1), h1, 54, 9109) := by
  obtain ⟨r, h1, hg, hr⟩ := hg
  have hr : r = some (.int 1) := hr
  subst hr
  refine ⟨h1, ?_⟩
  refine am_g2 (z := (3, [], .inr (0, [.null, .null, .null, .null, .null, .null, .null, .null, .int 0]), 9)) (o := (some (.int 1), h1, 53, 9100)) rfl rfl rfl ?_
  show am_G _ _ 0 3 [(0, .ref 0)] [.ref 2] hp_a _
  refine am_gn 1 (pc1 := 4) (lv1 := [(0, .ref 0)]) (st1 := [.ref 2, .ref 2]) (h1 := hp_a) rfl ?_
  refine am_g1 (o1 := (none, hp_b, 29, 2793)) (o2 := (some (.int 1), h1, 24, 6307)) rfl rfl rfl (am_gx _ cl_21) ?_
  show am_G _ _ 0 7 [(0, .ref 0)] [.ref 2] hp_b _
  refine am_gn 1 (pc1 := 8) (lv1 := [(1, .ref 2), (0, .ref 0)]) (st1 := []) (h1 := hp_b) rfl ?_
  refine am_g2 (z := (11, [], .inr (9, [.int 0, .null, .null, .null, .int 0, .int 0, .null, .null, .null, .null, .null, .null, .int 0, .int 0, .int 0, .null, .null, .int 0, .int 0, .int 0, .int 0, .null, .null, .int 0, .null, .null, .null, .null, .null, .null, .null, .int 0, .null, .int 0, .int 0, .null, .null]), 37)) (o := (some (.int 1), h1, 23, 6270)) rfl rfl rfl ?_
  show am_G _ _ 0 11 [(1, .ref 2), (0, .ref 0)] [.ref 32] hp_c _
  refine am_gn 1 (pc1 := 12) (lv1 := [(1, .ref 2), (0, .ref 0)]) (st1 := [.ref 32, .ref 32]) (h1 := hp_c) rfl ?_
  refine am_g1 (o1 := (none, hp_0, 23, 6270)) (o2 := (some (.int 1), h1, 0, 0)) rfl rfl rfl (am_gx _ cl_22) ?_
  show am_G _ _ 0 15 [(1, .ref 2), (0, .ref 0)] [.ref 32] hp_0 _
  refine am_gn 1 (pc1 := 16) (lv1 := [(2, .ref 32), (1, .ref 2), (0, .ref 0)]) (st1 := []) (h1 := hp_0) rfl ?_
  exact hg
theorem pl_law (xs : List Int32) (hl : xs.length ≤ 5) : ∃ h1 : List am_E, am_G (am_CX (some xs)) 20 0 0 [(0, .ref 0)] [] [] (some (.int 1), h1, 54, 9109) := by
  refine pl_go _ ?_
  match xs, hl with
  | [], _ => exact pl_s0
  | [w0], _ => exact pl_s1 w0
  | [w0, w1], _ => exact pl_s2 w0 w1
  | [w0, w1, w2], _ => exact pl_s3 w0 w1 w2
  | [w0, w1, w2, w3], _ => exact pl_s4 w0 w1 w2 w3
  | [w0, w1, w2, w3, w4], _ => exact pl_w5 w0 w1 w2 w3 w4
  | _ :: _ :: _ :: _ :: _ :: _ :: r, hl => exact absurd hl (by simp only [List.length_cons]; omega)
