/-! Snapshot: keep and putBack (they copy arrays). -/
set_option maxRecDepth 100000 in
theorem vc_77_17 (xs : Option (List Int32)) (d : Nat) (s : zS)  (Q : zS → Prop) (h : zWv xs (d + 1) 77 35 [(0, .ref 28), (2, .ref 17), (3, .int 0)] (zf (zf s 19 (s.1 1)) 20 (s.1 7)) Q) : zWv xs (d + 1) 77 17 [(0, .ref 28), (1, .ref 3), (2, .ref 17)] s Q := by
  unfold zWv
  refine am_wh 3 (pc1 := 22) (lv1 := [(0, .ref 28), (1, .ref 3), (2, .ref 17)]) (st1 := [.int (s.1 1), .ref 28]) rfl ?_
  refine am_w0 (z := (25, [(0, .ref 28), (1, .ref 3), (2, .ref 17)], [], zH (zf s 19 (s.1 1)))) rfl rfl (zp_19 ) ?_
  refine am_wh 3 (pc1 := 30) (lv1 := [(0, .ref 28), (1, .ref 3), (2, .ref 17)]) (st1 := [.int (s.1 7), .ref 28]) rfl ?_
  refine am_w0 (z := (33, [(0, .ref 28), (1, .ref 3), (2, .ref 17)], [], zH (zf (zf s 19 (s.1 1)) 20 (s.1 7)))) rfl rfl (zp_20 ) ?_
  refine am_wh 2 (pc1 := 35) (lv1 := [(3, .int 0), (0, .ref 28), (1, .ref 3), (2, .ref 17)]) (st1 := []) rfl ?_
  exact am_wm h ⟨rfl, rfl, rfl, trivial⟩
set_option maxRecDepth 100000 in
theorem vc_77_35 (xs : Option (List Int32)) (d : Nat) (s : zS) (a3 : Int32) (Q : zS → Prop) (h : (a3.toInt < (s.1 20).toInt → (zWi xs d 38 0 [(0, .ref 17), (1, .int a3)] s (fun v7 s5 => zX (s5.2 28) a3.toInt ∧ zWi xs d 36 0 [(0, .ref 17), (1, .int a3)] (za s5 28 (zu (s5.2 28) a3.toInt v7)) (fun v12 s10 => zX (s10.2 29) a3.toInt ∧ zWv xs (d + 1) 77 35 [(0, .ref 28), (2, .ref 17), (3, .int (a3 + 1))] (za s10 29 (zu (s10.2 29) a3.toInt v12)) Q)))) ∧ (¬ a3.toInt < (s.1 20).toInt → (Q s))) : zWv xs (d + 1) 77 35 [(0, .ref 28), (2, .ref 17), (3, .int a3)] s Q := by
  unfold zWv
  refine am_wh 3 (pc1 := 40) (lv1 := [(0, .ref 28), (2, .ref 17), (3, .int a3)]) (st1 := [.int (s.1 20), .int a3]) rfl ?_
  obtain ⟨h2, h3⟩ := h
  by_cases c1 : a3.toInt < (s.1 20).toInt
  · refine am_wb2 rfl false (zn_ge (zq_a _) (zq_a _) (zr_t _) (zr_t _) c1) rfl ?_
    have h4 := h2 c1
    refine am_wh 5 (pc1 := 50) (lv1 := [(0, .ref 28), (2, .ref 17), (3, .int a3)]) (st1 := [.int a3, .ref 17, .int a3, .ref 30]) rfl ?_
    refine am_wc rfl rfl rfl ?_
    refine am_ww h4 ?_
    rintro _ _ ⟨v7, s5, rfl, rfl, h6⟩
    show am_W _ _ 77 53 [(0, .ref 28), (2, .ref 17), (3, .int a3)] [.int v7, .int a3, .ref 30] (zH s5) _
    obtain ⟨o8, h9⟩ := h6
    refine zw_si (l := (s5.2 28)) (i := a3.toInt) rfl rfl (zq_a _) o8 (zh_28 _ _) ?_
    refine am_wh 5 (pc1 := 61) (lv1 := [(0, .ref 28), (2, .ref 17), (3, .int a3)]) (st1 := [.int a3, .ref 17, .int a3, .ref 31]) rfl ?_
    refine am_wc rfl rfl rfl ?_
    refine am_ww h9 ?_
    rintro _ _ ⟨v12, s10, rfl, rfl, h11⟩
    show am_W _ _ 77 64 [(0, .ref 28), (2, .ref 17), (3, .int a3)] [.int v12, .int a3, .ref 31] (zH s10) _
    obtain ⟨o13, h14⟩ := h11
    refine zw_si (l := (s10.2 29)) (i := a3.toInt) rfl rfl (zq_a _) o13 (zh_29 _ _) ?_
    refine am_wh 2 (pc1 := 35) (lv1 := [(3, .int (a3 + 1)), (0, .ref 28), (2, .ref 17)]) (st1 := []) rfl ?_
    exact am_wm h14 ⟨rfl, rfl, rfl, trivial⟩
  · refine am_wb2 rfl true (zt_ge (zq_a _) (zq_a _) (zr_t _) (zr_t _) c1) rfl ?_
    have h15 := h3 c1
    refine am_wr rfl rfl rfl ?_
    exact ⟨_, rfl, rfl, h15⟩
set_option maxRecDepth 100000 in
theorem vc_78_17 (xs : Option (List Int32)) (d : Nat) (s : zS)  (Q : zS → Prop) (h : Q (zf s 1 (s.1 19))) : zWv xs (d + 1) 78 17 [(0, .ref 28), (1, .ref 3)] s Q := by
  unfold zWv
  refine am_wh 3 (pc1 := 22) (lv1 := [(0, .ref 28), (1, .ref 3)]) (st1 := [.int (s.1 19), .ref 3]) rfl ?_
  refine am_w0 (z := (25, [(0, .ref 28), (1, .ref 3)], [], zH (zf s 1 (s.1 19)))) rfl rfl (zp_1 ) ?_
  refine am_wr rfl rfl rfl ?_
  exact ⟨_, rfl, rfl, h⟩
set_option maxRecDepth 100000 in
theorem vc_77_0 (xs : Option (List Int32)) (d : Nat) (s : zS) (Q : zS → Prop) (n : Nat) (hn : (s.1 1) = nI n) (h1 : n ≤ (s.2 2).length) (h2 : n ≤ (s.2 27).length) (h3 : n < 2 ^ 31) (hf : ∀ c ∈ s.2 2, fits .char (.int c) = true) (h : zWv xs (d + 1) 77 17 [(0, .ref 28), (1, .ref 3), (2, .ref 17)] (za s 27 (am_cp (s.2 2) (s.2 27) 0 0 n)) Q) : zWv xs (d + 1) 77 0 [(0, .ref 28), (1, .ref 3), (2, .ref 17)] s Q := by
  unfold zWv
  refine am_wh 8 (pc1 := 14) (lv1 := [(0, .ref 28), (1, .ref 3), (2, .ref 17)]) (st1 := [.int (s.1 1), .int 0, .ref 29, .int 0, .ref 4]) rfl ?_
  refine am_w0 (z := (17, [(0, .ref 28), (1, .ref 3), (2, .ref 17)], [], zH (za s 27 (am_cp (s.2 2) (s.2 27) 0 0 n)))) rfl rfl (show am_acp (d + 1) 14 [(0, .ref 28), (1, .ref 3), (2, .ref 17)] [.int (s.1 1), .int 0, .ref 29, .int 0, .ref 4] (zH s) = some (17, [(0, .ref 28), (1, .ref 3), (2, .ref 17)], [], zH (za s 27 (am_cp (s.2 2) (s.2 27) 0 0 n))) from am_acpG (j := 27) (k := 2) (a1 := 0) (a2 := 0) (a3 := n) (lo := s.2 27) (lq := s.2 2) rfl rfl (by omega) (by decide) rfl rfl hn ⟨by decide, by decide, h3⟩ (by omega) (by omega) hf rfl) ?_
  exact h
set_option maxRecDepth 100000 in
theorem vc_78_0 (xs : Option (List Int32)) (d : Nat) (s : zS) (Q : zS → Prop) (n : Nat) (hn : (s.1 19) = nI n) (h1 : n ≤ (s.2 27).length) (h2 : n ≤ (s.2 2).length) (h3 : n < 2 ^ 31) (hf : ∀ c ∈ s.2 27, fits .char (.int c) = true) (h : zWv xs (d + 1) 78 17 [(0, .ref 28), (1, .ref 3)] (za s 2 (am_cp (s.2 27) (s.2 2) 0 0 n)) Q) : zWv xs (d + 1) 78 0 [(0, .ref 28), (1, .ref 3)] s Q := by
  unfold zWv
  refine am_wh 8 (pc1 := 14) (lv1 := [(0, .ref 28), (1, .ref 3)]) (st1 := [.int (s.1 19), .int 0, .ref 4, .int 0, .ref 29]) rfl ?_
  refine am_w0 (z := (17, [(0, .ref 28), (1, .ref 3)], [], zH (za s 2 (am_cp (s.2 27) (s.2 2) 0 0 n)))) rfl rfl (show am_acp (d + 1) 14 [(0, .ref 28), (1, .ref 3)] [.int (s.1 19), .int 0, .ref 4, .int 0, .ref 29] (zH s) = some (17, [(0, .ref 28), (1, .ref 3)], [], zH (za s 2 (am_cp (s.2 27) (s.2 2) 0 0 n))) from am_acpG (j := 2) (k := 27) (a1 := 0) (a2 := 0) (a3 := n) (lo := s.2 2) (lq := s.2 27) rfl rfl (by omega) (by decide) rfl rfl hn ⟨by decide, by decide, h3⟩ (by omega) (by omega) hf rfl) ?_
  exact h
