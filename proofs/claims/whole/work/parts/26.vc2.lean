set_option maxRecDepth 100000 in
theorem vc_2_0 (xs : Option (List Int32)) (d : Nat) (s : zS) (a1 : Int32) (Q : zS → Prop) (h : zWv xs d 3 0 [(0, .ref 27)] s (fun s1 => zWv xs d 5 0 [(0, .ref 27), (1, .int a1)] s1 (fun s3 => ((s3.1 17).toInt = 0 → (zWv xs (d + 1) 2 18 [(0, .ref 27), (2, .int 0)] s3 Q)) ∧ (¬ (s3.1 17).toInt = 0 → (Q s3))))) : zWv xs (d + 1) 2 0 [(0, .ref 27), (1, .int a1)] s Q := by
  unfold zWv
  refine am_wh 1 (pc1 := 1) (lv1 := [(0, .ref 27), (1, .int a1)]) (st1 := [.ref 27]) rfl ?_
  refine am_wc rfl rfl rfl ?_
  refine am_ww h ?_
  rintro _ _ ⟨s1, rfl, rfl, h2⟩
  show am_W _ _ 2 4 [(0, .ref 27), (1, .int a1)] [] (zH s1) _
  refine am_wh 2 (pc1 := 6) (lv1 := [(0, .ref 27), (1, .int a1)]) (st1 := [.int a1, .ref 27]) rfl ?_
  refine am_wc rfl rfl rfl ?_
  refine am_ww h2 ?_
  rintro _ _ ⟨s3, rfl, rfl, h4⟩
  show am_W _ _ 2 9 [(0, .ref 27), (1, .int a1)] [] (zH s3) _
  refine am_wh 2 (pc1 := 13) (lv1 := [(0, .ref 27), (1, .int a1)]) (st1 := [.int (s3.1 17)]) rfl ?_
  obtain ⟨h6, h7⟩ := h4
  by_cases c5 : (s3.1 17).toInt = 0
  · refine am_wb1 rfl false (zn_ne (zq_a _) (by decide) (zr_t _) ⟨by decide, by decide⟩ c5) rfl ?_
    have h8 := h6 c5
    refine am_wh 2 (pc1 := 18) (lv1 := [(2, .int 0), (0, .ref 27), (1, .int a1)]) (st1 := []) rfl ?_
    exact am_wm h8 ⟨rfl, rfl, trivial⟩
  · refine am_wb1 rfl true (zt_ne (zq_a _) (by decide) (zr_t _) ⟨by decide, by decide⟩ c5) rfl ?_
    have h9 := h7 c5
    refine am_wr rfl rfl rfl ?_
    exact ⟨_, rfl, rfl, h9⟩
set_option maxRecDepth 100000 in
theorem vc_2_18 (xs : Option (List Int32)) (d : Nat) (s : zS) (a2 : Int32) (Q : zS → Prop) (h : (a2.toInt < (s.1 7).toInt → (zWv xs d 13 0 [(0, .ref 27), (1, .int a2)] s (fun s5 => zWv xs (d + 1) 2 18 [(0, .ref 27), (2, .int (a2 + 1))] s5 Q))) ∧ (¬ a2.toInt < (s.1 7).toInt → (zWv xs d 17 0 [(0, .ref 27)] s (fun s8 => Q s8)))) : zWv xs (d + 1) 2 18 [(0, .ref 27), (2, .int a2)] s Q := by
  unfold zWv
  refine am_wh 4 (pc1 := 26) (lv1 := [(0, .ref 27), (2, .int a2)]) (st1 := [.int (s.1 7), .int a2]) rfl ?_
  obtain ⟨h2, h3⟩ := h
  by_cases c1 : a2.toInt < (s.1 7).toInt
  · refine am_wb2 rfl false (zn_ge (zq_a _) (zq_a _) (zr_t _) (zr_t _) c1) rfl ?_
    have h4 := h2 c1
    refine am_wh 2 (pc1 := 31) (lv1 := [(0, .ref 27), (2, .int a2)]) (st1 := [.int a2, .ref 27]) rfl ?_
    refine am_wc rfl rfl rfl ?_
    refine am_ww h4 ?_
    rintro _ _ ⟨s5, rfl, rfl, h6⟩
    show am_W _ _ 2 34 [(0, .ref 27), (2, .int a2)] [] (zH s5) _
    refine am_wh 2 (pc1 := 18) (lv1 := [(2, .int (a2 + 1)), (0, .ref 27)]) (st1 := []) rfl ?_
    exact am_wm h6 ⟨rfl, rfl, trivial⟩
  · refine am_wb2 rfl true (zt_ge (zq_a _) (zq_a _) (zr_t _) (zr_t _) c1) rfl ?_
    have h7 := h3 c1
    refine am_wh 1 (pc1 := 41) (lv1 := [(0, .ref 27), (2, .int a2)]) (st1 := [.ref 27]) rfl ?_
    refine am_wc rfl rfl rfl ?_
    refine am_ww h7 ?_
    rintro _ _ ⟨s8, rfl, rfl, h9⟩
    show am_W _ _ 2 44 [(0, .ref 27), (2, .int a2)] [] (zH s8) _
    refine am_wr rfl rfl rfl ?_
    exact ⟨_, rfl, rfl, h9⟩
set_option maxRecDepth 100000 in
theorem vc_3_0 (xs : Option (List Int32)) (d : Nat) (s : zS)  (Q : zS → Prop) (h : zWv xs (d + 1) 3 2 [(0, .ref 27), (1, .int 0)] s Q) : zWv xs (d + 1) 3 0 [(0, .ref 27)] s Q := by
  unfold zWv
  refine am_wh 2 (pc1 := 2) (lv1 := [(1, .int 0), (0, .ref 27)]) (st1 := []) rfl ?_
  exact am_wm h ⟨rfl, rfl, trivial⟩
set_option maxRecDepth 100000 in
theorem vc_3_2 (xs : Option (List Int32)) (d : Nat) (s : zS) (a1 : Int32) (Q : zS → Prop) (h : (a1.toInt < (s.1 7).toInt → (zX (s.2 21) a1.toInt ∧ zWv xs (d + 1) 3 25 [(0, .ref 27), (1, .int a1), (2, .int 0)] (za s 21 (zu (s.2 21) a1.toInt a1)) Q)) ∧ (¬ a1.toInt < (s.1 7).toInt → (Q s))) : zWv xs (d + 1) 3 2 [(0, .ref 27), (1, .int a1)] s Q := by
  unfold zWv
  refine am_wh 4 (pc1 := 10) (lv1 := [(0, .ref 27), (1, .int a1)]) (st1 := [.int (s.1 7), .int a1]) rfl ?_
  obtain ⟨h2, h3⟩ := h
  by_cases c1 : a1.toInt < (s.1 7).toInt
  · refine am_wb2 rfl false (zn_ge (zq_a _) (zq_a _) (zr_t _) (zr_t _) c1) rfl ?_
    have h4 := h2 c1
    refine am_wh 5 (pc1 := 22) (lv1 := [(0, .ref 27), (1, .int a1)]) (st1 := [.int a1, .int a1, .ref 23]) rfl ?_
    obtain ⟨o5, h6⟩ := h4
    refine zw_si (l := (s.2 21)) (i := a1.toInt) rfl rfl (zq_a _) o5 (zh_21 _ _) ?_
    refine am_wh 2 (pc1 := 25) (lv1 := [(2, .int 0), (0, .ref 27), (1, .int a1)]) (st1 := []) rfl ?_
    exact am_wm h6 ⟨rfl, rfl, rfl, trivial⟩
  · refine am_wb2 rfl true (zt_ge (zq_a _) (zq_a _) (zr_t _) (zr_t _) c1) rfl ?_
    have h7 := h3 c1
    refine am_wr rfl rfl rfl ?_
    exact ⟨_, rfl, rfl, h7⟩
set_option maxRecDepth 100000 in
theorem vc_3_25 (xs : Option (List Int32)) (d : Nat) (s : zS) (a1 : Int32) (a2 : Int32) (Q : zS → Prop) (h : (a2.toInt < a1.toInt → (zWi xs d 4 0 [(0, .ref 27), (1, .int a1), (2, .int a2)] s (fun v7 s5 => (v7.toInt = 0 → (zWv xs (d + 1) 3 25 [(0, .ref 27), (1, .int a1), (2, .int (a2 + 1))] s5 Q)) ∧ (¬ v7.toInt = 0 → (zX (s5.2 21) a1.toInt ∧ zWv xs (d + 1) 3 2 [(0, .ref 27), (1, .int (a1 + 1))] (za s5 21 (zu (s5.2 21) a1.toInt a2)) Q))))) ∧ (¬ a2.toInt < a1.toInt → (zWv xs (d + 1) 3 2 [(0, .ref 27), (1, .int (a1 + 1))] s Q))) : zWv xs (d + 1) 3 25 [(0, .ref 27), (1, .int a1), (2, .int a2)] s Q := by
  unfold zWv
  refine am_wh 2 (pc1 := 27) (lv1 := [(0, .ref 27), (1, .int a1), (2, .int a2)]) (st1 := [.int a1, .int a2]) rfl ?_
  obtain ⟨h2, h3⟩ := h
  by_cases c1 : a2.toInt < a1.toInt
  · refine am_wb2 rfl false (zn_ge (zq_a _) (zq_a _) (zr_t _) (zr_t _) c1) rfl ?_
    have h4 := h2 c1
    refine am_wh 3 (pc1 := 33) (lv1 := [(0, .ref 27), (1, .int a1), (2, .int a2)]) (st1 := [.int a2, .int a1, .ref 27]) rfl ?_
    refine am_wc rfl rfl rfl ?_
    refine am_ww h4 ?_
    rintro _ _ ⟨v7, s5, rfl, rfl, h6⟩
    show am_W _ _ 3 36 [(0, .ref 27), (1, .int a1), (2, .int a2)] [.int v7] (zH s5) _
    obtain ⟨h9, h10⟩ := h6
    by_cases c8 : v7.toInt = 0
    · refine am_wb1 rfl true (zt_eq (zq_a _) (by decide) (zr_t _) ⟨by decide, by decide⟩ c8) rfl ?_
      have h11 := h9 c8
      refine am_wh 2 (pc1 := 25) (lv1 := [(2, .int (a2 + 1)), (0, .ref 27), (1, .int a1)]) (st1 := []) rfl ?_
      exact am_wm h11 ⟨rfl, rfl, rfl, trivial⟩
    · refine am_wb1 rfl false (zn_eq (zq_a _) (by decide) (zr_t _) ⟨by decide, by decide⟩ c8) rfl ?_
      have h12 := h10 c8
      refine am_wh 5 (pc1 := 48) (lv1 := [(0, .ref 27), (1, .int a1), (2, .int a2)]) (st1 := [.int a2, .int a1, .ref 23]) rfl ?_
      obtain ⟨o13, h14⟩ := h12
      refine zw_si (l := (s5.2 21)) (i := a1.toInt) rfl rfl (zq_a _) o13 (zh_21 _ _) ?_
      refine am_wh 3 (pc1 := 2) (lv1 := [(1, .int (a1 + 1)), (0, .ref 27), (2, .int a2)]) (st1 := []) rfl ?_
      exact am_wm h14 ⟨rfl, rfl, trivial⟩
  · refine am_wb2 rfl true (zt_ge (zq_a _) (zq_a _) (zr_t _) (zr_t _) c1) rfl ?_
    have h15 := h3 c1
    refine am_wh 2 (pc1 := 2) (lv1 := [(1, .int (a1 + 1)), (0, .ref 27), (2, .int a2)]) (st1 := []) rfl ?_
    exact am_wm h15 ⟨rfl, rfl, trivial⟩
set_option maxRecDepth 100000 in
theorem vc_4_0 (xs : Option (List Int32)) (d : Nat) (s : zS) (a1 : Int32) (a2 : Int32) (Q : Int32 → zS → Prop) (h : zWi xs d 31 0 [(0, .ref 17), (1, .int a1)] s (fun v3 s1 => zWi xs d 31 0 [(0, .ref 17), (1, .int a2)] s1 (fun v6 s4 => (v3.toInt = v6.toInt → (zX (s4.2 16) a1.toInt ∧ zX (s4.2 16) a2.toInt ∧ zWi xs d 90 0 [(0, .ref 3), (1, .int (zg (s4.2 16) a1.toInt)), (2, .int (zg (s4.2 16) a2.toInt)), (3, .int v3)] s4 (fun v17 s15 => (v17.toInt = 0 → (Q 0 s15)) ∧ (¬ v17.toInt = 0 → (Q 1 s15))))) ∧ (¬ v3.toInt = v6.toInt → (Q 0 s4))))) : zWi xs (d + 1) 4 0 [(0, .ref 27), (1, .int a1), (2, .int a2)] s Q := by
  unfold zWi
  refine am_wh 3 (pc1 := 5) (lv1 := [(0, .ref 27), (1, .int a1), (2, .int a2)]) (st1 := [.int a1, .ref 17]) rfl ?_
  refine am_wc rfl rfl rfl ?_
  refine am_ww h ?_
  rintro _ _ ⟨v3, s1, rfl, rfl, h2⟩
  show am_W _ _ 4 8 [(0, .ref 27), (1, .int a1), (2, .int a2)] [.int v3] (zH s1) _
  refine am_wh 5 (pc1 := 15) (lv1 := [(3, .int v3), (0, .ref 27), (1, .int a1), (2, .int a2)]) (st1 := [.int a2, .ref 17, .int v3]) rfl ?_
  refine am_wc rfl rfl rfl ?_
  refine am_ww h2 ?_
  rintro _ _ ⟨v6, s4, rfl, rfl, h5⟩
  show am_W _ _ 4 18 [(3, .int v3), (0, .ref 27), (1, .int a1), (2, .int a2)] [.int v6, .int v3] (zH s4) _
  obtain ⟨h8, h9⟩ := h5
  by_cases c7 : v3.toInt = v6.toInt
  · refine am_wb2 rfl false (zn_ne (zq_a _) (zq_a _) (zr_t _) (zr_t _) c7) rfl ?_
    have h10 := h8 c7
    refine am_wh 6 (pc1 := 33) (lv1 := [(3, .int v3), (0, .ref 27), (1, .int a1), (2, .int a2)]) (st1 := [.int a1, .ref 18, .ref 3]) rfl ?_
    obtain ⟨o11, h12⟩ := h10
    refine zw_li (l := (s4.2 16)) (i := a1.toInt) rfl rfl (zq_a _) o11 ?_
    refine am_wh 4 (pc1 := 42) (lv1 := [(3, .int v3), (0, .ref 27), (1, .int a1), (2, .int a2)]) (st1 := [.int a2, .ref 18, .int (zg (s4.2 16) a1.toInt), .ref 3]) rfl ?_
    obtain ⟨o13, h14⟩ := h12
    refine zw_li (l := (s4.2 16)) (i := a2.toInt) rfl rfl (zq_a _) o13 ?_
    refine am_wh 1 (pc1 := 44) (lv1 := [(3, .int v3), (0, .ref 27), (1, .int a1), (2, .int a2)]) (st1 := [.int v3, .int (zg (s4.2 16) a2.toInt), .int (zg (s4.2 16) a1.toInt), .ref 3]) rfl ?_
    refine am_wc rfl rfl rfl ?_
    refine am_ww h14 ?_
    rintro _ _ ⟨v17, s15, rfl, rfl, h16⟩
    show am_W _ _ 4 47 [(3, .int v3), (0, .ref 27), (1, .int a1), (2, .int a2)] [.int v17] (zH s15) _
    obtain ⟨h19, h20⟩ := h16
    by_cases c18 : v17.toInt = 0
    · refine am_wb1 rfl true (zt_eq (zq_a _) (by decide) (zr_t _) ⟨by decide, by decide⟩ c18) rfl ?_
      have h21 := h19 c18
      refine am_wh 1 (pc1 := 55) (lv1 := [(3, .int v3), (0, .ref 27), (1, .int a1), (2, .int a2)]) (st1 := [.int 0]) rfl ?_
      refine am_wr rfl rfl rfl ?_
      exact ⟨_, _, rfl, rfl, h21⟩
    · refine am_wb1 rfl false (zn_eq (zq_a _) (by decide) (zr_t _) ⟨by decide, by decide⟩ c18) rfl ?_
      have h22 := h20 c18
      refine am_wh 2 (pc1 := 55) (lv1 := [(3, .int v3), (0, .ref 27), (1, .int a1), (2, .int a2)]) (st1 := [.int 1]) rfl ?_
      refine am_wr rfl rfl rfl ?_
      exact ⟨_, _, rfl, rfl, h22⟩
  · refine am_wb2 rfl true (zt_ne (zq_a _) (zq_a _) (zr_t _) (zr_t _) c7) rfl ?_
    have h23 := h9 c7
    refine am_wh 1 (pc1 := 55) (lv1 := [(3, .int v3), (0, .ref 27), (1, .int a1), (2, .int a2)]) (st1 := [.int 0]) rfl ?_
    refine am_wr rfl rfl rfl ?_
    exact ⟨_, _, rfl, rfl, h23⟩
set_option maxRecDepth 100000 in
theorem vc_5_0 (xs : Option (List Int32)) (d : Nat) (s : zS) (a1 : Int32) (Q : zS → Prop) (h : (a1.toInt = (-1) → (zWv xs (d + 1) 5 22 [(0, .ref 27), (1, .int a1), (2, .int 0)] (zf (zf s 17 0) 18 a1) Q)) ∧ (¬ a1.toInt = (-1) → (zWv xs (d + 1) 5 22 [(0, .ref 27), (1, .int a1), (2, .int 0)] (zf (zf s 17 7) 18 a1) Q))) : zWv xs (d + 1) 5 0 [(0, .ref 27), (1, .int a1)] s Q := by
  unfold zWv
  refine am_wh 3 (pc1 := 3) (lv1 := [(0, .ref 27), (1, .int a1)]) (st1 := [.int (-1), .int a1, .ref 27]) rfl ?_
  obtain ⟨h2, h3⟩ := h
  by_cases c1 : a1.toInt = (-1)
  · refine am_wb2 rfl false (zn_ne (zq_a _) (by decide) (zr_t _) ⟨by decide, by decide⟩ c1) rfl ?_
    have h4 := h2 c1
    refine am_wh 2 (pc1 := 12) (lv1 := [(0, .ref 27), (1, .int a1)]) (st1 := [.int 0, .ref 27]) rfl ?_
    refine am_w0 (z := (15, [(0, .ref 27), (1, .int a1)], [], zH (zf s 17 0))) rfl rfl (zp_17 ) ?_
    refine am_wh 2 (pc1 := 17) (lv1 := [(0, .ref 27), (1, .int a1)]) (st1 := [.int a1, .ref 27]) rfl ?_
    refine am_w0 (z := (20, [(0, .ref 27), (1, .int a1)], [], zH (zf (zf s 17 0) 18 a1))) rfl rfl (zp_18 ) ?_
    refine am_wh 2 (pc1 := 22) (lv1 := [(2, .int 0), (0, .ref 27), (1, .int a1)]) (st1 := []) rfl ?_
    exact am_wm h4 ⟨rfl, rfl, rfl, trivial⟩
  · refine am_wb2 rfl true (zt_ne (zq_a _) (by decide) (zr_t _) ⟨by decide, by decide⟩ c1) rfl ?_
    have h5 := h3 c1
    refine am_wh 1 (pc1 := 12) (lv1 := [(0, .ref 27), (1, .int a1)]) (st1 := [.int 7, .ref 27]) rfl ?_
    refine am_w0 (z := (15, [(0, .ref 27), (1, .int a1)], [], zH (zf s 17 7))) rfl rfl (zp_17 ) ?_
    refine am_wh 2 (pc1 := 17) (lv1 := [(0, .ref 27), (1, .int a1)]) (st1 := [.int a1, .ref 27]) rfl ?_
    refine am_w0 (z := (20, [(0, .ref 27), (1, .int a1)], [], zH (zf (zf s 17 7) 18 a1))) rfl rfl (zp_18 ) ?_
    refine am_wh 2 (pc1 := 22) (lv1 := [(2, .int 0), (0, .ref 27), (1, .int a1)]) (st1 := []) rfl ?_
    exact am_wm h5 ⟨rfl, rfl, rfl, trivial⟩
set_option maxRecDepth 100000 in
theorem vc_5_22 (xs : Option (List Int32)) (d : Nat) (s : zS) (a1 : Int32) (a2 : Int32) (Q : zS → Prop) (h : (a2.toInt < (s.1 7).toInt → ((a1.toInt = (-1) → (zWi xs d 6 0 [(0, .ref 27), (1, .int a2)] s (fun v11 s9 => (v11.toInt = 0 → (zWv xs (d + 1) 5 22 [(0, .ref 27), (1, .int a1), (2, .int (a2 + 1))] s9 Q)) ∧ (¬ v11.toInt = 0 → (zX (s9.2 16) a2.toInt ∧ Q (zf (zf s9 17 v11) 18 (zg (s9.2 16) a2.toInt))))))) ∧ (¬ a1.toInt = (-1) → (zX (s.2 16) a2.toInt ∧ (a1.toInt < (zg (s.2 16) a2.toInt).toInt → (Q s)) ∧ (¬ a1.toInt < (zg (s.2 16) a2.toInt).toInt → (zWi xs d 6 0 [(0, .ref 27), (1, .int a2)] s (fun v29 s27 => (v29.toInt = 0 → (zWv xs (d + 1) 5 22 [(0, .ref 27), (1, .int a1), (2, .int (a2 + 1))] s27 Q)) ∧ (¬ v29.toInt = 0 → (zX (s27.2 16) a2.toInt ∧ Q (zf (zf s27 17 v29) 18 (zg (s27.2 16) a2.toInt))))))))))) ∧ (¬ a2.toInt < (s.1 7).toInt → (Q s))) : zWv xs (d + 1) 5 22 [(0, .ref 27), (1, .int a1), (2, .int a2)] s Q := by
  unfold zWv
  refine am_wh 4 (pc1 := 30) (lv1 := [(0, .ref 27), (1, .int a1), (2, .int a2)]) (st1 := [.int (s.1 7), .int a2]) rfl ?_
  obtain ⟨h2, h3⟩ := h
  by_cases c1 : a2.toInt < (s.1 7).toInt
  · refine am_wb2 rfl false (zn_ge (zq_a _) (zq_a _) (zr_t _) (zr_t _) c1) rfl ?_
    have h4 := h2 c1
    refine am_wh 2 (pc1 := 35) (lv1 := [(0, .ref 27), (1, .int a1), (2, .int a2)]) (st1 := [.int (-1), .int a1]) rfl ?_
    obtain ⟨h6, h7⟩ := h4
    by_cases c5 : a1.toInt = (-1)
    · refine am_wb2 rfl true (zt_eq (zq_a _) (by decide) (zr_t _) ⟨by decide, by decide⟩ c5) rfl ?_
      have h8 := h6 c5
      refine am_wh 2 (pc1 := 54) (lv1 := [(0, .ref 27), (1, .int a1), (2, .int a2)]) (st1 := [.int a2, .ref 27]) rfl ?_
      refine am_wc rfl rfl rfl ?_
      refine am_ww h8 ?_
      rintro _ _ ⟨v11, s9, rfl, rfl, h10⟩
      show am_W _ _ 5 57 [(0, .ref 27), (1, .int a1), (2, .int a2)] [.int v11] (zH s9) _
      refine am_wh 2 (pc1 := 59) (lv1 := [(3, .int v11), (0, .ref 27), (1, .int a1), (2, .int a2)]) (st1 := [.int v11]) rfl ?_
      obtain ⟨h13, h14⟩ := h10
      by_cases c12 : v11.toInt = 0
      · refine am_wb1 rfl true (zt_eq (zq_a _) (by decide) (zr_t _) ⟨by decide, by decide⟩ c12) rfl ?_
        have h15 := h13 c12
        refine am_wh 2 (pc1 := 22) (lv1 := [(2, .int (a2 + 1)), (3, .int v11), (0, .ref 27), (1, .int a1)]) (st1 := []) rfl ?_
        exact am_wm h15 ⟨rfl, rfl, rfl, trivial⟩
      · refine am_wb1 rfl false (zn_eq (zq_a _) (by decide) (zr_t _) ⟨by decide, by decide⟩ c12) rfl ?_
        have h16 := h14 c12
        refine am_wh 2 (pc1 := 64) (lv1 := [(3, .int v11), (0, .ref 27), (1, .int a1), (2, .int a2)]) (st1 := [.int v11, .ref 27]) rfl ?_
        refine am_w0 (z := (67, [(3, .int v11), (0, .ref 27), (1, .int a1), (2, .int a2)], [], zH (zf s9 17 v11))) rfl rfl (zp_17 ) ?_
        refine am_wh 5 (pc1 := 76) (lv1 := [(3, .int v11), (0, .ref 27), (1, .int a1), (2, .int a2)]) (st1 := [.int a2, .ref 18, .ref 27]) rfl ?_
        obtain ⟨o17, h18⟩ := h16
        refine zw_li (l := (s9.2 16)) (i := a2.toInt) rfl rfl (zq_a _) o17 ?_
        refine am_w0 (z := (80, [(3, .int v11), (0, .ref 27), (1, .int a1), (2, .int a2)], [], zH (zf (zf s9 17 v11) 18 (zg (s9.2 16) a2.toInt)))) rfl rfl (zp_18 ) ?_
        refine am_wr rfl rfl rfl ?_
        exact ⟨_, rfl, rfl, h18⟩
    · refine am_wb2 rfl false (zn_eq (zq_a _) (by decide) (zr_t _) ⟨by decide, by decide⟩ c5) rfl ?_
      have h19 := h7 c5
      refine am_wh 4 (pc1 := 46) (lv1 := [(0, .ref 27), (1, .int a1), (2, .int a2)]) (st1 := [.int a2, .ref 18]) rfl ?_
      obtain ⟨o20, h21⟩ := h19
      refine zw_li (l := (s.2 16)) (i := a2.toInt) rfl rfl (zq_a _) o20 ?_
      refine am_wh 1 (pc1 := 48) (lv1 := [(0, .ref 27), (1, .int a1), (2, .int a2)]) (st1 := [.int a1, .int (zg (s.2 16) a2.toInt)]) rfl ?_
      obtain ⟨h23, h24⟩ := h21
      by_cases c22 : a1.toInt < (zg (s.2 16) a2.toInt).toInt
      · refine am_wb2 rfl false (zn_le (zq_a _) (zq_a _) (zr_t _) (zr_t _) c22) rfl ?_
        have h25 := h23 c22
        refine am_wr rfl rfl rfl ?_
        exact ⟨_, rfl, rfl, h25⟩
      · refine am_wb2 rfl true (zt_le (zq_a _) (zq_a _) (zr_t _) (zr_t _) c22) rfl ?_
        have h26 := h24 c22
        refine am_wh 2 (pc1 := 54) (lv1 := [(0, .ref 27), (1, .int a1), (2, .int a2)]) (st1 := [.int a2, .ref 27]) rfl ?_
        refine am_wc rfl rfl rfl ?_
        refine am_ww h26 ?_
        rintro _ _ ⟨v29, s27, rfl, rfl, h28⟩
        show am_W _ _ 5 57 [(0, .ref 27), (1, .int a1), (2, .int a2)] [.int v29] (zH s27) _
        refine am_wh 2 (pc1 := 59) (lv1 := [(3, .int v29), (0, .ref 27), (1, .int a1), (2, .int a2)]) (st1 := [.int v29]) rfl ?_
        obtain ⟨h31, h32⟩ := h28
        by_cases c30 : v29.toInt = 0
        · refine am_wb1 rfl true (zt_eq (zq_a _) (by decide) (zr_t _) ⟨by decide, by decide⟩ c30) rfl ?_
          have h33 := h31 c30
          refine am_wh 2 (pc1 := 22) (lv1 := [(2, .int (a2 + 1)), (3, .int v29), (0, .ref 27), (1, .int a1)]) (st1 := []) rfl ?_
          exact am_wm h33 ⟨rfl, rfl, rfl, trivial⟩
        · refine am_wb1 rfl false (zn_eq (zq_a _) (by decide) (zr_t _) ⟨by decide, by decide⟩ c30) rfl ?_
          have h34 := h32 c30
          refine am_wh 2 (pc1 := 64) (lv1 := [(3, .int v29), (0, .ref 27), (1, .int a1), (2, .int a2)]) (st1 := [.int v29, .ref 27]) rfl ?_
          refine am_w0 (z := (67, [(3, .int v29), (0, .ref 27), (1, .int a1), (2, .int a2)], [], zH (zf s27 17 v29))) rfl rfl (zp_17 ) ?_
          refine am_wh 5 (pc1 := 76) (lv1 := [(3, .int v29), (0, .ref 27), (1, .int a1), (2, .int a2)]) (st1 := [.int a2, .ref 18, .ref 27]) rfl ?_
          obtain ⟨o35, h36⟩ := h34
          refine zw_li (l := (s27.2 16)) (i := a2.toInt) rfl rfl (zq_a _) o35 ?_
          refine am_w0 (z := (80, [(3, .int v29), (0, .ref 27), (1, .int a1), (2, .int a2)], [], zH (zf (zf s27 17 v29) 18 (zg (s27.2 16) a2.toInt)))) rfl rfl (zp_18 ) ?_
          refine am_wr rfl rfl rfl ?_
          exact ⟨_, rfl, rfl, h36⟩
  · refine am_wb2 rfl true (zt_ge (zq_a _) (zq_a _) (zr_t _) (zr_t _) c1) rfl ?_
    have h37 := h3 c1
    refine am_wr rfl rfl rfl ?_
    exact ⟨_, rfl, rfl, h37⟩
set_option maxRecDepth 100000 in
theorem vc_6_0 (xs : Option (List Int32)) (d : Nat) (s : zS) (a1 : Int32) (Q : Int32 → zS → Prop) (h : zWi xs d 32 0 [(0, .ref 17), (1, .int a1), (2, .int 16)] s (fun v3 s1 => (v3.toInt = 0 → (zWi xs d 32 0 [(0, .ref 17), (1, .int a1), (2, .int 12)] s1 (fun v10 s8 => (v10.toInt = 0 → (zWi xs d 32 0 [(0, .ref 17), (1, .int a1), (2, .int 32)] s8 (fun v17 s15 => (v17.toInt = 0 → (Q 0 s15)) ∧ (¬ v17.toInt = 0 → (zWi xs d 9 0 [(0, .ref 27), (1, .int a1)] s15 (fun v25 s23 => Q v25 s23)))))) ∧ (¬ v10.toInt = 0 → (zWi xs d 8 0 [(0, .ref 27), (1, .int a1)] s8 (fun v29 s27 => Q v29 s27)))))) ∧ (¬ v3.toInt = 0 → (zWi xs d 7 0 [(0, .ref 27), (1, .int a1)] s1 (fun v33 s31 => ((v33 &&& 16).toInt = 0 → (Q 0 s31)) ∧ (¬ (v33 &&& 16).toInt = 0 → (Q 1 s31))))))) : zWi xs (d + 1) 6 0 [(0, .ref 27), (1, .int a1)] s Q := by
  unfold zWi
  refine am_wh 4 (pc1 := 7) (lv1 := [(0, .ref 27), (1, .int a1)]) (st1 := [.int 16, .int a1, .ref 17]) rfl ?_
  refine am_wc rfl rfl rfl ?_
  refine am_ww h ?_
  rintro _ _ ⟨v3, s1, rfl, rfl, h2⟩
  show am_W _ _ 6 10 [(0, .ref 27), (1, .int a1)] [.int v3] (zH s1) _
  obtain ⟨h5, h6⟩ := h2
  by_cases c4 : v3.toInt = 0
  · refine am_wb1 rfl true (zt_eq (zq_a _) (by decide) (zr_t _) ⟨by decide, by decide⟩ c4) rfl ?_
    have h7 := h5 c4
    refine am_wh 4 (pc1 := 47) (lv1 := [(0, .ref 27), (1, .int a1)]) (st1 := [.int 12, .int a1, .ref 17]) rfl ?_
    refine am_wc rfl rfl rfl ?_
    refine am_ww h7 ?_
    rintro _ _ ⟨v10, s8, rfl, rfl, h9⟩
    show am_W _ _ 6 50 [(0, .ref 27), (1, .int a1)] [.int v10] (zH s8) _
    obtain ⟨h12, h13⟩ := h9
    by_cases c11 : v10.toInt = 0
    · refine am_wb1 rfl true (zt_eq (zq_a _) (by decide) (zr_t _) ⟨by decide, by decide⟩ c11) rfl ?_
      have h14 := h12 c11
      refine am_wh 4 (pc1 := 66) (lv1 := [(0, .ref 27), (1, .int a1)]) (st1 := [.int 32, .int a1, .ref 17]) rfl ?_
      refine am_wc rfl rfl rfl ?_
      refine am_ww h14 ?_
      rintro _ _ ⟨v17, s15, rfl, rfl, h16⟩
      show am_W _ _ 6 69 [(0, .ref 27), (1, .int a1)] [.int v17] (zH s15) _
      obtain ⟨h19, h20⟩ := h16
      by_cases c18 : v17.toInt = 0
      · refine am_wb1 rfl true (zt_eq (zq_a _) (by decide) (zr_t _) ⟨by decide, by decide⟩ c18) rfl ?_
        have h21 := h19 c18
        refine am_wh 1 (pc1 := 81) (lv1 := [(0, .ref 27), (1, .int a1)]) (st1 := [.int 0]) rfl ?_
        refine am_wr rfl rfl rfl ?_
        exact ⟨_, _, rfl, rfl, h21⟩
      · refine am_wb1 rfl false (zn_eq (zq_a _) (by decide) (zr_t _) ⟨by decide, by decide⟩ c18) rfl ?_
        have h22 := h20 c18
        refine am_wh 2 (pc1 := 74) (lv1 := [(0, .ref 27), (1, .int a1)]) (st1 := [.int a1, .ref 27]) rfl ?_
        refine am_wc rfl rfl rfl ?_
        refine am_ww h22 ?_
        rintro _ _ ⟨v25, s23, rfl, rfl, h24⟩
        show am_W _ _ 6 77 [(0, .ref 27), (1, .int a1)] [.int v25] (zH s23) _
        refine am_wh 1 (pc1 := 81) (lv1 := [(0, .ref 27), (1, .int a1)]) (st1 := [.int v25]) rfl ?_
        refine am_wr rfl rfl rfl ?_
        exact ⟨_, _, rfl, rfl, h24⟩
    · refine am_wb1 rfl false (zn_eq (zq_a _) (by decide) (zr_t _) ⟨by decide, by decide⟩ c11) rfl ?_
      have h26 := h13 c11
      refine am_wh 2 (pc1 := 55) (lv1 := [(0, .ref 27), (1, .int a1)]) (st1 := [.int a1, .ref 27]) rfl ?_
      refine am_wc rfl rfl rfl ?_
      refine am_ww h26 ?_
      rintro _ _ ⟨v29, s27, rfl, rfl, h28⟩
      show am_W _ _ 6 58 [(0, .ref 27), (1, .int a1)] [.int v29] (zH s27) _
      refine am_wr rfl rfl rfl ?_
      exact ⟨_, _, rfl, rfl, h28⟩
  · refine am_wb1 rfl false (zn_eq (zq_a _) (by decide) (zr_t _) ⟨by decide, by decide⟩ c4) rfl ?_
    have h30 := h6 c4
    refine am_wh 2 (pc1 := 15) (lv1 := [(0, .ref 27), (1, .int a1)]) (st1 := [.int a1, .ref 27]) rfl ?_
    refine am_wc rfl rfl rfl ?_
    refine am_ww h30 ?_
    rintro _ _ ⟨v33, s31, rfl, rfl, h32⟩
    show am_W _ _ 6 18 [(0, .ref 27), (1, .int a1)] [.int v33] (zH s31) _
    refine am_wh 2 (pc1 := 21) (lv1 := [(0, .ref 27), (1, .int a1)]) (st1 := [.int (v33 &&& 16)]) rfl ?_
    obtain ⟨h35, h36⟩ := h32
    by_cases c34 : (v33 &&& 16).toInt = 0
    · refine am_wb1 rfl true (zt_eq (zq_a _) (by decide) (zr_t _) ⟨by decide, by decide⟩ c34) rfl ?_
      have h37 := h35 c34
      refine am_wh 5 (pc1 := 39) (lv1 := [(2, .int 0), (0, .ref 27), (1, .int a1)]) (st1 := [.int 0]) rfl ?_
      refine am_wr rfl rfl rfl ?_
      exact ⟨_, _, rfl, rfl, h37⟩
    · refine am_wb1 rfl false (zn_eq (zq_a _) (by decide) (zr_t _) ⟨by decide, by decide⟩ c34) rfl ?_
      have h38 := h36 c34
      refine am_wh 7 (pc1 := 39) (lv1 := [(2, .int 1), (0, .ref 27), (1, .int a1)]) (st1 := [.int 1]) rfl ?_
      refine am_wr rfl rfl rfl ?_
      exact ⟨_, _, rfl, rfl, h38⟩
set_option maxRecDepth 100000 in
theorem vc_7_0 (xs : Option (List Int32)) (d : Nat) (s : zS) (a1 : Int32) (Q : Int32 → zS → Prop) (h : zX (s.2 19) a1.toInt ∧ zX (s.2 21) a1.toInt ∧ zWi xs d 34 0 [(0, .ref 17), (1, .int (zg (s.2 19) a1.toInt)), (2, .int (zg (s.2 21) a1.toInt)), (3, .int a1)] s (fun v7 s5 => Q v7 s5)) : zWi xs (d + 1) 7 0 [(0, .ref 27), (1, .int a1)] s Q := by
  unfold zWi
  refine am_wh 6 (pc1 := 12) (lv1 := [(0, .ref 27), (1, .int a1)]) (st1 := [.int a1, .ref 21, .ref 17]) rfl ?_
  obtain ⟨o1, h2⟩ := h
  refine zw_li (l := (s.2 19)) (i := a1.toInt) rfl rfl (zq_a _) o1 ?_
  refine am_wh 4 (pc1 := 21) (lv1 := [(0, .ref 27), (1, .int a1)]) (st1 := [.int a1, .ref 23, .int (zg (s.2 19) a1.toInt), .ref 17]) rfl ?_
  obtain ⟨o3, h4⟩ := h2
  refine zw_li (l := (s.2 21)) (i := a1.toInt) rfl rfl (zq_a _) o3 ?_
  refine am_wh 1 (pc1 := 23) (lv1 := [(0, .ref 27), (1, .int a1)]) (st1 := [.int a1, .int (zg (s.2 21) a1.toInt), .int (zg (s.2 19) a1.toInt), .ref 17]) rfl ?_
  refine am_wc rfl rfl rfl ?_
  refine am_ww h4 ?_
  rintro _ _ ⟨v7, s5, rfl, rfl, h6⟩
  show am_W _ _ 7 26 [(0, .ref 27), (1, .int a1)] [.int v7] (zH s5) _
  refine am_wr rfl rfl rfl ?_
  exact ⟨_, _, rfl, rfl, h6⟩
set_option maxRecDepth 100000 in
theorem vc_8_0 (xs : Option (List Int32)) (d : Nat) (s : zS) (a1 : Int32) (Q : Int32 → zS → Prop) (h : zWi xs d 7 0 [(0, .ref 27), (1, .int a1)] s (fun v3 s1 => zWi xs d 32 0 [(0, .ref 17), (1, .int a1), (2, .int 8)] s1 (fun v6 s4 => (v6.toInt = 0 → (zX (s4.2 19) a1.toInt ∧ ((v3 &&& 16).toInt = 0 → (((v3 &&& 3).toInt = 0 → (((v3 &&& 8).toInt = 0 → (Q 0 s4)) ∧ (¬ (v3 &&& 8).toInt = 0 → (Q 5 s4)))) ∧ (¬ (v3 &&& 3).toInt = 0 → (Q 3 s4)))) ∧ (¬ (v3 &&& 16).toInt = 0 → (Q 2 s4)))) ∧ (¬ v6.toInt = 0 → (zX (s4.2 19) a1.toInt ∧ ((v3 &&& 16).toInt = 0 → (((v3 &&& 3).toInt = 0 → (((zg (s4.2 19) a1.toInt).toInt = 0 → (Q 4 s4)) ∧ (¬ (zg (s4.2 19) a1.toInt).toInt = 0 → (((v3 &&& 4).toInt = 0 → (zX (s4.2 21) a1.toInt ∧ zWi xs d 11 0 [(0, .ref 27), (1, .int (zg (s4.2 19) a1.toInt)), (2, .int (zg (s4.2 21) a1.toInt))] s4 (fun v52 s50 => (v52.toInt = (-1) → (Q 6 s50)) ∧ (¬ v52.toInt = (-1) → (Q 0 s50))))) ∧ (¬ (v3 &&& 4).toInt = 0 → (Q 5 s4)))))) ∧ (¬ (v3 &&& 3).toInt = 0 → (Q 3 s4)))) ∧ (¬ (v3 &&& 16).toInt = 0 → (Q 2 s4))))))) : zWi xs (d + 1) 8 0 [(0, .ref 27), (1, .int a1)] s Q := by
  unfold zWi
  refine am_wh 2 (pc1 := 2) (lv1 := [(0, .ref 27), (1, .int a1)]) (st1 := [.int a1, .ref 27]) rfl ?_
  refine am_wc rfl rfl rfl ?_
  refine am_ww h ?_
  rintro _ _ ⟨v3, s1, rfl, rfl, h2⟩
  show am_W _ _ 8 5 [(0, .ref 27), (1, .int a1)] [.int v3] (zH s1) _
  refine am_wh 5 (pc1 := 13) (lv1 := [(2, .int v3), (0, .ref 27), (1, .int a1)]) (st1 := [.int 8, .int a1, .ref 17]) rfl ?_
  refine am_wc rfl rfl rfl ?_
  refine am_ww h2 ?_
  rintro _ _ ⟨v6, s4, rfl, rfl, h5⟩
  show am_W _ _ 8 16 [(2, .int v3), (0, .ref 27), (1, .int a1)] [.int v6] (zH s4) _
  refine am_wh 2 (pc1 := 18) (lv1 := [(3, .int v6), (2, .int v3), (0, .ref 27), (1, .int a1)]) (st1 := [.int v6]) rfl ?_
  obtain ⟨h8, h9⟩ := h5
  by_cases c7 : v6.toInt = 0
  · refine am_wb1 rfl true (zt_eq (zq_a _) (by decide) (zr_t _) ⟨by decide, by decide⟩ c7) rfl ?_
    have h10 := h8 c7
    refine am_wh 6 (pc1 := 37) (lv1 := [(4, .int 8), (3, .int v6), (2, .int v3), (0, .ref 27), (1, .int a1)]) (st1 := [.int a1, .ref 21]) rfl ?_
    obtain ⟨o11, h12⟩ := h10
    refine zw_li (l := (s4.2 19)) (i := a1.toInt) rfl rfl (zq_a _) o11 ?_
    refine am_wh 4 (pc1 := 44) (lv1 := [(5, .int (zg (s4.2 19) a1.toInt)), (4, .int 8), (3, .int v6), (2, .int v3), (0, .ref 27), (1, .int a1)]) (st1 := [.int (v3 &&& 16)]) rfl ?_
    obtain ⟨h14, h15⟩ := h12
    by_cases c13 : (v3 &&& 16).toInt = 0
    · refine am_wb1 rfl true (zt_eq (zq_a _) (by decide) (zr_t _) ⟨by decide, by decide⟩ c13) rfl ?_
      have h16 := h14 c13
      refine am_wh 3 (pc1 := 52) (lv1 := [(5, .int (zg (s4.2 19) a1.toInt)), (4, .int 8), (3, .int v6), (2, .int v3), (0, .ref 27), (1, .int a1)]) (st1 := [.int (v3 &&& 3)]) rfl ?_
      obtain ⟨h18, h19⟩ := h16
      by_cases c17 : (v3 &&& 3).toInt = 0
      · refine am_wb1 rfl true (zt_eq (zq_a _) (by decide) (zr_t _) ⟨by decide, by decide⟩ c17) rfl ?_
        have h20 := h18 c17
        refine am_wh 1 (pc1 := 58) (lv1 := [(5, .int (zg (s4.2 19) a1.toInt)), (4, .int 8), (3, .int v6), (2, .int v3), (0, .ref 27), (1, .int a1)]) (st1 := [.int v6]) rfl ?_
        refine am_wb1 rfl true (zt_eq (zq_a _) (by decide) (zr_t _) ⟨by decide, by decide⟩ c7) rfl ?_
        refine am_wh 3 (pc1 := 72) (lv1 := [(5, .int (zg (s4.2 19) a1.toInt)), (4, .int 8), (3, .int v6), (2, .int v3), (0, .ref 27), (1, .int a1)]) (st1 := [.int (v3 &&& 8)]) rfl ?_
        obtain ⟨h22, h23⟩ := h20
        by_cases c21 : (v3 &&& 8).toInt = 0
        · refine am_wb1 rfl true (zt_eq (zq_a _) (by decide) (zr_t _) ⟨by decide, by decide⟩ c21) rfl ?_
          have h24 := h22 c21
          refine am_wh 1 (pc1 := 78) (lv1 := [(5, .int (zg (s4.2 19) a1.toInt)), (4, .int 8), (3, .int v6), (2, .int v3), (0, .ref 27), (1, .int a1)]) (st1 := [.int v6]) rfl ?_
          refine am_wb1 rfl true (zt_eq (zq_a _) (by decide) (zr_t _) ⟨by decide, by decide⟩ c7) rfl ?_
          refine am_wh 5 (pc1 := 118) (lv1 := [(6, .int 0), (5, .int (zg (s4.2 19) a1.toInt)), (4, .int 8), (3, .int v6), (2, .int v3), (0, .ref 27), (1, .int a1)]) (st1 := [.int 0]) rfl ?_
          refine am_wr rfl rfl rfl ?_
          exact ⟨_, _, rfl, rfl, h24⟩
        · refine am_wb1 rfl false (zn_eq (zq_a _) (by decide) (zr_t _) ⟨by decide, by decide⟩ c21) rfl ?_
          have h25 := h23 c21
          refine am_wh 1 (pc1 := 76) (lv1 := [(5, .int (zg (s4.2 19) a1.toInt)), (4, .int 8), (3, .int v6), (2, .int v3), (0, .ref 27), (1, .int a1)]) (st1 := [.int 5]) rfl ?_
          refine am_wr rfl rfl rfl ?_
          exact ⟨_, _, rfl, rfl, h25⟩
      · refine am_wb1 rfl false (zn_eq (zq_a _) (by decide) (zr_t _) ⟨by decide, by decide⟩ c17) rfl ?_
        have h26 := h19 c17
        refine am_wh 1 (pc1 := 56) (lv1 := [(5, .int (zg (s4.2 19) a1.toInt)), (4, .int 8), (3, .int v6), (2, .int v3), (0, .ref 27), (1, .int a1)]) (st1 := [.int 3]) rfl ?_
        refine am_wr rfl rfl rfl ?_
        exact ⟨_, _, rfl, rfl, h26⟩
    · refine am_wb1 rfl false (zn_eq (zq_a _) (by decide) (zr_t _) ⟨by decide, by decide⟩ c13) rfl ?_
      have h27 := h15 c13
      refine am_wh 1 (pc1 := 48) (lv1 := [(5, .int (zg (s4.2 19) a1.toInt)), (4, .int 8), (3, .int v6), (2, .int v3), (0, .ref 27), (1, .int a1)]) (st1 := [.int 2]) rfl ?_
      refine am_wr rfl rfl rfl ?_
      exact ⟨_, _, rfl, rfl, h27⟩
  · refine am_wb1 rfl false (zn_eq (zq_a _) (by decide) (zr_t _) ⟨by decide, by decide⟩ c7) rfl ?_
    have h28 := h9 c7
    refine am_wh 7 (pc1 := 37) (lv1 := [(4, .int 4), (3, .int v6), (2, .int v3), (0, .ref 27), (1, .int a1)]) (st1 := [.int a1, .ref 21]) rfl ?_
    obtain ⟨o29, h30⟩ := h28
    refine zw_li (l := (s4.2 19)) (i := a1.toInt) rfl rfl (zq_a _) o29 ?_
    refine am_wh 4 (pc1 := 44) (lv1 := [(5, .int (zg (s4.2 19) a1.toInt)), (4, .int 4), (3, .int v6), (2, .int v3), (0, .ref 27), (1, .int a1)]) (st1 := [.int (v3 &&& 16)]) rfl ?_
    obtain ⟨h32, h33⟩ := h30
    by_cases c31 : (v3 &&& 16).toInt = 0
    · refine am_wb1 rfl true (zt_eq (zq_a _) (by decide) (zr_t _) ⟨by decide, by decide⟩ c31) rfl ?_
      have h34 := h32 c31
      refine am_wh 3 (pc1 := 52) (lv1 := [(5, .int (zg (s4.2 19) a1.toInt)), (4, .int 4), (3, .int v6), (2, .int v3), (0, .ref 27), (1, .int a1)]) (st1 := [.int (v3 &&& 3)]) rfl ?_
      obtain ⟨h36, h37⟩ := h34
      by_cases c35 : (v3 &&& 3).toInt = 0
      · refine am_wb1 rfl true (zt_eq (zq_a _) (by decide) (zr_t _) ⟨by decide, by decide⟩ c35) rfl ?_
        have h38 := h36 c35
        refine am_wh 1 (pc1 := 58) (lv1 := [(5, .int (zg (s4.2 19) a1.toInt)), (4, .int 4), (3, .int v6), (2, .int v3), (0, .ref 27), (1, .int a1)]) (st1 := [.int v6]) rfl ?_
        refine am_wb1 rfl false (zn_eq (zq_a _) (by decide) (zr_t _) ⟨by decide, by decide⟩ c7) rfl ?_
        refine am_wh 1 (pc1 := 63) (lv1 := [(5, .int (zg (s4.2 19) a1.toInt)), (4, .int 4), (3, .int v6), (2, .int v3), (0, .ref 27), (1, .int a1)]) (st1 := [.int (zg (s4.2 19) a1.toInt)]) rfl ?_
        obtain ⟨h40, h41⟩ := h38
        by_cases c39 : (zg (s4.2 19) a1.toInt).toInt = 0
        · refine am_wb1 rfl false (zn_ne (zq_a _) (by decide) (zr_t _) ⟨by decide, by decide⟩ c39) rfl ?_
          have h42 := h40 c39
          refine am_wh 1 (pc1 := 67) (lv1 := [(5, .int (zg (s4.2 19) a1.toInt)), (4, .int 4), (3, .int v6), (2, .int v3), (0, .ref 27), (1, .int a1)]) (st1 := [.int 4]) rfl ?_
          refine am_wr rfl rfl rfl ?_
          exact ⟨_, _, rfl, rfl, h42⟩
        · refine am_wb1 rfl true (zt_ne (zq_a _) (by decide) (zr_t _) ⟨by decide, by decide⟩ c39) rfl ?_
          have h43 := h41 c39
          refine am_wh 3 (pc1 := 72) (lv1 := [(5, .int (zg (s4.2 19) a1.toInt)), (4, .int 4), (3, .int v6), (2, .int v3), (0, .ref 27), (1, .int a1)]) (st1 := [.int (v3 &&& 4)]) rfl ?_
          obtain ⟨h45, h46⟩ := h43
          by_cases c44 : (v3 &&& 4).toInt = 0
          · refine am_wb1 rfl true (zt_eq (zq_a _) (by decide) (zr_t _) ⟨by decide, by decide⟩ c44) rfl ?_
            have h47 := h45 c44
            refine am_wh 1 (pc1 := 78) (lv1 := [(5, .int (zg (s4.2 19) a1.toInt)), (4, .int 4), (3, .int v6), (2, .int v3), (0, .ref 27), (1, .int a1)]) (st1 := [.int v6]) rfl ?_
            refine am_wb1 rfl false (zn_eq (zq_a _) (by decide) (zr_t _) ⟨by decide, by decide⟩ c7) rfl ?_
            refine am_wh 6 (pc1 := 92) (lv1 := [(5, .int (zg (s4.2 19) a1.toInt)), (4, .int 4), (3, .int v6), (2, .int v3), (0, .ref 27), (1, .int a1)]) (st1 := [.int a1, .ref 23, .int (zg (s4.2 19) a1.toInt), .ref 27]) rfl ?_
            obtain ⟨o48, h49⟩ := h47
            refine zw_li (l := (s4.2 21)) (i := a1.toInt) rfl rfl (zq_a _) o48 ?_
            refine am_wc rfl rfl rfl ?_
            refine am_ww h49 ?_
            rintro _ _ ⟨v52, s50, rfl, rfl, h51⟩
            show am_W _ _ 8 96 [(5, .int (zg (s4.2 19) a1.toInt)), (4, .int 4), (3, .int v6), (2, .int v3), (0, .ref 27), (1, .int a1)] [.int v52] (zH s50) _
            refine am_wh 1 (pc1 := 97) (lv1 := [(5, .int (zg (s4.2 19) a1.toInt)), (4, .int 4), (3, .int v6), (2, .int v3), (0, .ref 27), (1, .int a1)]) (st1 := [.int (-1), .int v52]) rfl ?_
            obtain ⟨h54, h55⟩ := h51
            by_cases c53 : v52.toInt = (-1)
            · refine am_wb2 rfl false (zn_ne (zq_a _) (by decide) (zr_t _) ⟨by decide, by decide⟩ c53) rfl ?_
              have h56 := h54 c53
              refine am_wh 7 (pc1 := 118) (lv1 := [(6, .int 1), (5, .int (zg (s4.2 19) a1.toInt)), (4, .int 4), (3, .int v6), (2, .int v3), (0, .ref 27), (1, .int a1)]) (st1 := [.int 6]) rfl ?_
              refine am_wr rfl rfl rfl ?_
              exact ⟨_, _, rfl, rfl, h56⟩
            · refine am_wb2 rfl true (zt_ne (zq_a _) (by decide) (zr_t _) ⟨by decide, by decide⟩ c53) rfl ?_
              have h57 := h55 c53
              refine am_wh 5 (pc1 := 118) (lv1 := [(6, .int 0), (5, .int (zg (s4.2 19) a1.toInt)), (4, .int 4), (3, .int v6), (2, .int v3), (0, .ref 27), (1, .int a1)]) (st1 := [.int 0]) rfl ?_
              refine am_wr rfl rfl rfl ?_
              exact ⟨_, _, rfl, rfl, h57⟩
          · refine am_wb1 rfl false (zn_eq (zq_a _) (by decide) (zr_t _) ⟨by decide, by decide⟩ c44) rfl ?_
            have h58 := h46 c44
            refine am_wh 1 (pc1 := 76) (lv1 := [(5, .int (zg (s4.2 19) a1.toInt)), (4, .int 4), (3, .int v6), (2, .int v3), (0, .ref 27), (1, .int a1)]) (st1 := [.int 5]) rfl ?_
            refine am_wr rfl rfl rfl ?_
            exact ⟨_, _, rfl, rfl, h58⟩
      · refine am_wb1 rfl false (zn_eq (zq_a _) (by decide) (zr_t _) ⟨by decide, by decide⟩ c35) rfl ?_
        have h59 := h37 c35
        refine am_wh 1 (pc1 := 56) (lv1 := [(5, .int (zg (s4.2 19) a1.toInt)), (4, .int 4), (3, .int v6), (2, .int v3), (0, .ref 27), (1, .int a1)]) (st1 := [.int 3]) rfl ?_
        refine am_wr rfl rfl rfl ?_
        exact ⟨_, _, rfl, rfl, h59⟩
    · refine am_wb1 rfl false (zn_eq (zq_a _) (by decide) (zr_t _) ⟨by decide, by decide⟩ c31) rfl ?_
      have h60 := h33 c31
      refine am_wh 1 (pc1 := 48) (lv1 := [(5, .int (zg (s4.2 19) a1.toInt)), (4, .int 4), (3, .int v6), (2, .int v3), (0, .ref 27), (1, .int a1)]) (st1 := [.int 2]) rfl ?_
      refine am_wr rfl rfl rfl ?_
      exact ⟨_, _, rfl, rfl, h60⟩
set_option maxRecDepth 100000 in
theorem vc_9_0 (xs : Option (List Int32)) (d : Nat) (s : zS) (a1 : Int32) (Q : Int32 → zS → Prop) (h : zX (s.2 18) a1.toInt ∧ zWi xs d 71 0 [(0, .ref 13), (1, .int (zg (s.2 18) a1.toInt))] s (fun v5 s3 => (v5.toInt = 4 → (zX (s3.2 19) a1.toInt ∧ zWi xs d 71 0 [(0, .ref 13), (1, .int (zg (s3.2 19) a1.toInt))] s3 (fun v14 s12 => (v14.toInt = 2 → (Q 8 s12)) ∧ (¬ v14.toInt = 2 → (zWi xs d 10 0 [(0, .ref 27), (1, .int a1)] s12 (fun v22 s20 => (v22.toInt = 0 → (zWi xs d 32 0 [(0, .ref 17), (1, .int a1), (2, .int 64)] s20 (fun v29 s27 => (v29.toInt = 0 → (Q 0 s27)) ∧ (¬ v29.toInt = 0 → (Q 10 s27))))) ∧ (¬ v22.toInt = 0 → (Q 9 s20)))))))) ∧ (¬ v5.toInt = 4 → (zWi xs d 10 0 [(0, .ref 27), (1, .int a1)] s3 (fun v39 s37 => (v39.toInt = 0 → (zWi xs d 32 0 [(0, .ref 17), (1, .int a1), (2, .int 64)] s37 (fun v46 s44 => (v46.toInt = 0 → (Q 0 s44)) ∧ (¬ v46.toInt = 0 → (Q 10 s44))))) ∧ (¬ v39.toInt = 0 → (Q 9 s37))))))) : zWi xs (d + 1) 9 0 [(0, .ref 27), (1, .int a1)] s Q := by
  unfold zWi
  refine am_wh 6 (pc1 := 12) (lv1 := [(0, .ref 27), (1, .int a1)]) (st1 := [.int a1, .ref 20, .ref 13]) rfl ?_
  obtain ⟨o1, h2⟩ := h
  refine zw_li (l := (s.2 18)) (i := a1.toInt) rfl rfl (zq_a _) o1 ?_
  refine am_wc rfl rfl rfl ?_
  refine am_ww h2 ?_
  rintro _ _ ⟨v5, s3, rfl, rfl, h4⟩
  show am_W _ _ 9 16 [(0, .ref 27), (1, .int a1)] [.int v5] (zH s3) _
  refine am_wh 1 (pc1 := 17) (lv1 := [(0, .ref 27), (1, .int a1)]) (st1 := [.int 4, .int v5]) rfl ?_
  obtain ⟨h7, h8⟩ := h4
  by_cases c6 : v5.toInt = 4
  · refine am_wb2 rfl false (zn_ne (zq_a _) (by decide) (zr_t _) ⟨by decide, by decide⟩ c6) rfl ?_
    have h9 := h7 c6
    refine am_wh 11 (pc1 := 42) (lv1 := [(2, .int 1), (0, .ref 27), (1, .int a1)]) (st1 := [.int a1, .ref 21, .ref 13]) rfl ?_
    obtain ⟨o10, h11⟩ := h9
    refine zw_li (l := (s3.2 19)) (i := a1.toInt) rfl rfl (zq_a _) o10 ?_
    refine am_wc rfl rfl rfl ?_
    refine am_ww h11 ?_
    rintro _ _ ⟨v14, s12, rfl, rfl, h13⟩
    show am_W _ _ 9 46 [(2, .int 1), (0, .ref 27), (1, .int a1)] [.int v14] (zH s12) _
    refine am_wh 1 (pc1 := 47) (lv1 := [(2, .int 1), (0, .ref 27), (1, .int a1)]) (st1 := [.int 2, .int v14]) rfl ?_
    obtain ⟨h16, h17⟩ := h13
    by_cases c15 : v14.toInt = 2
    · refine am_wb2 rfl false (zn_ne (zq_a _) (by decide) (zr_t _) ⟨by decide, by decide⟩ c15) rfl ?_
      have h18 := h16 c15
      refine am_wh 1 (pc1 := 52) (lv1 := [(2, .int 1), (0, .ref 27), (1, .int a1)]) (st1 := [.int 8]) rfl ?_
      refine am_wr rfl rfl rfl ?_
      exact ⟨_, _, rfl, rfl, h18⟩
    · refine am_wb2 rfl true (zt_ne (zq_a _) (by decide) (zr_t _) ⟨by decide, by decide⟩ c15) rfl ?_
      have h19 := h17 c15
      refine am_wh 2 (pc1 := 55) (lv1 := [(2, .int 1), (0, .ref 27), (1, .int a1)]) (st1 := [.int a1, .ref 27]) rfl ?_
      refine am_wc rfl rfl rfl ?_
      refine am_ww h19 ?_
      rintro _ _ ⟨v22, s20, rfl, rfl, h21⟩
      show am_W _ _ 9 58 [(2, .int 1), (0, .ref 27), (1, .int a1)] [.int v22] (zH s20) _
      obtain ⟨h24, h25⟩ := h21
      by_cases c23 : v22.toInt = 0
      · refine am_wb1 rfl true (zt_eq (zq_a _) (by decide) (zr_t _) ⟨by decide, by decide⟩ c23) rfl ?_
        have h26 := h24 c23
        refine am_wh 4 (pc1 := 71) (lv1 := [(2, .int 1), (0, .ref 27), (1, .int a1)]) (st1 := [.int 64, .int a1, .ref 17]) rfl ?_
        refine am_wc rfl rfl rfl ?_
        refine am_ww h26 ?_
        rintro _ _ ⟨v29, s27, rfl, rfl, h28⟩
        show am_W _ _ 9 74 [(2, .int 1), (0, .ref 27), (1, .int a1)] [.int v29] (zH s27) _
        obtain ⟨h31, h32⟩ := h28
        by_cases c30 : v29.toInt = 0
        · refine am_wb1 rfl true (zt_eq (zq_a _) (by decide) (zr_t _) ⟨by decide, by decide⟩ c30) rfl ?_
          have h33 := h31 c30
          refine am_wh 1 (pc1 := 83) (lv1 := [(2, .int 1), (0, .ref 27), (1, .int a1)]) (st1 := [.int 0]) rfl ?_
          refine am_wr rfl rfl rfl ?_
          exact ⟨_, _, rfl, rfl, h33⟩
        · refine am_wb1 rfl false (zn_eq (zq_a _) (by decide) (zr_t _) ⟨by decide, by decide⟩ c30) rfl ?_
          have h34 := h32 c30
          refine am_wh 2 (pc1 := 83) (lv1 := [(2, .int 1), (0, .ref 27), (1, .int a1)]) (st1 := [.int 10]) rfl ?_
          refine am_wr rfl rfl rfl ?_
          exact ⟨_, _, rfl, rfl, h34⟩
      · refine am_wb1 rfl false (zn_eq (zq_a _) (by decide) (zr_t _) ⟨by decide, by decide⟩ c23) rfl ?_
        have h35 := h25 c23
        refine am_wh 1 (pc1 := 63) (lv1 := [(2, .int 1), (0, .ref 27), (1, .int a1)]) (st1 := [.int 9]) rfl ?_
        refine am_wr rfl rfl rfl ?_
        exact ⟨_, _, rfl, rfl, h35⟩
  · refine am_wb2 rfl true (zt_ne (zq_a _) (by decide) (zr_t _) ⟨by decide, by decide⟩ c6) rfl ?_
    have h36 := h8 c6
    refine am_wh 6 (pc1 := 55) (lv1 := [(2, .int 0), (0, .ref 27), (1, .int a1)]) (st1 := [.int a1, .ref 27]) rfl ?_
    refine am_wc rfl rfl rfl ?_
    refine am_ww h36 ?_
    rintro _ _ ⟨v39, s37, rfl, rfl, h38⟩
    show am_W _ _ 9 58 [(2, .int 0), (0, .ref 27), (1, .int a1)] [.int v39] (zH s37) _
    obtain ⟨h41, h42⟩ := h38
    by_cases c40 : v39.toInt = 0
    · refine am_wb1 rfl true (zt_eq (zq_a _) (by decide) (zr_t _) ⟨by decide, by decide⟩ c40) rfl ?_
      have h43 := h41 c40
      refine am_wh 4 (pc1 := 71) (lv1 := [(2, .int 0), (0, .ref 27), (1, .int a1)]) (st1 := [.int 64, .int a1, .ref 17]) rfl ?_
      refine am_wc rfl rfl rfl ?_
      refine am_ww h43 ?_
      rintro _ _ ⟨v46, s44, rfl, rfl, h45⟩
      show am_W _ _ 9 74 [(2, .int 0), (0, .ref 27), (1, .int a1)] [.int v46] (zH s44) _
      obtain ⟨h48, h49⟩ := h45
      by_cases c47 : v46.toInt = 0
      · refine am_wb1 rfl true (zt_eq (zq_a _) (by decide) (zr_t _) ⟨by decide, by decide⟩ c47) rfl ?_
        have h50 := h48 c47
        refine am_wh 1 (pc1 := 83) (lv1 := [(2, .int 0), (0, .ref 27), (1, .int a1)]) (st1 := [.int 0]) rfl ?_
        refine am_wr rfl rfl rfl ?_
        exact ⟨_, _, rfl, rfl, h50⟩
      · refine am_wb1 rfl false (zn_eq (zq_a _) (by decide) (zr_t _) ⟨by decide, by decide⟩ c47) rfl ?_
        have h51 := h49 c47
        refine am_wh 2 (pc1 := 83) (lv1 := [(2, .int 0), (0, .ref 27), (1, .int a1)]) (st1 := [.int 10]) rfl ?_
        refine am_wr rfl rfl rfl ?_
        exact ⟨_, _, rfl, rfl, h51⟩
    · refine am_wb1 rfl false (zn_eq (zq_a _) (by decide) (zr_t _) ⟨by decide, by decide⟩ c40) rfl ?_
      have h52 := h42 c40
      refine am_wh 1 (pc1 := 63) (lv1 := [(2, .int 0), (0, .ref 27), (1, .int a1)]) (st1 := [.int 9]) rfl ?_
      refine am_wr rfl rfl rfl ?_
      exact ⟨_, _, rfl, rfl, h52⟩
set_option maxRecDepth 100000 in
theorem vc_10_0 (xs : Option (List Int32)) (d : Nat) (s : zS) (a1 : Int32) (Q : Int32 → zS → Prop) (h : zX (s.2 18) a1.toInt ∧ zWi xs (d + 1) 10 12 [(0, .ref 27), (1, .int a1), (2, .int (zg (s.2 18) a1.toInt)), (3, .int 0)] s Q) : zWi xs (d + 1) 10 0 [(0, .ref 27), (1, .int a1)] s Q := by
  unfold zWi
  refine am_wh 4 (pc1 := 8) (lv1 := [(0, .ref 27), (1, .int a1)]) (st1 := [.int a1, .ref 20]) rfl ?_
  obtain ⟨o1, h2⟩ := h
  refine zw_li (l := (s.2 18)) (i := a1.toInt) rfl rfl (zq_a _) o1 ?_
  refine am_wh 3 (pc1 := 12) (lv1 := [(3, .int 0), (2, .int (zg (s.2 18) a1.toInt)), (0, .ref 27), (1, .int a1)]) (st1 := []) rfl ?_
  exact am_wm h2 ⟨rfl, rfl, rfl, rfl, trivial⟩
set_option maxRecDepth 100000 in
theorem vc_10_12 (xs : Option (List Int32)) (d : Nat) (s : zS) (a1 : Int32) (a2 : Int32) (a3 : Int32) (Q : Int32 → zS → Prop) (h : (a3.toInt < (s.1 6).toInt → (zWi xs d 71 0 [(0, .ref 13), (1, .int a2)] s (fun v7 s5 => (v7.toInt = 4 → (zWi xs d 73 0 [(0, .ref 13), (1, .int a2)] s5 (fun v14 s12 => (v14.toInt < 0 → (zWi xs d 72 0 [(0, .ref 13), (1, .int a2)] s12 (fun v21 s19 => zWi xs (d + 1) 10 12 [(0, .ref 27), (1, .int a1), (2, .int v21), (3, .int (a3 + 1))] s19 Q))) ∧ (¬ v14.toInt < 0 → (zX (s12.2 21) v14.toInt ∧ zX (s12.2 21) a1.toInt ∧ ((zg (s12.2 21) v14.toInt).toInt = (zg (s12.2 21) a1.toInt).toInt → (Q 1 s12)) ∧ (¬ (zg (s12.2 21) v14.toInt).toInt = (zg (s12.2 21) a1.toInt).toInt → (zWi xs d 72 0 [(0, .ref 13), (1, .int a2)] s12 (fun v34 s32 => zWi xs (d + 1) 10 12 [(0, .ref 27), (1, .int a1), (2, .int v34), (3, .int (a3 + 1))] s32 Q)))))))) ∧ (¬ v7.toInt = 4 → (Q 0 s5))))) ∧ (¬ a3.toInt < (s.1 6).toInt → (Q 0 s))) : zWi xs (d + 1) 10 12 [(0, .ref 27), (1, .int a1), (2, .int a2), (3, .int a3)] s Q := by
  unfold zWi
  refine am_wh 4 (pc1 := 20) (lv1 := [(0, .ref 27), (1, .int a1), (2, .int a2), (3, .int a3)]) (st1 := [.int (s.1 6), .int a3]) rfl ?_
  obtain ⟨h2, h3⟩ := h
  by_cases c1 : a3.toInt < (s.1 6).toInt
  · refine am_wb2 rfl false (zn_ge (zq_a _) (zq_a _) (zr_t _) (zr_t _) c1) rfl ?_
    have h4 := h2 c1
    refine am_wh 3 (pc1 := 28) (lv1 := [(0, .ref 27), (1, .int a1), (2, .int a2), (3, .int a3)]) (st1 := [.int a2, .ref 13]) rfl ?_
    refine am_wc rfl rfl rfl ?_
    refine am_ww h4 ?_
    rintro _ _ ⟨v7, s5, rfl, rfl, h6⟩
    show am_W _ _ 10 31 [(0, .ref 27), (1, .int a1), (2, .int a2), (3, .int a3)] [.int v7] (zH s5) _
    refine am_wh 1 (pc1 := 32) (lv1 := [(0, .ref 27), (1, .int a1), (2, .int a2), (3, .int a3)]) (st1 := [.int 4, .int v7]) rfl ?_
    obtain ⟨h9, h10⟩ := h6
    by_cases c8 : v7.toInt = 4
    · refine am_wb2 rfl true (zt_eq (zq_a _) (by decide) (zr_t _) ⟨by decide, by decide⟩ c8) rfl ?_
      have h11 := h9 c8
      refine am_wh 3 (pc1 := 42) (lv1 := [(0, .ref 27), (1, .int a1), (2, .int a2), (3, .int a3)]) (st1 := [.int a2, .ref 13]) rfl ?_
      refine am_wc rfl rfl rfl ?_
      refine am_ww h11 ?_
      rintro _ _ ⟨v14, s12, rfl, rfl, h13⟩
      show am_W _ _ 10 45 [(0, .ref 27), (1, .int a1), (2, .int a2), (3, .int a3)] [.int v14] (zH s12) _
      refine am_wh 2 (pc1 := 49) (lv1 := [(4, .int v14), (0, .ref 27), (1, .int a1), (2, .int a2), (3, .int a3)]) (st1 := [.int v14]) rfl ?_
      obtain ⟨h16, h17⟩ := h13
      by_cases c15 : v14.toInt < 0
      · refine am_wb1 rfl true (zt_lt (zq_a _) (by decide) (zr_t _) ⟨by decide, by decide⟩ c15) rfl ?_
        have h18 := h16 c15
        refine am_wh 3 (pc1 := 81) (lv1 := [(4, .int v14), (0, .ref 27), (1, .int a1), (2, .int a2), (3, .int a3)]) (st1 := [.int a2, .ref 13]) rfl ?_
        refine am_wc rfl rfl rfl ?_
        refine am_ww h18 ?_
        rintro _ _ ⟨v21, s19, rfl, rfl, h20⟩
        show am_W _ _ 10 84 [(4, .int v14), (0, .ref 27), (1, .int a1), (2, .int a2), (3, .int a3)] [.int v21] (zH s19) _
        refine am_wh 3 (pc1 := 12) (lv1 := [(3, .int (a3 + 1)), (2, .int v21), (4, .int v14), (0, .ref 27), (1, .int a1)]) (st1 := []) rfl ?_
        exact am_wm h20 ⟨rfl, rfl, rfl, rfl, trivial⟩
      · refine am_wb1 rfl false (zn_lt (zq_a _) (by decide) (zr_t _) ⟨by decide, by decide⟩ c15) rfl ?_
        have h22 := h17 c15
        refine am_wh 4 (pc1 := 61) (lv1 := [(4, .int v14), (0, .ref 27), (1, .int a1), (2, .int a2), (3, .int a3)]) (st1 := [.int v14, .ref 23]) rfl ?_
        obtain ⟨o23, h24⟩ := h22
        refine zw_li (l := (s12.2 21)) (i := v14.toInt) rfl rfl (zq_a _) o23 ?_
        refine am_wh 4 (pc1 := 70) (lv1 := [(4, .int v14), (0, .ref 27), (1, .int a1), (2, .int a2), (3, .int a3)]) (st1 := [.int a1, .ref 23, .int (zg (s12.2 21) v14.toInt)]) rfl ?_
        obtain ⟨o25, h26⟩ := h24
        refine zw_li (l := (s12.2 21)) (i := a1.toInt) rfl rfl (zq_a _) o25 ?_
        obtain ⟨h28, h29⟩ := h26
        by_cases c27 : (zg (s12.2 21) v14.toInt).toInt = (zg (s12.2 21) a1.toInt).toInt
        · refine am_wb2 rfl false (zn_ne (zq_a _) (zq_a _) (zr_t _) (zr_t _) c27) rfl ?_
          have h30 := h28 c27
          refine am_wh 1 (pc1 := 75) (lv1 := [(4, .int v14), (0, .ref 27), (1, .int a1), (2, .int a2), (3, .int a3)]) (st1 := [.int 1]) rfl ?_
          refine am_wr rfl rfl rfl ?_
          exact ⟨_, _, rfl, rfl, h30⟩
        · refine am_wb2 rfl true (zt_ne (zq_a _) (zq_a _) (zr_t _) (zr_t _) c27) rfl ?_
          have h31 := h29 c27
          refine am_wh 3 (pc1 := 81) (lv1 := [(4, .int v14), (0, .ref 27), (1, .int a1), (2, .int a2), (3, .int a3)]) (st1 := [.int a2, .ref 13]) rfl ?_
          refine am_wc rfl rfl rfl ?_
          refine am_ww h31 ?_
          rintro _ _ ⟨v34, s32, rfl, rfl, h33⟩
          show am_W _ _ 10 84 [(4, .int v14), (0, .ref 27), (1, .int a1), (2, .int a2), (3, .int a3)] [.int v34] (zH s32) _
          refine am_wh 3 (pc1 := 12) (lv1 := [(3, .int (a3 + 1)), (2, .int v34), (4, .int v14), (0, .ref 27), (1, .int a1)]) (st1 := []) rfl ?_
          exact am_wm h33 ⟨rfl, rfl, rfl, rfl, trivial⟩
    · refine am_wb2 rfl false (zn_eq (zq_a _) (by decide) (zr_t _) ⟨by decide, by decide⟩ c8) rfl ?_
      have h35 := h10 c8
      refine am_wh 1 (pc1 := 36) (lv1 := [(0, .ref 27), (1, .int a1), (2, .int a2), (3, .int a3)]) (st1 := [.int 0]) rfl ?_
      refine am_wr rfl rfl rfl ?_
      exact ⟨_, _, rfl, rfl, h35⟩
  · refine am_wb2 rfl true (zt_ge (zq_a _) (zq_a _) (zr_t _) (zr_t _) c1) rfl ?_
    have h36 := h3 c1
    refine am_wh 1 (pc1 := 92) (lv1 := [(0, .ref 27), (1, .int a1), (2, .int a2), (3, .int a3)]) (st1 := [.int 0]) rfl ?_
    refine am_wr rfl rfl rfl ?_
    exact ⟨_, _, rfl, rfl, h36⟩
set_option maxRecDepth 100000 in
theorem vc_11_0 (xs : Option (List Int32)) (d : Nat) (s : zS) (a1 : Int32) (a2 : Int32) (Q : Int32 → zS → Prop) (h : zWi xs d 72 0 [(0, .ref 13), (1, .int a1)] s (fun v3 s1 => zWi xs (d + 1) 11 12 [(0, .ref 27), (2, .int a2), (3, .int v3), (4, .int 0)] s1 Q)) : zWi xs (d + 1) 11 0 [(0, .ref 27), (1, .int a1), (2, .int a2)] s Q := by
  unfold zWi
  refine am_wh 3 (pc1 := 5) (lv1 := [(0, .ref 27), (1, .int a1), (2, .int a2)]) (st1 := [.int a1, .ref 13]) rfl ?_
  refine am_wc rfl rfl rfl ?_
  refine am_ww h ?_
  rintro _ _ ⟨v3, s1, rfl, rfl, h2⟩
  show am_W _ _ 11 8 [(0, .ref 27), (1, .int a1), (2, .int a2)] [.int v3] (zH s1) _
  refine am_wh 3 (pc1 := 12) (lv1 := [(4, .int 0), (3, .int v3), (0, .ref 27), (1, .int a1), (2, .int a2)]) (st1 := []) rfl ?_
  exact am_wm h2 ⟨rfl, rfl, rfl, rfl, trivial⟩
set_option maxRecDepth 100000 in
theorem vc_11_12 (xs : Option (List Int32)) (d : Nat) (s : zS) (a2 : Int32) (a3 : Int32) (a4 : Int32) (Q : Int32 → zS → Prop) (h : (a4.toInt < (s.1 6).toInt → ((a3.toInt = 0 → (Q (-1) s)) ∧ (¬ a3.toInt = 0 → (zWi xs d 34 0 [(0, .ref 17), (1, .int a3), (2, .int a2), (3, .int (s.1 7))] s (fun v12 s10 => zWi xs d 71 0 [(0, .ref 13), (1, .int a3)] s10 (fun v15 s13 => (v15.toInt = 2 → (zWi xs d 72 0 [(0, .ref 13), (1, .int a3)] s13 (fun v22 s20 => zWi xs (d + 1) 11 12 [(0, .ref 27), (2, .int a2), (3, .int v22), (4, .int (a4 + 1))] s20 Q))) ∧ (¬ v15.toInt = 2 → (((v12 &&& 4).toInt = 0 → (zWi xs d 12 0 [(0, .int v12)] s13 (fun v30 s28 => (v30.toInt = 0 → (zWi xs d 72 0 [(0, .ref 13), (1, .int a3)] s28 (fun v37 s35 => zWi xs (d + 1) 11 12 [(0, .ref 27), (2, .int a2), (3, .int v37), (4, .int (a4 + 1))] s35 Q))) ∧ (¬ v30.toInt = 0 → (Q a3 s28))))) ∧ (¬ (v12 &&& 4).toInt = 0 → (Q (-1) s13)))))))))) ∧ (¬ a4.toInt < (s.1 6).toInt → (Q (-1) s))) : zWi xs (d + 1) 11 12 [(0, .ref 27), (2, .int a2), (3, .int a3), (4, .int a4)] s Q := by
  unfold zWi
  refine am_wh 4 (pc1 := 21) (lv1 := [(0, .ref 27), (2, .int a2), (3, .int a3), (4, .int a4)]) (st1 := [.int (s.1 6), .int a4]) rfl ?_
  obtain ⟨h2, h3⟩ := h
  by_cases c1 : a4.toInt < (s.1 6).toInt
  · refine am_wb2 rfl false (zn_ge (zq_a _) (zq_a _) (zr_t _) (zr_t _) c1) rfl ?_
    have h4 := h2 c1
    refine am_wh 1 (pc1 := 25) (lv1 := [(0, .ref 27), (2, .int a2), (3, .int a3), (4, .int a4)]) (st1 := [.int a3]) rfl ?_
    obtain ⟨h6, h7⟩ := h4
    by_cases c5 : a3.toInt = 0
    · refine am_wb1 rfl true (zt_eq (zq_a _) (by decide) (zr_t _) ⟨by decide, by decide⟩ c5) rfl ?_
      have h8 := h6 c5
      refine am_wh 1 (pc1 := 93) (lv1 := [(0, .ref 27), (2, .int a2), (3, .int a3), (4, .int a4)]) (st1 := [.int (-1)]) rfl ?_
      refine am_wr rfl rfl rfl ?_
      exact ⟨_, _, rfl, rfl, h8⟩
    · refine am_wb1 rfl false (zn_eq (zq_a _) (by decide) (zr_t _) ⟨by decide, by decide⟩ c5) rfl ?_
      have h9 := h7 c5
      refine am_wh 7 (pc1 := 41) (lv1 := [(0, .ref 27), (2, .int a2), (3, .int a3), (4, .int a4)]) (st1 := [.int (s.1 7), .int a2, .int a3, .ref 17]) rfl ?_
      refine am_wc rfl rfl rfl ?_
      refine am_ww h9 ?_
      rintro _ _ ⟨v12, s10, rfl, rfl, h11⟩
      show am_W _ _ 11 44 [(0, .ref 27), (2, .int a2), (3, .int a3), (4, .int a4)] [.int v12] (zH s10) _
      refine am_wh 4 (pc1 := 51) (lv1 := [(5, .int v12), (0, .ref 27), (2, .int a2), (3, .int a3), (4, .int a4)]) (st1 := [.int a3, .ref 13]) rfl ?_
      refine am_wc rfl rfl rfl ?_
      refine am_ww h11 ?_
      rintro _ _ ⟨v15, s13, rfl, rfl, h14⟩
      show am_W _ _ 11 54 [(5, .int v12), (0, .ref 27), (2, .int a2), (3, .int a3), (4, .int a4)] [.int v15] (zH s13) _
      refine am_wh 1 (pc1 := 55) (lv1 := [(5, .int v12), (0, .ref 27), (2, .int a2), (3, .int a3), (4, .int a4)]) (st1 := [.int 2, .int v15]) rfl ?_
      obtain ⟨h17, h18⟩ := h14
      by_cases c16 : v15.toInt = 2
      · refine am_wb2 rfl true (zt_eq (zq_a _) (by decide) (zr_t _) ⟨by decide, by decide⟩ c16) rfl ?_
        have h19 := h17 c16
        refine am_wh 3 (pc1 := 82) (lv1 := [(5, .int v12), (0, .ref 27), (2, .int a2), (3, .int a3), (4, .int a4)]) (st1 := [.int a3, .ref 13]) rfl ?_
        refine am_wc rfl rfl rfl ?_
        refine am_ww h19 ?_
        rintro _ _ ⟨v22, s20, rfl, rfl, h21⟩
        show am_W _ _ 11 85 [(5, .int v12), (0, .ref 27), (2, .int a2), (3, .int a3), (4, .int a4)] [.int v22] (zH s20) _
        refine am_wh 3 (pc1 := 12) (lv1 := [(4, .int (a4 + 1)), (3, .int v22), (5, .int v12), (0, .ref 27), (2, .int a2)]) (st1 := []) rfl ?_
        exact am_wm h21 ⟨rfl, rfl, rfl, rfl, trivial⟩
      · refine am_wb2 rfl false (zn_eq (zq_a _) (by decide) (zr_t _) ⟨by decide, by decide⟩ c16) rfl ?_
        have h23 := h18 c16
        refine am_wh 3 (pc1 := 62) (lv1 := [(5, .int v12), (0, .ref 27), (2, .int a2), (3, .int a3), (4, .int a4)]) (st1 := [.int (v12 &&& 4)]) rfl ?_
        obtain ⟨h25, h26⟩ := h23
        by_cases c24 : (v12 &&& 4).toInt = 0
        · refine am_wb1 rfl true (zt_eq (zq_a _) (by decide) (zr_t _) ⟨by decide, by decide⟩ c24) rfl ?_
          have h27 := h25 c24
          refine am_wh 1 (pc1 := 69) (lv1 := [(5, .int v12), (0, .ref 27), (2, .int a2), (3, .int a3), (4, .int a4)]) (st1 := [.int v12]) rfl ?_
          refine am_wc rfl rfl rfl ?_
          refine am_ww h27 ?_
          rintro _ _ ⟨v30, s28, rfl, rfl, h29⟩
          show am_W _ _ 11 72 [(5, .int v12), (0, .ref 27), (2, .int a2), (3, .int a3), (4, .int a4)] [.int v30] (zH s28) _
          obtain ⟨h32, h33⟩ := h29
          by_cases c31 : v30.toInt = 0
          · refine am_wb1 rfl true (zt_eq (zq_a _) (by decide) (zr_t _) ⟨by decide, by decide⟩ c31) rfl ?_
            have h34 := h32 c31
            refine am_wh 3 (pc1 := 82) (lv1 := [(5, .int v12), (0, .ref 27), (2, .int a2), (3, .int a3), (4, .int a4)]) (st1 := [.int a3, .ref 13]) rfl ?_
            refine am_wc rfl rfl rfl ?_
            refine am_ww h34 ?_
            rintro _ _ ⟨v37, s35, rfl, rfl, h36⟩
            show am_W _ _ 11 85 [(5, .int v12), (0, .ref 27), (2, .int a2), (3, .int a3), (4, .int a4)] [.int v37] (zH s35) _
            refine am_wh 3 (pc1 := 12) (lv1 := [(4, .int (a4 + 1)), (3, .int v37), (5, .int v12), (0, .ref 27), (2, .int a2)]) (st1 := []) rfl ?_
            exact am_wm h36 ⟨rfl, rfl, rfl, rfl, trivial⟩
          · refine am_wb1 rfl false (zn_eq (zq_a _) (by decide) (zr_t _) ⟨by decide, by decide⟩ c31) rfl ?_
            have h38 := h33 c31
            refine am_wh 1 (pc1 := 76) (lv1 := [(5, .int v12), (0, .ref 27), (2, .int a2), (3, .int a3), (4, .int a4)]) (st1 := [.int a3]) rfl ?_
            refine am_wr rfl rfl rfl ?_
            exact ⟨_, _, rfl, rfl, h38⟩
        · refine am_wb1 rfl false (zn_eq (zq_a _) (by decide) (zr_t _) ⟨by decide, by decide⟩ c24) rfl ?_
          have h39 := h26 c24
          refine am_wh 1 (pc1 := 66) (lv1 := [(5, .int v12), (0, .ref 27), (2, .int a2), (3, .int a3), (4, .int a4)]) (st1 := [.int (-1)]) rfl ?_
          refine am_wr rfl rfl rfl ?_
          exact ⟨_, _, rfl, rfl, h39⟩
  · refine am_wb2 rfl true (zt_ge (zq_a _) (zq_a _) (zr_t _) (zr_t _) c1) rfl ?_
    have h40 := h3 c1
    refine am_wh 1 (pc1 := 93) (lv1 := [(0, .ref 27), (2, .int a2), (3, .int a3), (4, .int a4)]) (st1 := [.int (-1)]) rfl ?_
    refine am_wr rfl rfl rfl ?_
    exact ⟨_, _, rfl, rfl, h40⟩
set_option maxRecDepth 100000 in
theorem vc_12_0 (xs : Option (List Int32)) (d : Nat) (s : zS) (a0 : Int32) (Q : Int32 → zS → Prop) (h : ((a0 &&& 2).toInt = 0 → (Q 0 s)) ∧ (¬ (a0 &&& 2).toInt = 0 → (((a0 &&& 12).toInt = 0 → (Q 1 s)) ∧ (¬ (a0 &&& 12).toInt = 0 → (Q 0 s))))) : zWi xs d 12 0 [(0, .int a0)] s Q := by
  unfold zWi
  refine am_wh 3 (pc1 := 3) (lv1 := [(0, .int a0)]) (st1 := [.int (a0 &&& 2)]) rfl ?_
  obtain ⟨h2, h3⟩ := h
  by_cases c1 : (a0 &&& 2).toInt = 0
  · refine am_wb1 rfl true (zt_eq (zq_a _) (by decide) (zr_t _) ⟨by decide, by decide⟩ c1) rfl ?_
    have h4 := h2 c1
    refine am_wh 1 (pc1 := 18) (lv1 := [(0, .int a0)]) (st1 := [.int 0]) rfl ?_
    refine am_wr rfl rfl rfl ?_
    exact ⟨_, _, rfl, rfl, h4⟩
  · refine am_wb1 rfl false (zn_eq (zq_a _) (by decide) (zr_t _) ⟨by decide, by decide⟩ c1) rfl ?_
    have h5 := h3 c1
    refine am_wh 3 (pc1 := 10) (lv1 := [(0, .int a0)]) (st1 := [.int (a0 &&& 12)]) rfl ?_
    obtain ⟨h7, h8⟩ := h5
    by_cases c6 : (a0 &&& 12).toInt = 0
    · refine am_wb1 rfl false (zn_ne (zq_a _) (by decide) (zr_t _) ⟨by decide, by decide⟩ c6) rfl ?_
      have h9 := h7 c6
      refine am_wh 2 (pc1 := 18) (lv1 := [(0, .int a0)]) (st1 := [.int 1]) rfl ?_
      refine am_wr rfl rfl rfl ?_
      exact ⟨_, _, rfl, rfl, h9⟩
    · refine am_wb1 rfl true (zt_ne (zq_a _) (by decide) (zr_t _) ⟨by decide, by decide⟩ c6) rfl ?_
      have h10 := h8 c6
      refine am_wh 1 (pc1 := 18) (lv1 := [(0, .int a0)]) (st1 := [.int 0]) rfl ?_
      refine am_wr rfl rfl rfl ?_
      exact ⟨_, _, rfl, rfl, h10⟩
set_option maxRecDepth 100000 in
theorem vc_13_0 (xs : Option (List Int32)) (d : Nat) (s : zS) (a1 : Int32) (Q : zS → Prop) (h : zX (s.2 19) a1.toInt ∧ zX (s.2 21) a1.toInt ∧ zWi xs d 34 0 [(0, .ref 17), (1, .int (zg (s.2 19) a1.toInt)), (2, .int (zg (s.2 21) a1.toInt)), (3, .int (s.1 7))] s (fun v7 s5 => ((v7 &&& 4).toInt = 0 → (((zg (s.2 19) a1.toInt).toInt = 0 → (zWi xs d 11 0 [(0, .ref 27), (1, .int (zg (s.2 19) a1.toInt)), (2, .int (zg (s.2 21) a1.toInt))] s5 (fun v18 s16 => (v18.toInt = (-1) → (zWi xs d 15 0 [(0, .ref 27), (1, .int (zg (s.2 21) a1.toInt))] s16 (fun v25 s23 => (v25.toInt = 0 → (zWv xs d 14 0 [(0, .ref 27), (1, .int a1), (2, .int 6), (3, .int 0)] s23 (fun s30 => Q s30))) ∧ (¬ v25.toInt = 0 → (zWv xs d 14 0 [(0, .ref 27), (1, .int a1), (2, .int 5), (3, .int 0)] s23 (fun s33 => Q s33)))))) ∧ (¬ v18.toInt = (-1) → (zWv xs d 14 0 [(0, .ref 27), (1, .int a1), (2, .int 3), (3, .int v18)] s16 (fun s36 => Q s36)))))) ∧ (¬ (zg (s.2 19) a1.toInt).toInt = 0 → (zWi xs d 12 0 [(0, .int v7)] s5 (fun v41 s39 => (v41.toInt = 0 → (zWi xs d 11 0 [(0, .ref 27), (1, .int (zg (s.2 19) a1.toInt)), (2, .int (zg (s.2 21) a1.toInt))] s39 (fun v48 s46 => (v48.toInt = (-1) → (zWi xs d 15 0 [(0, .ref 27), (1, .int (zg (s.2 21) a1.toInt))] s46 (fun v55 s53 => (v55.toInt = 0 → (zWv xs d 14 0 [(0, .ref 27), (1, .int a1), (2, .int 6), (3, .int 0)] s53 (fun s60 => Q s60))) ∧ (¬ v55.toInt = 0 → (zWv xs d 14 0 [(0, .ref 27), (1, .int a1), (2, .int 5), (3, .int 0)] s53 (fun s63 => Q s63)))))) ∧ (¬ v48.toInt = (-1) → (zWv xs d 14 0 [(0, .ref 27), (1, .int a1), (2, .int 3), (3, .int v48)] s46 (fun s66 => Q s66)))))) ∧ (¬ v41.toInt = 0 → (zWv xs d 14 0 [(0, .ref 27), (1, .int a1), (2, .int 1), (3, .int (zg (s.2 19) a1.toInt))] s39 (fun s69 => Q s69)))))))) ∧ (¬ (v7 &&& 4).toInt = 0 → (zWv xs d 14 0 [(0, .ref 27), (1, .int a1), (2, .int 4), (3, .int 0)] s5 (fun s72 => Q s72))))) : zWv xs (d + 1) 13 0 [(0, .ref 27), (1, .int a1)] s Q := by
  unfold zWv
  refine am_wh 4 (pc1 := 8) (lv1 := [(0, .ref 27), (1, .int a1)]) (st1 := [.int a1, .ref 21]) rfl ?_
  obtain ⟨o1, h2⟩ := h
  refine zw_li (l := (s.2 19)) (i := a1.toInt) rfl rfl (zq_a _) o1 ?_
  refine am_wh 5 (pc1 := 18) (lv1 := [(2, .int (zg (s.2 19) a1.toInt)), (0, .ref 27), (1, .int a1)]) (st1 := [.int a1, .ref 23]) rfl ?_
  obtain ⟨o3, h4⟩ := h2
  refine zw_li (l := (s.2 21)) (i := a1.toInt) rfl rfl (zq_a _) o3 ?_
  refine am_wh 8 (pc1 := 33) (lv1 := [(3, .int (zg (s.2 21) a1.toInt)), (2, .int (zg (s.2 19) a1.toInt)), (0, .ref 27), (1, .int a1)]) (st1 := [.int (s.1 7), .int (zg (s.2 21) a1.toInt), .int (zg (s.2 19) a1.toInt), .ref 17]) rfl ?_
  refine am_wc rfl rfl rfl ?_
  refine am_ww h4 ?_
  rintro _ _ ⟨v7, s5, rfl, rfl, h6⟩
  show am_W _ _ 13 36 [(3, .int (zg (s.2 21) a1.toInt)), (2, .int (zg (s.2 19) a1.toInt)), (0, .ref 27), (1, .int a1)] [.int v7] (zH s5) _
  refine am_wh 4 (pc1 := 42) (lv1 := [(4, .int v7), (3, .int (zg (s.2 21) a1.toInt)), (2, .int (zg (s.2 19) a1.toInt)), (0, .ref 27), (1, .int a1)]) (st1 := [.int (v7 &&& 4)]) rfl ?_
  obtain ⟨h9, h10⟩ := h6
  by_cases c8 : (v7 &&& 4).toInt = 0
  · refine am_wb1 rfl true (zt_eq (zq_a _) (by decide) (zr_t _) ⟨by decide, by decide⟩ c8) rfl ?_
    have h11 := h9 c8
    refine am_wh 1 (pc1 := 56) (lv1 := [(4, .int v7), (3, .int (zg (s.2 21) a1.toInt)), (2, .int (zg (s.2 19) a1.toInt)), (0, .ref 27), (1, .int a1)]) (st1 := [.int (zg (s.2 19) a1.toInt)]) rfl ?_
    obtain ⟨h13, h14⟩ := h11
    by_cases c12 : (zg (s.2 19) a1.toInt).toInt = 0
    · refine am_wb1 rfl true (zt_eq (zq_a _) (by decide) (zr_t _) ⟨by decide, by decide⟩ c12) rfl ?_
      have h15 := h13 c12
      refine am_wh 3 (pc1 := 80) (lv1 := [(4, .int v7), (3, .int (zg (s.2 21) a1.toInt)), (2, .int (zg (s.2 19) a1.toInt)), (0, .ref 27), (1, .int a1)]) (st1 := [.int (zg (s.2 21) a1.toInt), .int (zg (s.2 19) a1.toInt), .ref 27]) rfl ?_
      refine am_wc rfl rfl rfl ?_
      refine am_ww h15 ?_
      rintro _ _ ⟨v18, s16, rfl, rfl, h17⟩
      show am_W _ _ 13 83 [(4, .int v7), (3, .int (zg (s.2 21) a1.toInt)), (2, .int (zg (s.2 19) a1.toInt)), (0, .ref 27), (1, .int a1)] [.int v18] (zH s16) _
      refine am_wh 3 (pc1 := 88) (lv1 := [(5, .int v18), (4, .int v7), (3, .int (zg (s.2 21) a1.toInt)), (2, .int (zg (s.2 19) a1.toInt)), (0, .ref 27), (1, .int a1)]) (st1 := [.int (-1), .int v18]) rfl ?_
      obtain ⟨h20, h21⟩ := h17
      by_cases c19 : v18.toInt = (-1)
      · refine am_wb2 rfl true (zt_eq (zq_a _) (by decide) (zr_t _) ⟨by decide, by decide⟩ c19) rfl ?_
        have h22 := h20 c19
        refine am_wh 4 (pc1 := 106) (lv1 := [(5, .int v18), (4, .int v7), (3, .int (zg (s.2 21) a1.toInt)), (2, .int (zg (s.2 19) a1.toInt)), (0, .ref 27), (1, .int a1)]) (st1 := [.int (zg (s.2 21) a1.toInt), .ref 27, .int a1, .ref 27]) rfl ?_
        refine am_wc rfl rfl rfl ?_
        refine am_ww h22 ?_
        rintro _ _ ⟨v25, s23, rfl, rfl, h24⟩
        show am_W _ _ 13 109 [(5, .int v18), (4, .int v7), (3, .int (zg (s.2 21) a1.toInt)), (2, .int (zg (s.2 19) a1.toInt)), (0, .ref 27), (1, .int a1)] [.int v25, .int a1, .ref 27] (zH s23) _
        obtain ⟨h27, h28⟩ := h24
        by_cases c26 : v25.toInt = 0
        · refine am_wb1 rfl true (zt_eq (zq_a _) (by decide) (zr_t _) ⟨by decide, by decide⟩ c26) rfl ?_
          have h29 := h27 c26
          refine am_wh 2 (pc1 := 119) (lv1 := [(5, .int v18), (4, .int v7), (3, .int (zg (s.2 21) a1.toInt)), (2, .int (zg (s.2 19) a1.toInt)), (0, .ref 27), (1, .int a1)]) (st1 := [.int 0, .int 6, .int a1, .ref 27]) rfl ?_
          refine am_wc rfl rfl rfl ?_
          refine am_ww h29 ?_
          rintro _ _ ⟨s30, rfl, rfl, h31⟩
          show am_W _ _ 13 122 [(5, .int v18), (4, .int v7), (3, .int (zg (s.2 21) a1.toInt)), (2, .int (zg (s.2 19) a1.toInt)), (0, .ref 27), (1, .int a1)] [] (zH s30) _
          refine am_wr rfl rfl rfl ?_
          exact ⟨_, rfl, rfl, h31⟩
        · refine am_wb1 rfl false (zn_eq (zq_a _) (by decide) (zr_t _) ⟨by decide, by decide⟩ c26) rfl ?_
          have h32 := h28 c26
          refine am_wh 3 (pc1 := 119) (lv1 := [(5, .int v18), (4, .int v7), (3, .int (zg (s.2 21) a1.toInt)), (2, .int (zg (s.2 19) a1.toInt)), (0, .ref 27), (1, .int a1)]) (st1 := [.int 0, .int 5, .int a1, .ref 27]) rfl ?_
          refine am_wc rfl rfl rfl ?_
          refine am_ww h32 ?_
          rintro _ _ ⟨s33, rfl, rfl, h34⟩
          show am_W _ _ 13 122 [(5, .int v18), (4, .int v7), (3, .int (zg (s.2 21) a1.toInt)), (2, .int (zg (s.2 19) a1.toInt)), (0, .ref 27), (1, .int a1)] [] (zH s33) _
          refine am_wr rfl rfl rfl ?_
          exact ⟨_, rfl, rfl, h34⟩
      · refine am_wb2 rfl false (zn_eq (zq_a _) (by decide) (zr_t _) ⟨by decide, by decide⟩ c19) rfl ?_
        have h35 := h21 c19
        refine am_wh 4 (pc1 := 96) (lv1 := [(5, .int v18), (4, .int v7), (3, .int (zg (s.2 21) a1.toInt)), (2, .int (zg (s.2 19) a1.toInt)), (0, .ref 27), (1, .int a1)]) (st1 := [.int v18, .int 3, .int a1, .ref 27]) rfl ?_
        refine am_wc rfl rfl rfl ?_
        refine am_ww h35 ?_
        rintro _ _ ⟨s36, rfl, rfl, h37⟩
        show am_W _ _ 13 99 [(5, .int v18), (4, .int v7), (3, .int (zg (s.2 21) a1.toInt)), (2, .int (zg (s.2 19) a1.toInt)), (0, .ref 27), (1, .int a1)] [] (zH s36) _
        refine am_wh 1 (pc1 := 122) (lv1 := [(5, .int v18), (4, .int v7), (3, .int (zg (s.2 21) a1.toInt)), (2, .int (zg (s.2 19) a1.toInt)), (0, .ref 27), (1, .int a1)]) (st1 := []) rfl ?_
        refine am_wr rfl rfl rfl ?_
        exact ⟨_, rfl, rfl, h37⟩
    · refine am_wb1 rfl false (zn_eq (zq_a _) (by decide) (zr_t _) ⟨by decide, by decide⟩ c12) rfl ?_
      have h38 := h14 c12
      refine am_wh 1 (pc1 := 61) (lv1 := [(4, .int v7), (3, .int (zg (s.2 21) a1.toInt)), (2, .int (zg (s.2 19) a1.toInt)), (0, .ref 27), (1, .int a1)]) (st1 := [.int v7]) rfl ?_
      refine am_wc rfl rfl rfl ?_
      refine am_ww h38 ?_
      rintro _ _ ⟨v41, s39, rfl, rfl, h40⟩
      show am_W _ _ 13 64 [(4, .int v7), (3, .int (zg (s.2 21) a1.toInt)), (2, .int (zg (s.2 19) a1.toInt)), (0, .ref 27), (1, .int a1)] [.int v41] (zH s39) _
      obtain ⟨h43, h44⟩ := h40
      by_cases c42 : v41.toInt = 0
      · refine am_wb1 rfl true (zt_eq (zq_a _) (by decide) (zr_t _) ⟨by decide, by decide⟩ c42) rfl ?_
        have h45 := h43 c42
        refine am_wh 3 (pc1 := 80) (lv1 := [(4, .int v7), (3, .int (zg (s.2 21) a1.toInt)), (2, .int (zg (s.2 19) a1.toInt)), (0, .ref 27), (1, .int a1)]) (st1 := [.int (zg (s.2 21) a1.toInt), .int (zg (s.2 19) a1.toInt), .ref 27]) rfl ?_
        refine am_wc rfl rfl rfl ?_
        refine am_ww h45 ?_
        rintro _ _ ⟨v48, s46, rfl, rfl, h47⟩
        show am_W _ _ 13 83 [(4, .int v7), (3, .int (zg (s.2 21) a1.toInt)), (2, .int (zg (s.2 19) a1.toInt)), (0, .ref 27), (1, .int a1)] [.int v48] (zH s46) _
        refine am_wh 3 (pc1 := 88) (lv1 := [(5, .int v48), (4, .int v7), (3, .int (zg (s.2 21) a1.toInt)), (2, .int (zg (s.2 19) a1.toInt)), (0, .ref 27), (1, .int a1)]) (st1 := [.int (-1), .int v48]) rfl ?_
        obtain ⟨h50, h51⟩ := h47
        by_cases c49 : v48.toInt = (-1)
        · refine am_wb2 rfl true (zt_eq (zq_a _) (by decide) (zr_t _) ⟨by decide, by decide⟩ c49) rfl ?_
          have h52 := h50 c49
          refine am_wh 4 (pc1 := 106) (lv1 := [(5, .int v48), (4, .int v7), (3, .int (zg (s.2 21) a1.toInt)), (2, .int (zg (s.2 19) a1.toInt)), (0, .ref 27), (1, .int a1)]) (st1 := [.int (zg (s.2 21) a1.toInt), .ref 27, .int a1, .ref 27]) rfl ?_
          refine am_wc rfl rfl rfl ?_
          refine am_ww h52 ?_
          rintro _ _ ⟨v55, s53, rfl, rfl, h54⟩
          show am_W _ _ 13 109 [(5, .int v48), (4, .int v7), (3, .int (zg (s.2 21) a1.toInt)), (2, .int (zg (s.2 19) a1.toInt)), (0, .ref 27), (1, .int a1)] [.int v55, .int a1, .ref 27] (zH s53) _
          obtain ⟨h57, h58⟩ := h54
          by_cases c56 : v55.toInt = 0
          · refine am_wb1 rfl true (zt_eq (zq_a _) (by decide) (zr_t _) ⟨by decide, by decide⟩ c56) rfl ?_
            have h59 := h57 c56
            refine am_wh 2 (pc1 := 119) (lv1 := [(5, .int v48), (4, .int v7), (3, .int (zg (s.2 21) a1.toInt)), (2, .int (zg (s.2 19) a1.toInt)), (0, .ref 27), (1, .int a1)]) (st1 := [.int 0, .int 6, .int a1, .ref 27]) rfl ?_
            refine am_wc rfl rfl rfl ?_
            refine am_ww h59 ?_
            rintro _ _ ⟨s60, rfl, rfl, h61⟩
            show am_W _ _ 13 122 [(5, .int v48), (4, .int v7), (3, .int (zg (s.2 21) a1.toInt)), (2, .int (zg (s.2 19) a1.toInt)), (0, .ref 27), (1, .int a1)] [] (zH s60) _
            refine am_wr rfl rfl rfl ?_
            exact ⟨_, rfl, rfl, h61⟩
          · refine am_wb1 rfl false (zn_eq (zq_a _) (by decide) (zr_t _) ⟨by decide, by decide⟩ c56) rfl ?_
            have h62 := h58 c56
            refine am_wh 3 (pc1 := 119) (lv1 := [(5, .int v48), (4, .int v7), (3, .int (zg (s.2 21) a1.toInt)), (2, .int (zg (s.2 19) a1.toInt)), (0, .ref 27), (1, .int a1)]) (st1 := [.int 0, .int 5, .int a1, .ref 27]) rfl ?_
            refine am_wc rfl rfl rfl ?_
            refine am_ww h62 ?_
            rintro _ _ ⟨s63, rfl, rfl, h64⟩
            show am_W _ _ 13 122 [(5, .int v48), (4, .int v7), (3, .int (zg (s.2 21) a1.toInt)), (2, .int (zg (s.2 19) a1.toInt)), (0, .ref 27), (1, .int a1)] [] (zH s63) _
            refine am_wr rfl rfl rfl ?_
            exact ⟨_, rfl, rfl, h64⟩
        · refine am_wb2 rfl false (zn_eq (zq_a _) (by decide) (zr_t _) ⟨by decide, by decide⟩ c49) rfl ?_
          have h65 := h51 c49
          refine am_wh 4 (pc1 := 96) (lv1 := [(5, .int v48), (4, .int v7), (3, .int (zg (s.2 21) a1.toInt)), (2, .int (zg (s.2 19) a1.toInt)), (0, .ref 27), (1, .int a1)]) (st1 := [.int v48, .int 3, .int a1, .ref 27]) rfl ?_
          refine am_wc rfl rfl rfl ?_
          refine am_ww h65 ?_
          rintro _ _ ⟨s66, rfl, rfl, h67⟩
          show am_W _ _ 13 99 [(5, .int v48), (4, .int v7), (3, .int (zg (s.2 21) a1.toInt)), (2, .int (zg (s.2 19) a1.toInt)), (0, .ref 27), (1, .int a1)] [] (zH s66) _
          refine am_wh 1 (pc1 := 122) (lv1 := [(5, .int v48), (4, .int v7), (3, .int (zg (s.2 21) a1.toInt)), (2, .int (zg (s.2 19) a1.toInt)), (0, .ref 27), (1, .int a1)]) (st1 := []) rfl ?_
          refine am_wr rfl rfl rfl ?_
          exact ⟨_, rfl, rfl, h67⟩
      · refine am_wb1 rfl false (zn_eq (zq_a _) (by decide) (zr_t _) ⟨by decide, by decide⟩ c42) rfl ?_
        have h68 := h44 c42
        refine am_wh 4 (pc1 := 71) (lv1 := [(4, .int v7), (3, .int (zg (s.2 21) a1.toInt)), (2, .int (zg (s.2 19) a1.toInt)), (0, .ref 27), (1, .int a1)]) (st1 := [.int (zg (s.2 19) a1.toInt), .int 1, .int a1, .ref 27]) rfl ?_
        refine am_wc rfl rfl rfl ?_
        refine am_ww h68 ?_
        rintro _ _ ⟨s69, rfl, rfl, h70⟩
        show am_W _ _ 13 74 [(4, .int v7), (3, .int (zg (s.2 21) a1.toInt)), (2, .int (zg (s.2 19) a1.toInt)), (0, .ref 27), (1, .int a1)] [] (zH s69) _
        refine am_wh 1 (pc1 := 122) (lv1 := [(4, .int v7), (3, .int (zg (s.2 21) a1.toInt)), (2, .int (zg (s.2 19) a1.toInt)), (0, .ref 27), (1, .int a1)]) (st1 := []) rfl ?_
        refine am_wr rfl rfl rfl ?_
        exact ⟨_, rfl, rfl, h70⟩
  · refine am_wb1 rfl false (zn_eq (zq_a _) (by decide) (zr_t _) ⟨by decide, by decide⟩ c8) rfl ?_
    have h71 := h10 c8
    refine am_wh 4 (pc1 := 49) (lv1 := [(4, .int v7), (3, .int (zg (s.2 21) a1.toInt)), (2, .int (zg (s.2 19) a1.toInt)), (0, .ref 27), (1, .int a1)]) (st1 := [.int 0, .int 4, .int a1, .ref 27]) rfl ?_
    refine am_wc rfl rfl rfl ?_
    refine am_ww h71 ?_
    rintro _ _ ⟨s72, rfl, rfl, h73⟩
    show am_W _ _ 13 52 [(4, .int v7), (3, .int (zg (s.2 21) a1.toInt)), (2, .int (zg (s.2 19) a1.toInt)), (0, .ref 27), (1, .int a1)] [] (zH s72) _
    refine am_wh 1 (pc1 := 122) (lv1 := [(4, .int v7), (3, .int (zg (s.2 21) a1.toInt)), (2, .int (zg (s.2 19) a1.toInt)), (0, .ref 27), (1, .int a1)]) (st1 := []) rfl ?_
    refine am_wr rfl rfl rfl ?_
    exact ⟨_, rfl, rfl, h73⟩
set_option maxRecDepth 100000 in
theorem vc_14_0 (xs : Option (List Int32)) (d : Nat) (s : zS) (a1 : Int32) (a2 : Int32) (a3 : Int32) (Q : zS → Prop) (h : zX (s.2 22) a1.toInt ∧ zX (s.2 23) a1.toInt ∧ Q (za (za s 22 (zu (s.2 22) a1.toInt a2)) 23 (zu (s.2 23) a1.toInt a3))) : zWv xs d 14 0 [(0, .ref 27), (1, .int a1), (2, .int a2), (3, .int a3)] s Q := by
  unfold zWv
  refine am_wh 5 (pc1 := 9) (lv1 := [(0, .ref 27), (1, .int a1), (2, .int a2), (3, .int a3)]) (st1 := [.int a2, .int a1, .ref 24]) rfl ?_
  obtain ⟨o1, h2⟩ := h
  refine zw_si (l := (s.2 22)) (i := a1.toInt) rfl rfl (zq_a _) o1 (zh_22 _ _) ?_
  refine am_wh 5 (pc1 := 19) (lv1 := [(0, .ref 27), (1, .int a1), (2, .int a2), (3, .int a3)]) (st1 := [.int a3, .int a1, .ref 25]) rfl ?_
  obtain ⟨o3, h4⟩ := h2
  refine zw_si (l := (s.2 23)) (i := a1.toInt) rfl rfl (zq_a _) o3 (zh_23 _ _) ?_
  refine am_wr rfl rfl rfl ?_
  exact ⟨_, rfl, rfl, h4⟩
set_option maxRecDepth 100000 in
theorem vc_15_0 (xs : Option (List Int32)) (d : Nat) (s : zS) (a1 : Int32) (Q : Int32 → zS → Prop) (h : zWi xs (d + 1) 15 2 [(0, .ref 27), (1, .int a1), (2, .int 0)] s Q) : zWi xs (d + 1) 15 0 [(0, .ref 27), (1, .int a1)] s Q := by
  unfold zWi
  refine am_wh 2 (pc1 := 2) (lv1 := [(2, .int 0), (0, .ref 27), (1, .int a1)]) (st1 := []) rfl ?_
  exact am_wm h ⟨rfl, rfl, rfl, trivial⟩
set_option maxRecDepth 100000 in
theorem vc_15_2 (xs : Option (List Int32)) (d : Nat) (s : zS) (a1 : Int32) (a2 : Int32) (Q : Int32 → zS → Prop) (h : (a2.toInt < (s.1 7).toInt → (zWi xs d 33 0 [(0, .ref 17), (1, .int a2)] s (fun v7 s5 => (v7.toInt = 0 → (zWi xs (d + 1) 15 2 [(0, .ref 27), (1, .int a1), (2, .int (a2 + 1))] s5 Q)) ∧ (¬ v7.toInt = 0 → (zX (s5.2 21) a2.toInt ∧ ((zg (s5.2 21) a2.toInt).toInt = a1.toInt → (zWi xs d 16 0 [(0, .ref 27), (1, .int a2)] s5 (fun v21 s19 => (v21.toInt = 0 → (zWi xs (d + 1) 15 2 [(0, .ref 27), (1, .int a1), (2, .int (a2 + 1))] s19 Q)) ∧ (¬ v21.toInt = 0 → (Q 1 s19))))) ∧ (¬ (zg (s5.2 21) a2.toInt).toInt = a1.toInt → (zWi xs (d + 1) 15 2 [(0, .ref 27), (1, .int a1), (2, .int (a2 + 1))] s5 Q))))))) ∧ (¬ a2.toInt < (s.1 7).toInt → (Q 0 s))) : zWi xs (d + 1) 15 2 [(0, .ref 27), (1, .int a1), (2, .int a2)] s Q := by
  unfold zWi
  refine am_wh 4 (pc1 := 10) (lv1 := [(0, .ref 27), (1, .int a1), (2, .int a2)]) (st1 := [.int (s.1 7), .int a2]) rfl ?_
  obtain ⟨h2, h3⟩ := h
  by_cases c1 : a2.toInt < (s.1 7).toInt
  · refine am_wb2 rfl false (zn_ge (zq_a _) (zq_a _) (zr_t _) (zr_t _) c1) rfl ?_
    have h4 := h2 c1
    refine am_wh 3 (pc1 := 18) (lv1 := [(0, .ref 27), (1, .int a1), (2, .int a2)]) (st1 := [.int a2, .ref 17]) rfl ?_
    refine am_wc rfl rfl rfl ?_
    refine am_ww h4 ?_
    rintro _ _ ⟨v7, s5, rfl, rfl, h6⟩
    show am_W _ _ 15 21 [(0, .ref 27), (1, .int a1), (2, .int a2)] [.int v7] (zH s5) _
    obtain ⟨h9, h10⟩ := h6
    by_cases c8 : v7.toInt = 0
    · refine am_wb1 rfl true (zt_eq (zq_a _) (by decide) (zr_t _) ⟨by decide, by decide⟩ c8) rfl ?_
      have h11 := h9 c8
      refine am_wh 2 (pc1 := 2) (lv1 := [(2, .int (a2 + 1)), (0, .ref 27), (1, .int a1)]) (st1 := []) rfl ?_
      exact am_wm h11 ⟨rfl, rfl, rfl, trivial⟩
    · refine am_wb1 rfl false (zn_eq (zq_a _) (by decide) (zr_t _) ⟨by decide, by decide⟩ c8) rfl ?_
      have h12 := h10 c8
      refine am_wh 4 (pc1 := 32) (lv1 := [(0, .ref 27), (1, .int a1), (2, .int a2)]) (st1 := [.int a2, .ref 23]) rfl ?_
      obtain ⟨o13, h14⟩ := h12
      refine zw_li (l := (s5.2 21)) (i := a2.toInt) rfl rfl (zq_a _) o13 ?_
      refine am_wh 1 (pc1 := 34) (lv1 := [(0, .ref 27), (1, .int a1), (2, .int a2)]) (st1 := [.int a1, .int (zg (s5.2 21) a2.toInt)]) rfl ?_
      obtain ⟨h16, h17⟩ := h14
      by_cases c15 : (zg (s5.2 21) a2.toInt).toInt = a1.toInt
      · refine am_wb2 rfl false (zn_ne (zq_a _) (zq_a _) (zr_t _) (zr_t _) c15) rfl ?_
        have h18 := h16 c15
        refine am_wh 2 (pc1 := 39) (lv1 := [(0, .ref 27), (1, .int a1), (2, .int a2)]) (st1 := [.int a2, .ref 27]) rfl ?_
        refine am_wc rfl rfl rfl ?_
        refine am_ww h18 ?_
        rintro _ _ ⟨v21, s19, rfl, rfl, h20⟩
        show am_W _ _ 15 42 [(0, .ref 27), (1, .int a1), (2, .int a2)] [.int v21] (zH s19) _
        obtain ⟨h23, h24⟩ := h20
        by_cases c22 : v21.toInt = 0
        · refine am_wb1 rfl true (zt_eq (zq_a _) (by decide) (zr_t _) ⟨by decide, by decide⟩ c22) rfl ?_
          have h25 := h23 c22
          refine am_wh 2 (pc1 := 2) (lv1 := [(2, .int (a2 + 1)), (0, .ref 27), (1, .int a1)]) (st1 := []) rfl ?_
          exact am_wm h25 ⟨rfl, rfl, rfl, trivial⟩
        · refine am_wb1 rfl false (zn_eq (zq_a _) (by decide) (zr_t _) ⟨by decide, by decide⟩ c22) rfl ?_
          have h26 := h24 c22
          refine am_wh 1 (pc1 := 46) (lv1 := [(0, .ref 27), (1, .int a1), (2, .int a2)]) (st1 := [.int 1]) rfl ?_
          refine am_wr rfl rfl rfl ?_
          exact ⟨_, _, rfl, rfl, h26⟩
      · refine am_wb2 rfl true (zt_ne (zq_a _) (zq_a _) (zr_t _) (zr_t _) c15) rfl ?_
        have h27 := h17 c15
        refine am_wh 2 (pc1 := 2) (lv1 := [(2, .int (a2 + 1)), (0, .ref 27), (1, .int a1)]) (st1 := []) rfl ?_
        exact am_wm h27 ⟨rfl, rfl, rfl, trivial⟩
  · refine am_wb2 rfl true (zt_ge (zq_a _) (zq_a _) (zr_t _) (zr_t _) c1) rfl ?_
    have h28 := h3 c1
    refine am_wh 1 (pc1 := 54) (lv1 := [(0, .ref 27), (1, .int a1), (2, .int a2)]) (st1 := [.int 0]) rfl ?_
    refine am_wr rfl rfl rfl ?_
    exact ⟨_, _, rfl, rfl, h28⟩
set_option maxRecDepth 100000 in
theorem vc_16_0 (xs : Option (List Int32)) (d : Nat) (s : zS) (a1 : Int32) (Q : Int32 → zS → Prop) (h : zX (s.2 19) a1.toInt ∧ zX (s.2 21) a1.toInt ∧ zWi xs d 34 0 [(0, .ref 17), (1, .int (zg (s.2 19) a1.toInt)), (2, .int (zg (s.2 21) a1.toInt)), (3, .int (s.1 7))] s (fun v7 s5 => ((zg (s.2 19) a1.toInt).toInt = 0 → (Q 1 s5)) ∧ (¬ (zg (s.2 19) a1.toInt).toInt = 0 → (((v7 &&& 4).toInt = 0 → (Q 0 s5)) ∧ (¬ (v7 &&& 4).toInt = 0 → (Q 1 s5)))))) : zWi xs (d + 1) 16 0 [(0, .ref 27), (1, .int a1)] s Q := by
  unfold zWi
  refine am_wh 4 (pc1 := 8) (lv1 := [(0, .ref 27), (1, .int a1)]) (st1 := [.int a1, .ref 21]) rfl ?_
  obtain ⟨o1, h2⟩ := h
  refine zw_li (l := (s.2 19)) (i := a1.toInt) rfl rfl (zq_a _) o1 ?_
  refine am_wh 8 (pc1 := 23) (lv1 := [(2, .int (zg (s.2 19) a1.toInt)), (0, .ref 27), (1, .int a1)]) (st1 := [.int a1, .ref 23, .int (zg (s.2 19) a1.toInt), .ref 17]) rfl ?_
  obtain ⟨o3, h4⟩ := h2
  refine zw_li (l := (s.2 21)) (i := a1.toInt) rfl rfl (zq_a _) o3 ?_
  refine am_wh 3 (pc1 := 31) (lv1 := [(2, .int (zg (s.2 19) a1.toInt)), (0, .ref 27), (1, .int a1)]) (st1 := [.int (s.1 7), .int (zg (s.2 21) a1.toInt), .int (zg (s.2 19) a1.toInt), .ref 17]) rfl ?_
  refine am_wc rfl rfl rfl ?_
  refine am_ww h4 ?_
  rintro _ _ ⟨v7, s5, rfl, rfl, h6⟩
  show am_W _ _ 16 34 [(2, .int (zg (s.2 19) a1.toInt)), (0, .ref 27), (1, .int a1)] [.int v7] (zH s5) _
  refine am_wh 2 (pc1 := 36) (lv1 := [(3, .int v7), (2, .int (zg (s.2 19) a1.toInt)), (0, .ref 27), (1, .int a1)]) (st1 := [.int (zg (s.2 19) a1.toInt)]) rfl ?_
  obtain ⟨h9, h10⟩ := h6
  by_cases c8 : (zg (s.2 19) a1.toInt).toInt = 0
  · refine am_wb1 rfl true (zt_eq (zq_a _) (by decide) (zr_t _) ⟨by decide, by decide⟩ c8) rfl ?_
    have h11 := h9 c8
    refine am_wh 2 (pc1 := 50) (lv1 := [(3, .int v7), (2, .int (zg (s.2 19) a1.toInt)), (0, .ref 27), (1, .int a1)]) (st1 := [.int 1]) rfl ?_
    refine am_wr rfl rfl rfl ?_
    exact ⟨_, _, rfl, rfl, h11⟩
  · refine am_wb1 rfl false (zn_eq (zq_a _) (by decide) (zr_t _) ⟨by decide, by decide⟩ c8) rfl ?_
    have h12 := h10 c8
    refine am_wh 3 (pc1 := 42) (lv1 := [(3, .int v7), (2, .int (zg (s.2 19) a1.toInt)), (0, .ref 27), (1, .int a1)]) (st1 := [.int (v7 &&& 4)]) rfl ?_
    obtain ⟨h14, h15⟩ := h12
    by_cases c13 : (v7 &&& 4).toInt = 0
    · refine am_wb1 rfl true (zt_eq (zq_a _) (by decide) (zr_t _) ⟨by decide, by decide⟩ c13) rfl ?_
      have h16 := h14 c13
      refine am_wh 1 (pc1 := 50) (lv1 := [(3, .int v7), (2, .int (zg (s.2 19) a1.toInt)), (0, .ref 27), (1, .int a1)]) (st1 := [.int 0]) rfl ?_
      refine am_wr rfl rfl rfl ?_
      exact ⟨_, _, rfl, rfl, h16⟩
    · refine am_wb1 rfl false (zn_eq (zq_a _) (by decide) (zr_t _) ⟨by decide, by decide⟩ c13) rfl ?_
      have h17 := h15 c13
      refine am_wh 2 (pc1 := 50) (lv1 := [(3, .int v7), (2, .int (zg (s.2 19) a1.toInt)), (0, .ref 27), (1, .int a1)]) (st1 := [.int 1]) rfl ?_
      refine am_wr rfl rfl rfl ?_
      exact ⟨_, _, rfl, rfl, h17⟩
set_option maxRecDepth 100000 in
theorem vc_17_0 (xs : Option (List Int32)) (d : Nat) (s : zS)  (Q : zS → Prop) (h : zWv xs (d + 1) 17 2 [(0, .ref 27), (1, .int 0)] s Q) : zWv xs (d + 1) 17 0 [(0, .ref 27)] s Q := by
  unfold zWv
  refine am_wh 2 (pc1 := 2) (lv1 := [(1, .int 0), (0, .ref 27)]) (st1 := []) rfl ?_
  exact am_wm h ⟨rfl, rfl, trivial⟩
set_option maxRecDepth 100000 in
theorem vc_17_2 (xs : Option (List Int32)) (d : Nat) (s : zS) (a1 : Int32) (Q : zS → Prop) (h : (a1.toInt < (s.1 7).toInt → (zX (s.2 22) a1.toInt ∧ ((zg (s.2 22) a1.toInt).toInt = 1 → (zWi xs d 18 0 [(0, .ref 27), (1, .int a1)] s (fun v13 s11 => (v13.toInt = 0 → (zWv xs (d + 1) 17 2 [(0, .ref 27), (1, .int (a1 + 1))] s11 Q)) ∧ (¬ v13.toInt = 0 → (zX (s11.2 22) a1.toInt ∧ zWv xs (d + 1) 17 2 [(0, .ref 27), (1, .int (a1 + 1))] (za s11 22 (zu (s11.2 22) a1.toInt 2)) Q))))) ∧ (¬ (zg (s.2 22) a1.toInt).toInt = 1 → (zWv xs (d + 1) 17 2 [(0, .ref 27), (1, .int (a1 + 1))] s Q)))) ∧ (¬ a1.toInt < (s.1 7).toInt → (Q s))) : zWv xs (d + 1) 17 2 [(0, .ref 27), (1, .int a1)] s Q := by
  unfold zWv
  refine am_wh 4 (pc1 := 10) (lv1 := [(0, .ref 27), (1, .int a1)]) (st1 := [.int (s.1 7), .int a1]) rfl ?_
  obtain ⟨h2, h3⟩ := h
  by_cases c1 : a1.toInt < (s.1 7).toInt
  · refine am_wb2 rfl false (zn_ge (zq_a _) (zq_a _) (zr_t _) (zr_t _) c1) rfl ?_
    have h4 := h2 c1
    refine am_wh 4 (pc1 := 21) (lv1 := [(0, .ref 27), (1, .int a1)]) (st1 := [.int a1, .ref 24]) rfl ?_
    obtain ⟨o5, h6⟩ := h4
    refine zw_li (l := (s.2 22)) (i := a1.toInt) rfl rfl (zq_a _) o5 ?_
    refine am_wh 1 (pc1 := 23) (lv1 := [(0, .ref 27), (1, .int a1)]) (st1 := [.int 1, .int (zg (s.2 22) a1.toInt)]) rfl ?_
    obtain ⟨h8, h9⟩ := h6
    by_cases c7 : (zg (s.2 22) a1.toInt).toInt = 1
    · refine am_wb2 rfl false (zn_ne (zq_a _) (by decide) (zr_t _) ⟨by decide, by decide⟩ c7) rfl ?_
      have h10 := h8 c7
      refine am_wh 2 (pc1 := 28) (lv1 := [(0, .ref 27), (1, .int a1)]) (st1 := [.int a1, .ref 27]) rfl ?_
      refine am_wc rfl rfl rfl ?_
      refine am_ww h10 ?_
      rintro _ _ ⟨v13, s11, rfl, rfl, h12⟩
      show am_W _ _ 17 31 [(0, .ref 27), (1, .int a1)] [.int v13] (zH s11) _
      obtain ⟨h15, h16⟩ := h12
      by_cases c14 : v13.toInt = 0
      · refine am_wb1 rfl true (zt_eq (zq_a _) (by decide) (zr_t _) ⟨by decide, by decide⟩ c14) rfl ?_
        have h17 := h15 c14
        refine am_wh 2 (pc1 := 2) (lv1 := [(1, .int (a1 + 1)), (0, .ref 27)]) (st1 := []) rfl ?_
        exact am_wm h17 ⟨rfl, rfl, trivial⟩
      · refine am_wb1 rfl false (zn_eq (zq_a _) (by decide) (zr_t _) ⟨by decide, by decide⟩ c14) rfl ?_
        have h18 := h16 c14
        refine am_wh 5 (pc1 := 43) (lv1 := [(0, .ref 27), (1, .int a1)]) (st1 := [.int 2, .int a1, .ref 24]) rfl ?_
        obtain ⟨o19, h20⟩ := h18
        refine zw_si (l := (s11.2 22)) (i := a1.toInt) rfl rfl (zq_a _) o19 (zh_22 _ _) ?_
        refine am_wh 2 (pc1 := 2) (lv1 := [(1, .int (a1 + 1)), (0, .ref 27)]) (st1 := []) rfl ?_
        exact am_wm h20 ⟨rfl, rfl, trivial⟩
    · refine am_wb2 rfl true (zt_ne (zq_a _) (by decide) (zr_t _) ⟨by decide, by decide⟩ c7) rfl ?_
      have h21 := h9 c7
      refine am_wh 2 (pc1 := 2) (lv1 := [(1, .int (a1 + 1)), (0, .ref 27)]) (st1 := []) rfl ?_
      exact am_wm h21 ⟨rfl, rfl, trivial⟩
  · refine am_wb2 rfl true (zt_ge (zq_a _) (zq_a _) (zr_t _) (zr_t _) c1) rfl ?_
    have h22 := h3 c1
    refine am_wr rfl rfl rfl ?_
    exact ⟨_, rfl, rfl, h22⟩
set_option maxRecDepth 100000 in
theorem vc_18_0 (xs : Option (List Int32)) (d : Nat) (s : zS) (a1 : Int32) (Q : Int32 → zS → Prop) (h : zWi xs (d + 1) 18 2 [(0, .ref 27), (1, .int a1), (2, .int 0)] s Q) : zWi xs (d + 1) 18 0 [(0, .ref 27), (1, .int a1)] s Q := by
  unfold zWi
  refine am_wh 2 (pc1 := 2) (lv1 := [(2, .int 0), (0, .ref 27), (1, .int a1)]) (st1 := []) rfl ?_
  exact am_wm h ⟨rfl, rfl, rfl, trivial⟩
set_option maxRecDepth 100000 in
theorem vc_18_2 (xs : Option (List Int32)) (d : Nat) (s : zS) (a1 : Int32) (a2 : Int32) (Q : Int32 → zS → Prop) (h : (a2.toInt < (s.1 7).toInt → (zX (s.2 22) a2.toInt ∧ ((zg (s.2 22) a2.toInt).toInt = 3 → (zWi xs d 35 0 [(0, .ref 17), (1, .int a1), (2, .int a2)] s (fun v13 s11 => (v13.toInt = 0 → (zWi xs (d + 1) 18 2 [(0, .ref 27), (1, .int a1), (2, .int (a2 + 1))] s11 Q)) ∧ (¬ v13.toInt = 0 → (Q 1 s11))))) ∧ (¬ (zg (s.2 22) a2.toInt).toInt = 3 → (zWi xs (d + 1) 18 2 [(0, .ref 27), (1, .int a1), (2, .int (a2 + 1))] s Q)))) ∧ (¬ a2.toInt < (s.1 7).toInt → (Q 0 s))) : zWi xs (d + 1) 18 2 [(0, .ref 27), (1, .int a1), (2, .int a2)] s Q := by
  unfold zWi
  refine am_wh 4 (pc1 := 10) (lv1 := [(0, .ref 27), (1, .int a1), (2, .int a2)]) (st1 := [.int (s.1 7), .int a2]) rfl ?_
  obtain ⟨h2, h3⟩ := h
  by_cases c1 : a2.toInt < (s.1 7).toInt
  · refine am_wb2 rfl false (zn_ge (zq_a _) (zq_a _) (zr_t _) (zr_t _) c1) rfl ?_
    have h4 := h2 c1
    refine am_wh 4 (pc1 := 21) (lv1 := [(0, .ref 27), (1, .int a1), (2, .int a2)]) (st1 := [.int a2, .ref 24]) rfl ?_
    obtain ⟨o5, h6⟩ := h4
    refine zw_li (l := (s.2 22)) (i := a2.toInt) rfl rfl (zq_a _) o5 ?_
    refine am_wh 1 (pc1 := 23) (lv1 := [(0, .ref 27), (1, .int a1), (2, .int a2)]) (st1 := [.int 3, .int (zg (s.2 22) a2.toInt)]) rfl ?_
    obtain ⟨h8, h9⟩ := h6
    by_cases c7 : (zg (s.2 22) a2.toInt).toInt = 3
    · refine am_wb2 rfl false (zn_ne (zq_a _) (by decide) (zr_t _) ⟨by decide, by decide⟩ c7) rfl ?_
      have h10 := h8 c7
      refine am_wh 4 (pc1 := 32) (lv1 := [(0, .ref 27), (1, .int a1), (2, .int a2)]) (st1 := [.int a2, .int a1, .ref 17]) rfl ?_
      refine am_wc rfl rfl rfl ?_
      refine am_ww h10 ?_
      rintro _ _ ⟨v13, s11, rfl, rfl, h12⟩
      show am_W _ _ 18 35 [(0, .ref 27), (1, .int a1), (2, .int a2)] [.int v13] (zH s11) _
      obtain ⟨h15, h16⟩ := h12
      by_cases c14 : v13.toInt = 0
      · refine am_wb1 rfl true (zt_eq (zq_a _) (by decide) (zr_t _) ⟨by decide, by decide⟩ c14) rfl ?_
        have h17 := h15 c14
        refine am_wh 2 (pc1 := 2) (lv1 := [(2, .int (a2 + 1)), (0, .ref 27), (1, .int a1)]) (st1 := []) rfl ?_
        exact am_wm h17 ⟨rfl, rfl, rfl, trivial⟩
      · refine am_wb1 rfl false (zn_eq (zq_a _) (by decide) (zr_t _) ⟨by decide, by decide⟩ c14) rfl ?_
        have h18 := h16 c14
        refine am_wh 1 (pc1 := 39) (lv1 := [(0, .ref 27), (1, .int a1), (2, .int a2)]) (st1 := [.int 1]) rfl ?_
        refine am_wr rfl rfl rfl ?_
        exact ⟨_, _, rfl, rfl, h18⟩
    · refine am_wb2 rfl true (zt_ne (zq_a _) (by decide) (zr_t _) ⟨by decide, by decide⟩ c7) rfl ?_
      have h19 := h9 c7
      refine am_wh 2 (pc1 := 2) (lv1 := [(2, .int (a2 + 1)), (0, .ref 27), (1, .int a1)]) (st1 := []) rfl ?_
      exact am_wm h19 ⟨rfl, rfl, rfl, trivial⟩
  · refine am_wb2 rfl true (zt_ge (zq_a _) (zq_a _) (zr_t _) (zr_t _) c1) rfl ?_
    have h20 := h3 c1
    refine am_wh 1 (pc1 := 47) (lv1 := [(0, .ref 27), (1, .int a1), (2, .int a2)]) (st1 := [.int 0]) rfl ?_
    refine am_wr rfl rfl rfl ?_
    exact ⟨_, _, rfl, rfl, h20⟩
set_option maxRecDepth 100000 in
theorem vc_29_0 (xs : Option (List Int32)) (d : Nat) (s : zS) (a1 : Int32) (a2 : Int32) (a3 : Int32) (a4 : Int32) (a5 : Int32) (Q : zS → Prop) (h : ((s.1 7).toInt < 100 → (zX (s.2 16) (s.1 7).toInt ∧ zX (s.2 17) (s.1 7).toInt ∧ zX (s.2 18) (s.1 7).toInt ∧ zX (s.2 19) (s.1 7).toInt ∧ zX (s.2 20) (s.1 7).toInt ∧ Q (zf (za (za (za (za (za s 16 (zu (s.2 16) (s.1 7).toInt a1)) 17 (zu (s.2 17) (s.1 7).toInt a2)) 18 (zu (s.2 18) (s.1 7).toInt a3)) 19 (zu (s.2 19) (s.1 7).toInt a4)) 20 (zu (s.2 20) (s.1 7).toInt a5)) 7 ((s.1 7) + 1)))) ∧ (¬ (s.1 7).toInt < 100 → (Q s))) : zWv xs d 29 0 [(0, .ref 17), (1, .int a1), (2, .int a2), (3, .int a3), (4, .int a4), (5, .int a5)] s Q := by
  unfold zWv
  refine am_wh 3 (pc1 := 6) (lv1 := [(0, .ref 17), (1, .int a1), (2, .int a2), (3, .int a3), (4, .int a4), (5, .int a5)]) (st1 := [.int 100, .int (s.1 7)]) rfl ?_
  obtain ⟨h2, h3⟩ := h
  by_cases c1 : (s.1 7).toInt < 100
  · refine am_wb2 rfl false (zn_ge (zq_a _) (by decide) (zr_t _) ⟨by decide, by decide⟩ c1) rfl ?_
    have h4 := h2 c1
    refine am_wh 5 (pc1 := 18) (lv1 := [(0, .ref 17), (1, .int a1), (2, .int a2), (3, .int a3), (4, .int a4), (5, .int a5)]) (st1 := [.int a1, .int (s.1 7), .ref 18]) rfl ?_
    obtain ⟨o5, h6⟩ := h4
    refine zw_si (l := (s.2 16)) (i := (s.1 7).toInt) rfl rfl (zq_a _) o5 (zh_16 _ _) ?_
    refine am_wh 5 (pc1 := 28) (lv1 := [(0, .ref 17), (1, .int a1), (2, .int a2), (3, .int a3), (4, .int a4), (5, .int a5)]) (st1 := [.int a2, .int (s.1 7), .ref 19]) rfl ?_
    obtain ⟨o7, h8⟩ := h6
    refine zw_si (l := (s.2 17)) (i := (s.1 7).toInt) rfl rfl (zq_a _) o7 (zh_17 _ _) ?_
    refine am_wh 5 (pc1 := 38) (lv1 := [(0, .ref 17), (1, .int a1), (2, .int a2), (3, .int a3), (4, .int a4), (5, .int a5)]) (st1 := [.int a3, .int (s.1 7), .ref 20]) rfl ?_
    obtain ⟨o9, h10⟩ := h8
    refine zw_si (l := (s.2 18)) (i := (s.1 7).toInt) rfl rfl (zq_a _) o9 (zh_18 _ _) ?_
    refine am_wh 5 (pc1 := 49) (lv1 := [(0, .ref 17), (1, .int a1), (2, .int a2), (3, .int a3), (4, .int a4), (5, .int a5)]) (st1 := [.int a4, .int (s.1 7), .ref 21]) rfl ?_
    obtain ⟨o11, h12⟩ := h10
    refine zw_si (l := (s.2 19)) (i := (s.1 7).toInt) rfl rfl (zq_a _) o11 (zh_19 _ _) ?_
    refine am_wh 5 (pc1 := 60) (lv1 := [(0, .ref 17), (1, .int a1), (2, .int a2), (3, .int a3), (4, .int a4), (5, .int a5)]) (st1 := [.int a5, .int (s.1 7), .ref 22]) rfl ?_
    obtain ⟨o13, h14⟩ := h12
    refine zw_si (l := (s.2 20)) (i := (s.1 7).toInt) rfl rfl (zq_a _) o13 (zh_20 _ _) ?_
    refine am_wh 5 (pc1 := 68) (lv1 := [(0, .ref 17), (1, .int a1), (2, .int a2), (3, .int a3), (4, .int a4), (5, .int a5)]) (st1 := [.int ((s.1 7) + 1), .ref 17]) rfl ?_
    refine am_w0 (z := (71, [(0, .ref 17), (1, .int a1), (2, .int a2), (3, .int a3), (4, .int a4), (5, .int a5)], [], zH (zf (za (za (za (za (za s 16 (zu (s.2 16) (s.1 7).toInt a1)) 17 (zu (s.2 17) (s.1 7).toInt a2)) 18 (zu (s.2 18) (s.1 7).toInt a3)) 19 (zu (s.2 19) (s.1 7).toInt a4)) 20 (zu (s.2 20) (s.1 7).toInt a5)) 7 ((s.1 7) + 1)))) rfl rfl (zp_7 ) ?_
    refine am_wr rfl rfl rfl ?_
    exact ⟨_, rfl, rfl, h14⟩
  · refine am_wb2 rfl true (zt_ge (zq_a _) (by decide) (zr_t _) ⟨by decide, by decide⟩ c1) rfl ?_
    have h15 := h3 c1
    refine am_wr rfl rfl rfl ?_
    exact ⟨_, rfl, rfl, h15⟩
set_option maxRecDepth 100000 in
theorem vc_30_0 (xs : Option (List Int32)) (d : Nat) (s : zS) (a1 : Int32) (Q : Int32 → zS → Prop) (h : zWi xs d 30 2 [(0, .ref 17), (1, .int a1), (2, .int 0)] s Q) : zWi xs d 30 0 [(0, .ref 17), (1, .int a1)] s Q := by
  unfold zWi
  refine am_wh 2 (pc1 := 2) (lv1 := [(2, .int 0), (0, .ref 17), (1, .int a1)]) (st1 := []) rfl ?_
  exact am_wm h ⟨rfl, rfl, rfl, trivial⟩
set_option maxRecDepth 100000 in
theorem vc_30_2 (xs : Option (List Int32)) (d : Nat) (s : zS) (a1 : Int32) (a2 : Int32) (Q : Int32 → zS → Prop) (h : (a2.toInt < (s.1 7).toInt → (zX (s.2 16) a2.toInt ∧ (a1.toInt < (zg (s.2 16) a2.toInt).toInt → (zWi xs d 30 2 [(0, .ref 17), (1, .int a1), (2, .int (a2 + 1))] s Q)) ∧ (¬ a1.toInt < (zg (s.2 16) a2.toInt).toInt → (zX (s.2 17) a2.toInt ∧ (a1.toInt < (zg (s.2 17) a2.toInt).toInt → (Q a2 s)) ∧ (¬ a1.toInt < (zg (s.2 17) a2.toInt).toInt → (zWi xs d 30 2 [(0, .ref 17), (1, .int a1), (2, .int (a2 + 1))] s Q)))))) ∧ (¬ a2.toInt < (s.1 7).toInt → (Q (-1) s))) : zWi xs d 30 2 [(0, .ref 17), (1, .int a1), (2, .int a2)] s Q := by
  unfold zWi
  refine am_wh 3 (pc1 := 7) (lv1 := [(0, .ref 17), (1, .int a1), (2, .int a2)]) (st1 := [.int (s.1 7), .int a2]) rfl ?_
  obtain ⟨h2, h3⟩ := h
  by_cases c1 : a2.toInt < (s.1 7).toInt
  · refine am_wb2 rfl false (zn_ge (zq_a _) (zq_a _) (zr_t _) (zr_t _) c1) rfl ?_
    have h4 := h2 c1
    refine am_wh 3 (pc1 := 15) (lv1 := [(0, .ref 17), (1, .int a1), (2, .int a2)]) (st1 := [.int a2, .ref 18]) rfl ?_
    obtain ⟨o5, h6⟩ := h4
    refine zw_li (l := (s.2 16)) (i := a2.toInt) rfl rfl (zq_a _) o5 ?_
    refine am_wh 1 (pc1 := 17) (lv1 := [(0, .ref 17), (1, .int a1), (2, .int a2)]) (st1 := [.int a1, .int (zg (s.2 16) a2.toInt)]) rfl ?_
    obtain ⟨h8, h9⟩ := h6
    by_cases c7 : a1.toInt < (zg (s.2 16) a2.toInt).toInt
    · refine am_wb2 rfl true (zt_gt (zq_a _) (zq_a _) (zr_t _) (zr_t _) c7) rfl ?_
      have h10 := h8 c7
      refine am_wh 2 (pc1 := 2) (lv1 := [(2, .int (a2 + 1)), (0, .ref 17), (1, .int a1)]) (st1 := []) rfl ?_
      exact am_wm h10 ⟨rfl, rfl, rfl, trivial⟩
    · refine am_wb2 rfl false (zn_gt (zq_a _) (zq_a _) (zr_t _) (zr_t _) c7) rfl ?_
      have h11 := h9 c7
      refine am_wh 4 (pc1 := 26) (lv1 := [(0, .ref 17), (1, .int a1), (2, .int a2)]) (st1 := [.int a2, .ref 19, .int a1]) rfl ?_
      obtain ⟨o12, h13⟩ := h11
      refine zw_li (l := (s.2 17)) (i := a2.toInt) rfl rfl (zq_a _) o12 ?_
      obtain ⟨h15, h16⟩ := h13
      by_cases c14 : a1.toInt < (zg (s.2 17) a2.toInt).toInt
      · refine am_wb2 rfl false (zn_ge (zq_a _) (zq_a _) (zr_t _) (zr_t _) c14) rfl ?_
        have h17 := h15 c14
        refine am_wh 1 (pc1 := 31) (lv1 := [(0, .ref 17), (1, .int a1), (2, .int a2)]) (st1 := [.int a2]) rfl ?_
        refine am_wr rfl rfl rfl ?_
        exact ⟨_, _, rfl, rfl, h17⟩
      · refine am_wb2 rfl true (zt_ge (zq_a _) (zq_a _) (zr_t _) (zr_t _) c14) rfl ?_
        have h18 := h16 c14
        refine am_wh 2 (pc1 := 2) (lv1 := [(2, .int (a2 + 1)), (0, .ref 17), (1, .int a1)]) (st1 := []) rfl ?_
        exact am_wm h18 ⟨rfl, rfl, rfl, trivial⟩
  · refine am_wb2 rfl true (zt_ge (zq_a _) (zq_a _) (zr_t _) (zr_t _) c1) rfl ?_
    have h19 := h3 c1
    refine am_wh 1 (pc1 := 39) (lv1 := [(0, .ref 17), (1, .int a1), (2, .int a2)]) (st1 := [.int (-1)]) rfl ?_
    refine am_wr rfl rfl rfl ?_
    exact ⟨_, _, rfl, rfl, h19⟩
set_option maxRecDepth 100000 in
theorem vc_31_0 (xs : Option (List Int32)) (d : Nat) (s : zS) (a1 : Int32) (Q : Int32 → zS → Prop) (h : zX (s.2 17) a1.toInt ∧ zX (s.2 16) a1.toInt ∧ Q ((zg (s.2 17) a1.toInt) - (zg (s.2 16) a1.toInt)) s) : zWi xs d 31 0 [(0, .ref 17), (1, .int a1)] s Q := by
  unfold zWi
  refine am_wh 3 (pc1 := 5) (lv1 := [(0, .ref 17), (1, .int a1)]) (st1 := [.int a1, .ref 19]) rfl ?_
  obtain ⟨o1, h2⟩ := h
  refine zw_li (l := (s.2 17)) (i := a1.toInt) rfl rfl (zq_a _) o1 ?_
  refine am_wh 3 (pc1 := 11) (lv1 := [(0, .ref 17), (1, .int a1)]) (st1 := [.int a1, .ref 18, .int (zg (s.2 17) a1.toInt)]) rfl ?_
  obtain ⟨o3, h4⟩ := h2
  refine zw_li (l := (s.2 16)) (i := a1.toInt) rfl rfl (zq_a _) o3 ?_
  refine am_wh 1 (pc1 := 13) (lv1 := [(0, .ref 17), (1, .int a1)]) (st1 := [.int ((zg (s.2 17) a1.toInt) - (zg (s.2 16) a1.toInt))]) rfl ?_
  refine am_wr rfl rfl rfl ?_
  exact ⟨_, _, rfl, rfl, h4⟩
set_option maxRecDepth 100000 in
theorem vc_32_0 (xs : Option (List Int32)) (d : Nat) (s : zS) (a1 : Int32) (a2 : Int32) (Q : Int32 → zS → Prop) (h : zX (s.2 20) a1.toInt ∧ (((zg (s.2 20) a1.toInt) &&& a2).toInt = 0 → (Q 0 s)) ∧ (¬ ((zg (s.2 20) a1.toInt) &&& a2).toInt = 0 → (Q 1 s))) : zWi xs d 32 0 [(0, .ref 17), (1, .int a1), (2, .int a2)] s Q := by
  unfold zWi
  refine am_wh 3 (pc1 := 5) (lv1 := [(0, .ref 17), (1, .int a1), (2, .int a2)]) (st1 := [.int a1, .ref 22]) rfl ?_
  obtain ⟨o1, h2⟩ := h
  refine zw_li (l := (s.2 20)) (i := a1.toInt) rfl rfl (zq_a _) o1 ?_
  refine am_wh 2 (pc1 := 8) (lv1 := [(0, .ref 17), (1, .int a1), (2, .int a2)]) (st1 := [.int ((zg (s.2 20) a1.toInt) &&& a2)]) rfl ?_
  obtain ⟨h4, h5⟩ := h2
  by_cases c3 : ((zg (s.2 20) a1.toInt) &&& a2).toInt = 0
  · refine am_wb1 rfl true (zt_eq (zq_a _) (by decide) (zr_t _) ⟨by decide, by decide⟩ c3) rfl ?_
    have h6 := h4 c3
    refine am_wh 1 (pc1 := 16) (lv1 := [(0, .ref 17), (1, .int a1), (2, .int a2)]) (st1 := [.int 0]) rfl ?_
    refine am_wr rfl rfl rfl ?_
    exact ⟨_, _, rfl, rfl, h6⟩
  · refine am_wb1 rfl false (zn_eq (zq_a _) (by decide) (zr_t _) ⟨by decide, by decide⟩ c3) rfl ?_
    have h7 := h5 c3
    refine am_wh 2 (pc1 := 16) (lv1 := [(0, .ref 17), (1, .int a1), (2, .int a2)]) (st1 := [.int 1]) rfl ?_
    refine am_wr rfl rfl rfl ?_
    exact ⟨_, _, rfl, rfl, h7⟩
set_option maxRecDepth 100000 in
theorem vc_33_0 (xs : Option (List Int32)) (d : Nat) (s : zS) (a1 : Int32) (Q : Int32 → zS → Prop) (h : zWi xs d 32 0 [(0, .ref 17), (1, .int a1), (2, .int 2)] s (fun v3 s1 => (v3 = 0 ∨ v3 = 1) ∧ Q v3 s1)) : zWi xs (d + 1) 33 0 [(0, .ref 17), (1, .int a1)] s Q := by
  unfold zWi
  refine am_wh 3 (pc1 := 3) (lv1 := [(0, .ref 17), (1, .int a1)]) (st1 := [.int 2, .int a1, .ref 17]) rfl ?_
  refine am_wc rfl rfl rfl ?_
  refine am_ww h ?_
  rintro _ _ ⟨v3, s1, rfl, rfl, h2⟩
  show am_W _ _ 33 6 [(0, .ref 17), (1, .int a1)] [.int v3] (zH s1) _
  obtain ⟨o4, h5⟩ := h2
  refine am_wr rfl rfl (zr_b o4) ?_
  exact ⟨_, _, rfl, rfl, h5⟩
set_option maxRecDepth 100000 in
theorem vc_34_0 (xs : Option (List Int32)) (d : Nat) (s : zS) (a1 : Int32) (a2 : Int32) (a3 : Int32) (Q : Int32 → zS → Prop) (h : zWi xs d 34 6 [(0, .ref 17), (1, .int a1), (2, .int a2), (3, .int a3), (4, .int 0), (5, .int 0)] s Q) : zWi xs d 34 0 [(0, .ref 17), (1, .int a1), (2, .int a2), (3, .int a3)] s Q := by
  unfold zWi
  refine am_wh 4 (pc1 := 6) (lv1 := [(5, .int 0), (4, .int 0), (0, .ref 17), (1, .int a1), (2, .int a2), (3, .int a3)]) (st1 := []) rfl ?_
  exact am_wm h ⟨rfl, rfl, rfl, rfl, rfl, rfl, trivial⟩
set_option maxRecDepth 100000 in
theorem vc_34_6 (xs : Option (List Int32)) (d : Nat) (s : zS) (a1 : Int32) (a2 : Int32) (a3 : Int32) (a4 : Int32) (a5 : Int32) (Q : Int32 → zS → Prop) (h : (a5.toInt < a3.toInt → ((a5.toInt < (s.1 7).toInt → (zX (s.2 19) a5.toInt ∧ ((zg (s.2 19) a5.toInt).toInt = a1.toInt → (zX (s.2 21) a5.toInt ∧ ((zg (s.2 21) a5.toInt).toInt = a2.toInt → (zX (s.2 20) a5.toInt ∧ zWi xs d 34 6 [(0, .ref 17), (1, .int a1), (2, .int a2), (3, .int a3), (4, .int (a4 ||| (zg (s.2 20) a5.toInt))), (5, .int (a5 + 1))] s Q)) ∧ (¬ (zg (s.2 21) a5.toInt).toInt = a2.toInt → (zWi xs d 34 6 [(0, .ref 17), (1, .int a1), (2, .int a2), (3, .int a3), (4, .int a4), (5, .int (a5 + 1))] s Q)))) ∧ (¬ (zg (s.2 19) a5.toInt).toInt = a1.toInt → (zWi xs d 34 6 [(0, .ref 17), (1, .int a1), (2, .int a2), (3, .int a3), (4, .int a4), (5, .int (a5 + 1))] s Q)))) ∧ (¬ a5.toInt < (s.1 7).toInt → (Q a4 s)))) ∧ (¬ a5.toInt < a3.toInt → (Q a4 s))) : zWi xs d 34 6 [(0, .ref 17), (1, .int a1), (2, .int a2), (3, .int a3), (4, .int a4), (5, .int a5)] s Q := by
  unfold zWi
  refine am_wh 2 (pc1 := 9) (lv1 := [(0, .ref 17), (1, .int a1), (2, .int a2), (3, .int a3), (4, .int a4), (5, .int a5)]) (st1 := [.int a3, .int a5]) rfl ?_
  obtain ⟨h2, h3⟩ := h
  by_cases c1 : a5.toInt < a3.toInt
  · refine am_wb2 rfl false (zn_ge (zq_a _) (zq_a _) (zr_t _) (zr_t _) c1) rfl ?_
    have h4 := h2 c1
    refine am_wh 3 (pc1 := 18) (lv1 := [(0, .ref 17), (1, .int a1), (2, .int a2), (3, .int a3), (4, .int a4), (5, .int a5)]) (st1 := [.int (s.1 7), .int a5]) rfl ?_
    obtain ⟨h6, h7⟩ := h4
    by_cases c5 : a5.toInt < (s.1 7).toInt
    · refine am_wb2 rfl false (zn_ge (zq_a _) (zq_a _) (zr_t _) (zr_t _) c5) rfl ?_
      have h8 := h6 c5
      refine am_wh 3 (pc1 := 27) (lv1 := [(0, .ref 17), (1, .int a1), (2, .int a2), (3, .int a3), (4, .int a4), (5, .int a5)]) (st1 := [.int a5, .ref 21]) rfl ?_
      obtain ⟨o9, h10⟩ := h8
      refine zw_li (l := (s.2 19)) (i := a5.toInt) rfl rfl (zq_a _) o9 ?_
      refine am_wh 1 (pc1 := 29) (lv1 := [(0, .ref 17), (1, .int a1), (2, .int a2), (3, .int a3), (4, .int a4), (5, .int a5)]) (st1 := [.int a1, .int (zg (s.2 19) a5.toInt)]) rfl ?_
      obtain ⟨h12, h13⟩ := h10
      by_cases c11 : (zg (s.2 19) a5.toInt).toInt = a1.toInt
      · refine am_wb2 rfl false (zn_ne (zq_a _) (zq_a _) (zr_t _) (zr_t _) c11) rfl ?_
        have h14 := h12 c11
        refine am_wh 3 (pc1 := 38) (lv1 := [(0, .ref 17), (1, .int a1), (2, .int a2), (3, .int a3), (4, .int a4), (5, .int a5)]) (st1 := [.int a5, .ref 23]) rfl ?_
        obtain ⟨o15, h16⟩ := h14
        refine zw_li (l := (s.2 21)) (i := a5.toInt) rfl rfl (zq_a _) o15 ?_
        refine am_wh 1 (pc1 := 40) (lv1 := [(0, .ref 17), (1, .int a1), (2, .int a2), (3, .int a3), (4, .int a4), (5, .int a5)]) (st1 := [.int a2, .int (zg (s.2 21) a5.toInt)]) rfl ?_
        obtain ⟨h18, h19⟩ := h16
        by_cases c17 : (zg (s.2 21) a5.toInt).toInt = a2.toInt
        · refine am_wb2 rfl false (zn_ne (zq_a _) (zq_a _) (zr_t _) (zr_t _) c17) rfl ?_
          have h20 := h18 c17
          refine am_wh 4 (pc1 := 51) (lv1 := [(0, .ref 17), (1, .int a1), (2, .int a2), (3, .int a3), (4, .int a4), (5, .int a5)]) (st1 := [.int a5, .ref 22, .int a4]) rfl ?_
          obtain ⟨o21, h22⟩ := h20
          refine zw_li (l := (s.2 20)) (i := a5.toInt) rfl rfl (zq_a _) o21 ?_
          refine am_wh 4 (pc1 := 6) (lv1 := [(5, .int (a5 + 1)), (4, .int (a4 ||| (zg (s.2 20) a5.toInt))), (0, .ref 17), (1, .int a1), (2, .int a2), (3, .int a3)]) (st1 := []) rfl ?_
          exact am_wm h22 ⟨rfl, rfl, rfl, rfl, rfl, rfl, trivial⟩
        · refine am_wb2 rfl true (zt_ne (zq_a _) (zq_a _) (zr_t _) (zr_t _) c17) rfl ?_
          have h23 := h19 c17
          refine am_wh 2 (pc1 := 6) (lv1 := [(5, .int (a5 + 1)), (0, .ref 17), (1, .int a1), (2, .int a2), (3, .int a3), (4, .int a4)]) (st1 := []) rfl ?_
          exact am_wm h23 ⟨rfl, rfl, rfl, rfl, rfl, rfl, trivial⟩
      · refine am_wb2 rfl true (zt_ne (zq_a _) (zq_a _) (zr_t _) (zr_t _) c11) rfl ?_
        have h24 := h13 c11
        refine am_wh 2 (pc1 := 6) (lv1 := [(5, .int (a5 + 1)), (0, .ref 17), (1, .int a1), (2, .int a2), (3, .int a3), (4, .int a4)]) (st1 := []) rfl ?_
        exact am_wm h24 ⟨rfl, rfl, rfl, rfl, rfl, rfl, trivial⟩
    · refine am_wb2 rfl true (zt_ge (zq_a _) (zq_a _) (zr_t _) (zr_t _) c5) rfl ?_
      have h25 := h7 c5
      refine am_wh 1 (pc1 := 63) (lv1 := [(0, .ref 17), (1, .int a1), (2, .int a2), (3, .int a3), (4, .int a4), (5, .int a5)]) (st1 := [.int a4]) rfl ?_
      refine am_wr rfl rfl rfl ?_
      exact ⟨_, _, rfl, rfl, h25⟩
  · refine am_wb2 rfl true (zt_ge (zq_a _) (zq_a _) (zr_t _) (zr_t _) c1) rfl ?_
    have h26 := h3 c1
    refine am_wh 1 (pc1 := 63) (lv1 := [(0, .ref 17), (1, .int a1), (2, .int a2), (3, .int a3), (4, .int a4), (5, .int a5)]) (st1 := [.int a4]) rfl ?_
    refine am_wr rfl rfl rfl ?_
    exact ⟨_, _, rfl, rfl, h26⟩
set_option maxRecDepth 100000 in
theorem vc_35_0 (xs : Option (List Int32)) (d : Nat) (s : zS) (a1 : Int32) (a2 : Int32) (Q : Int32 → zS → Prop) (h : zX (s.2 21) a1.toInt ∧ zX (s.2 21) a2.toInt ∧ ((zg (s.2 21) a1.toInt).toInt = (zg (s.2 21) a2.toInt).toInt → (zX (s.2 23) a1.toInt ∧ zX (s.2 23) a2.toInt ∧ ((zg (s.2 23) a1.toInt).toInt = (zg (s.2 23) a2.toInt).toInt → (Q 1 s)) ∧ (¬ (zg (s.2 23) a1.toInt).toInt = (zg (s.2 23) a2.toInt).toInt → (Q 0 s)))) ∧ (¬ (zg (s.2 21) a1.toInt).toInt = (zg (s.2 21) a2.toInt).toInt → (Q 0 s))) : zWi xs d 35 0 [(0, .ref 17), (1, .int a1), (2, .int a2)] s Q := by
  unfold zWi
  refine am_wh 3 (pc1 := 5) (lv1 := [(0, .ref 17), (1, .int a1), (2, .int a2)]) (st1 := [.int a1, .ref 23]) rfl ?_
  obtain ⟨o1, h2⟩ := h
  refine zw_li (l := (s.2 21)) (i := a1.toInt) rfl rfl (zq_a _) o1 ?_
  refine am_wh 3 (pc1 := 11) (lv1 := [(0, .ref 17), (1, .int a1), (2, .int a2)]) (st1 := [.int a2, .ref 23, .int (zg (s.2 21) a1.toInt)]) rfl ?_
  obtain ⟨o3, h4⟩ := h2
  refine zw_li (l := (s.2 21)) (i := a2.toInt) rfl rfl (zq_a _) o3 ?_
  obtain ⟨h6, h7⟩ := h4
  by_cases c5 : (zg (s.2 21) a1.toInt).toInt = (zg (s.2 21) a2.toInt).toInt
  · refine am_wb2 rfl false (zn_ne (zq_a _) (zq_a _) (zr_t _) (zr_t _) c5) rfl ?_
    have h8 := h6 c5
    refine am_wh 3 (pc1 := 20) (lv1 := [(0, .ref 17), (1, .int a1), (2, .int a2)]) (st1 := [.int a1, .ref 25]) rfl ?_
    obtain ⟨o9, h10⟩ := h8
    refine zw_li (l := (s.2 23)) (i := a1.toInt) rfl rfl (zq_a _) o9 ?_
    refine am_wh 3 (pc1 := 26) (lv1 := [(0, .ref 17), (1, .int a1), (2, .int a2)]) (st1 := [.int a2, .ref 25, .int (zg (s.2 23) a1.toInt)]) rfl ?_
    obtain ⟨o11, h12⟩ := h10
    refine zw_li (l := (s.2 23)) (i := a2.toInt) rfl rfl (zq_a _) o11 ?_
    obtain ⟨h14, h15⟩ := h12
    by_cases c13 : (zg (s.2 23) a1.toInt).toInt = (zg (s.2 23) a2.toInt).toInt
    · refine am_wb2 rfl false (zn_ne (zq_a _) (zq_a _) (zr_t _) (zr_t _) c13) rfl ?_
      have h16 := h14 c13
      refine am_wh 2 (pc1 := 35) (lv1 := [(0, .ref 17), (1, .int a1), (2, .int a2)]) (st1 := [.int 1]) rfl ?_
      refine am_wr rfl rfl rfl ?_
      exact ⟨_, _, rfl, rfl, h16⟩
    · refine am_wb2 rfl true (zt_ne (zq_a _) (zq_a _) (zr_t _) (zr_t _) c13) rfl ?_
      have h17 := h15 c13
      refine am_wh 1 (pc1 := 35) (lv1 := [(0, .ref 17), (1, .int a1), (2, .int a2)]) (st1 := [.int 0]) rfl ?_
      refine am_wr rfl rfl rfl ?_
      exact ⟨_, _, rfl, rfl, h17⟩
  · refine am_wb2 rfl true (zt_ne (zq_a _) (zq_a _) (zr_t _) (zr_t _) c5) rfl ?_
    have h18 := h7 c5
    refine am_wh 1 (pc1 := 35) (lv1 := [(0, .ref 17), (1, .int a1), (2, .int a2)]) (st1 := [.int 0]) rfl ?_
    refine am_wr rfl rfl rfl ?_
    exact ⟨_, _, rfl, rfl, h18⟩
set_option maxRecDepth 100000 in
theorem vc_36_0 (xs : Option (List Int32)) (d : Nat) (s : zS) (a1 : Int32) (Q : Int32 → zS → Prop) (h : zWi xs (d + 1) 36 2 [(0, .ref 17), (1, .int a1), (2, .int 0)] s Q) : zWi xs (d + 1) 36 0 [(0, .ref 17), (1, .int a1)] s Q := by
  unfold zWi
  refine am_wh 2 (pc1 := 2) (lv1 := [(2, .int 0), (0, .ref 17), (1, .int a1)]) (st1 := []) rfl ?_
  exact am_wm h ⟨rfl, rfl, rfl, trivial⟩
set_option maxRecDepth 100000 in
theorem vc_36_2 (xs : Option (List Int32)) (d : Nat) (s : zS) (a1 : Int32) (a2 : Int32) (Q : Int32 → zS → Prop) (h : (a2.toInt < a1.toInt → (zWi xs d 35 0 [(0, .ref 17), (1, .int a1), (2, .int a2)] s (fun v7 s5 => (v7.toInt = 0 → (zWi xs (d + 1) 36 2 [(0, .ref 17), (1, .int a1), (2, .int (a2 + 1))] s5 Q)) ∧ (¬ v7.toInt = 0 → (Q a2 s5))))) ∧ (¬ a2.toInt < a1.toInt → (Q a1 s))) : zWi xs (d + 1) 36 2 [(0, .ref 17), (1, .int a1), (2, .int a2)] s Q := by
  unfold zWi
  refine am_wh 2 (pc1 := 4) (lv1 := [(0, .ref 17), (1, .int a1), (2, .int a2)]) (st1 := [.int a1, .int a2]) rfl ?_
  obtain ⟨h2, h3⟩ := h
  by_cases c1 : a2.toInt < a1.toInt
  · refine am_wb2 rfl false (zn_ge (zq_a _) (zq_a _) (zr_t _) (zr_t _) c1) rfl ?_
    have h4 := h2 c1
    refine am_wh 3 (pc1 := 10) (lv1 := [(0, .ref 17), (1, .int a1), (2, .int a2)]) (st1 := [.int a2, .int a1, .ref 17]) rfl ?_
    refine am_wc rfl rfl rfl ?_
    refine am_ww h4 ?_
    rintro _ _ ⟨v7, s5, rfl, rfl, h6⟩
    show am_W _ _ 36 13 [(0, .ref 17), (1, .int a1), (2, .int a2)] [.int v7] (zH s5) _
    obtain ⟨h9, h10⟩ := h6
    by_cases c8 : v7.toInt = 0
    · refine am_wb1 rfl true (zt_eq (zq_a _) (by decide) (zr_t _) ⟨by decide, by decide⟩ c8) rfl ?_
      have h11 := h9 c8
      refine am_wh 2 (pc1 := 2) (lv1 := [(2, .int (a2 + 1)), (0, .ref 17), (1, .int a1)]) (st1 := []) rfl ?_
      exact am_wm h11 ⟨rfl, rfl, rfl, trivial⟩
    · refine am_wb1 rfl false (zn_eq (zq_a _) (by decide) (zr_t _) ⟨by decide, by decide⟩ c8) rfl ?_
      have h12 := h10 c8
      refine am_wh 1 (pc1 := 17) (lv1 := [(0, .ref 17), (1, .int a1), (2, .int a2)]) (st1 := [.int a2]) rfl ?_
      refine am_wr rfl rfl rfl ?_
      exact ⟨_, _, rfl, rfl, h12⟩
  · refine am_wb2 rfl true (zt_ge (zq_a _) (zq_a _) (zr_t _) (zr_t _) c1) rfl ?_
    have h13 := h3 c1
    refine am_wh 1 (pc1 := 25) (lv1 := [(0, .ref 17), (1, .int a1), (2, .int a2)]) (st1 := [.int a1]) rfl ?_
    refine am_wr rfl rfl rfl ?_
    exact ⟨_, _, rfl, rfl, h13⟩
set_option maxRecDepth 100000 in
theorem vc_37_0 (xs : Option (List Int32)) (d : Nat) (s : zS) (a1 : Int32) (Q : Int32 → zS → Prop) (h : zWi xs (d + 1) 37 4 [(0, .ref 17), (1, .int a1), (2, .int 0), (3, .int 0)] s Q) : zWi xs (d + 1) 37 0 [(0, .ref 17), (1, .int a1)] s Q := by
  unfold zWi
  refine am_wh 4 (pc1 := 4) (lv1 := [(3, .int 0), (2, .int 0), (0, .ref 17), (1, .int a1)]) (st1 := []) rfl ?_
  exact am_wm h ⟨rfl, rfl, rfl, rfl, trivial⟩
set_option maxRecDepth 100000 in
theorem vc_37_4 (xs : Option (List Int32)) (d : Nat) (s : zS) (a1 : Int32) (a2 : Int32) (a3 : Int32) (Q : Int32 → zS → Prop) (h : (a3.toInt < (s.1 7).toInt → (zWi xs d 35 0 [(0, .ref 17), (1, .int a1), (2, .int a3)] s (fun v7 s5 => (v7.toInt = 0 → (zWi xs (d + 1) 37 4 [(0, .ref 17), (1, .int a1), (2, .int a2), (3, .int (a3 + 1))] s5 Q)) ∧ (¬ v7.toInt = 0 → (zWi xs (d + 1) 37 4 [(0, .ref 17), (1, .int a1), (2, .int (a2 + 1)), (3, .int (a3 + 1))] s5 Q))))) ∧ (¬ a3.toInt < (s.1 7).toInt → (Q a2 s))) : zWi xs (d + 1) 37 4 [(0, .ref 17), (1, .int a1), (2, .int a2), (3, .int a3)] s Q := by
  unfold zWi
  refine am_wh 3 (pc1 := 9) (lv1 := [(0, .ref 17), (1, .int a1), (2, .int a2), (3, .int a3)]) (st1 := [.int (s.1 7), .int a3]) rfl ?_
  obtain ⟨h2, h3⟩ := h
  by_cases c1 : a3.toInt < (s.1 7).toInt
  · refine am_wb2 rfl false (zn_ge (zq_a _) (zq_a _) (zr_t _) (zr_t _) c1) rfl ?_
    have h4 := h2 c1
    refine am_wh 3 (pc1 := 15) (lv1 := [(0, .ref 17), (1, .int a1), (2, .int a2), (3, .int a3)]) (st1 := [.int a3, .int a1, .ref 17]) rfl ?_
    refine am_wc rfl rfl rfl ?_
    refine am_ww h4 ?_
    rintro _ _ ⟨v7, s5, rfl, rfl, h6⟩
    show am_W _ _ 37 18 [(0, .ref 17), (1, .int a1), (2, .int a2), (3, .int a3)] [.int v7] (zH s5) _
    obtain ⟨h9, h10⟩ := h6
    by_cases c8 : v7.toInt = 0
    · refine am_wb1 rfl true (zt_eq (zq_a _) (by decide) (zr_t _) ⟨by decide, by decide⟩ c8) rfl ?_
      have h11 := h9 c8
      refine am_wh 2 (pc1 := 4) (lv1 := [(3, .int (a3 + 1)), (0, .ref 17), (1, .int a1), (2, .int a2)]) (st1 := []) rfl ?_
      exact am_wm h11 ⟨rfl, rfl, rfl, rfl, trivial⟩
    · refine am_wb1 rfl false (zn_eq (zq_a _) (by decide) (zr_t _) ⟨by decide, by decide⟩ c8) rfl ?_
      have h12 := h10 c8
      refine am_wh 3 (pc1 := 4) (lv1 := [(3, .int (a3 + 1)), (2, .int (a2 + 1)), (0, .ref 17), (1, .int a1)]) (st1 := []) rfl ?_
      exact am_wm h12 ⟨rfl, rfl, rfl, rfl, trivial⟩
  · refine am_wb2 rfl true (zt_ge (zq_a _) (zq_a _) (zr_t _) (zr_t _) c1) rfl ?_
    have h13 := h3 c1
    refine am_wh 1 (pc1 := 31) (lv1 := [(0, .ref 17), (1, .int a1), (2, .int a2), (3, .int a3)]) (st1 := [.int a2]) rfl ?_
    refine am_wr rfl rfl rfl ?_
    exact ⟨_, _, rfl, rfl, h13⟩
set_option maxRecDepth 100000 in
theorem vc_38_0 (xs : Option (List Int32)) (d : Nat) (s : zS) (a1 : Int32) (Q : Int32 → zS → Prop) (h : zX (s.2 22) a1.toInt ∧ zX (s.2 23) a1.toInt ∧ zX (s.2 19) a1.toInt ∧ Q (((zg (s.2 22) a1.toInt) + (8 * (zg (s.2 23) a1.toInt))) + (512 * (zg (s.2 19) a1.toInt))) s) : zWi xs d 38 0 [(0, .ref 17), (1, .int a1)] s Q := by
  unfold zWi
  refine am_wh 3 (pc1 := 5) (lv1 := [(0, .ref 17), (1, .int a1)]) (st1 := [.int a1, .ref 24]) rfl ?_
  obtain ⟨o1, h2⟩ := h
  refine zw_li (l := (s.2 22)) (i := a1.toInt) rfl rfl (zq_a _) o1 ?_
  refine am_wh 4 (pc1 := 13) (lv1 := [(0, .ref 17), (1, .int a1)]) (st1 := [.int a1, .ref 25, .int 8, .int (zg (s.2 22) a1.toInt)]) rfl ?_
  obtain ⟨o3, h4⟩ := h2
  refine zw_li (l := (s.2 23)) (i := a1.toInt) rfl rfl (zq_a _) o3 ?_
  refine am_wh 6 (pc1 := 24) (lv1 := [(0, .ref 17), (1, .int a1)]) (st1 := [.int a1, .ref 21, .int 512, .int ((zg (s.2 22) a1.toInt) + (8 * (zg (s.2 23) a1.toInt)))]) rfl ?_
  obtain ⟨o5, h6⟩ := h4
  refine zw_li (l := (s.2 19)) (i := a1.toInt) rfl rfl (zq_a _) o5 ?_
  refine am_wh 2 (pc1 := 27) (lv1 := [(0, .ref 17), (1, .int a1)]) (st1 := [.int (((zg (s.2 22) a1.toInt) + (8 * (zg (s.2 23) a1.toInt))) + (512 * (zg (s.2 19) a1.toInt)))]) rfl ?_
  refine am_wr rfl rfl rfl ?_
  exact ⟨_, _, rfl, rfl, h6⟩
