set_option maxRecDepth 100000 in
theorem vc_165_0 (xs : Option (List Int32)) (d : Nat) (s : zS) (a1 : Int32) (a2 : Int32) (Q : Int32 → zS → Prop) (h : zX (s.2 44) a1.toInt ∧ ((zg (s.2 44) a1.toInt).toInt = 4 → (zX (s.2 48) a1.toInt ∧ (a2.toInt < (zg (s.2 48) a1.toInt).toInt → (Q 0 s)) ∧ (¬ a2.toInt < (zg (s.2 48) a1.toInt).toInt → (zX (s.2 49) a1.toInt ∧ (a2.toInt < (zg (s.2 49) a1.toInt).toInt → (Q 1 s)) ∧ (¬ a2.toInt < (zg (s.2 49) a1.toInt).toInt → (Q 0 s)))))) ∧ (¬ (zg (s.2 44) a1.toInt).toInt = 4 → (Q 0 s))) : zWi xs d 165 0 [(0, .ref 32), (1, .int a1), (2, .int a2)] s Q := by
  unfold zWi
  refine am_wh 3 (pc1 := 5) (lv1 := [(0, .ref 32), (1, .int a1), (2, .int a2)]) (st1 := [.int a1, .ref 46]) rfl ?_
  obtain ⟨o1, h2⟩ := h
  refine zw_li (l := (s.2 44)) (i := a1.toInt) rfl rfl (zq_a _) o1 ?_
  refine am_wh 1 (pc1 := 7) (lv1 := [(0, .ref 32), (1, .int a1), (2, .int a2)]) (st1 := [.int 4, .int (zg (s.2 44) a1.toInt)]) rfl ?_
  obtain ⟨h4, h5⟩ := h2
  by_cases c3 : (zg (s.2 44) a1.toInt).toInt = 4
  · refine am_wb2 rfl false (zn_ne (zq_a _) (by decide) (zr_t _) ⟨by decide, by decide⟩ c3) rfl ?_
    have h6 := h4 c3
    refine am_wh 4 (pc1 := 16) (lv1 := [(0, .ref 32), (1, .int a1), (2, .int a2)]) (st1 := [.int a1, .ref 50, .int a2]) rfl ?_
    obtain ⟨o7, h8⟩ := h6
    refine zw_li (l := (s.2 48)) (i := a1.toInt) rfl rfl (zq_a _) o7 ?_
    obtain ⟨h10, h11⟩ := h8
    by_cases c9 : a2.toInt < (zg (s.2 48) a1.toInt).toInt
    · refine am_wb2 rfl true (zt_lt (zq_a _) (zq_a _) (zr_t _) (zr_t _) c9) rfl ?_
      have h12 := h10 c9
      refine am_wh 1 (pc1 := 35) (lv1 := [(0, .ref 32), (1, .int a1), (2, .int a2)]) (st1 := [.int 0]) rfl ?_
      refine am_wr rfl rfl rfl ?_
      exact ⟨_, _, rfl, rfl, h12⟩
    · refine am_wb2 rfl false (zn_lt (zq_a _) (zq_a _) (zr_t _) (zr_t _) c9) rfl ?_
      have h13 := h11 c9
      refine am_wh 4 (pc1 := 26) (lv1 := [(0, .ref 32), (1, .int a1), (2, .int a2)]) (st1 := [.int a1, .ref 51, .int a2]) rfl ?_
      obtain ⟨o14, h15⟩ := h13
      refine zw_li (l := (s.2 49)) (i := a1.toInt) rfl rfl (zq_a _) o14 ?_
      obtain ⟨h17, h18⟩ := h15
      by_cases c16 : a2.toInt < (zg (s.2 49) a1.toInt).toInt
      · refine am_wb2 rfl false (zn_ge (zq_a _) (zq_a _) (zr_t _) (zr_t _) c16) rfl ?_
        have h19 := h17 c16
        refine am_wh 2 (pc1 := 35) (lv1 := [(0, .ref 32), (1, .int a1), (2, .int a2)]) (st1 := [.int 1]) rfl ?_
        refine am_wr rfl rfl rfl ?_
        exact ⟨_, _, rfl, rfl, h19⟩
      · refine am_wb2 rfl true (zt_ge (zq_a _) (zq_a _) (zr_t _) (zr_t _) c16) rfl ?_
        have h20 := h18 c16
        refine am_wh 1 (pc1 := 35) (lv1 := [(0, .ref 32), (1, .int a1), (2, .int a2)]) (st1 := [.int 0]) rfl ?_
        refine am_wr rfl rfl rfl ?_
        exact ⟨_, _, rfl, rfl, h20⟩
  · refine am_wb2 rfl true (zt_ne (zq_a _) (by decide) (zr_t _) ⟨by decide, by decide⟩ c3) rfl ?_
    have h21 := h5 c3
    refine am_wh 1 (pc1 := 35) (lv1 := [(0, .ref 32), (1, .int a1), (2, .int a2)]) (st1 := [.int 0]) rfl ?_
    refine am_wr rfl rfl rfl ?_
    exact ⟨_, _, rfl, rfl, h21⟩
set_option maxRecDepth 100000 in
theorem vc_166_0 (xs : Option (List Int32)) (d : Nat) (s : zS) (a1 : Int32) (Q : Int32 → zS → Prop) (h : zWi xs (d + 1) 166 4 [(0, .ref 32), (1, .int a1), (2, .int 0), (3, .int 1)] s Q) : zWi xs (d + 1) 166 0 [(0, .ref 32), (1, .int a1)] s Q := by
  unfold zWi
  refine am_wh 4 (pc1 := 4) (lv1 := [(3, .int 1), (2, .int 0), (0, .ref 32), (1, .int a1)]) (st1 := []) rfl ?_
  exact am_wm h ⟨rfl, rfl, rfl, rfl, trivial⟩
set_option maxRecDepth 100000 in
theorem vc_166_4 (xs : Option (List Int32)) (d : Nat) (s : zS) (a1 : Int32) (a2 : Int32) (a3 : Int32) (Q : Int32 → zS → Prop) (h : (a3.toInt < (s.1 31).toInt → (zX (s.2 46) a3.toInt ∧ (a1.toInt < (zg (s.2 46) a3.toInt).toInt → (zWi xs (d + 1) 166 4 [(0, .ref 32), (1, .int a1), (2, .int a2), (3, .int (a3 + 1))] s Q)) ∧ (¬ a1.toInt < (zg (s.2 46) a3.toInt).toInt → (zX (s.2 47) a3.toInt ∧ (a1.toInt < (zg (s.2 47) a3.toInt).toInt → (zWi xs d 165 0 [(0, .ref 32), (1, .int a3), (2, .int a1)] s (fun v20 s18 => (v20.toInt = 0 → (zWi xs (d + 1) 166 4 [(0, .ref 32), (1, .int a1), (2, .int a3), (3, .int (a3 + 1))] s18 Q)) ∧ (¬ v20.toInt = 0 → (zWi xs (d + 1) 166 4 [(0, .ref 32), (1, .int a1), (2, .int a2), (3, .int (a3 + 1))] s18 Q))))) ∧ (¬ a1.toInt < (zg (s.2 47) a3.toInt).toInt → (zWi xs (d + 1) 166 4 [(0, .ref 32), (1, .int a1), (2, .int a2), (3, .int (a3 + 1))] s Q)))))) ∧ (¬ a3.toInt < (s.1 31).toInt → (Q a2 s))) : zWi xs (d + 1) 166 4 [(0, .ref 32), (1, .int a1), (2, .int a2), (3, .int a3)] s Q := by
  unfold zWi
  refine am_wh 3 (pc1 := 9) (lv1 := [(0, .ref 32), (1, .int a1), (2, .int a2), (3, .int a3)]) (st1 := [.int (s.1 31), .int a3]) rfl ?_
  obtain ⟨h2, h3⟩ := h
  by_cases c1 : a3.toInt < (s.1 31).toInt
  · refine am_wb2 rfl false (zn_ge (zq_a _) (zq_a _) (zr_t _) (zr_t _) c1) rfl ?_
    have h4 := h2 c1
    refine am_wh 4 (pc1 := 18) (lv1 := [(0, .ref 32), (1, .int a1), (2, .int a2), (3, .int a3)]) (st1 := [.int a3, .ref 48, .int a1]) rfl ?_
    obtain ⟨o5, h6⟩ := h4
    refine zw_li (l := (s.2 46)) (i := a3.toInt) rfl rfl (zq_a _) o5 ?_
    obtain ⟨h8, h9⟩ := h6
    by_cases c7 : a1.toInt < (zg (s.2 46) a3.toInt).toInt
    · refine am_wb2 rfl true (zt_lt (zq_a _) (zq_a _) (zr_t _) (zr_t _) c7) rfl ?_
      have h10 := h8 c7
      refine am_wh 4 (pc1 := 4) (lv1 := [(3, .int (a3 + 1)), (2, .int a2), (0, .ref 32), (1, .int a1)]) (st1 := []) rfl ?_
      exact am_wm h10 ⟨rfl, rfl, rfl, rfl, trivial⟩
    · refine am_wb2 rfl false (zn_lt (zq_a _) (zq_a _) (zr_t _) (zr_t _) c7) rfl ?_
      have h11 := h9 c7
      refine am_wh 4 (pc1 := 28) (lv1 := [(0, .ref 32), (1, .int a1), (2, .int a2), (3, .int a3)]) (st1 := [.int a3, .ref 49, .int a1]) rfl ?_
      obtain ⟨o12, h13⟩ := h11
      refine zw_li (l := (s.2 47)) (i := a3.toInt) rfl rfl (zq_a _) o12 ?_
      obtain ⟨h15, h16⟩ := h13
      by_cases c14 : a1.toInt < (zg (s.2 47) a3.toInt).toInt
      · refine am_wb2 rfl false (zn_ge (zq_a _) (zq_a _) (zr_t _) (zr_t _) c14) rfl ?_
        have h17 := h15 c14
        refine am_wh 3 (pc1 := 35) (lv1 := [(0, .ref 32), (1, .int a1), (2, .int a2), (3, .int a3)]) (st1 := [.int a1, .int a3, .ref 32]) rfl ?_
        refine am_wc rfl rfl rfl ?_
        refine am_ww h17 ?_
        rintro _ _ ⟨v20, s18, rfl, rfl, h19⟩
        show am_W _ _ 166 38 [(0, .ref 32), (1, .int a1), (2, .int a2), (3, .int a3)] [.int v20] (zH s18) _
        obtain ⟨h22, h23⟩ := h19
        by_cases c21 : v20.toInt = 0
        · refine am_wb1 rfl false (zn_ne (zq_a _) (by decide) (zr_t _) ⟨by decide, by decide⟩ c21) rfl ?_
          have h24 := h22 c21
          refine am_wh 5 (pc1 := 4) (lv1 := [(3, .int (a3 + 1)), (2, .int a3), (0, .ref 32), (1, .int a1)]) (st1 := []) rfl ?_
          exact am_wm h24 ⟨rfl, rfl, rfl, rfl, trivial⟩
        · refine am_wb1 rfl true (zt_ne (zq_a _) (by decide) (zr_t _) ⟨by decide, by decide⟩ c21) rfl ?_
          have h25 := h23 c21
          refine am_wh 4 (pc1 := 4) (lv1 := [(3, .int (a3 + 1)), (2, .int a2), (0, .ref 32), (1, .int a1)]) (st1 := []) rfl ?_
          exact am_wm h25 ⟨rfl, rfl, rfl, rfl, trivial⟩
      · refine am_wb2 rfl true (zt_ge (zq_a _) (zq_a _) (zr_t _) (zr_t _) c14) rfl ?_
        have h26 := h16 c14
        refine am_wh 4 (pc1 := 4) (lv1 := [(3, .int (a3 + 1)), (2, .int a2), (0, .ref 32), (1, .int a1)]) (st1 := []) rfl ?_
        exact am_wm h26 ⟨rfl, rfl, rfl, rfl, trivial⟩
  · refine am_wb2 rfl true (zt_ge (zq_a _) (zq_a _) (zr_t _) (zr_t _) c1) rfl ?_
    have h27 := h3 c1
    refine am_wh 1 (pc1 := 54) (lv1 := [(0, .ref 32), (1, .int a1), (2, .int a2), (3, .int a3)]) (st1 := [.int a2]) rfl ?_
    refine am_wr rfl rfl rfl ?_
    exact ⟨_, _, rfl, rfl, h27⟩
set_option maxRecDepth 100000 in
theorem vc_167_0 (xs : Option (List Int32)) (d : Nat) (s : zS) (a1 : Int32) (Q : Int32 → zS → Prop) (h : (a1.toInt = 0 → (Q 0 s)) ∧ (¬ a1.toInt = 0 → (zX (s.2 45) a1.toInt ∧ zWi xs d 166 0 [(0, .ref 32), (1, .int (zg (s.2 45) a1.toInt))] s (fun v10 s8 => Q v10 s8)))) : zWi xs (d + 1) 167 0 [(0, .ref 32), (1, .int a1)] s Q := by
  unfold zWi
  refine am_wh 1 (pc1 := 1) (lv1 := [(0, .ref 32), (1, .int a1)]) (st1 := [.int a1]) rfl ?_
  obtain ⟨h2, h3⟩ := h
  by_cases c1 : a1.toInt = 0
  · refine am_wb1 rfl false (zn_ne (zq_a _) (by decide) (zr_t _) ⟨by decide, by decide⟩ c1) rfl ?_
    have h4 := h2 c1
    refine am_wh 2 (pc1 := 18) (lv1 := [(0, .ref 32), (1, .int a1)]) (st1 := [.int 0]) rfl ?_
    refine am_wr rfl rfl rfl ?_
    exact ⟨_, _, rfl, rfl, h4⟩
  · refine am_wb1 rfl true (zt_ne (zq_a _) (by decide) (zr_t _) ⟨by decide, by decide⟩ c1) rfl ?_
    have h5 := h3 c1
    refine am_wh 4 (pc1 := 14) (lv1 := [(0, .ref 32), (1, .int a1)]) (st1 := [.int a1, .ref 47, .ref 32]) rfl ?_
    obtain ⟨o6, h7⟩ := h5
    refine zw_li (l := (s.2 45)) (i := a1.toInt) rfl rfl (zq_a _) o6 ?_
    refine am_wc rfl rfl rfl ?_
    refine am_ww h7 ?_
    rintro _ _ ⟨v10, s8, rfl, rfl, h9⟩
    show am_W _ _ 167 18 [(0, .ref 32), (1, .int a1)] [.int v10] (zH s8) _
    refine am_wr rfl rfl rfl ?_
    exact ⟨_, _, rfl, rfl, h9⟩
set_option maxRecDepth 100000 in
theorem vc_168_0 (xs : Option (List Int32)) (d : Nat) (s : zS) (a1 : Int32) (Q : Int32 → zS → Prop) (h : zX (s.2 51) a1.toInt ∧ zWi xs d 166 0 [(0, .ref 32), (1, .int (zg (s.2 51) a1.toInt))] s (fun v5 s3 => zWi xs (d + 1) 168 11 [(0, .ref 32), (1, .int a1), (2, .int v5)] s3 Q)) : zWi xs (d + 1) 168 0 [(0, .ref 32), (1, .int a1)] s Q := by
  unfold zWi
  refine am_wh 4 (pc1 := 6) (lv1 := [(0, .ref 32), (1, .int a1)]) (st1 := [.int a1, .ref 53, .ref 32]) rfl ?_
  obtain ⟨o1, h2⟩ := h
  refine zw_li (l := (s.2 51)) (i := a1.toInt) rfl rfl (zq_a _) o1 ?_
  refine am_wc rfl rfl rfl ?_
  refine am_ww h2 ?_
  rintro _ _ ⟨v5, s3, rfl, rfl, h4⟩
  show am_W _ _ 168 10 [(0, .ref 32), (1, .int a1)] [.int v5] (zH s3) _
  refine am_wh 1 (pc1 := 11) (lv1 := [(2, .int v5), (0, .ref 32), (1, .int a1)]) (st1 := []) rfl ?_
  exact am_wm h4 ⟨rfl, rfl, rfl, trivial⟩
set_option maxRecDepth 100000 in
theorem vc_168_11 (xs : Option (List Int32)) (d : Nat) (s : zS) (a1 : Int32) (a2 : Int32) (Q : Int32 → zS → Prop) (h : zX (s.2 51) a1.toInt ∧ zX (s.2 38) (zg (s.2 51) a1.toInt).toInt ∧ ((zg (s.2 38) (zg (s.2 51) a1.toInt).toInt).toInt = 3 → (zX (s.2 44) a2.toInt ∧ ((zg (s.2 44) a2.toInt).toInt = 4 → (zWi xs d 167 0 [(0, .ref 32), (1, .int a2)] s (fun v17 s15 => zWi xs (d + 1) 168 11 [(0, .ref 32), (1, .int a1), (2, .int v17)] s15 Q))) ∧ (¬ (zg (s.2 44) a2.toInt).toInt = 4 → (Q a2 s)))) ∧ (¬ (zg (s.2 38) (zg (s.2 51) a1.toInt).toInt).toInt = 3 → (Q a2 s))) : zWi xs (d + 1) 168 11 [(0, .ref 32), (1, .int a1), (2, .int a2)] s Q := by
  unfold zWi
  refine am_wh 5 (pc1 := 20) (lv1 := [(0, .ref 32), (1, .int a1), (2, .int a2)]) (st1 := [.int a1, .ref 53, .ref 40]) rfl ?_
  obtain ⟨o1, h2⟩ := h
  refine zw_li (l := (s.2 51)) (i := a1.toInt) rfl rfl (zq_a _) o1 ?_
  obtain ⟨o3, h4⟩ := h2
  refine zw_li (l := (s.2 38)) (i := (zg (s.2 51) a1.toInt).toInt) rfl rfl (zq_a _) o3 ?_
  refine am_wh 1 (pc1 := 23) (lv1 := [(0, .ref 32), (1, .int a1), (2, .int a2)]) (st1 := [.int 3, .int (zg (s.2 38) (zg (s.2 51) a1.toInt).toInt)]) rfl ?_
  obtain ⟨h6, h7⟩ := h4
  by_cases c5 : (zg (s.2 38) (zg (s.2 51) a1.toInt).toInt).toInt = 3
  · refine am_wb2 rfl false (zn_ne (zq_a _) (by decide) (zr_t _) ⟨by decide, by decide⟩ c5) rfl ?_
    have h8 := h6 c5
    refine am_wh 3 (pc1 := 31) (lv1 := [(0, .ref 32), (1, .int a1), (2, .int a2)]) (st1 := [.int a2, .ref 46]) rfl ?_
    obtain ⟨o9, h10⟩ := h8
    refine zw_li (l := (s.2 44)) (i := a2.toInt) rfl rfl (zq_a _) o9 ?_
    refine am_wh 1 (pc1 := 33) (lv1 := [(0, .ref 32), (1, .int a1), (2, .int a2)]) (st1 := [.int 4, .int (zg (s.2 44) a2.toInt)]) rfl ?_
    obtain ⟨h12, h13⟩ := h10
    by_cases c11 : (zg (s.2 44) a2.toInt).toInt = 4
    · refine am_wb2 rfl false (zn_ne (zq_a _) (by decide) (zr_t _) ⟨by decide, by decide⟩ c11) rfl ?_
      have h14 := h12 c11
      refine am_wh 2 (pc1 := 38) (lv1 := [(0, .ref 32), (1, .int a1), (2, .int a2)]) (st1 := [.int a2, .ref 32]) rfl ?_
      refine am_wc rfl rfl rfl ?_
      refine am_ww h14 ?_
      rintro _ _ ⟨v17, s15, rfl, rfl, h16⟩
      show am_W _ _ 168 41 [(0, .ref 32), (1, .int a1), (2, .int a2)] [.int v17] (zH s15) _
      refine am_wh 2 (pc1 := 11) (lv1 := [(2, .int v17), (0, .ref 32), (1, .int a1)]) (st1 := []) rfl ?_
      exact am_wm h16 ⟨rfl, rfl, rfl, trivial⟩
    · refine am_wb2 rfl true (zt_ne (zq_a _) (by decide) (zr_t _) ⟨by decide, by decide⟩ c11) rfl ?_
      have h18 := h13 c11
      refine am_wh 1 (pc1 := 46) (lv1 := [(0, .ref 32), (1, .int a1), (2, .int a2)]) (st1 := [.int a2]) rfl ?_
      refine am_wr rfl rfl rfl ?_
      exact ⟨_, _, rfl, rfl, h18⟩
  · refine am_wb2 rfl true (zt_ne (zq_a _) (by decide) (zr_t _) ⟨by decide, by decide⟩ c5) rfl ?_
    have h19 := h7 c5
    refine am_wh 1 (pc1 := 46) (lv1 := [(0, .ref 32), (1, .int a1), (2, .int a2)]) (st1 := [.int a2]) rfl ?_
    refine am_wr rfl rfl rfl ?_
    exact ⟨_, _, rfl, rfl, h19⟩
set_option maxRecDepth 100000 in
theorem vc_169_0 (xs : Option (List Int32)) (d : Nat) (s : zS)  (Q : zS → Prop) (h : zWv xs d 169 7 [(0, .ref 32), (1, .int 0)] (zf s 32 0) Q) : zWv xs d 169 0 [(0, .ref 32)] s Q := by
  unfold zWv
  refine am_wh 2 (pc1 := 2) (lv1 := [(0, .ref 32)]) (st1 := [.int 0, .ref 32]) rfl ?_
  refine am_w0 (z := (5, [(0, .ref 32)], [], zH (zf s 32 0))) rfl rfl (zp_32 ) ?_
  refine am_wh 2 (pc1 := 7) (lv1 := [(1, .int 0), (0, .ref 32)]) (st1 := []) rfl ?_
  exact am_wm h ⟨rfl, rfl, trivial⟩
set_option maxRecDepth 100000 in
theorem vc_169_7 (xs : Option (List Int32)) (d : Nat) (s : zS) (a1 : Int32) (Q : zS → Prop) (h : (a1.toInt < (s.1 23).toInt → (zX (s.2 34) a1.toInt ∧ ((zg (s.2 34) a1.toInt).toInt = 0 → (zX (s.2 51) (s.1 32).toInt ∧ zWv xs d 169 7 [(0, .ref 32), (1, .int (a1 + 1))] (zf (za s 51 (zu (s.2 51) (s.1 32).toInt a1)) 32 ((s.1 32) + 1)) Q)) ∧ (¬ (zg (s.2 34) a1.toInt).toInt = 0 → (zWv xs d 169 7 [(0, .ref 32), (1, .int (a1 + 1))] s Q)))) ∧ (¬ a1.toInt < (s.1 23).toInt → (Q s))) : zWv xs d 169 7 [(0, .ref 32), (1, .int a1)] s Q := by
  unfold zWv
  refine am_wh 3 (pc1 := 12) (lv1 := [(0, .ref 32), (1, .int a1)]) (st1 := [.int (s.1 23), .int a1]) rfl ?_
  obtain ⟨h2, h3⟩ := h
  by_cases c1 : a1.toInt < (s.1 23).toInt
  · refine am_wb2 rfl false (zn_ge (zq_a _) (zq_a _) (zr_t _) (zr_t _) c1) rfl ?_
    have h4 := h2 c1
    refine am_wh 3 (pc1 := 20) (lv1 := [(0, .ref 32), (1, .int a1)]) (st1 := [.int a1, .ref 36]) rfl ?_
    obtain ⟨o5, h6⟩ := h4
    refine zw_li (l := (s.2 34)) (i := a1.toInt) rfl rfl (zq_a _) o5 ?_
    obtain ⟨h8, h9⟩ := h6
    by_cases c7 : (zg (s.2 34) a1.toInt).toInt = 0
    · refine am_wb1 rfl false (zn_ne (zq_a _) (by decide) (zr_t _) ⟨by decide, by decide⟩ c7) rfl ?_
      have h10 := h8 c7
      refine am_wh 5 (pc1 := 33) (lv1 := [(0, .ref 32), (1, .int a1)]) (st1 := [.int a1, .int (s.1 32), .ref 53]) rfl ?_
      obtain ⟨o11, h12⟩ := h10
      refine zw_si (l := (s.2 51)) (i := (s.1 32).toInt) rfl rfl (zq_a _) o11 (zh_51 _ _) ?_
      refine am_wh 5 (pc1 := 41) (lv1 := [(0, .ref 32), (1, .int a1)]) (st1 := [.int ((s.1 32) + 1), .ref 32]) rfl ?_
      refine am_w0 (z := (44, [(0, .ref 32), (1, .int a1)], [], zH (zf (za s 51 (zu (s.2 51) (s.1 32).toInt a1)) 32 ((s.1 32) + 1)))) rfl rfl (zp_32 ) ?_
      refine am_wh 2 (pc1 := 7) (lv1 := [(1, .int (a1 + 1)), (0, .ref 32)]) (st1 := []) rfl ?_
      exact am_wm h12 ⟨rfl, rfl, trivial⟩
    · refine am_wb1 rfl true (zt_ne (zq_a _) (by decide) (zr_t _) ⟨by decide, by decide⟩ c7) rfl ?_
      have h13 := h9 c7
      refine am_wh 2 (pc1 := 7) (lv1 := [(1, .int (a1 + 1)), (0, .ref 32)]) (st1 := []) rfl ?_
      exact am_wm h13 ⟨rfl, rfl, trivial⟩
  · refine am_wb2 rfl true (zt_ge (zq_a _) (zq_a _) (zr_t _) (zr_t _) c1) rfl ?_
    have h14 := h3 c1
    refine am_wr rfl rfl rfl ?_
    exact ⟨_, rfl, rfl, h14⟩
set_option maxRecDepth 100000 in
theorem vc_170_0 (xs : Option (List Int32)) (d : Nat) (s : zS) (a1 : Int32) (a2 : Int32) (Q : Int32 → zS → Prop) (h : zX (s.2 36) a1.toInt ∧ zX (s.2 35) a1.toInt ∧ zX (s.2 36) a2.toInt ∧ zX (s.2 35) a2.toInt ∧ zR ((zg (s.2 36) a1.toInt).toInt - (zg (s.2 35) a1.toInt).toInt) ∧ zR ((zg (s.2 36) a2.toInt).toInt - (zg (s.2 35) a2.toInt).toInt) ∧ (((zg (s.2 36) a1.toInt).toInt - (zg (s.2 35) a1.toInt).toInt) = ((zg (s.2 36) a2.toInt).toInt - (zg (s.2 35) a2.toInt).toInt) → (zWi xs d 170 38 [(0, .ref 32), (1, .int a1), (2, .int a2), (3, .int 1), (4, .int 0)] s Q)) ∧ (¬ ((zg (s.2 36) a1.toInt).toInt - (zg (s.2 35) a1.toInt).toInt) = ((zg (s.2 36) a2.toInt).toInt - (zg (s.2 35) a2.toInt).toInt) → (zWi xs d 170 38 [(0, .ref 32), (1, .int a1), (2, .int a2), (3, .int 0), (4, .int 0)] s Q))) : zWi xs d 170 0 [(0, .ref 32), (1, .int a1), (2, .int a2)] s Q := by
  unfold zWi
  refine am_wh 3 (pc1 := 5) (lv1 := [(0, .ref 32), (1, .int a1), (2, .int a2)]) (st1 := [.int a1, .ref 38]) rfl ?_
  obtain ⟨o1, h2⟩ := h
  refine zw_li (l := (s.2 36)) (i := a1.toInt) rfl rfl (zq_a _) o1 ?_
  refine am_wh 3 (pc1 := 11) (lv1 := [(0, .ref 32), (1, .int a1), (2, .int a2)]) (st1 := [.int a1, .ref 37, .int (zg (s.2 36) a1.toInt)]) rfl ?_
  obtain ⟨o3, h4⟩ := h2
  refine zw_li (l := (s.2 35)) (i := a1.toInt) rfl rfl (zq_a _) o3 ?_
  refine am_wh 4 (pc1 := 18) (lv1 := [(0, .ref 32), (1, .int a1), (2, .int a2)]) (st1 := [.int a2, .ref 38, .int ((zg (s.2 36) a1.toInt) - (zg (s.2 35) a1.toInt))]) rfl ?_
  obtain ⟨o5, h6⟩ := h4
  refine zw_li (l := (s.2 36)) (i := a2.toInt) rfl rfl (zq_a _) o5 ?_
  refine am_wh 3 (pc1 := 24) (lv1 := [(0, .ref 32), (1, .int a1), (2, .int a2)]) (st1 := [.int a2, .ref 37, .int (zg (s.2 36) a2.toInt), .int ((zg (s.2 36) a1.toInt) - (zg (s.2 35) a1.toInt))]) rfl ?_
  obtain ⟨o7, h8⟩ := h6
  refine zw_li (l := (s.2 35)) (i := a2.toInt) rfl rfl (zq_a _) o7 ?_
  refine am_wh 1 (pc1 := 26) (lv1 := [(0, .ref 32), (1, .int a1), (2, .int a2)]) (st1 := [.int ((zg (s.2 36) a2.toInt) - (zg (s.2 35) a2.toInt)), .int ((zg (s.2 36) a1.toInt) - (zg (s.2 35) a1.toInt))]) rfl ?_
  obtain ⟨o9, h10⟩ := h8
  obtain ⟨o11, h12⟩ := h10
  obtain ⟨h14, h15⟩ := h12
  by_cases c13 : ((zg (s.2 36) a1.toInt).toInt - (zg (s.2 35) a1.toInt).toInt) = ((zg (s.2 36) a2.toInt).toInt - (zg (s.2 35) a2.toInt).toInt)
  · refine am_wb2 rfl false (zn_ne (zq_sub (zq_a _) (zq_a _)) (zq_sub (zq_a _) (zq_a _)) o9 o11 c13) rfl ?_
    have h16 := h14 c13
    refine am_wh 5 (pc1 := 38) (lv1 := [(4, .int 0), (3, .int 1), (0, .ref 32), (1, .int a1), (2, .int a2)]) (st1 := []) rfl ?_
    exact am_wm h16 ⟨rfl, rfl, rfl, rfl, rfl, trivial⟩
  · refine am_wb2 rfl true (zt_ne (zq_sub (zq_a _) (zq_a _)) (zq_sub (zq_a _) (zq_a _)) o9 o11 c13) rfl ?_
    have h17 := h15 c13
    refine am_wh 4 (pc1 := 38) (lv1 := [(4, .int 0), (3, .int 0), (0, .ref 32), (1, .int a1), (2, .int a2)]) (st1 := []) rfl ?_
    exact am_wm h17 ⟨rfl, rfl, rfl, rfl, rfl, trivial⟩
set_option maxRecDepth 100000 in
theorem vc_170_38 (xs : Option (List Int32)) (d : Nat) (s : zS) (a1 : Int32) (a2 : Int32) (a3 : Int32) (a4 : Int32) (Q : Int32 → zS → Prop) (h : (a3.toInt = 0 → ((a3 = 0 ∨ a3 = 1) ∧ Q a3 s)) ∧ (¬ a3.toInt = 0 → (zX (s.2 36) a1.toInt ∧ zX (s.2 35) a1.toInt ∧ zR ((zg (s.2 36) a1.toInt).toInt - (zg (s.2 35) a1.toInt).toInt) ∧ (a4.toInt < ((zg (s.2 36) a1.toInt).toInt - (zg (s.2 35) a1.toInt).toInt) → (zX (s.2 31) ((zg (s.2 35) a1.toInt).toInt + a4.toInt) ∧ zX (s.2 35) a2.toInt ∧ zX (s.2 31) ((zg (s.2 35) a2.toInt).toInt + a4.toInt) ∧ ((zg (s.2 31) ((zg (s.2 35) a1.toInt).toInt + a4.toInt)).toInt = (zg (s.2 31) ((zg (s.2 35) a2.toInt).toInt + a4.toInt)).toInt → (zWi xs d 170 38 [(0, .ref 32), (1, .int a1), (2, .int a2), (3, .int 1), (4, .int (a4 + 1))] s Q)) ∧ (¬ (zg (s.2 31) ((zg (s.2 35) a1.toInt).toInt + a4.toInt)).toInt = (zg (s.2 31) ((zg (s.2 35) a2.toInt).toInt + a4.toInt)).toInt → (zWi xs d 170 38 [(0, .ref 32), (1, .int a1), (2, .int a2), (3, .int 0), (4, .int (a4 + 1))] s Q)))) ∧ (¬ a4.toInt < ((zg (s.2 36) a1.toInt).toInt - (zg (s.2 35) a1.toInt).toInt) → ((a3 = 0 ∨ a3 = 1) ∧ Q a3 s))))) : zWi xs d 170 38 [(0, .ref 32), (1, .int a1), (2, .int a2), (3, .int a3), (4, .int a4)] s Q := by
  unfold zWi
  refine am_wh 1 (pc1 := 39) (lv1 := [(0, .ref 32), (1, .int a1), (2, .int a2), (3, .int a3), (4, .int a4)]) (st1 := [.int a3]) rfl ?_
  obtain ⟨h2, h3⟩ := h
  by_cases c1 : a3.toInt = 0
  · refine am_wb1 rfl true (zt_eq (zq_a _) (by decide) (zr_t _) ⟨by decide, by decide⟩ c1) rfl ?_
    have h4 := h2 c1
    refine am_wh 1 (pc1 := 104) (lv1 := [(0, .ref 32), (1, .int a1), (2, .int a2), (3, .int a3), (4, .int a4)]) (st1 := [.int a3]) rfl ?_
    obtain ⟨o5, h6⟩ := h4
    refine am_wr rfl rfl (zr_b o5) ?_
    exact ⟨_, _, rfl, rfl, h6⟩
  · refine am_wb1 rfl false (zn_eq (zq_a _) (by decide) (zr_t _) ⟨by decide, by decide⟩ c1) rfl ?_
    have h7 := h3 c1
    refine am_wh 4 (pc1 := 49) (lv1 := [(0, .ref 32), (1, .int a1), (2, .int a2), (3, .int a3), (4, .int a4)]) (st1 := [.int a1, .ref 38, .int a4]) rfl ?_
    obtain ⟨o8, h9⟩ := h7
    refine zw_li (l := (s.2 36)) (i := a1.toInt) rfl rfl (zq_a _) o8 ?_
    refine am_wh 3 (pc1 := 55) (lv1 := [(0, .ref 32), (1, .int a1), (2, .int a2), (3, .int a3), (4, .int a4)]) (st1 := [.int a1, .ref 37, .int (zg (s.2 36) a1.toInt), .int a4]) rfl ?_
    obtain ⟨o10, h11⟩ := h9
    refine zw_li (l := (s.2 35)) (i := a1.toInt) rfl rfl (zq_a _) o10 ?_
    refine am_wh 1 (pc1 := 57) (lv1 := [(0, .ref 32), (1, .int a1), (2, .int a2), (3, .int a3), (4, .int a4)]) (st1 := [.int ((zg (s.2 36) a1.toInt) - (zg (s.2 35) a1.toInt)), .int a4]) rfl ?_
    obtain ⟨o12, h13⟩ := h11
    obtain ⟨h15, h16⟩ := h13
    by_cases c14 : a4.toInt < ((zg (s.2 36) a1.toInt).toInt - (zg (s.2 35) a1.toInt).toInt)
    · refine am_wb2 rfl false (zn_ge (zq_a _) (zq_sub (zq_a _) (zq_a _)) (zr_t _) o12 c14) rfl ?_
      have h17 := h15 c14
      refine am_wh 5 (pc1 := 69) (lv1 := [(0, .ref 32), (1, .int a1), (2, .int a2), (3, .int a3), (4, .int a4)]) (st1 := [.int a1, .ref 37, .ref 33]) rfl ?_
      refine zw_li (l := (s.2 35)) (i := a1.toInt) rfl rfl (zq_a _) o10 ?_
      refine am_wh 2 (pc1 := 73) (lv1 := [(0, .ref 32), (1, .int a1), (2, .int a2), (3, .int a3), (4, .int a4)]) (st1 := [.int ((zg (s.2 35) a1.toInt) + a4), .ref 33]) rfl ?_
      obtain ⟨o18, h19⟩ := h17
      refine zw_li (l := (s.2 31)) (i := ((zg (s.2 35) a1.toInt).toInt + a4.toInt)) rfl rfl (zq_add (zq_a _) (zq_a _)) o18 ?_
      refine am_wh 5 (pc1 := 83) (lv1 := [(0, .ref 32), (1, .int a1), (2, .int a2), (3, .int a3), (4, .int a4)]) (st1 := [.int a2, .ref 37, .ref 33, .int (zg (s.2 31) ((zg (s.2 35) a1.toInt).toInt + a4.toInt))]) rfl ?_
      obtain ⟨o20, h21⟩ := h19
      refine zw_li (l := (s.2 35)) (i := a2.toInt) rfl rfl (zq_a _) o20 ?_
      refine am_wh 2 (pc1 := 87) (lv1 := [(0, .ref 32), (1, .int a1), (2, .int a2), (3, .int a3), (4, .int a4)]) (st1 := [.int ((zg (s.2 35) a2.toInt) + a4), .ref 33, .int (zg (s.2 31) ((zg (s.2 35) a1.toInt).toInt + a4.toInt))]) rfl ?_
      obtain ⟨o22, h23⟩ := h21
      refine zw_li (l := (s.2 31)) (i := ((zg (s.2 35) a2.toInt).toInt + a4.toInt)) rfl rfl (zq_add (zq_a _) (zq_a _)) o22 ?_
      obtain ⟨h25, h26⟩ := h23
      by_cases c24 : (zg (s.2 31) ((zg (s.2 35) a1.toInt).toInt + a4.toInt)).toInt = (zg (s.2 31) ((zg (s.2 35) a2.toInt).toInt + a4.toInt)).toInt
      · refine am_wb2 rfl false (zn_ne (zq_a _) (zq_a _) (zr_t _) (zr_t _) c24) rfl ?_
        have h27 := h25 c24
        refine am_wh 5 (pc1 := 38) (lv1 := [(4, .int (a4 + 1)), (3, .int 1), (0, .ref 32), (1, .int a1), (2, .int a2)]) (st1 := []) rfl ?_
        exact am_wm h27 ⟨rfl, rfl, rfl, rfl, rfl, trivial⟩
      · refine am_wb2 rfl true (zt_ne (zq_a _) (zq_a _) (zr_t _) (zr_t _) c24) rfl ?_
        have h28 := h26 c24
        refine am_wh 4 (pc1 := 38) (lv1 := [(4, .int (a4 + 1)), (3, .int 0), (0, .ref 32), (1, .int a1), (2, .int a2)]) (st1 := []) rfl ?_
        exact am_wm h28 ⟨rfl, rfl, rfl, rfl, rfl, trivial⟩
    · refine am_wb2 rfl true (zt_ge (zq_a _) (zq_sub (zq_a _) (zq_a _)) (zr_t _) o12 c14) rfl ?_
      have h29 := h16 c14
      refine am_wh 1 (pc1 := 104) (lv1 := [(0, .ref 32), (1, .int a1), (2, .int a2), (3, .int a3), (4, .int a4)]) (st1 := [.int a3]) rfl ?_
      obtain ⟨o30, h31⟩ := h29
      refine am_wr rfl rfl (zr_b o30) ?_
      exact ⟨_, _, rfl, rfl, h31⟩
set_option maxRecDepth 100000 in
theorem vc_171_0 (xs : Option (List Int32)) (d : Nat) (s : zS) (a1 : Int32) (Q : Int32 → zS → Prop) (h : zX (s.2 51) a1.toInt ∧ zX (s.2 38) (zg (s.2 51) a1.toInt).toInt ∧ ((zg (s.2 38) (zg (s.2 51) a1.toInt).toInt).toInt < 1 → (Q 0 s)) ∧ (¬ (zg (s.2 38) (zg (s.2 51) a1.toInt).toInt).toInt < 1 → ((3 < (zg (s.2 38) (zg (s.2 51) a1.toInt).toInt).toInt → (Q 0 s)) ∧ (¬ 3 < (zg (s.2 38) (zg (s.2 51) a1.toInt).toInt).toInt → (Q 1 s))))) : zWi xs d 171 0 [(0, .ref 32), (1, .int a1)] s Q := by
  unfold zWi
  refine am_wh 5 (pc1 := 9) (lv1 := [(0, .ref 32), (1, .int a1)]) (st1 := [.int a1, .ref 53, .ref 40]) rfl ?_
  obtain ⟨o1, h2⟩ := h
  refine zw_li (l := (s.2 51)) (i := a1.toInt) rfl rfl (zq_a _) o1 ?_
  obtain ⟨o3, h4⟩ := h2
  refine zw_li (l := (s.2 38)) (i := (zg (s.2 51) a1.toInt).toInt) rfl rfl (zq_a _) o3 ?_
  refine am_wh 3 (pc1 := 14) (lv1 := [(2, .int (zg (s.2 38) (zg (s.2 51) a1.toInt).toInt)), (0, .ref 32), (1, .int a1)]) (st1 := [.int 1, .int (zg (s.2 38) (zg (s.2 51) a1.toInt).toInt)]) rfl ?_
  obtain ⟨h6, h7⟩ := h4
  by_cases c5 : (zg (s.2 38) (zg (s.2 51) a1.toInt).toInt).toInt < 1
  · refine am_wb2 rfl true (zt_lt (zq_a _) (by decide) (zr_t _) ⟨by decide, by decide⟩ c5) rfl ?_
    have h8 := h6 c5
    refine am_wh 1 (pc1 := 27) (lv1 := [(2, .int (zg (s.2 38) (zg (s.2 51) a1.toInt).toInt)), (0, .ref 32), (1, .int a1)]) (st1 := [.int 0]) rfl ?_
    refine am_wr rfl rfl rfl ?_
    exact ⟨_, _, rfl, rfl, h8⟩
  · refine am_wb2 rfl false (zn_lt (zq_a _) (by decide) (zr_t _) ⟨by decide, by decide⟩ c5) rfl ?_
    have h9 := h7 c5
    refine am_wh 2 (pc1 := 19) (lv1 := [(2, .int (zg (s.2 38) (zg (s.2 51) a1.toInt).toInt)), (0, .ref 32), (1, .int a1)]) (st1 := [.int 3, .int (zg (s.2 38) (zg (s.2 51) a1.toInt).toInt)]) rfl ?_
    obtain ⟨h11, h12⟩ := h9
    by_cases c10 : 3 < (zg (s.2 38) (zg (s.2 51) a1.toInt).toInt).toInt
    · refine am_wb2 rfl true (zt_gt (zq_a _) (by decide) (zr_t _) ⟨by decide, by decide⟩ c10) rfl ?_
      have h13 := h11 c10
      refine am_wh 1 (pc1 := 27) (lv1 := [(2, .int (zg (s.2 38) (zg (s.2 51) a1.toInt).toInt)), (0, .ref 32), (1, .int a1)]) (st1 := [.int 0]) rfl ?_
      refine am_wr rfl rfl rfl ?_
      exact ⟨_, _, rfl, rfl, h13⟩
    · refine am_wb2 rfl false (zn_gt (zq_a _) (by decide) (zr_t _) ⟨by decide, by decide⟩ c10) rfl ?_
      have h14 := h12 c10
      refine am_wh 2 (pc1 := 27) (lv1 := [(2, .int (zg (s.2 38) (zg (s.2 51) a1.toInt).toInt)), (0, .ref 32), (1, .int a1)]) (st1 := [.int 1]) rfl ?_
      refine am_wr rfl rfl rfl ?_
      exact ⟨_, _, rfl, rfl, h14⟩
set_option maxRecDepth 100000 in
theorem vc_172_0 (xs : Option (List Int32)) (d : Nat) (s : zS) (a1 : Int32) (Q : Int32 → zS → Prop) (h : zX (s.2 51) a1.toInt ∧ zX (s.2 38) (zg (s.2 51) a1.toInt).toInt ∧ ((zg (s.2 38) (zg (s.2 51) a1.toInt).toInt).toInt < 4 → (Q 0 s)) ∧ (¬ (zg (s.2 38) (zg (s.2 51) a1.toInt).toInt).toInt < 4 → (Q 1 s))) : zWi xs d 172 0 [(0, .ref 32), (1, .int a1)] s Q := by
  unfold zWi
  refine am_wh 5 (pc1 := 9) (lv1 := [(0, .ref 32), (1, .int a1)]) (st1 := [.int a1, .ref 53, .ref 40]) rfl ?_
  obtain ⟨o1, h2⟩ := h
  refine zw_li (l := (s.2 51)) (i := a1.toInt) rfl rfl (zq_a _) o1 ?_
  obtain ⟨o3, h4⟩ := h2
  refine zw_li (l := (s.2 38)) (i := (zg (s.2 51) a1.toInt).toInt) rfl rfl (zq_a _) o3 ?_
  refine am_wh 1 (pc1 := 12) (lv1 := [(0, .ref 32), (1, .int a1)]) (st1 := [.int 4, .int (zg (s.2 38) (zg (s.2 51) a1.toInt).toInt)]) rfl ?_
  obtain ⟨h6, h7⟩ := h4
  by_cases c5 : (zg (s.2 38) (zg (s.2 51) a1.toInt).toInt).toInt < 4
  · refine am_wb2 rfl true (zt_lt (zq_a _) (by decide) (zr_t _) ⟨by decide, by decide⟩ c5) rfl ?_
    have h8 := h6 c5
    refine am_wh 1 (pc1 := 20) (lv1 := [(0, .ref 32), (1, .int a1)]) (st1 := [.int 0]) rfl ?_
    refine am_wr rfl rfl rfl ?_
    exact ⟨_, _, rfl, rfl, h8⟩
  · refine am_wb2 rfl false (zn_lt (zq_a _) (by decide) (zr_t _) ⟨by decide, by decide⟩ c5) rfl ?_
    have h9 := h7 c5
    refine am_wh 2 (pc1 := 20) (lv1 := [(0, .ref 32), (1, .int a1)]) (st1 := [.int 1]) rfl ?_
    refine am_wr rfl rfl rfl ?_
    exact ⟨_, _, rfl, rfl, h9⟩
set_option maxRecDepth 100000 in
theorem vc_173_0 (xs : Option (List Int32)) (d : Nat) (s : zS) (a1 : Int32) (a2 : Int32) (a3 : Int32) (a4 : Int32) (a5 : Int32) (Q : Int32 → zS → Prop) (h : zWi xs (d + 1) 173 3 [(0, .ref 32), (1, .int a1), (2, .int a2), (3, .int a3), (4, .int a4), (5, .int a5), (6, .int 0)] s Q) : zWi xs (d + 1) 173 0 [(0, .ref 32), (1, .int a1), (2, .int a2), (3, .int a3), (4, .int a4), (5, .int a5)] s Q := by
  unfold zWi
  refine am_wh 2 (pc1 := 3) (lv1 := [(6, .int 0), (0, .ref 32), (1, .int a1), (2, .int a2), (3, .int a3), (4, .int a4), (5, .int a5)]) (st1 := []) rfl ?_
  exact am_wm h ⟨rfl, rfl, rfl, rfl, rfl, rfl, rfl, trivial⟩
set_option maxRecDepth 100000 in
theorem vc_173_3 (xs : Option (List Int32)) (d : Nat) (s : zS) (a1 : Int32) (a2 : Int32) (a3 : Int32) (a4 : Int32) (a5 : Int32) (a6 : Int32) (Q : Int32 → zS → Prop) (h : (a6.toInt < a5.toInt → (zX (s.2 51) a6.toInt ∧ zX (s.2 38) (zg (s.2 51) a6.toInt).toInt ∧ ((zg (s.2 38) (zg (s.2 51) a6.toInt).toInt).toInt < a3.toInt → (zWi xs (d + 1) 173 3 [(0, .ref 32), (1, .int a1), (2, .int a2), (3, .int a3), (4, .int a4), (5, .int a5), (6, .int (a6 + 1))] s Q)) ∧ (¬ (zg (s.2 38) (zg (s.2 51) a6.toInt).toInt).toInt < a3.toInt → ((a4.toInt < (zg (s.2 38) (zg (s.2 51) a6.toInt).toInt).toInt → (zWi xs (d + 1) 173 3 [(0, .ref 32), (1, .int a1), (2, .int a2), (3, .int a3), (4, .int a4), (5, .int a5), (6, .int (a6 + 1))] s Q)) ∧ (¬ a4.toInt < (zg (s.2 38) (zg (s.2 51) a6.toInt).toInt).toInt → (zWi xs d 170 0 [(0, .ref 32), (1, .int (zg (s.2 51) a6.toInt)), (2, .int a2)] s (fun v21 s19 => (v21.toInt = 0 → (zWi xs (d + 1) 173 3 [(0, .ref 32), (1, .int a1), (2, .int a2), (3, .int a3), (4, .int a4), (5, .int a5), (6, .int (a6 + 1))] s19 Q)) ∧ (¬ v21.toInt = 0 → (zWi xs d 168 0 [(0, .ref 32), (1, .int a6)] s19 (fun v29 s27 => (v29.toInt = a1.toInt → (Q 1 s27)) ∧ (¬ v29.toInt = a1.toInt → (zWi xs (d + 1) 173 3 [(0, .ref 32), (1, .int a1), (2, .int a2), (3, .int a3), (4, .int a4), (5, .int a5), (6, .int (a6 + 1))] s27 Q)))))))))))) ∧ (¬ a6.toInt < a5.toInt → (Q 0 s))) : zWi xs (d + 1) 173 3 [(0, .ref 32), (1, .int a1), (2, .int a2), (3, .int a3), (4, .int a4), (5, .int a5), (6, .int a6)] s Q := by
  unfold zWi
  refine am_wh 2 (pc1 := 7) (lv1 := [(0, .ref 32), (1, .int a1), (2, .int a2), (3, .int a3), (4, .int a4), (5, .int a5), (6, .int a6)]) (st1 := [.int a5, .int a6]) rfl ?_
  obtain ⟨h2, h3⟩ := h
  by_cases c1 : a6.toInt < a5.toInt
  · refine am_wb2 rfl false (zn_ge (zq_a _) (zq_a _) (zr_t _) (zr_t _) c1) rfl ?_
    have h4 := h2 c1
    refine am_wh 5 (pc1 := 20) (lv1 := [(0, .ref 32), (1, .int a1), (2, .int a2), (3, .int a3), (4, .int a4), (5, .int a5), (6, .int a6)]) (st1 := [.int a6, .ref 53, .ref 40]) rfl ?_
    obtain ⟨o5, h6⟩ := h4
    refine zw_li (l := (s.2 51)) (i := a6.toInt) rfl rfl (zq_a _) o5 ?_
    obtain ⟨o7, h8⟩ := h6
    refine zw_li (l := (s.2 38)) (i := (zg (s.2 51) a6.toInt).toInt) rfl rfl (zq_a _) o7 ?_
    refine am_wh 3 (pc1 := 27) (lv1 := [(7, .int (zg (s.2 38) (zg (s.2 51) a6.toInt).toInt)), (0, .ref 32), (1, .int a1), (2, .int a2), (3, .int a3), (4, .int a4), (5, .int a5), (6, .int a6)]) (st1 := [.int a3, .int (zg (s.2 38) (zg (s.2 51) a6.toInt).toInt)]) rfl ?_
    obtain ⟨h10, h11⟩ := h8
    by_cases c9 : (zg (s.2 38) (zg (s.2 51) a6.toInt).toInt).toInt < a3.toInt
    · refine am_wb2 rfl true (zt_lt (zq_a _) (zq_a _) (zr_t _) (zr_t _) c9) rfl ?_
      have h12 := h10 c9
      refine am_wh 2 (pc1 := 3) (lv1 := [(6, .int (a6 + 1)), (7, .int (zg (s.2 38) (zg (s.2 51) a6.toInt).toInt)), (0, .ref 32), (1, .int a1), (2, .int a2), (3, .int a3), (4, .int a4), (5, .int a5)]) (st1 := []) rfl ?_
      exact am_wm h12 ⟨rfl, rfl, rfl, rfl, rfl, rfl, rfl, trivial⟩
    · refine am_wb2 rfl false (zn_lt (zq_a _) (zq_a _) (zr_t _) (zr_t _) c9) rfl ?_
      have h13 := h11 c9
      refine am_wh 2 (pc1 := 34) (lv1 := [(7, .int (zg (s.2 38) (zg (s.2 51) a6.toInt).toInt)), (0, .ref 32), (1, .int a1), (2, .int a2), (3, .int a3), (4, .int a4), (5, .int a5), (6, .int a6)]) (st1 := [.int a4, .int (zg (s.2 38) (zg (s.2 51) a6.toInt).toInt)]) rfl ?_
      obtain ⟨h15, h16⟩ := h13
      by_cases c14 : a4.toInt < (zg (s.2 38) (zg (s.2 51) a6.toInt).toInt).toInt
      · refine am_wb2 rfl true (zt_gt (zq_a _) (zq_a _) (zr_t _) (zr_t _) c14) rfl ?_
        have h17 := h15 c14
        refine am_wh 2 (pc1 := 3) (lv1 := [(6, .int (a6 + 1)), (7, .int (zg (s.2 38) (zg (s.2 51) a6.toInt).toInt)), (0, .ref 32), (1, .int a1), (2, .int a2), (3, .int a3), (4, .int a4), (5, .int a5)]) (st1 := []) rfl ?_
        exact am_wm h17 ⟨rfl, rfl, rfl, rfl, rfl, rfl, rfl, trivial⟩
      · refine am_wb2 rfl false (zn_gt (zq_a _) (zq_a _) (zr_t _) (zr_t _) c14) rfl ?_
        have h18 := h16 c14
        refine am_wh 4 (pc1 := 44) (lv1 := [(7, .int (zg (s.2 38) (zg (s.2 51) a6.toInt).toInt)), (0, .ref 32), (1, .int a1), (2, .int a2), (3, .int a3), (4, .int a4), (5, .int a5), (6, .int a6)]) (st1 := [.int a6, .ref 53, .ref 32]) rfl ?_
        refine zw_li (l := (s.2 51)) (i := a6.toInt) rfl rfl (zq_a _) o5 ?_
        refine am_wh 1 (pc1 := 46) (lv1 := [(7, .int (zg (s.2 38) (zg (s.2 51) a6.toInt).toInt)), (0, .ref 32), (1, .int a1), (2, .int a2), (3, .int a3), (4, .int a4), (5, .int a5), (6, .int a6)]) (st1 := [.int a2, .int (zg (s.2 51) a6.toInt), .ref 32]) rfl ?_
        refine am_wc rfl rfl rfl ?_
        refine am_ww h18 ?_
        rintro _ _ ⟨v21, s19, rfl, rfl, h20⟩
        show am_W _ _ 173 49 [(7, .int (zg (s.2 38) (zg (s.2 51) a6.toInt).toInt)), (0, .ref 32), (1, .int a1), (2, .int a2), (3, .int a3), (4, .int a4), (5, .int a5), (6, .int a6)] [.int v21] (zH s19) _
        obtain ⟨h23, h24⟩ := h20
        by_cases c22 : v21.toInt = 0
        · refine am_wb1 rfl true (zt_eq (zq_a _) (by decide) (zr_t _) ⟨by decide, by decide⟩ c22) rfl ?_
          have h25 := h23 c22
          refine am_wh 2 (pc1 := 3) (lv1 := [(6, .int (a6 + 1)), (7, .int (zg (s.2 38) (zg (s.2 51) a6.toInt).toInt)), (0, .ref 32), (1, .int a1), (2, .int a2), (3, .int a3), (4, .int a4), (5, .int a5)]) (st1 := []) rfl ?_
          exact am_wm h25 ⟨rfl, rfl, rfl, rfl, rfl, rfl, rfl, trivial⟩
        · refine am_wb1 rfl false (zn_eq (zq_a _) (by decide) (zr_t _) ⟨by decide, by decide⟩ c22) rfl ?_
          have h26 := h24 c22
          refine am_wh 2 (pc1 := 55) (lv1 := [(7, .int (zg (s.2 38) (zg (s.2 51) a6.toInt).toInt)), (0, .ref 32), (1, .int a1), (2, .int a2), (3, .int a3), (4, .int a4), (5, .int a5), (6, .int a6)]) (st1 := [.int a6, .ref 32]) rfl ?_
          refine am_wc rfl rfl rfl ?_
          refine am_ww h26 ?_
          rintro _ _ ⟨v29, s27, rfl, rfl, h28⟩
          show am_W _ _ 173 58 [(7, .int (zg (s.2 38) (zg (s.2 51) a6.toInt).toInt)), (0, .ref 32), (1, .int a1), (2, .int a2), (3, .int a3), (4, .int a4), (5, .int a5), (6, .int a6)] [.int v29] (zH s27) _
          refine am_wh 1 (pc1 := 59) (lv1 := [(7, .int (zg (s.2 38) (zg (s.2 51) a6.toInt).toInt)), (0, .ref 32), (1, .int a1), (2, .int a2), (3, .int a3), (4, .int a4), (5, .int a5), (6, .int a6)]) (st1 := [.int a1, .int v29]) rfl ?_
          obtain ⟨h31, h32⟩ := h28
          by_cases c30 : v29.toInt = a1.toInt
          · refine am_wb2 rfl false (zn_ne (zq_a _) (zq_a _) (zr_t _) (zr_t _) c30) rfl ?_
            have h33 := h31 c30
            refine am_wh 1 (pc1 := 63) (lv1 := [(7, .int (zg (s.2 38) (zg (s.2 51) a6.toInt).toInt)), (0, .ref 32), (1, .int a1), (2, .int a2), (3, .int a3), (4, .int a4), (5, .int a5), (6, .int a6)]) (st1 := [.int 1]) rfl ?_
            refine am_wr rfl rfl rfl ?_
            exact ⟨_, _, rfl, rfl, h33⟩
          · refine am_wb2 rfl true (zt_ne (zq_a _) (zq_a _) (zr_t _) (zr_t _) c30) rfl ?_
            have h34 := h32 c30
            refine am_wh 2 (pc1 := 3) (lv1 := [(6, .int (a6 + 1)), (7, .int (zg (s.2 38) (zg (s.2 51) a6.toInt).toInt)), (0, .ref 32), (1, .int a1), (2, .int a2), (3, .int a3), (4, .int a4), (5, .int a5)]) (st1 := []) rfl ?_
            exact am_wm h34 ⟨rfl, rfl, rfl, rfl, rfl, rfl, rfl, trivial⟩
  · refine am_wb2 rfl true (zt_ge (zq_a _) (zq_a _) (zr_t _) (zr_t _) c1) rfl ?_
    have h35 := h3 c1
    refine am_wh 1 (pc1 := 71) (lv1 := [(0, .ref 32), (1, .int a1), (2, .int a2), (3, .int a3), (4, .int a4), (5, .int a5), (6, .int a6)]) (st1 := [.int 0]) rfl ?_
    refine am_wr rfl rfl rfl ?_
    exact ⟨_, _, rfl, rfl, h35⟩
set_option maxRecDepth 100000 in
theorem vc_174_0 (xs : Option (List Int32)) (d : Nat) (s : zS) (a1 : Int32) (a2 : Int32) (Q : Int32 → zS → Prop) (h : zWi xs (d + 1) 174 2 [(0, .ref 32), (2, .int a2), (3, .int a1)] s Q) : zWi xs (d + 1) 174 0 [(0, .ref 32), (1, .int a1), (2, .int a2)] s Q := by
  unfold zWi
  refine am_wh 2 (pc1 := 2) (lv1 := [(3, .int a1), (0, .ref 32), (1, .int a1), (2, .int a2)]) (st1 := []) rfl ?_
  exact am_wm h ⟨rfl, rfl, rfl, trivial⟩
set_option maxRecDepth 100000 in
theorem vc_174_2 (xs : Option (List Int32)) (d : Nat) (s : zS) (a2 : Int32) (a3 : Int32) (Q : Int32 → zS → Prop) (h : (a3.toInt = 0 → (Q (-1) s)) ∧ (¬ a3.toInt = 0 → (zWi xs d 167 0 [(0, .ref 32), (1, .int a3)] s (fun v8 s6 => (v8.toInt = 0 → (zWi xs (d + 1) 174 2 [(0, .ref 32), (2, .int a2), (3, .int v8)] s6 Q)) ∧ (¬ v8.toInt = 0 → (zX (s6.2 44) v8.toInt ∧ ((zg (s6.2 44) v8.toInt).toInt = 2 → (zWi xs (d + 1) 174 2 [(0, .ref 32), (2, .int a2), (3, .int v8)] s6 Q)) ∧ (¬ (zg (s6.2 44) v8.toInt).toInt = 2 → (zWi xs d 173 0 [(0, .ref 32), (1, .int v8), (2, .int a2), (3, .int 4), (4, .int 4), (5, .int (s6.1 32))] s6 (fun v23 s21 => (v23.toInt = 0 → (zWi xs d 173 0 [(0, .ref 32), (1, .int v8), (2, .int a2), (3, .int 1), (4, .int 3), (5, .int (s21.1 32))] s21 (fun v30 s28 => (v30.toInt = 0 → (zWi xs (d + 1) 174 2 [(0, .ref 32), (2, .int a2), (3, .int v8)] s28 Q)) ∧ (¬ v30.toInt = 0 → (zWi xs d 173 0 [(0, .ref 32), (1, .int v8), (2, .int a2), (3, .int 5), (4, .int 5), (5, .int (s28.1 32))] s28 (fun v38 s36 => (v38.toInt = 0 → (Q v8 s36)) ∧ (¬ v38.toInt = 0 → (zWi xs (d + 1) 174 2 [(0, .ref 32), (2, .int a2), (3, .int v8)] s36 Q)))))))) ∧ (¬ v23.toInt = 0 → (Q (-1) s21))))))))))) : zWi xs (d + 1) 174 2 [(0, .ref 32), (2, .int a2), (3, .int a3)] s Q := by
  unfold zWi
  refine am_wh 1 (pc1 := 3) (lv1 := [(0, .ref 32), (2, .int a2), (3, .int a3)]) (st1 := [.int a3]) rfl ?_
  obtain ⟨h2, h3⟩ := h
  by_cases c1 : a3.toInt = 0
  · refine am_wb1 rfl true (zt_eq (zq_a _) (by decide) (zr_t _) ⟨by decide, by decide⟩ c1) rfl ?_
    have h4 := h2 c1
    refine am_wh 1 (pc1 := 76) (lv1 := [(0, .ref 32), (2, .int a2), (3, .int a3)]) (st1 := [.int (-1)]) rfl ?_
    refine am_wr rfl rfl rfl ?_
    exact ⟨_, _, rfl, rfl, h4⟩
  · refine am_wb1 rfl false (zn_eq (zq_a _) (by decide) (zr_t _) ⟨by decide, by decide⟩ c1) rfl ?_
    have h5 := h3 c1
    refine am_wh 2 (pc1 := 8) (lv1 := [(0, .ref 32), (2, .int a2), (3, .int a3)]) (st1 := [.int a3, .ref 32]) rfl ?_
    refine am_wc rfl rfl rfl ?_
    refine am_ww h5 ?_
    rintro _ _ ⟨v8, s6, rfl, rfl, h7⟩
    show am_W _ _ 174 11 [(0, .ref 32), (2, .int a2), (3, .int a3)] [.int v8] (zH s6) _
    refine am_wh 2 (pc1 := 13) (lv1 := [(3, .int v8), (0, .ref 32), (2, .int a2)]) (st1 := [.int v8]) rfl ?_
    obtain ⟨h10, h11⟩ := h7
    by_cases c9 : v8.toInt = 0
    · refine am_wb1 rfl true (zt_eq (zq_a _) (by decide) (zr_t _) ⟨by decide, by decide⟩ c9) rfl ?_
      have h12 := h10 c9
      exact am_wm h12 ⟨rfl, rfl, rfl, trivial⟩
    · refine am_wb1 rfl false (zn_eq (zq_a _) (by decide) (zr_t _) ⟨by decide, by decide⟩ c9) rfl ?_
      have h13 := h11 c9
      refine am_wh 3 (pc1 := 21) (lv1 := [(3, .int v8), (0, .ref 32), (2, .int a2)]) (st1 := [.int v8, .ref 46]) rfl ?_
      obtain ⟨o14, h15⟩ := h13
      refine zw_li (l := (s6.2 44)) (i := v8.toInt) rfl rfl (zq_a _) o14 ?_
      refine am_wh 1 (pc1 := 23) (lv1 := [(3, .int v8), (0, .ref 32), (2, .int a2)]) (st1 := [.int 2, .int (zg (s6.2 44) v8.toInt)]) rfl ?_
      obtain ⟨h17, h18⟩ := h15
      by_cases c16 : (zg (s6.2 44) v8.toInt).toInt = 2
      · refine am_wb2 rfl true (zt_eq (zq_a _) (by decide) (zr_t _) ⟨by decide, by decide⟩ c16) rfl ?_
        have h19 := h17 c16
        exact am_wm h19 ⟨rfl, rfl, rfl, trivial⟩
      · refine am_wb2 rfl false (zn_eq (zq_a _) (by decide) (zr_t _) ⟨by decide, by decide⟩ c16) rfl ?_
        have h20 := h18 c16
        refine am_wh 7 (pc1 := 35) (lv1 := [(3, .int v8), (0, .ref 32), (2, .int a2)]) (st1 := [.int (s6.1 32), .int 4, .int 4, .int a2, .int v8, .ref 32]) rfl ?_
        refine am_wc rfl rfl rfl ?_
        refine am_ww h20 ?_
        rintro _ _ ⟨v23, s21, rfl, rfl, h22⟩
        show am_W _ _ 174 38 [(3, .int v8), (0, .ref 32), (2, .int a2)] [.int v23] (zH s21) _
        obtain ⟨h25, h26⟩ := h22
        by_cases c24 : v23.toInt = 0
        · refine am_wb1 rfl true (zt_eq (zq_a _) (by decide) (zr_t _) ⟨by decide, by decide⟩ c24) rfl ?_
          have h27 := h25 c24
          refine am_wh 7 (pc1 := 52) (lv1 := [(3, .int v8), (0, .ref 32), (2, .int a2)]) (st1 := [.int (s21.1 32), .int 3, .int 1, .int a2, .int v8, .ref 32]) rfl ?_
          refine am_wc rfl rfl rfl ?_
          refine am_ww h27 ?_
          rintro _ _ ⟨v30, s28, rfl, rfl, h29⟩
          show am_W _ _ 174 55 [(3, .int v8), (0, .ref 32), (2, .int a2)] [.int v30] (zH s28) _
          obtain ⟨h32, h33⟩ := h29
          by_cases c31 : v30.toInt = 0
          · refine am_wb1 rfl true (zt_eq (zq_a _) (by decide) (zr_t _) ⟨by decide, by decide⟩ c31) rfl ?_
            have h34 := h32 c31
            exact am_wm h34 ⟨rfl, rfl, rfl, trivial⟩
          · refine am_wb1 rfl false (zn_eq (zq_a _) (by decide) (zr_t _) ⟨by decide, by decide⟩ c31) rfl ?_
            have h35 := h33 c31
            refine am_wh 7 (pc1 := 67) (lv1 := [(3, .int v8), (0, .ref 32), (2, .int a2)]) (st1 := [.int (s28.1 32), .int 5, .int 5, .int a2, .int v8, .ref 32]) rfl ?_
            refine am_wc rfl rfl rfl ?_
            refine am_ww h35 ?_
            rintro _ _ ⟨v38, s36, rfl, rfl, h37⟩
            show am_W _ _ 174 70 [(3, .int v8), (0, .ref 32), (2, .int a2)] [.int v38] (zH s36) _
            obtain ⟨h40, h41⟩ := h37
            by_cases c39 : v38.toInt = 0
            · refine am_wb1 rfl false (zn_ne (zq_a _) (by decide) (zr_t _) ⟨by decide, by decide⟩ c39) rfl ?_
              have h42 := h40 c39
              refine am_wh 1 (pc1 := 74) (lv1 := [(3, .int v8), (0, .ref 32), (2, .int a2)]) (st1 := [.int v8]) rfl ?_
              refine am_wr rfl rfl rfl ?_
              exact ⟨_, _, rfl, rfl, h42⟩
            · refine am_wb1 rfl true (zt_ne (zq_a _) (by decide) (zr_t _) ⟨by decide, by decide⟩ c39) rfl ?_
              have h43 := h41 c39
              exact am_wm h43 ⟨rfl, rfl, rfl, trivial⟩
        · refine am_wb1 rfl false (zn_eq (zq_a _) (by decide) (zr_t _) ⟨by decide, by decide⟩ c24) rfl ?_
          have h44 := h26 c24
          refine am_wh 1 (pc1 := 42) (lv1 := [(3, .int v8), (0, .ref 32), (2, .int a2)]) (st1 := [.int (-1)]) rfl ?_
          refine am_wr rfl rfl rfl ?_
          exact ⟨_, _, rfl, rfl, h44⟩
set_option maxRecDepth 100000 in
theorem vc_175_0 (xs : Option (List Int32)) (d : Nat) (s : zS) (a1 : Int32) (a2 : Int32) (Q : zS → Prop) (h : ((s.1 34).toInt = 0 → (Q (zf (zf s 34 a2) 33 a1))) ∧ (¬ (s.1 34).toInt = 0 → ((a1.toInt < (s.1 33).toInt → (Q (zf (zf s 34 a2) 33 a1))) ∧ (¬ a1.toInt < (s.1 33).toInt → ((a1.toInt = (s.1 33).toInt → ((a2.toInt < (s.1 34).toInt → (Q (zf (zf s 34 a2) 33 a1))) ∧ (¬ a2.toInt < (s.1 34).toInt → (Q s)))) ∧ (¬ a1.toInt = (s.1 33).toInt → (Q s))))))) : zWv xs d 175 0 [(0, .ref 32), (1, .int a1), (2, .int a2)] s Q := by
  unfold zWv
  refine am_wh 2 (pc1 := 4) (lv1 := [(0, .ref 32), (1, .int a1), (2, .int a2)]) (st1 := [.int (s.1 34)]) rfl ?_
  obtain ⟨h2, h3⟩ := h
  by_cases c1 : (s.1 34).toInt = 0
  · refine am_wb1 rfl true (zt_eq (zq_a _) (by decide) (zr_t _) ⟨by decide, by decide⟩ c1) rfl ?_
    have h4 := h2 c1
    refine am_wh 2 (pc1 := 33) (lv1 := [(0, .ref 32), (1, .int a1), (2, .int a2)]) (st1 := [.int a2, .ref 32]) rfl ?_
    refine am_w0 (z := (36, [(0, .ref 32), (1, .int a1), (2, .int a2)], [], zH (zf s 34 a2))) rfl rfl (zp_34 ) ?_
    refine am_wh 2 (pc1 := 38) (lv1 := [(0, .ref 32), (1, .int a1), (2, .int a2)]) (st1 := [.int a1, .ref 32]) rfl ?_
    refine am_w0 (z := (41, [(0, .ref 32), (1, .int a1), (2, .int a2)], [], zH (zf (zf s 34 a2) 33 a1))) rfl rfl (zp_33 ) ?_
    refine am_wr rfl rfl rfl ?_
    exact ⟨_, rfl, rfl, h4⟩
  · refine am_wb1 rfl false (zn_eq (zq_a _) (by decide) (zr_t _) ⟨by decide, by decide⟩ c1) rfl ?_
    have h5 := h3 c1
    refine am_wh 3 (pc1 := 12) (lv1 := [(0, .ref 32), (1, .int a1), (2, .int a2)]) (st1 := [.int (s.1 33), .int a1]) rfl ?_
    obtain ⟨h7, h8⟩ := h5
    by_cases c6 : a1.toInt < (s.1 33).toInt
    · refine am_wb2 rfl true (zt_lt (zq_a _) (zq_a _) (zr_t _) (zr_t _) c6) rfl ?_
      have h9 := h7 c6
      refine am_wh 2 (pc1 := 33) (lv1 := [(0, .ref 32), (1, .int a1), (2, .int a2)]) (st1 := [.int a2, .ref 32]) rfl ?_
      refine am_w0 (z := (36, [(0, .ref 32), (1, .int a1), (2, .int a2)], [], zH (zf s 34 a2))) rfl rfl (zp_34 ) ?_
      refine am_wh 2 (pc1 := 38) (lv1 := [(0, .ref 32), (1, .int a1), (2, .int a2)]) (st1 := [.int a1, .ref 32]) rfl ?_
      refine am_w0 (z := (41, [(0, .ref 32), (1, .int a1), (2, .int a2)], [], zH (zf (zf s 34 a2) 33 a1))) rfl rfl (zp_33 ) ?_
      refine am_wr rfl rfl rfl ?_
      exact ⟨_, rfl, rfl, h9⟩
    · refine am_wb2 rfl false (zn_lt (zq_a _) (zq_a _) (zr_t _) (zr_t _) c6) rfl ?_
      have h10 := h8 c6
      refine am_wh 3 (pc1 := 20) (lv1 := [(0, .ref 32), (1, .int a1), (2, .int a2)]) (st1 := [.int (s.1 33), .int a1]) rfl ?_
      obtain ⟨h12, h13⟩ := h10
      by_cases c11 : a1.toInt = (s.1 33).toInt
      · refine am_wb2 rfl false (zn_ne (zq_a _) (zq_a _) (zr_t _) (zr_t _) c11) rfl ?_
        have h14 := h12 c11
        refine am_wh 3 (pc1 := 28) (lv1 := [(0, .ref 32), (1, .int a1), (2, .int a2)]) (st1 := [.int (s.1 34), .int a2]) rfl ?_
        obtain ⟨h16, h17⟩ := h14
        by_cases c15 : a2.toInt < (s.1 34).toInt
        · refine am_wb2 rfl false (zn_ge (zq_a _) (zq_a _) (zr_t _) (zr_t _) c15) rfl ?_
          have h18 := h16 c15
          refine am_wh 2 (pc1 := 33) (lv1 := [(0, .ref 32), (1, .int a1), (2, .int a2)]) (st1 := [.int a2, .ref 32]) rfl ?_
          refine am_w0 (z := (36, [(0, .ref 32), (1, .int a1), (2, .int a2)], [], zH (zf s 34 a2))) rfl rfl (zp_34 ) ?_
          refine am_wh 2 (pc1 := 38) (lv1 := [(0, .ref 32), (1, .int a1), (2, .int a2)]) (st1 := [.int a1, .ref 32]) rfl ?_
          refine am_w0 (z := (41, [(0, .ref 32), (1, .int a1), (2, .int a2)], [], zH (zf (zf s 34 a2) 33 a1))) rfl rfl (zp_33 ) ?_
          refine am_wr rfl rfl rfl ?_
          exact ⟨_, rfl, rfl, h18⟩
        · refine am_wb2 rfl true (zt_ge (zq_a _) (zq_a _) (zr_t _) (zr_t _) c15) rfl ?_
          have h19 := h17 c15
          refine am_wr rfl rfl rfl ?_
          exact ⟨_, rfl, rfl, h19⟩
      · refine am_wb2 rfl true (zt_ne (zq_a _) (zq_a _) (zr_t _) (zr_t _) c11) rfl ?_
        have h20 := h13 c11
        refine am_wr rfl rfl rfl ?_
        exact ⟨_, rfl, rfl, h20⟩
set_option maxRecDepth 100000 in
theorem vc_176_0 (xs : Option (List Int32)) (d : Nat) (s : zS)  (Q : zS → Prop) (h : zWv xs (d + 1) 176 12 [(0, .ref 32), (1, .int 0)] (zf (zf s 34 0) 33 0) Q) : zWv xs (d + 1) 176 0 [(0, .ref 32)] s Q := by
  unfold zWv
  refine am_wh 2 (pc1 := 2) (lv1 := [(0, .ref 32)]) (st1 := [.int 0, .ref 32]) rfl ?_
  refine am_w0 (z := (5, [(0, .ref 32)], [], zH (zf s 34 0))) rfl rfl (zp_34 ) ?_
  refine am_wh 2 (pc1 := 7) (lv1 := [(0, .ref 32)]) (st1 := [.int 0, .ref 32]) rfl ?_
  refine am_w0 (z := (10, [(0, .ref 32)], [], zH (zf (zf s 34 0) 33 0))) rfl rfl (zp_33 ) ?_
  refine am_wh 2 (pc1 := 12) (lv1 := [(1, .int 0), (0, .ref 32)]) (st1 := []) rfl ?_
  exact am_wm h ⟨rfl, rfl, trivial⟩
set_option maxRecDepth 100000 in
theorem vc_176_12 (xs : Option (List Int32)) (d : Nat) (s : zS) (a1 : Int32) (Q : zS → Prop) (h : (a1.toInt < (s.1 32).toInt → (zX (s.2 51) a1.toInt ∧ zWi xs d 168 0 [(0, .ref 32), (1, .int a1)] s (fun v9 s7 => zX (s7.2 38) (zg (s.2 51) a1.toInt).toInt ∧ ((zg (s7.2 38) (zg (s.2 51) a1.toInt).toInt).toInt = 2 → (zWi xs d 173 0 [(0, .ref 32), (1, .int v9), (2, .int (zg (s.2 51) a1.toInt)), (3, .int 2), (4, .int 2), (5, .int a1)] s7 (fun v18 s16 => (v18.toInt = 0 → (zWi xs d 172 0 [(0, .ref 32), (1, .int a1)] s16 (fun v25 s23 => (v25.toInt = 0 → (zX (s23.2 38) (zg (s.2 51) a1.toInt).toInt ∧ ((zg (s23.2 38) (zg (s.2 51) a1.toInt).toInt).toInt = 3 → (zWv xs d 178 0 [(0, .ref 32), (1, .int (zg (s.2 51) a1.toInt)), (2, .int v9)] s23 (fun s36 => zWv xs (d + 1) 176 12 [(0, .ref 32), (1, .int (a1 + 1))] s36 Q))) ∧ (¬ (zg (s23.2 38) (zg (s.2 51) a1.toInt).toInt).toInt = 3 → (zWv xs (d + 1) 176 12 [(0, .ref 32), (1, .int (a1 + 1))] s23 Q)))) ∧ (¬ v25.toInt = 0 → (zWv xs d 177 0 [(0, .ref 32), (1, .int a1), (2, .int (zg (s.2 51) a1.toInt)), (3, .int v9)] s23 (fun s40 => zX (s40.2 38) (zg (s.2 51) a1.toInt).toInt ∧ ((zg (s40.2 38) (zg (s.2 51) a1.toInt).toInt).toInt = 3 → (zWv xs d 178 0 [(0, .ref 32), (1, .int (zg (s.2 51) a1.toInt)), (2, .int v9)] s40 (fun s48 => zWv xs (d + 1) 176 12 [(0, .ref 32), (1, .int (a1 + 1))] s48 Q))) ∧ (¬ (zg (s40.2 38) (zg (s.2 51) a1.toInt).toInt).toInt = 3 → (zWv xs (d + 1) 176 12 [(0, .ref 32), (1, .int (a1 + 1))] s40 Q)))))))) ∧ (¬ v18.toInt = 0 → (zWv xs d 175 0 [(0, .ref 32), (1, .int (zg (s.2 51) a1.toInt)), (2, .int 1)] s16 (fun s52 => zWi xs d 172 0 [(0, .ref 32), (1, .int a1)] s52 (fun v56 s54 => (v56.toInt = 0 → (zX (s54.2 38) (zg (s.2 51) a1.toInt).toInt ∧ ((zg (s54.2 38) (zg (s.2 51) a1.toInt).toInt).toInt = 3 → (zWv xs d 178 0 [(0, .ref 32), (1, .int (zg (s.2 51) a1.toInt)), (2, .int v9)] s54 (fun s67 => zWv xs (d + 1) 176 12 [(0, .ref 32), (1, .int (a1 + 1))] s67 Q))) ∧ (¬ (zg (s54.2 38) (zg (s.2 51) a1.toInt).toInt).toInt = 3 → (zWv xs (d + 1) 176 12 [(0, .ref 32), (1, .int (a1 + 1))] s54 Q)))) ∧ (¬ v56.toInt = 0 → (zWv xs d 177 0 [(0, .ref 32), (1, .int a1), (2, .int (zg (s.2 51) a1.toInt)), (3, .int v9)] s54 (fun s71 => zX (s71.2 38) (zg (s.2 51) a1.toInt).toInt ∧ ((zg (s71.2 38) (zg (s.2 51) a1.toInt).toInt).toInt = 3 → (zWv xs d 178 0 [(0, .ref 32), (1, .int (zg (s.2 51) a1.toInt)), (2, .int v9)] s71 (fun s79 => zWv xs (d + 1) 176 12 [(0, .ref 32), (1, .int (a1 + 1))] s79 Q))) ∧ (¬ (zg (s71.2 38) (zg (s.2 51) a1.toInt).toInt).toInt = 3 → (zWv xs (d + 1) 176 12 [(0, .ref 32), (1, .int (a1 + 1))] s71 Q)))))))))))) ∧ (¬ (zg (s7.2 38) (zg (s.2 51) a1.toInt).toInt).toInt = 2 → (zWi xs d 172 0 [(0, .ref 32), (1, .int a1)] s7 (fun v85 s83 => (v85.toInt = 0 → (zX (s83.2 38) (zg (s.2 51) a1.toInt).toInt ∧ ((zg (s83.2 38) (zg (s.2 51) a1.toInt).toInt).toInt = 3 → (zWv xs d 178 0 [(0, .ref 32), (1, .int (zg (s.2 51) a1.toInt)), (2, .int v9)] s83 (fun s96 => zWv xs (d + 1) 176 12 [(0, .ref 32), (1, .int (a1 + 1))] s96 Q))) ∧ (¬ (zg (s83.2 38) (zg (s.2 51) a1.toInt).toInt).toInt = 3 → (zWv xs (d + 1) 176 12 [(0, .ref 32), (1, .int (a1 + 1))] s83 Q)))) ∧ (¬ v85.toInt = 0 → (zWv xs d 177 0 [(0, .ref 32), (1, .int a1), (2, .int (zg (s.2 51) a1.toInt)), (3, .int v9)] s83 (fun s100 => zX (s100.2 38) (zg (s.2 51) a1.toInt).toInt ∧ ((zg (s100.2 38) (zg (s.2 51) a1.toInt).toInt).toInt = 3 → (zWv xs d 178 0 [(0, .ref 32), (1, .int (zg (s.2 51) a1.toInt)), (2, .int v9)] s100 (fun s108 => zWv xs (d + 1) 176 12 [(0, .ref 32), (1, .int (a1 + 1))] s108 Q))) ∧ (¬ (zg (s100.2 38) (zg (s.2 51) a1.toInt).toInt).toInt = 3 → (zWv xs (d + 1) 176 12 [(0, .ref 32), (1, .int (a1 + 1))] s100 Q))))))))))) ∧ (¬ a1.toInt < (s.1 32).toInt → (zWv xs (d + 1) 176 100 [(0, .ref 32), (1, .int 0)] s Q))) : zWv xs (d + 1) 176 12 [(0, .ref 32), (1, .int a1)] s Q := by
  unfold zWv
  refine am_wh 3 (pc1 := 17) (lv1 := [(0, .ref 32), (1, .int a1)]) (st1 := [.int (s.1 32), .int a1]) rfl ?_
  obtain ⟨h2, h3⟩ := h
  by_cases c1 : a1.toInt < (s.1 32).toInt
  · refine am_wb2 rfl false (zn_ge (zq_a _) (zq_a _) (zr_t _) (zr_t _) c1) rfl ?_
    have h4 := h2 c1
    refine am_wh 3 (pc1 := 25) (lv1 := [(0, .ref 32), (1, .int a1)]) (st1 := [.int a1, .ref 53]) rfl ?_
    obtain ⟨o5, h6⟩ := h4
    refine zw_li (l := (s.2 51)) (i := a1.toInt) rfl rfl (zq_a _) o5 ?_
    refine am_wh 3 (pc1 := 29) (lv1 := [(2, .int (zg (s.2 51) a1.toInt)), (0, .ref 32), (1, .int a1)]) (st1 := [.int a1, .ref 32]) rfl ?_
    refine am_wc rfl rfl rfl ?_
    refine am_ww h6 ?_
    rintro _ _ ⟨v9, s7, rfl, rfl, h8⟩
    show am_W _ _ 176 32 [(2, .int (zg (s.2 51) a1.toInt)), (0, .ref 32), (1, .int a1)] [.int v9] (zH s7) _
    refine am_wh 4 (pc1 := 38) (lv1 := [(3, .int v9), (2, .int (zg (s.2 51) a1.toInt)), (0, .ref 32), (1, .int a1)]) (st1 := [.int (zg (s.2 51) a1.toInt), .ref 40]) rfl ?_
    obtain ⟨o10, h11⟩ := h8
    refine zw_li (l := (s7.2 38)) (i := (zg (s.2 51) a1.toInt).toInt) rfl rfl (zq_a _) o10 ?_
    refine am_wh 1 (pc1 := 40) (lv1 := [(3, .int v9), (2, .int (zg (s.2 51) a1.toInt)), (0, .ref 32), (1, .int a1)]) (st1 := [.int 2, .int (zg (s7.2 38) (zg (s.2 51) a1.toInt).toInt)]) rfl ?_
    obtain ⟨h13, h14⟩ := h11
    by_cases c12 : (zg (s7.2 38) (zg (s.2 51) a1.toInt).toInt).toInt = 2
    · refine am_wb2 rfl false (zn_ne (zq_a _) (by decide) (zr_t _) ⟨by decide, by decide⟩ c12) rfl ?_
      have h15 := h13 c12
      refine am_wh 6 (pc1 := 49) (lv1 := [(3, .int v9), (2, .int (zg (s.2 51) a1.toInt)), (0, .ref 32), (1, .int a1)]) (st1 := [.int a1, .int 2, .int 2, .int (zg (s.2 51) a1.toInt), .int v9, .ref 32]) rfl ?_
      refine am_wc rfl rfl rfl ?_
      refine am_ww h15 ?_
      rintro _ _ ⟨v18, s16, rfl, rfl, h17⟩
      show am_W _ _ 176 52 [(3, .int v9), (2, .int (zg (s.2 51) a1.toInt)), (0, .ref 32), (1, .int a1)] [.int v18] (zH s16) _
      obtain ⟨h20, h21⟩ := h17
      by_cases c19 : v18.toInt = 0
      · refine am_wb1 rfl true (zt_eq (zq_a _) (by decide) (zr_t _) ⟨by decide, by decide⟩ c19) rfl ?_
        have h22 := h20 c19
        refine am_wh 2 (pc1 := 63) (lv1 := [(3, .int v9), (2, .int (zg (s.2 51) a1.toInt)), (0, .ref 32), (1, .int a1)]) (st1 := [.int a1, .ref 32]) rfl ?_
        refine am_wc rfl rfl rfl ?_
        refine am_ww h22 ?_
        rintro _ _ ⟨v25, s23, rfl, rfl, h24⟩
        show am_W _ _ 176 66 [(3, .int v9), (2, .int (zg (s.2 51) a1.toInt)), (0, .ref 32), (1, .int a1)] [.int v25] (zH s23) _
        obtain ⟨h27, h28⟩ := h24
        by_cases c26 : v25.toInt = 0
        · refine am_wb1 rfl true (zt_eq (zq_a _) (by decide) (zr_t _) ⟨by decide, by decide⟩ c26) rfl ?_
          have h29 := h27 c26
          refine am_wh 3 (pc1 := 81) (lv1 := [(3, .int v9), (2, .int (zg (s.2 51) a1.toInt)), (0, .ref 32), (1, .int a1)]) (st1 := [.int (zg (s.2 51) a1.toInt), .ref 40]) rfl ?_
          obtain ⟨o30, h31⟩ := h29
          refine zw_li (l := (s23.2 38)) (i := (zg (s.2 51) a1.toInt).toInt) rfl rfl (zq_a _) o30 ?_
          refine am_wh 1 (pc1 := 83) (lv1 := [(3, .int v9), (2, .int (zg (s.2 51) a1.toInt)), (0, .ref 32), (1, .int a1)]) (st1 := [.int 3, .int (zg (s23.2 38) (zg (s.2 51) a1.toInt).toInt)]) rfl ?_
          obtain ⟨h33, h34⟩ := h31
          by_cases c32 : (zg (s23.2 38) (zg (s.2 51) a1.toInt).toInt).toInt = 3
          · refine am_wb2 rfl false (zn_ne (zq_a _) (by decide) (zr_t _) ⟨by decide, by decide⟩ c32) rfl ?_
            have h35 := h33 c32
            refine am_wh 3 (pc1 := 89) (lv1 := [(3, .int v9), (2, .int (zg (s.2 51) a1.toInt)), (0, .ref 32), (1, .int a1)]) (st1 := [.int v9, .int (zg (s.2 51) a1.toInt), .ref 32]) rfl ?_
            refine am_wc rfl rfl rfl ?_
            refine am_ww h35 ?_
            rintro _ _ ⟨s36, rfl, rfl, h37⟩
            show am_W _ _ 176 92 [(3, .int v9), (2, .int (zg (s.2 51) a1.toInt)), (0, .ref 32), (1, .int a1)] [] (zH s36) _
            refine am_wh 2 (pc1 := 12) (lv1 := [(1, .int (a1 + 1)), (3, .int v9), (2, .int (zg (s.2 51) a1.toInt)), (0, .ref 32)]) (st1 := []) rfl ?_
            exact am_wm h37 ⟨rfl, rfl, trivial⟩
          · refine am_wb2 rfl true (zt_ne (zq_a _) (by decide) (zr_t _) ⟨by decide, by decide⟩ c32) rfl ?_
            have h38 := h34 c32
            refine am_wh 2 (pc1 := 12) (lv1 := [(1, .int (a1 + 1)), (3, .int v9), (2, .int (zg (s.2 51) a1.toInt)), (0, .ref 32)]) (st1 := []) rfl ?_
            exact am_wm h38 ⟨rfl, rfl, trivial⟩
        · refine am_wb1 rfl false (zn_eq (zq_a _) (by decide) (zr_t _) ⟨by decide, by decide⟩ c26) rfl ?_
          have h39 := h28 c26
          refine am_wh 4 (pc1 := 73) (lv1 := [(3, .int v9), (2, .int (zg (s.2 51) a1.toInt)), (0, .ref 32), (1, .int a1)]) (st1 := [.int v9, .int (zg (s.2 51) a1.toInt), .int a1, .ref 32]) rfl ?_
          refine am_wc rfl rfl rfl ?_
          refine am_ww h39 ?_
          rintro _ _ ⟨s40, rfl, rfl, h41⟩
          show am_W _ _ 176 76 [(3, .int v9), (2, .int (zg (s.2 51) a1.toInt)), (0, .ref 32), (1, .int a1)] [] (zH s40) _
          refine am_wh 3 (pc1 := 81) (lv1 := [(3, .int v9), (2, .int (zg (s.2 51) a1.toInt)), (0, .ref 32), (1, .int a1)]) (st1 := [.int (zg (s.2 51) a1.toInt), .ref 40]) rfl ?_
          obtain ⟨o42, h43⟩ := h41
          refine zw_li (l := (s40.2 38)) (i := (zg (s.2 51) a1.toInt).toInt) rfl rfl (zq_a _) o42 ?_
          refine am_wh 1 (pc1 := 83) (lv1 := [(3, .int v9), (2, .int (zg (s.2 51) a1.toInt)), (0, .ref 32), (1, .int a1)]) (st1 := [.int 3, .int (zg (s40.2 38) (zg (s.2 51) a1.toInt).toInt)]) rfl ?_
          obtain ⟨h45, h46⟩ := h43
          by_cases c44 : (zg (s40.2 38) (zg (s.2 51) a1.toInt).toInt).toInt = 3
          · refine am_wb2 rfl false (zn_ne (zq_a _) (by decide) (zr_t _) ⟨by decide, by decide⟩ c44) rfl ?_
            have h47 := h45 c44
            refine am_wh 3 (pc1 := 89) (lv1 := [(3, .int v9), (2, .int (zg (s.2 51) a1.toInt)), (0, .ref 32), (1, .int a1)]) (st1 := [.int v9, .int (zg (s.2 51) a1.toInt), .ref 32]) rfl ?_
            refine am_wc rfl rfl rfl ?_
            refine am_ww h47 ?_
            rintro _ _ ⟨s48, rfl, rfl, h49⟩
            show am_W _ _ 176 92 [(3, .int v9), (2, .int (zg (s.2 51) a1.toInt)), (0, .ref 32), (1, .int a1)] [] (zH s48) _
            refine am_wh 2 (pc1 := 12) (lv1 := [(1, .int (a1 + 1)), (3, .int v9), (2, .int (zg (s.2 51) a1.toInt)), (0, .ref 32)]) (st1 := []) rfl ?_
            exact am_wm h49 ⟨rfl, rfl, trivial⟩
          · refine am_wb2 rfl true (zt_ne (zq_a _) (by decide) (zr_t _) ⟨by decide, by decide⟩ c44) rfl ?_
            have h50 := h46 c44
            refine am_wh 2 (pc1 := 12) (lv1 := [(1, .int (a1 + 1)), (3, .int v9), (2, .int (zg (s.2 51) a1.toInt)), (0, .ref 32)]) (st1 := []) rfl ?_
            exact am_wm h50 ⟨rfl, rfl, trivial⟩
      · refine am_wb1 rfl false (zn_eq (zq_a _) (by decide) (zr_t _) ⟨by decide, by decide⟩ c19) rfl ?_
        have h51 := h21 c19
        refine am_wh 3 (pc1 := 58) (lv1 := [(3, .int v9), (2, .int (zg (s.2 51) a1.toInt)), (0, .ref 32), (1, .int a1)]) (st1 := [.int 1, .int (zg (s.2 51) a1.toInt), .ref 32]) rfl ?_
        refine am_wc rfl rfl rfl ?_
        refine am_ww h51 ?_
        rintro _ _ ⟨s52, rfl, rfl, h53⟩
        show am_W _ _ 176 61 [(3, .int v9), (2, .int (zg (s.2 51) a1.toInt)), (0, .ref 32), (1, .int a1)] [] (zH s52) _
        refine am_wh 2 (pc1 := 63) (lv1 := [(3, .int v9), (2, .int (zg (s.2 51) a1.toInt)), (0, .ref 32), (1, .int a1)]) (st1 := [.int a1, .ref 32]) rfl ?_
        refine am_wc rfl rfl rfl ?_
        refine am_ww h53 ?_
        rintro _ _ ⟨v56, s54, rfl, rfl, h55⟩
        show am_W _ _ 176 66 [(3, .int v9), (2, .int (zg (s.2 51) a1.toInt)), (0, .ref 32), (1, .int a1)] [.int v56] (zH s54) _
        obtain ⟨h58, h59⟩ := h55
        by_cases c57 : v56.toInt = 0
        · refine am_wb1 rfl true (zt_eq (zq_a _) (by decide) (zr_t _) ⟨by decide, by decide⟩ c57) rfl ?_
          have h60 := h58 c57
          refine am_wh 3 (pc1 := 81) (lv1 := [(3, .int v9), (2, .int (zg (s.2 51) a1.toInt)), (0, .ref 32), (1, .int a1)]) (st1 := [.int (zg (s.2 51) a1.toInt), .ref 40]) rfl ?_
          obtain ⟨o61, h62⟩ := h60
          refine zw_li (l := (s54.2 38)) (i := (zg (s.2 51) a1.toInt).toInt) rfl rfl (zq_a _) o61 ?_
          refine am_wh 1 (pc1 := 83) (lv1 := [(3, .int v9), (2, .int (zg (s.2 51) a1.toInt)), (0, .ref 32), (1, .int a1)]) (st1 := [.int 3, .int (zg (s54.2 38) (zg (s.2 51) a1.toInt).toInt)]) rfl ?_
          obtain ⟨h64, h65⟩ := h62
          by_cases c63 : (zg (s54.2 38) (zg (s.2 51) a1.toInt).toInt).toInt = 3
          · refine am_wb2 rfl false (zn_ne (zq_a _) (by decide) (zr_t _) ⟨by decide, by decide⟩ c63) rfl ?_
            have h66 := h64 c63
            refine am_wh 3 (pc1 := 89) (lv1 := [(3, .int v9), (2, .int (zg (s.2 51) a1.toInt)), (0, .ref 32), (1, .int a1)]) (st1 := [.int v9, .int (zg (s.2 51) a1.toInt), .ref 32]) rfl ?_
            refine am_wc rfl rfl rfl ?_
            refine am_ww h66 ?_
            rintro _ _ ⟨s67, rfl, rfl, h68⟩
            show am_W _ _ 176 92 [(3, .int v9), (2, .int (zg (s.2 51) a1.toInt)), (0, .ref 32), (1, .int a1)] [] (zH s67) _
            refine am_wh 2 (pc1 := 12) (lv1 := [(1, .int (a1 + 1)), (3, .int v9), (2, .int (zg (s.2 51) a1.toInt)), (0, .ref 32)]) (st1 := []) rfl ?_
            exact am_wm h68 ⟨rfl, rfl, trivial⟩
          · refine am_wb2 rfl true (zt_ne (zq_a _) (by decide) (zr_t _) ⟨by decide, by decide⟩ c63) rfl ?_
            have h69 := h65 c63
            refine am_wh 2 (pc1 := 12) (lv1 := [(1, .int (a1 + 1)), (3, .int v9), (2, .int (zg (s.2 51) a1.toInt)), (0, .ref 32)]) (st1 := []) rfl ?_
            exact am_wm h69 ⟨rfl, rfl, trivial⟩
        · refine am_wb1 rfl false (zn_eq (zq_a _) (by decide) (zr_t _) ⟨by decide, by decide⟩ c57) rfl ?_
          have h70 := h59 c57
          refine am_wh 4 (pc1 := 73) (lv1 := [(3, .int v9), (2, .int (zg (s.2 51) a1.toInt)), (0, .ref 32), (1, .int a1)]) (st1 := [.int v9, .int (zg (s.2 51) a1.toInt), .int a1, .ref 32]) rfl ?_
          refine am_wc rfl rfl rfl ?_
          refine am_ww h70 ?_
          rintro _ _ ⟨s71, rfl, rfl, h72⟩
          show am_W _ _ 176 76 [(3, .int v9), (2, .int (zg (s.2 51) a1.toInt)), (0, .ref 32), (1, .int a1)] [] (zH s71) _
          refine am_wh 3 (pc1 := 81) (lv1 := [(3, .int v9), (2, .int (zg (s.2 51) a1.toInt)), (0, .ref 32), (1, .int a1)]) (st1 := [.int (zg (s.2 51) a1.toInt), .ref 40]) rfl ?_
          obtain ⟨o73, h74⟩ := h72
          refine zw_li (l := (s71.2 38)) (i := (zg (s.2 51) a1.toInt).toInt) rfl rfl (zq_a _) o73 ?_
          refine am_wh 1 (pc1 := 83) (lv1 := [(3, .int v9), (2, .int (zg (s.2 51) a1.toInt)), (0, .ref 32), (1, .int a1)]) (st1 := [.int 3, .int (zg (s71.2 38) (zg (s.2 51) a1.toInt).toInt)]) rfl ?_
          obtain ⟨h76, h77⟩ := h74
          by_cases c75 : (zg (s71.2 38) (zg (s.2 51) a1.toInt).toInt).toInt = 3
          · refine am_wb2 rfl false (zn_ne (zq_a _) (by decide) (zr_t _) ⟨by decide, by decide⟩ c75) rfl ?_
            have h78 := h76 c75
            refine am_wh 3 (pc1 := 89) (lv1 := [(3, .int v9), (2, .int (zg (s.2 51) a1.toInt)), (0, .ref 32), (1, .int a1)]) (st1 := [.int v9, .int (zg (s.2 51) a1.toInt), .ref 32]) rfl ?_
            refine am_wc rfl rfl rfl ?_
            refine am_ww h78 ?_
            rintro _ _ ⟨s79, rfl, rfl, h80⟩
            show am_W _ _ 176 92 [(3, .int v9), (2, .int (zg (s.2 51) a1.toInt)), (0, .ref 32), (1, .int a1)] [] (zH s79) _
            refine am_wh 2 (pc1 := 12) (lv1 := [(1, .int (a1 + 1)), (3, .int v9), (2, .int (zg (s.2 51) a1.toInt)), (0, .ref 32)]) (st1 := []) rfl ?_
            exact am_wm h80 ⟨rfl, rfl, trivial⟩
          · refine am_wb2 rfl true (zt_ne (zq_a _) (by decide) (zr_t _) ⟨by decide, by decide⟩ c75) rfl ?_
            have h81 := h77 c75
            refine am_wh 2 (pc1 := 12) (lv1 := [(1, .int (a1 + 1)), (3, .int v9), (2, .int (zg (s.2 51) a1.toInt)), (0, .ref 32)]) (st1 := []) rfl ?_
            exact am_wm h81 ⟨rfl, rfl, trivial⟩
    · refine am_wb2 rfl true (zt_ne (zq_a _) (by decide) (zr_t _) ⟨by decide, by decide⟩ c12) rfl ?_
      have h82 := h14 c12
      refine am_wh 2 (pc1 := 63) (lv1 := [(3, .int v9), (2, .int (zg (s.2 51) a1.toInt)), (0, .ref 32), (1, .int a1)]) (st1 := [.int a1, .ref 32]) rfl ?_
      refine am_wc rfl rfl rfl ?_
      refine am_ww h82 ?_
      rintro _ _ ⟨v85, s83, rfl, rfl, h84⟩
      show am_W _ _ 176 66 [(3, .int v9), (2, .int (zg (s.2 51) a1.toInt)), (0, .ref 32), (1, .int a1)] [.int v85] (zH s83) _
      obtain ⟨h87, h88⟩ := h84
      by_cases c86 : v85.toInt = 0
      · refine am_wb1 rfl true (zt_eq (zq_a _) (by decide) (zr_t _) ⟨by decide, by decide⟩ c86) rfl ?_
        have h89 := h87 c86
        refine am_wh 3 (pc1 := 81) (lv1 := [(3, .int v9), (2, .int (zg (s.2 51) a1.toInt)), (0, .ref 32), (1, .int a1)]) (st1 := [.int (zg (s.2 51) a1.toInt), .ref 40]) rfl ?_
        obtain ⟨o90, h91⟩ := h89
        refine zw_li (l := (s83.2 38)) (i := (zg (s.2 51) a1.toInt).toInt) rfl rfl (zq_a _) o90 ?_
        refine am_wh 1 (pc1 := 83) (lv1 := [(3, .int v9), (2, .int (zg (s.2 51) a1.toInt)), (0, .ref 32), (1, .int a1)]) (st1 := [.int 3, .int (zg (s83.2 38) (zg (s.2 51) a1.toInt).toInt)]) rfl ?_
        obtain ⟨h93, h94⟩ := h91
        by_cases c92 : (zg (s83.2 38) (zg (s.2 51) a1.toInt).toInt).toInt = 3
        · refine am_wb2 rfl false (zn_ne (zq_a _) (by decide) (zr_t _) ⟨by decide, by decide⟩ c92) rfl ?_
          have h95 := h93 c92
          refine am_wh 3 (pc1 := 89) (lv1 := [(3, .int v9), (2, .int (zg (s.2 51) a1.toInt)), (0, .ref 32), (1, .int a1)]) (st1 := [.int v9, .int (zg (s.2 51) a1.toInt), .ref 32]) rfl ?_
          refine am_wc rfl rfl rfl ?_
          refine am_ww h95 ?_
          rintro _ _ ⟨s96, rfl, rfl, h97⟩
          show am_W _ _ 176 92 [(3, .int v9), (2, .int (zg (s.2 51) a1.toInt)), (0, .ref 32), (1, .int a1)] [] (zH s96) _
          refine am_wh 2 (pc1 := 12) (lv1 := [(1, .int (a1 + 1)), (3, .int v9), (2, .int (zg (s.2 51) a1.toInt)), (0, .ref 32)]) (st1 := []) rfl ?_
          exact am_wm h97 ⟨rfl, rfl, trivial⟩
        · refine am_wb2 rfl true (zt_ne (zq_a _) (by decide) (zr_t _) ⟨by decide, by decide⟩ c92) rfl ?_
          have h98 := h94 c92
          refine am_wh 2 (pc1 := 12) (lv1 := [(1, .int (a1 + 1)), (3, .int v9), (2, .int (zg (s.2 51) a1.toInt)), (0, .ref 32)]) (st1 := []) rfl ?_
          exact am_wm h98 ⟨rfl, rfl, trivial⟩
      · refine am_wb1 rfl false (zn_eq (zq_a _) (by decide) (zr_t _) ⟨by decide, by decide⟩ c86) rfl ?_
        have h99 := h88 c86
        refine am_wh 4 (pc1 := 73) (lv1 := [(3, .int v9), (2, .int (zg (s.2 51) a1.toInt)), (0, .ref 32), (1, .int a1)]) (st1 := [.int v9, .int (zg (s.2 51) a1.toInt), .int a1, .ref 32]) rfl ?_
        refine am_wc rfl rfl rfl ?_
        refine am_ww h99 ?_
        rintro _ _ ⟨s100, rfl, rfl, h101⟩
        show am_W _ _ 176 76 [(3, .int v9), (2, .int (zg (s.2 51) a1.toInt)), (0, .ref 32), (1, .int a1)] [] (zH s100) _
        refine am_wh 3 (pc1 := 81) (lv1 := [(3, .int v9), (2, .int (zg (s.2 51) a1.toInt)), (0, .ref 32), (1, .int a1)]) (st1 := [.int (zg (s.2 51) a1.toInt), .ref 40]) rfl ?_
        obtain ⟨o102, h103⟩ := h101
        refine zw_li (l := (s100.2 38)) (i := (zg (s.2 51) a1.toInt).toInt) rfl rfl (zq_a _) o102 ?_
        refine am_wh 1 (pc1 := 83) (lv1 := [(3, .int v9), (2, .int (zg (s.2 51) a1.toInt)), (0, .ref 32), (1, .int a1)]) (st1 := [.int 3, .int (zg (s100.2 38) (zg (s.2 51) a1.toInt).toInt)]) rfl ?_
        obtain ⟨h105, h106⟩ := h103
        by_cases c104 : (zg (s100.2 38) (zg (s.2 51) a1.toInt).toInt).toInt = 3
        · refine am_wb2 rfl false (zn_ne (zq_a _) (by decide) (zr_t _) ⟨by decide, by decide⟩ c104) rfl ?_
          have h107 := h105 c104
          refine am_wh 3 (pc1 := 89) (lv1 := [(3, .int v9), (2, .int (zg (s.2 51) a1.toInt)), (0, .ref 32), (1, .int a1)]) (st1 := [.int v9, .int (zg (s.2 51) a1.toInt), .ref 32]) rfl ?_
          refine am_wc rfl rfl rfl ?_
          refine am_ww h107 ?_
          rintro _ _ ⟨s108, rfl, rfl, h109⟩
          show am_W _ _ 176 92 [(3, .int v9), (2, .int (zg (s.2 51) a1.toInt)), (0, .ref 32), (1, .int a1)] [] (zH s108) _
          refine am_wh 2 (pc1 := 12) (lv1 := [(1, .int (a1 + 1)), (3, .int v9), (2, .int (zg (s.2 51) a1.toInt)), (0, .ref 32)]) (st1 := []) rfl ?_
          exact am_wm h109 ⟨rfl, rfl, trivial⟩
        · refine am_wb2 rfl true (zt_ne (zq_a _) (by decide) (zr_t _) ⟨by decide, by decide⟩ c104) rfl ?_
          have h110 := h106 c104
          refine am_wh 2 (pc1 := 12) (lv1 := [(1, .int (a1 + 1)), (3, .int v9), (2, .int (zg (s.2 51) a1.toInt)), (0, .ref 32)]) (st1 := []) rfl ?_
          exact am_wm h110 ⟨rfl, rfl, trivial⟩
  · refine am_wb2 rfl true (zt_ge (zq_a _) (zq_a _) (zr_t _) (zr_t _) c1) rfl ?_
    have h111 := h3 c1
    refine am_wh 2 (pc1 := 100) (lv1 := [(1, .int 0), (0, .ref 32)]) (st1 := []) rfl ?_
    exact am_wm h111 ⟨rfl, rfl, trivial⟩
set_option maxRecDepth 100000 in
theorem vc_176_100 (xs : Option (List Int32)) (d : Nat) (s : zS) (a1 : Int32) (Q : zS → Prop) (h : (a1.toInt < (s.1 23).toInt → (zX (s.2 34) a1.toInt ∧ ((zg (s.2 34) a1.toInt).toInt = 2 → (zX (s.2 37) a1.toInt ∧ ((zg (s.2 37) a1.toInt).toInt = 13 → (zWi xs d 166 0 [(0, .ref 32), (1, .int a1)] s (fun v19 s17 => zX (s17.2 44) v19.toInt ∧ ((zg (s17.2 44) v19.toInt).toInt = 1 → (zWv xs (d + 1) 176 100 [(0, .ref 32), (1, .int (a1 + 1))] s17 Q)) ∧ (¬ (zg (s17.2 44) v19.toInt).toInt = 1 → (zWv xs d 175 0 [(0, .ref 32), (1, .int a1), (2, .int 7)] s17 (fun s27 => zWv xs (d + 1) 176 100 [(0, .ref 32), (1, .int (a1 + 1))] s27 Q)))))) ∧ (¬ (zg (s.2 37) a1.toInt).toInt = 13 → (zWv xs (d + 1) 176 100 [(0, .ref 32), (1, .int (a1 + 1))] s Q)))) ∧ (¬ (zg (s.2 34) a1.toInt).toInt = 2 → (zWv xs (d + 1) 176 100 [(0, .ref 32), (1, .int (a1 + 1))] s Q)))) ∧ (¬ a1.toInt < (s.1 23).toInt → (Q s))) : zWv xs (d + 1) 176 100 [(0, .ref 32), (1, .int a1)] s Q := by
  unfold zWv
  refine am_wh 3 (pc1 := 105) (lv1 := [(0, .ref 32), (1, .int a1)]) (st1 := [.int (s.1 23), .int a1]) rfl ?_
  obtain ⟨h2, h3⟩ := h
  by_cases c1 : a1.toInt < (s.1 23).toInt
  · refine am_wb2 rfl false (zn_ge (zq_a _) (zq_a _) (zr_t _) (zr_t _) c1) rfl ?_
    have h4 := h2 c1
    refine am_wh 3 (pc1 := 113) (lv1 := [(0, .ref 32), (1, .int a1)]) (st1 := [.int a1, .ref 36]) rfl ?_
    obtain ⟨o5, h6⟩ := h4
    refine zw_li (l := (s.2 34)) (i := a1.toInt) rfl rfl (zq_a _) o5 ?_
    refine am_wh 1 (pc1 := 115) (lv1 := [(0, .ref 32), (1, .int a1)]) (st1 := [.int 2, .int (zg (s.2 34) a1.toInt)]) rfl ?_
    obtain ⟨h8, h9⟩ := h6
    by_cases c7 : (zg (s.2 34) a1.toInt).toInt = 2
    · refine am_wb2 rfl false (zn_ne (zq_a _) (by decide) (zr_t _) ⟨by decide, by decide⟩ c7) rfl ?_
      have h10 := h8 c7
      refine am_wh 3 (pc1 := 123) (lv1 := [(0, .ref 32), (1, .int a1)]) (st1 := [.int a1, .ref 39]) rfl ?_
      obtain ⟨o11, h12⟩ := h10
      refine zw_li (l := (s.2 37)) (i := a1.toInt) rfl rfl (zq_a _) o11 ?_
      refine am_wh 1 (pc1 := 126) (lv1 := [(0, .ref 32), (1, .int a1)]) (st1 := [.int 13, .int (zg (s.2 37) a1.toInt)]) rfl ?_
      obtain ⟨h14, h15⟩ := h12
      by_cases c13 : (zg (s.2 37) a1.toInt).toInt = 13
      · refine am_wb2 rfl false (zn_ne (zq_a _) (by decide) (zr_t _) ⟨by decide, by decide⟩ c13) rfl ?_
        have h16 := h14 c13
        refine am_wh 4 (pc1 := 135) (lv1 := [(0, .ref 32), (1, .int a1)]) (st1 := [.int a1, .ref 32, .ref 46]) rfl ?_
        refine am_wc rfl rfl rfl ?_
        refine am_ww h16 ?_
        rintro _ _ ⟨v19, s17, rfl, rfl, h18⟩
        show am_W _ _ 176 138 [(0, .ref 32), (1, .int a1)] [.int v19, .ref 46] (zH s17) _
        obtain ⟨o20, h21⟩ := h18
        refine zw_li (l := (s17.2 44)) (i := v19.toInt) rfl rfl (zq_a _) o20 ?_
        refine am_wh 1 (pc1 := 140) (lv1 := [(0, .ref 32), (1, .int a1)]) (st1 := [.int 1, .int (zg (s17.2 44) v19.toInt)]) rfl ?_
        obtain ⟨h23, h24⟩ := h21
        by_cases c22 : (zg (s17.2 44) v19.toInt).toInt = 1
        · refine am_wb2 rfl true (zt_eq (zq_a _) (by decide) (zr_t _) ⟨by decide, by decide⟩ c22) rfl ?_
          have h25 := h23 c22
          refine am_wh 2 (pc1 := 100) (lv1 := [(1, .int (a1 + 1)), (0, .ref 32)]) (st1 := []) rfl ?_
          exact am_wm h25 ⟨rfl, rfl, trivial⟩
        · refine am_wb2 rfl false (zn_eq (zq_a _) (by decide) (zr_t _) ⟨by decide, by decide⟩ c22) rfl ?_
          have h26 := h24 c22
          refine am_wh 3 (pc1 := 147) (lv1 := [(0, .ref 32), (1, .int a1)]) (st1 := [.int 7, .int a1, .ref 32]) rfl ?_
          refine am_wc rfl rfl rfl ?_
          refine am_ww h26 ?_
          rintro _ _ ⟨s27, rfl, rfl, h28⟩
          show am_W _ _ 176 150 [(0, .ref 32), (1, .int a1)] [] (zH s27) _
          refine am_wh 2 (pc1 := 100) (lv1 := [(1, .int (a1 + 1)), (0, .ref 32)]) (st1 := []) rfl ?_
          exact am_wm h28 ⟨rfl, rfl, trivial⟩
      · refine am_wb2 rfl true (zt_ne (zq_a _) (by decide) (zr_t _) ⟨by decide, by decide⟩ c13) rfl ?_
        have h29 := h15 c13
        refine am_wh 2 (pc1 := 100) (lv1 := [(1, .int (a1 + 1)), (0, .ref 32)]) (st1 := []) rfl ?_
        exact am_wm h29 ⟨rfl, rfl, trivial⟩
    · refine am_wb2 rfl true (zt_ne (zq_a _) (by decide) (zr_t _) ⟨by decide, by decide⟩ c7) rfl ?_
      have h30 := h9 c7
      refine am_wh 2 (pc1 := 100) (lv1 := [(1, .int (a1 + 1)), (0, .ref 32)]) (st1 := []) rfl ?_
      exact am_wm h30 ⟨rfl, rfl, trivial⟩
  · refine am_wb2 rfl true (zt_ge (zq_a _) (zq_a _) (zr_t _) (zr_t _) c1) rfl ?_
    have h31 := h3 c1
    refine am_wr rfl rfl rfl ?_
    exact ⟨_, rfl, rfl, h31⟩
set_option maxRecDepth 100000 in
theorem vc_177_0 (xs : Option (List Int32)) (d : Nat) (s : zS) (a1 : Int32) (a2 : Int32) (a3 : Int32) (Q : zS → Prop) (h : zWi xs d 173 0 [(0, .ref 32), (1, .int a3), (2, .int a2), (3, .int 2), (4, .int 2), (5, .int (s.1 32))] s (fun v3 s1 => (v3.toInt = 0 → (zWv xs (d + 1) 177 21 [(0, .ref 32), (1, .int a1), (2, .int a2), (3, .int a3)] s1 Q)) ∧ (¬ v3.toInt = 0 → (zWv xs d 175 0 [(0, .ref 32), (1, .int a2), (2, .int 2)] s1 (fun s9 => zWv xs (d + 1) 177 21 [(0, .ref 32), (1, .int a1), (2, .int a2), (3, .int a3)] s9 Q))))) : zWv xs (d + 1) 177 0 [(0, .ref 32), (1, .int a1), (2, .int a2), (3, .int a3)] s Q := by
  unfold zWv
  refine am_wh 7 (pc1 := 9) (lv1 := [(0, .ref 32), (1, .int a1), (2, .int a2), (3, .int a3)]) (st1 := [.int (s.1 32), .int 2, .int 2, .int a2, .int a3, .ref 32]) rfl ?_
  refine am_wc rfl rfl rfl ?_
  refine am_ww h ?_
  rintro _ _ ⟨v3, s1, rfl, rfl, h2⟩
  show am_W _ _ 177 12 [(0, .ref 32), (1, .int a1), (2, .int a2), (3, .int a3)] [.int v3] (zH s1) _
  obtain ⟨h5, h6⟩ := h2
  by_cases c4 : v3.toInt = 0
  · refine am_wb1 rfl true (zt_eq (zq_a _) (by decide) (zr_t _) ⟨by decide, by decide⟩ c4) rfl ?_
    have h7 := h5 c4
    exact am_wm h7 ⟨rfl, rfl, rfl, rfl, trivial⟩
  · refine am_wb1 rfl false (zn_eq (zq_a _) (by decide) (zr_t _) ⟨by decide, by decide⟩ c4) rfl ?_
    have h8 := h6 c4
    refine am_wh 3 (pc1 := 18) (lv1 := [(0, .ref 32), (1, .int a1), (2, .int a2), (3, .int a3)]) (st1 := [.int 2, .int a2, .ref 32]) rfl ?_
    refine am_wc rfl rfl rfl ?_
    refine am_ww h8 ?_
    rintro _ _ ⟨s9, rfl, rfl, h10⟩
    show am_W _ _ 177 21 [(0, .ref 32), (1, .int a1), (2, .int a2), (3, .int a3)] [] (zH s9) _
    exact am_wm h10 ⟨rfl, rfl, rfl, rfl, trivial⟩
set_option maxRecDepth 100000 in
theorem vc_177_21 (xs : Option (List Int32)) (d : Nat) (s : zS) (a1 : Int32) (a2 : Int32) (a3 : Int32) (Q : zS → Prop) (h : zWi xs d 173 0 [(0, .ref 32), (1, .int a3), (2, .int a2), (3, .int 0), (4, .int 3), (5, .int a1)] s (fun v3 s1 => (v3.toInt = 0 → (zWv xs (d + 1) 177 39 [(0, .ref 32), (1, .int a1), (2, .int a2), (3, .int a3)] s1 Q)) ∧ (¬ v3.toInt = 0 → (zWv xs d 175 0 [(0, .ref 32), (1, .int a2), (2, .int 3)] s1 (fun s9 => zWv xs (d + 1) 177 39 [(0, .ref 32), (1, .int a1), (2, .int a2), (3, .int a3)] s9 Q))))) : zWv xs (d + 1) 177 21 [(0, .ref 32), (1, .int a1), (2, .int a2), (3, .int a3)] s Q := by
  unfold zWv
  refine am_wh 6 (pc1 := 27) (lv1 := [(0, .ref 32), (1, .int a1), (2, .int a2), (3, .int a3)]) (st1 := [.int a1, .int 3, .int 0, .int a2, .int a3, .ref 32]) rfl ?_
  refine am_wc rfl rfl rfl ?_
  refine am_ww h ?_
  rintro _ _ ⟨v3, s1, rfl, rfl, h2⟩
  show am_W _ _ 177 30 [(0, .ref 32), (1, .int a1), (2, .int a2), (3, .int a3)] [.int v3] (zH s1) _
  obtain ⟨h5, h6⟩ := h2
  by_cases c4 : v3.toInt = 0
  · refine am_wb1 rfl true (zt_eq (zq_a _) (by decide) (zr_t _) ⟨by decide, by decide⟩ c4) rfl ?_
    have h7 := h5 c4
    exact am_wm h7 ⟨rfl, rfl, rfl, rfl, trivial⟩
  · refine am_wb1 rfl false (zn_eq (zq_a _) (by decide) (zr_t _) ⟨by decide, by decide⟩ c4) rfl ?_
    have h8 := h6 c4
    refine am_wh 3 (pc1 := 36) (lv1 := [(0, .ref 32), (1, .int a1), (2, .int a2), (3, .int a3)]) (st1 := [.int 3, .int a2, .ref 32]) rfl ?_
    refine am_wc rfl rfl rfl ?_
    refine am_ww h8 ?_
    rintro _ _ ⟨s9, rfl, rfl, h10⟩
    show am_W _ _ 177 39 [(0, .ref 32), (1, .int a1), (2, .int a2), (3, .int a3)] [] (zH s9) _
    exact am_wm h10 ⟨rfl, rfl, rfl, rfl, trivial⟩
set_option maxRecDepth 100000 in
theorem vc_177_39 (xs : Option (List Int32)) (d : Nat) (s : zS) (a1 : Int32) (a2 : Int32) (a3 : Int32) (Q : zS → Prop) (h : zX (s.2 38) a2.toInt ∧ ((zg (s.2 38) a2.toInt).toInt = 5 → ((a3.toInt = 0 → (zWv xs d 175 0 [(0, .ref 32), (1, .int a2), (2, .int 4)] s (fun s11 => zWv xs (d + 1) 177 59 [(0, .ref 32), (1, .int a1), (2, .int a2), (3, .int a3)] s11 Q))) ∧ (¬ a3.toInt = 0 → (zWv xs (d + 1) 177 59 [(0, .ref 32), (1, .int a1), (2, .int a2), (3, .int a3)] s Q)))) ∧ (¬ (zg (s.2 38) a2.toInt).toInt = 5 → (zWv xs (d + 1) 177 59 [(0, .ref 32), (1, .int a1), (2, .int a2), (3, .int a3)] s Q))) : zWv xs (d + 1) 177 39 [(0, .ref 32), (1, .int a1), (2, .int a2), (3, .int a3)] s Q := by
  unfold zWv
  refine am_wh 3 (pc1 := 44) (lv1 := [(0, .ref 32), (1, .int a1), (2, .int a2), (3, .int a3)]) (st1 := [.int a2, .ref 40]) rfl ?_
  obtain ⟨o1, h2⟩ := h
  refine zw_li (l := (s.2 38)) (i := a2.toInt) rfl rfl (zq_a _) o1 ?_
  refine am_wh 1 (pc1 := 46) (lv1 := [(0, .ref 32), (1, .int a1), (2, .int a2), (3, .int a3)]) (st1 := [.int 5, .int (zg (s.2 38) a2.toInt)]) rfl ?_
  obtain ⟨h4, h5⟩ := h2
  by_cases c3 : (zg (s.2 38) a2.toInt).toInt = 5
  · refine am_wb2 rfl false (zn_ne (zq_a _) (by decide) (zr_t _) ⟨by decide, by decide⟩ c3) rfl ?_
    have h6 := h4 c3
    refine am_wh 1 (pc1 := 50) (lv1 := [(0, .ref 32), (1, .int a1), (2, .int a2), (3, .int a3)]) (st1 := [.int a3]) rfl ?_
    obtain ⟨h8, h9⟩ := h6
    by_cases c7 : a3.toInt = 0
    · refine am_wb1 rfl false (zn_ne (zq_a _) (by decide) (zr_t _) ⟨by decide, by decide⟩ c7) rfl ?_
      have h10 := h8 c7
      refine am_wh 3 (pc1 := 56) (lv1 := [(0, .ref 32), (1, .int a1), (2, .int a2), (3, .int a3)]) (st1 := [.int 4, .int a2, .ref 32]) rfl ?_
      refine am_wc rfl rfl rfl ?_
      refine am_ww h10 ?_
      rintro _ _ ⟨s11, rfl, rfl, h12⟩
      show am_W _ _ 177 59 [(0, .ref 32), (1, .int a1), (2, .int a2), (3, .int a3)] [] (zH s11) _
      exact am_wm h12 ⟨rfl, rfl, rfl, rfl, trivial⟩
    · refine am_wb1 rfl true (zt_ne (zq_a _) (by decide) (zr_t _) ⟨by decide, by decide⟩ c7) rfl ?_
      have h13 := h9 c7
      exact am_wm h13 ⟨rfl, rfl, rfl, rfl, trivial⟩
  · refine am_wb2 rfl true (zt_ne (zq_a _) (by decide) (zr_t _) ⟨by decide, by decide⟩ c3) rfl ?_
    have h14 := h5 c3
    exact am_wm h14 ⟨rfl, rfl, rfl, rfl, trivial⟩
set_option maxRecDepth 100000 in
theorem vc_177_59 (xs : Option (List Int32)) (d : Nat) (s : zS) (a1 : Int32) (a2 : Int32) (a3 : Int32) (Q : zS → Prop) (h : zX (s.2 38) a2.toInt ∧ zWi xs d 173 0 [(0, .ref 32), (1, .int a3), (2, .int a2), (3, .int (9 - (zg (s.2 38) a2.toInt))), (4, .int (9 - (zg (s.2 38) a2.toInt))), (5, .int a1)] s (fun v5 s3 => (v5.toInt = 0 → (zWv xs (d + 1) 177 90 [(0, .ref 32), (2, .int a2), (3, .int a3)] s3 Q)) ∧ (¬ v5.toInt = 0 → (zWv xs d 175 0 [(0, .ref 32), (1, .int a2), (2, .int 5)] s3 (fun s11 => zWv xs (d + 1) 177 90 [(0, .ref 32), (2, .int a2), (3, .int a3)] s11 Q))))) : zWv xs (d + 1) 177 59 [(0, .ref 32), (1, .int a1), (2, .int a2), (3, .int a3)] s Q := by
  unfold zWv
  refine am_wh 4 (pc1 := 66) (lv1 := [(0, .ref 32), (1, .int a1), (2, .int a2), (3, .int a3)]) (st1 := [.int a2, .ref 40, .int 9]) rfl ?_
  obtain ⟨o1, h2⟩ := h
  refine zw_li (l := (s.2 38)) (i := a2.toInt) rfl rfl (zq_a _) o1 ?_
  refine am_wh 8 (pc1 := 78) (lv1 := [(4, .int (9 - (zg (s.2 38) a2.toInt))), (0, .ref 32), (1, .int a1), (2, .int a2), (3, .int a3)]) (st1 := [.int a1, .int (9 - (zg (s.2 38) a2.toInt)), .int (9 - (zg (s.2 38) a2.toInt)), .int a2, .int a3, .ref 32]) rfl ?_
  refine am_wc rfl rfl rfl ?_
  refine am_ww h2 ?_
  rintro _ _ ⟨v5, s3, rfl, rfl, h4⟩
  show am_W _ _ 177 81 [(4, .int (9 - (zg (s.2 38) a2.toInt))), (0, .ref 32), (1, .int a1), (2, .int a2), (3, .int a3)] [.int v5] (zH s3) _
  obtain ⟨h7, h8⟩ := h4
  by_cases c6 : v5.toInt = 0
  · refine am_wb1 rfl true (zt_eq (zq_a _) (by decide) (zr_t _) ⟨by decide, by decide⟩ c6) rfl ?_
    have h9 := h7 c6
    exact am_wm h9 ⟨rfl, rfl, rfl, trivial⟩
  · refine am_wb1 rfl false (zn_eq (zq_a _) (by decide) (zr_t _) ⟨by decide, by decide⟩ c6) rfl ?_
    have h10 := h8 c6
    refine am_wh 3 (pc1 := 87) (lv1 := [(4, .int (9 - (zg (s.2 38) a2.toInt))), (0, .ref 32), (1, .int a1), (2, .int a2), (3, .int a3)]) (st1 := [.int 5, .int a2, .ref 32]) rfl ?_
    refine am_wc rfl rfl rfl ?_
    refine am_ww h10 ?_
    rintro _ _ ⟨s11, rfl, rfl, h12⟩
    show am_W _ _ 177 90 [(4, .int (9 - (zg (s.2 38) a2.toInt))), (0, .ref 32), (1, .int a1), (2, .int a2), (3, .int a3)] [] (zH s11) _
    exact am_wm h12 ⟨rfl, rfl, rfl, trivial⟩
set_option maxRecDepth 100000 in
theorem vc_177_90 (xs : Option (List Int32)) (d : Nat) (s : zS) (a2 : Int32) (a3 : Int32) (Q : zS → Prop) (h : zX (s.2 38) a2.toInt ∧ ((zg (s.2 38) a2.toInt).toInt = 5 → ((a3.toInt = 0 → (Q s)) ∧ (¬ a3.toInt = 0 → (zWi xs d 174 0 [(0, .ref 32), (1, .int a3), (2, .int a2)] s (fun v14 s12 => (v14.toInt < 0 → (zWv xs d 175 0 [(0, .ref 32), (1, .int a2), (2, .int 6)] s12 (fun s19 => Q s19))) ∧ (¬ v14.toInt < 0 → (Q s12))))))) ∧ (¬ (zg (s.2 38) a2.toInt).toInt = 5 → (Q s))) : zWv xs (d + 1) 177 90 [(0, .ref 32), (2, .int a2), (3, .int a3)] s Q := by
  unfold zWv
  refine am_wh 3 (pc1 := 95) (lv1 := [(0, .ref 32), (2, .int a2), (3, .int a3)]) (st1 := [.int a2, .ref 40]) rfl ?_
  obtain ⟨o1, h2⟩ := h
  refine zw_li (l := (s.2 38)) (i := a2.toInt) rfl rfl (zq_a _) o1 ?_
  refine am_wh 1 (pc1 := 97) (lv1 := [(0, .ref 32), (2, .int a2), (3, .int a3)]) (st1 := [.int 5, .int (zg (s.2 38) a2.toInt)]) rfl ?_
  obtain ⟨h4, h5⟩ := h2
  by_cases c3 : (zg (s.2 38) a2.toInt).toInt = 5
  · refine am_wb2 rfl false (zn_ne (zq_a _) (by decide) (zr_t _) ⟨by decide, by decide⟩ c3) rfl ?_
    have h6 := h4 c3
    refine am_wh 1 (pc1 := 101) (lv1 := [(0, .ref 32), (2, .int a2), (3, .int a3)]) (st1 := [.int a3]) rfl ?_
    obtain ⟨h8, h9⟩ := h6
    by_cases c7 : a3.toInt = 0
    · refine am_wb1 rfl true (zt_eq (zq_a _) (by decide) (zr_t _) ⟨by decide, by decide⟩ c7) rfl ?_
      have h10 := h8 c7
      refine am_wr rfl rfl rfl ?_
      exact ⟨_, rfl, rfl, h10⟩
    · refine am_wb1 rfl false (zn_eq (zq_a _) (by decide) (zr_t _) ⟨by decide, by decide⟩ c7) rfl ?_
      have h11 := h9 c7
      refine am_wh 3 (pc1 := 107) (lv1 := [(0, .ref 32), (2, .int a2), (3, .int a3)]) (st1 := [.int a2, .int a3, .ref 32]) rfl ?_
      refine am_wc rfl rfl rfl ?_
      refine am_ww h11 ?_
      rintro _ _ ⟨v14, s12, rfl, rfl, h13⟩
      show am_W _ _ 177 110 [(0, .ref 32), (2, .int a2), (3, .int a3)] [.int v14] (zH s12) _
      obtain ⟨h16, h17⟩ := h13
      by_cases c15 : v14.toInt < 0
      · refine am_wb1 rfl false (zn_ge (zq_a _) (by decide) (zr_t _) ⟨by decide, by decide⟩ c15) rfl ?_
        have h18 := h16 c15
        refine am_wh 3 (pc1 := 117) (lv1 := [(0, .ref 32), (2, .int a2), (3, .int a3)]) (st1 := [.int 6, .int a2, .ref 32]) rfl ?_
        refine am_wc rfl rfl rfl ?_
        refine am_ww h18 ?_
        rintro _ _ ⟨s19, rfl, rfl, h20⟩
        show am_W _ _ 177 120 [(0, .ref 32), (2, .int a2), (3, .int a3)] [] (zH s19) _
        refine am_wr rfl rfl rfl ?_
        exact ⟨_, rfl, rfl, h20⟩
      · refine am_wb1 rfl true (zt_ge (zq_a _) (by decide) (zr_t _) ⟨by decide, by decide⟩ c15) rfl ?_
        have h21 := h17 c15
        refine am_wr rfl rfl rfl ?_
        exact ⟨_, rfl, rfl, h21⟩
  · refine am_wb2 rfl true (zt_ne (zq_a _) (by decide) (zr_t _) ⟨by decide, by decide⟩ c3) rfl ?_
    have h22 := h5 c3
    refine am_wr rfl rfl rfl ?_
    exact ⟨_, rfl, rfl, h22⟩
set_option maxRecDepth 100000 in
theorem vc_178_0 (xs : Option (List Int32)) (d : Nat) (s : zS) (a1 : Int32) (a2 : Int32) (Q : zS → Prop) (h : zWi xs d 166 0 [(0, .ref 32), (1, .int a1)] s (fun v3 s1 => zX (s1.2 44) v3.toInt ∧ ((zg (s1.2 44) v3.toInt).toInt = 4 → (zX (s1.2 44) a2.toInt ∧ ((zg (s1.2 44) a2.toInt).toInt = 2 → (zWv xs d 175 0 [(0, .ref 32), (1, .int a1), (2, .int 8)] s1 (fun s16 => zWv xs (d + 1) 178 33 [(0, .ref 32), (1, .int a1), (3, .int v3)] s16 Q))) ∧ (¬ (zg (s1.2 44) a2.toInt).toInt = 2 → (zWv xs (d + 1) 178 33 [(0, .ref 32), (1, .int a1), (3, .int v3)] s1 Q)))) ∧ (¬ (zg (s1.2 44) v3.toInt).toInt = 4 → (zWv xs (d + 1) 178 33 [(0, .ref 32), (1, .int a1), (3, .int v3)] s1 Q)))) : zWv xs (d + 1) 178 0 [(0, .ref 32), (1, .int a1), (2, .int a2)] s Q := by
  unfold zWv
  refine am_wh 2 (pc1 := 2) (lv1 := [(0, .ref 32), (1, .int a1), (2, .int a2)]) (st1 := [.int a1, .ref 32]) rfl ?_
  refine am_wc rfl rfl rfl ?_
  refine am_ww h ?_
  rintro _ _ ⟨v3, s1, rfl, rfl, h2⟩
  show am_W _ _ 178 5 [(0, .ref 32), (1, .int a1), (2, .int a2)] [.int v3] (zH s1) _
  refine am_wh 4 (pc1 := 11) (lv1 := [(3, .int v3), (0, .ref 32), (1, .int a1), (2, .int a2)]) (st1 := [.int v3, .ref 46]) rfl ?_
  obtain ⟨o4, h5⟩ := h2
  refine zw_li (l := (s1.2 44)) (i := v3.toInt) rfl rfl (zq_a _) o4 ?_
  refine am_wh 1 (pc1 := 13) (lv1 := [(3, .int v3), (0, .ref 32), (1, .int a1), (2, .int a2)]) (st1 := [.int 4, .int (zg (s1.2 44) v3.toInt)]) rfl ?_
  obtain ⟨h7, h8⟩ := h5
  by_cases c6 : (zg (s1.2 44) v3.toInt).toInt = 4
  · refine am_wb2 rfl false (zn_ne (zq_a _) (by decide) (zr_t _) ⟨by decide, by decide⟩ c6) rfl ?_
    have h9 := h7 c6
    refine am_wh 3 (pc1 := 21) (lv1 := [(3, .int v3), (0, .ref 32), (1, .int a1), (2, .int a2)]) (st1 := [.int a2, .ref 46]) rfl ?_
    obtain ⟨o10, h11⟩ := h9
    refine zw_li (l := (s1.2 44)) (i := a2.toInt) rfl rfl (zq_a _) o10 ?_
    refine am_wh 1 (pc1 := 23) (lv1 := [(3, .int v3), (0, .ref 32), (1, .int a1), (2, .int a2)]) (st1 := [.int 2, .int (zg (s1.2 44) a2.toInt)]) rfl ?_
    obtain ⟨h13, h14⟩ := h11
    by_cases c12 : (zg (s1.2 44) a2.toInt).toInt = 2
    · refine am_wb2 rfl false (zn_ne (zq_a _) (by decide) (zr_t _) ⟨by decide, by decide⟩ c12) rfl ?_
      have h15 := h13 c12
      refine am_wh 3 (pc1 := 30) (lv1 := [(3, .int v3), (0, .ref 32), (1, .int a1), (2, .int a2)]) (st1 := [.int 8, .int a1, .ref 32]) rfl ?_
      refine am_wc rfl rfl rfl ?_
      refine am_ww h15 ?_
      rintro _ _ ⟨s16, rfl, rfl, h17⟩
      show am_W _ _ 178 33 [(3, .int v3), (0, .ref 32), (1, .int a1), (2, .int a2)] [] (zH s16) _
      exact am_wm h17 ⟨rfl, rfl, rfl, trivial⟩
    · refine am_wb2 rfl true (zt_ne (zq_a _) (by decide) (zr_t _) ⟨by decide, by decide⟩ c12) rfl ?_
      have h18 := h14 c12
      exact am_wm h18 ⟨rfl, rfl, rfl, trivial⟩
  · refine am_wb2 rfl true (zt_ne (zq_a _) (by decide) (zr_t _) ⟨by decide, by decide⟩ c6) rfl ?_
    have h19 := h8 c6
    exact am_wm h19 ⟨rfl, rfl, rfl, trivial⟩
set_option maxRecDepth 100000 in
theorem vc_178_33 (xs : Option (List Int32)) (d : Nat) (s : zS) (a1 : Int32) (a3 : Int32) (Q : zS → Prop) (h : zX (s.2 44) a3.toInt ∧ ((zg (s.2 44) a3.toInt).toInt = 4 → (zX (s.2 50) a3.toInt ∧ zWi xs d 170 0 [(0, .ref 32), (1, .int (zg (s.2 50) a3.toInt)), (2, .int a1)] s (fun v11 s9 => (v11.toInt = 0 → (zWi xs d 167 0 [(0, .ref 32), (1, .int a3)] s9 (fun v18 s16 => zWv xs (d + 1) 178 33 [(0, .ref 32), (1, .int a1), (3, .int v18)] s16 Q))) ∧ (¬ v11.toInt = 0 → (zWv xs d 175 0 [(0, .ref 32), (1, .int a1), (2, .int 9)] s9 (fun s20 => zWi xs d 167 0 [(0, .ref 32), (1, .int a3)] s20 (fun v24 s22 => zWv xs (d + 1) 178 33 [(0, .ref 32), (1, .int a1), (3, .int v24)] s22 Q))))))) ∧ (¬ (zg (s.2 44) a3.toInt).toInt = 4 → (zWv xs (d + 1) 178 76 [(0, .ref 32), (1, .int a1), (4, .int 1)] s Q))) : zWv xs (d + 1) 178 33 [(0, .ref 32), (1, .int a1), (3, .int a3)] s Q := by
  unfold zWv
  refine am_wh 3 (pc1 := 38) (lv1 := [(0, .ref 32), (1, .int a1), (3, .int a3)]) (st1 := [.int a3, .ref 46]) rfl ?_
  obtain ⟨o1, h2⟩ := h
  refine zw_li (l := (s.2 44)) (i := a3.toInt) rfl rfl (zq_a _) o1 ?_
  refine am_wh 1 (pc1 := 40) (lv1 := [(0, .ref 32), (1, .int a1), (3, .int a3)]) (st1 := [.int 4, .int (zg (s.2 44) a3.toInt)]) rfl ?_
  obtain ⟨h4, h5⟩ := h2
  by_cases c3 : (zg (s.2 44) a3.toInt).toInt = 4
  · refine am_wb2 rfl false (zn_ne (zq_a _) (by decide) (zr_t _) ⟨by decide, by decide⟩ c3) rfl ?_
    have h6 := h4 c3
    refine am_wh 4 (pc1 := 49) (lv1 := [(0, .ref 32), (1, .int a1), (3, .int a3)]) (st1 := [.int a3, .ref 52, .ref 32]) rfl ?_
    obtain ⟨o7, h8⟩ := h6
    refine zw_li (l := (s.2 50)) (i := a3.toInt) rfl rfl (zq_a _) o7 ?_
    refine am_wh 1 (pc1 := 51) (lv1 := [(0, .ref 32), (1, .int a1), (3, .int a3)]) (st1 := [.int a1, .int (zg (s.2 50) a3.toInt), .ref 32]) rfl ?_
    refine am_wc rfl rfl rfl ?_
    refine am_ww h8 ?_
    rintro _ _ ⟨v11, s9, rfl, rfl, h10⟩
    show am_W _ _ 178 54 [(0, .ref 32), (1, .int a1), (3, .int a3)] [.int v11] (zH s9) _
    obtain ⟨h13, h14⟩ := h10
    by_cases c12 : v11.toInt = 0
    · refine am_wb1 rfl true (zt_eq (zq_a _) (by decide) (zr_t _) ⟨by decide, by decide⟩ c12) rfl ?_
      have h15 := h13 c12
      refine am_wh 2 (pc1 := 66) (lv1 := [(0, .ref 32), (1, .int a1), (3, .int a3)]) (st1 := [.int a3, .ref 32]) rfl ?_
      refine am_wc rfl rfl rfl ?_
      refine am_ww h15 ?_
      rintro _ _ ⟨v18, s16, rfl, rfl, h17⟩
      show am_W _ _ 178 69 [(0, .ref 32), (1, .int a1), (3, .int a3)] [.int v18] (zH s16) _
      refine am_wh 2 (pc1 := 33) (lv1 := [(3, .int v18), (0, .ref 32), (1, .int a1)]) (st1 := []) rfl ?_
      exact am_wm h17 ⟨rfl, rfl, rfl, trivial⟩
    · refine am_wb1 rfl false (zn_eq (zq_a _) (by decide) (zr_t _) ⟨by decide, by decide⟩ c12) rfl ?_
      have h19 := h14 c12
      refine am_wh 3 (pc1 := 61) (lv1 := [(0, .ref 32), (1, .int a1), (3, .int a3)]) (st1 := [.int 9, .int a1, .ref 32]) rfl ?_
      refine am_wc rfl rfl rfl ?_
      refine am_ww h19 ?_
      rintro _ _ ⟨s20, rfl, rfl, h21⟩
      show am_W _ _ 178 64 [(0, .ref 32), (1, .int a1), (3, .int a3)] [] (zH s20) _
      refine am_wh 2 (pc1 := 66) (lv1 := [(0, .ref 32), (1, .int a1), (3, .int a3)]) (st1 := [.int a3, .ref 32]) rfl ?_
      refine am_wc rfl rfl rfl ?_
      refine am_ww h21 ?_
      rintro _ _ ⟨v24, s22, rfl, rfl, h23⟩
      show am_W _ _ 178 69 [(0, .ref 32), (1, .int a1), (3, .int a3)] [.int v24] (zH s22) _
      refine am_wh 2 (pc1 := 33) (lv1 := [(3, .int v24), (0, .ref 32), (1, .int a1)]) (st1 := []) rfl ?_
      exact am_wm h23 ⟨rfl, rfl, rfl, trivial⟩
  · refine am_wb2 rfl true (zt_ne (zq_a _) (by decide) (zr_t _) ⟨by decide, by decide⟩ c3) rfl ?_
    have h25 := h5 c3
    refine am_wh 2 (pc1 := 76) (lv1 := [(4, .int 1), (0, .ref 32), (1, .int a1), (3, .int a3)]) (st1 := []) rfl ?_
    exact am_wm h25 ⟨rfl, rfl, rfl, trivial⟩
set_option maxRecDepth 100000 in
theorem vc_178_76 (xs : Option (List Int32)) (d : Nat) (s : zS) (a1 : Int32) (a4 : Int32) (Q : zS → Prop) (h : (a4.toInt < (s.1 31).toInt → (zWi xs d 165 0 [(0, .ref 32), (1, .int a4), (2, .int a1)] s (fun v7 s5 => (v7.toInt = 0 → (zWv xs (d + 1) 178 76 [(0, .ref 32), (1, .int a1), (4, .int (a4 + 1))] s5 Q)) ∧ (¬ v7.toInt = 0 → (zWv xs d 175 0 [(0, .ref 32), (1, .int a1), (2, .int 10)] s5 (fun s13 => zWv xs (d + 1) 178 76 [(0, .ref 32), (1, .int a1), (4, .int (a4 + 1))] s13 Q)))))) ∧ (¬ a4.toInt < (s.1 31).toInt → (Q s))) : zWv xs (d + 1) 178 76 [(0, .ref 32), (1, .int a1), (4, .int a4)] s Q := by
  unfold zWv
  refine am_wh 3 (pc1 := 82) (lv1 := [(0, .ref 32), (1, .int a1), (4, .int a4)]) (st1 := [.int (s.1 31), .int a4]) rfl ?_
  obtain ⟨h2, h3⟩ := h
  by_cases c1 : a4.toInt < (s.1 31).toInt
  · refine am_wb2 rfl false (zn_ge (zq_a _) (zq_a _) (zr_t _) (zr_t _) c1) rfl ?_
    have h4 := h2 c1
    refine am_wh 3 (pc1 := 89) (lv1 := [(0, .ref 32), (1, .int a1), (4, .int a4)]) (st1 := [.int a1, .int a4, .ref 32]) rfl ?_
    refine am_wc rfl rfl rfl ?_
    refine am_ww h4 ?_
    rintro _ _ ⟨v7, s5, rfl, rfl, h6⟩
    show am_W _ _ 178 92 [(0, .ref 32), (1, .int a1), (4, .int a4)] [.int v7] (zH s5) _
    obtain ⟨h9, h10⟩ := h6
    by_cases c8 : v7.toInt = 0
    · refine am_wb1 rfl true (zt_eq (zq_a _) (by decide) (zr_t _) ⟨by decide, by decide⟩ c8) rfl ?_
      have h11 := h9 c8
      refine am_wh 2 (pc1 := 76) (lv1 := [(4, .int (a4 + 1)), (0, .ref 32), (1, .int a1)]) (st1 := []) rfl ?_
      exact am_wm h11 ⟨rfl, rfl, rfl, trivial⟩
    · refine am_wb1 rfl false (zn_eq (zq_a _) (by decide) (zr_t _) ⟨by decide, by decide⟩ c8) rfl ?_
      have h12 := h10 c8
      refine am_wh 3 (pc1 := 99) (lv1 := [(0, .ref 32), (1, .int a1), (4, .int a4)]) (st1 := [.int 10, .int a1, .ref 32]) rfl ?_
      refine am_wc rfl rfl rfl ?_
      refine am_ww h12 ?_
      rintro _ _ ⟨s13, rfl, rfl, h14⟩
      show am_W _ _ 178 102 [(0, .ref 32), (1, .int a1), (4, .int a4)] [] (zH s13) _
      refine am_wh 2 (pc1 := 76) (lv1 := [(4, .int (a4 + 1)), (0, .ref 32), (1, .int a1)]) (st1 := []) rfl ?_
      exact am_wm h14 ⟨rfl, rfl, rfl, trivial⟩
  · refine am_wb2 rfl true (zt_ge (zq_a _) (zq_a _) (zr_t _) (zr_t _) c1) rfl ?_
    have h15 := h3 c1
    refine am_wr rfl rfl rfl ?_
    exact ⟨_, rfl, rfl, h15⟩
set_option maxRecDepth 100000 in
theorem vc_179_0 (xs : Option (List Int32)) (d : Nat) (s : zS) (a1 : Int32) (Q : Int32 → zS → Prop) (h : zX (s.2 51) a1.toInt ∧ zWi xs d 168 0 [(0, .ref 32), (1, .int a1)] s (fun v5 s3 => zWi xs d 173 0 [(0, .ref 32), (1, .int v5), (2, .int (zg (s.2 51) a1.toInt)), (3, .int 4), (4, .int 4), (5, .int (s3.1 32))] s3 (fun v8 s6 => (v8.toInt = 0 → (zWi xs d 173 0 [(0, .ref 32), (1, .int v5), (2, .int (zg (s.2 51) a1.toInt)), (3, .int 5), (4, .int 5), (5, .int (s6.1 32))] s6 (fun v15 s13 => (v5.toInt = 0 → (Q 320 s13)) ∧ (¬ v5.toInt = 0 → ((v15.toInt = 0 → (zWi xs d 173 0 [(0, .ref 32), (1, .int v5), (2, .int (zg (s.2 51) a1.toInt)), (3, .int 1), (4, .int 3), (5, .int (s13.1 32))] s13 (fun v27 s25 => (v27.toInt = 0 → (zWi xs d 174 0 [(0, .ref 32), (1, .int v5), (2, .int (zg (s.2 51) a1.toInt))] s25 (fun v34 s32 => (v34.toInt < 0 → (Q 320 s32)) ∧ (¬ v34.toInt < 0 → (Q (192 + v34) s32))))) ∧ (¬ v27.toInt = 0 → (Q (64 + v5) s25))))) ∧ (¬ v15.toInt = 0 → (zWi xs d 174 0 [(0, .ref 32), (1, .int v5), (2, .int (zg (s.2 51) a1.toInt))] s13 (fun v44 s42 => (v44.toInt < 0 → (Q 320 s42)) ∧ (¬ v44.toInt < 0 → (Q (192 + v44) s42)))))))))) ∧ (¬ v8.toInt = 0 → (Q 256 s6))))) : zWi xs (d + 1) 179 0 [(0, .ref 32), (1, .int a1)] s Q := by
  unfold zWi
  refine am_wh 3 (pc1 := 5) (lv1 := [(0, .ref 32), (1, .int a1)]) (st1 := [.int a1, .ref 53]) rfl ?_
  obtain ⟨o1, h2⟩ := h
  refine zw_li (l := (s.2 51)) (i := a1.toInt) rfl rfl (zq_a _) o1 ?_
  refine am_wh 3 (pc1 := 9) (lv1 := [(2, .int (zg (s.2 51) a1.toInt)), (0, .ref 32), (1, .int a1)]) (st1 := [.int a1, .ref 32]) rfl ?_
  refine am_wc rfl rfl rfl ?_
  refine am_ww h2 ?_
  rintro _ _ ⟨v5, s3, rfl, rfl, h4⟩
  show am_W _ _ 179 12 [(2, .int (zg (s.2 51) a1.toInt)), (0, .ref 32), (1, .int a1)] [.int v5] (zH s3) _
  refine am_wh 8 (pc1 := 22) (lv1 := [(3, .int v5), (2, .int (zg (s.2 51) a1.toInt)), (0, .ref 32), (1, .int a1)]) (st1 := [.int (s3.1 32), .int 4, .int 4, .int (zg (s.2 51) a1.toInt), .int v5, .ref 32]) rfl ?_
  refine am_wc rfl rfl rfl ?_
  refine am_ww h4 ?_
  rintro _ _ ⟨v8, s6, rfl, rfl, h7⟩
  show am_W _ _ 179 25 [(3, .int v5), (2, .int (zg (s.2 51) a1.toInt)), (0, .ref 32), (1, .int a1)] [.int v8] (zH s6) _
  obtain ⟨h10, h11⟩ := h7
  by_cases c9 : v8.toInt = 0
  · refine am_wb1 rfl true (zt_eq (zq_a _) (by decide) (zr_t _) ⟨by decide, by decide⟩ c9) rfl ?_
    have h12 := h10 c9
    refine am_wh 7 (pc1 := 41) (lv1 := [(3, .int v5), (2, .int (zg (s.2 51) a1.toInt)), (0, .ref 32), (1, .int a1)]) (st1 := [.int (s6.1 32), .int 5, .int 5, .int (zg (s.2 51) a1.toInt), .int v5, .ref 32]) rfl ?_
    refine am_wc rfl rfl rfl ?_
    refine am_ww h12 ?_
    rintro _ _ ⟨v15, s13, rfl, rfl, h14⟩
    show am_W _ _ 179 44 [(3, .int v5), (2, .int (zg (s.2 51) a1.toInt)), (0, .ref 32), (1, .int a1)] [.int v15] (zH s13) _
    refine am_wh 2 (pc1 := 47) (lv1 := [(4, .int v15), (3, .int v5), (2, .int (zg (s.2 51) a1.toInt)), (0, .ref 32), (1, .int a1)]) (st1 := [.int v5]) rfl ?_
    obtain ⟨h17, h18⟩ := h14
    by_cases c16 : v5.toInt = 0
    · refine am_wb1 rfl true (zt_eq (zq_a _) (by decide) (zr_t _) ⟨by decide, by decide⟩ c16) rfl ?_
      have h19 := h17 c16
      refine am_wh 1 (pc1 := 76) (lv1 := [(4, .int v15), (3, .int v5), (2, .int (zg (s.2 51) a1.toInt)), (0, .ref 32), (1, .int a1)]) (st1 := [.int v5]) rfl ?_
      refine am_wb1 rfl false (zn_ne (zq_a _) (by decide) (zr_t _) ⟨by decide, by decide⟩ c16) rfl ?_
      refine am_wh 6 (pc1 := 108) (lv1 := [(5, .int (-1)), (4, .int v15), (3, .int v5), (2, .int (zg (s.2 51) a1.toInt)), (0, .ref 32), (1, .int a1)]) (st1 := [.int 320]) rfl ?_
      refine am_wr rfl rfl rfl ?_
      exact ⟨_, _, rfl, rfl, h19⟩
    · refine am_wb1 rfl false (zn_eq (zq_a _) (by decide) (zr_t _) ⟨by decide, by decide⟩ c16) rfl ?_
      have h20 := h18 c16
      refine am_wh 1 (pc1 := 52) (lv1 := [(4, .int v15), (3, .int v5), (2, .int (zg (s.2 51) a1.toInt)), (0, .ref 32), (1, .int a1)]) (st1 := [.int v15]) rfl ?_
      obtain ⟨h22, h23⟩ := h20
      by_cases c21 : v15.toInt = 0
      · refine am_wb1 rfl false (zn_ne (zq_a _) (by decide) (zr_t _) ⟨by decide, by decide⟩ c21) rfl ?_
        have h24 := h22 c21
        refine am_wh 7 (pc1 := 64) (lv1 := [(4, .int v15), (3, .int v5), (2, .int (zg (s.2 51) a1.toInt)), (0, .ref 32), (1, .int a1)]) (st1 := [.int (s13.1 32), .int 3, .int 1, .int (zg (s.2 51) a1.toInt), .int v5, .ref 32]) rfl ?_
        refine am_wc rfl rfl rfl ?_
        refine am_ww h24 ?_
        rintro _ _ ⟨v27, s25, rfl, rfl, h26⟩
        show am_W _ _ 179 67 [(4, .int v15), (3, .int v5), (2, .int (zg (s.2 51) a1.toInt)), (0, .ref 32), (1, .int a1)] [.int v27] (zH s25) _
        obtain ⟨h29, h30⟩ := h26
        by_cases c28 : v27.toInt = 0
        · refine am_wb1 rfl true (zt_eq (zq_a _) (by decide) (zr_t _) ⟨by decide, by decide⟩ c28) rfl ?_
          have h31 := h29 c28
          refine am_wh 1 (pc1 := 76) (lv1 := [(4, .int v15), (3, .int v5), (2, .int (zg (s.2 51) a1.toInt)), (0, .ref 32), (1, .int a1)]) (st1 := [.int v5]) rfl ?_
          refine am_wb1 rfl true (zt_ne (zq_a _) (by decide) (zr_t _) ⟨by decide, by decide⟩ c16) rfl ?_
          refine am_wh 3 (pc1 := 86) (lv1 := [(4, .int v15), (3, .int v5), (2, .int (zg (s.2 51) a1.toInt)), (0, .ref 32), (1, .int a1)]) (st1 := [.int (zg (s.2 51) a1.toInt), .int v5, .ref 32]) rfl ?_
          refine am_wc rfl rfl rfl ?_
          refine am_ww h31 ?_
          rintro _ _ ⟨v34, s32, rfl, rfl, h33⟩
          show am_W _ _ 179 89 [(4, .int v15), (3, .int v5), (2, .int (zg (s.2 51) a1.toInt)), (0, .ref 32), (1, .int a1)] [.int v34] (zH s32) _
          refine am_wh 2 (pc1 := 93) (lv1 := [(5, .int v34), (4, .int v15), (3, .int v5), (2, .int (zg (s.2 51) a1.toInt)), (0, .ref 32), (1, .int a1)]) (st1 := [.int v34]) rfl ?_
          obtain ⟨h36, h37⟩ := h33
          by_cases c35 : v34.toInt < 0
          · refine am_wb1 rfl true (zt_lt (zq_a _) (by decide) (zr_t _) ⟨by decide, by decide⟩ c35) rfl ?_
            have h38 := h36 c35
            refine am_wh 1 (pc1 := 108) (lv1 := [(5, .int v34), (4, .int v15), (3, .int v5), (2, .int (zg (s.2 51) a1.toInt)), (0, .ref 32), (1, .int a1)]) (st1 := [.int 320]) rfl ?_
            refine am_wr rfl rfl rfl ?_
            exact ⟨_, _, rfl, rfl, h38⟩
          · refine am_wb1 rfl false (zn_lt (zq_a _) (by decide) (zr_t _) ⟨by decide, by decide⟩ c35) rfl ?_
            have h39 := h37 c35
            refine am_wh 4 (pc1 := 108) (lv1 := [(5, .int v34), (4, .int v15), (3, .int v5), (2, .int (zg (s.2 51) a1.toInt)), (0, .ref 32), (1, .int a1)]) (st1 := [.int (192 + v34)]) rfl ?_
            refine am_wr rfl rfl rfl ?_
            exact ⟨_, _, rfl, rfl, h39⟩
        · refine am_wb1 rfl false (zn_eq (zq_a _) (by decide) (zr_t _) ⟨by decide, by decide⟩ c28) rfl ?_
          have h40 := h30 c28
          refine am_wh 3 (pc1 := 74) (lv1 := [(4, .int v15), (3, .int v5), (2, .int (zg (s.2 51) a1.toInt)), (0, .ref 32), (1, .int a1)]) (st1 := [.int (64 + v5)]) rfl ?_
          refine am_wr rfl rfl rfl ?_
          exact ⟨_, _, rfl, rfl, h40⟩
      · refine am_wb1 rfl true (zt_ne (zq_a _) (by decide) (zr_t _) ⟨by decide, by decide⟩ c21) rfl ?_
        have h41 := h23 c21
        refine am_wh 1 (pc1 := 76) (lv1 := [(4, .int v15), (3, .int v5), (2, .int (zg (s.2 51) a1.toInt)), (0, .ref 32), (1, .int a1)]) (st1 := [.int v5]) rfl ?_
        refine am_wb1 rfl true (zt_ne (zq_a _) (by decide) (zr_t _) ⟨by decide, by decide⟩ c16) rfl ?_
        refine am_wh 3 (pc1 := 86) (lv1 := [(4, .int v15), (3, .int v5), (2, .int (zg (s.2 51) a1.toInt)), (0, .ref 32), (1, .int a1)]) (st1 := [.int (zg (s.2 51) a1.toInt), .int v5, .ref 32]) rfl ?_
        refine am_wc rfl rfl rfl ?_
        refine am_ww h41 ?_
        rintro _ _ ⟨v44, s42, rfl, rfl, h43⟩
        show am_W _ _ 179 89 [(4, .int v15), (3, .int v5), (2, .int (zg (s.2 51) a1.toInt)), (0, .ref 32), (1, .int a1)] [.int v44] (zH s42) _
        refine am_wh 2 (pc1 := 93) (lv1 := [(5, .int v44), (4, .int v15), (3, .int v5), (2, .int (zg (s.2 51) a1.toInt)), (0, .ref 32), (1, .int a1)]) (st1 := [.int v44]) rfl ?_
        obtain ⟨h46, h47⟩ := h43
        by_cases c45 : v44.toInt < 0
        · refine am_wb1 rfl true (zt_lt (zq_a _) (by decide) (zr_t _) ⟨by decide, by decide⟩ c45) rfl ?_
          have h48 := h46 c45
          refine am_wh 1 (pc1 := 108) (lv1 := [(5, .int v44), (4, .int v15), (3, .int v5), (2, .int (zg (s.2 51) a1.toInt)), (0, .ref 32), (1, .int a1)]) (st1 := [.int 320]) rfl ?_
          refine am_wr rfl rfl rfl ?_
          exact ⟨_, _, rfl, rfl, h48⟩
        · refine am_wb1 rfl false (zn_lt (zq_a _) (by decide) (zr_t _) ⟨by decide, by decide⟩ c45) rfl ?_
          have h49 := h47 c45
          refine am_wh 4 (pc1 := 108) (lv1 := [(5, .int v44), (4, .int v15), (3, .int v5), (2, .int (zg (s.2 51) a1.toInt)), (0, .ref 32), (1, .int a1)]) (st1 := [.int (192 + v44)]) rfl ?_
          refine am_wr rfl rfl rfl ?_
          exact ⟨_, _, rfl, rfl, h49⟩
  · refine am_wb1 rfl false (zn_eq (zq_a _) (by decide) (zr_t _) ⟨by decide, by decide⟩ c9) rfl ?_
    have h50 := h11 c9
    refine am_wh 1 (pc1 := 31) (lv1 := [(3, .int v5), (2, .int (zg (s.2 51) a1.toInt)), (0, .ref 32), (1, .int a1)]) (st1 := [.int 256]) rfl ?_
    refine am_wr rfl rfl rfl ?_
    exact ⟨_, _, rfl, rfl, h50⟩
set_option maxRecDepth 100000 in
theorem vc_180_0 (xs : Option (List Int32)) (d : Nat) (s : zS) (a1 : Int32) (Q : Int32 → zS → Prop) (h : zWi xs (d + 1) 180 2 [(0, .ref 32), (1, .int a1), (2, .int 0)] s Q) : zWi xs (d + 1) 180 0 [(0, .ref 32), (1, .int a1)] s Q := by
  unfold zWi
  refine am_wh 2 (pc1 := 2) (lv1 := [(2, .int 0), (0, .ref 32), (1, .int a1)]) (st1 := []) rfl ?_
  exact am_wm h ⟨rfl, rfl, rfl, trivial⟩
set_option maxRecDepth 100000 in
theorem vc_180_2 (xs : Option (List Int32)) (d : Nat) (s : zS) (a1 : Int32) (a2 : Int32) (Q : Int32 → zS → Prop) (h : (a2.toInt < (s.1 32).toInt → (zWi xs d 171 0 [(0, .ref 32), (1, .int a2)] s (fun v7 s5 => (v7.toInt = 0 → (zWi xs (d + 1) 180 2 [(0, .ref 32), (1, .int a1), (2, .int (a2 + 1))] s5 Q)) ∧ (¬ v7.toInt = 0 → (zX (s5.2 51) a2.toInt ∧ zWi xs d 170 0 [(0, .ref 32), (1, .int (zg (s5.2 51) a2.toInt)), (2, .int a1)] s5 (fun v17 s15 => (v17.toInt = 0 → (zWi xs (d + 1) 180 2 [(0, .ref 32), (1, .int a1), (2, .int (a2 + 1))] s15 Q)) ∧ (¬ v17.toInt = 0 → (zWi xs d 168 0 [(0, .ref 32), (1, .int a2)] s15 (fun v25 s23 => (v25.toInt = 0 → (Q 1 s23)) ∧ (¬ v25.toInt = 0 → (zWi xs d 173 0 [(0, .ref 32), (1, .int v25), (2, .int a1), (3, .int 4), (4, .int 4), (5, .int (s23.1 32))] s23 (fun v33 s31 => (v33.toInt = 0 → (zWi xs (d + 1) 180 2 [(0, .ref 32), (1, .int a1), (2, .int (a2 + 1))] s31 Q)) ∧ (¬ v33.toInt = 0 → (Q 1 s31)))))))))))))) ∧ (¬ a2.toInt < (s.1 32).toInt → (Q 0 s))) : zWi xs (d + 1) 180 2 [(0, .ref 32), (1, .int a1), (2, .int a2)] s Q := by
  unfold zWi
  refine am_wh 3 (pc1 := 7) (lv1 := [(0, .ref 32), (1, .int a1), (2, .int a2)]) (st1 := [.int (s.1 32), .int a2]) rfl ?_
  obtain ⟨h2, h3⟩ := h
  by_cases c1 : a2.toInt < (s.1 32).toInt
  · refine am_wb2 rfl false (zn_ge (zq_a _) (zq_a _) (zr_t _) (zr_t _) c1) rfl ?_
    have h4 := h2 c1
    refine am_wh 2 (pc1 := 12) (lv1 := [(0, .ref 32), (1, .int a1), (2, .int a2)]) (st1 := [.int a2, .ref 32]) rfl ?_
    refine am_wc rfl rfl rfl ?_
    refine am_ww h4 ?_
    rintro _ _ ⟨v7, s5, rfl, rfl, h6⟩
    show am_W _ _ 180 15 [(0, .ref 32), (1, .int a1), (2, .int a2)] [.int v7] (zH s5) _
    obtain ⟨h9, h10⟩ := h6
    by_cases c8 : v7.toInt = 0
    · refine am_wb1 rfl true (zt_eq (zq_a _) (by decide) (zr_t _) ⟨by decide, by decide⟩ c8) rfl ?_
      have h11 := h9 c8
      refine am_wh 2 (pc1 := 2) (lv1 := [(2, .int (a2 + 1)), (0, .ref 32), (1, .int a1)]) (st1 := []) rfl ?_
      exact am_wm h11 ⟨rfl, rfl, rfl, trivial⟩
    · refine am_wb1 rfl false (zn_eq (zq_a _) (by decide) (zr_t _) ⟨by decide, by decide⟩ c8) rfl ?_
      have h12 := h10 c8
      refine am_wh 4 (pc1 := 24) (lv1 := [(0, .ref 32), (1, .int a1), (2, .int a2)]) (st1 := [.int a2, .ref 53, .ref 32]) rfl ?_
      obtain ⟨o13, h14⟩ := h12
      refine zw_li (l := (s5.2 51)) (i := a2.toInt) rfl rfl (zq_a _) o13 ?_
      refine am_wh 1 (pc1 := 26) (lv1 := [(0, .ref 32), (1, .int a1), (2, .int a2)]) (st1 := [.int a1, .int (zg (s5.2 51) a2.toInt), .ref 32]) rfl ?_
      refine am_wc rfl rfl rfl ?_
      refine am_ww h14 ?_
      rintro _ _ ⟨v17, s15, rfl, rfl, h16⟩
      show am_W _ _ 180 29 [(0, .ref 32), (1, .int a1), (2, .int a2)] [.int v17] (zH s15) _
      obtain ⟨h19, h20⟩ := h16
      by_cases c18 : v17.toInt = 0
      · refine am_wb1 rfl true (zt_eq (zq_a _) (by decide) (zr_t _) ⟨by decide, by decide⟩ c18) rfl ?_
        have h21 := h19 c18
        refine am_wh 2 (pc1 := 2) (lv1 := [(2, .int (a2 + 1)), (0, .ref 32), (1, .int a1)]) (st1 := []) rfl ?_
        exact am_wm h21 ⟨rfl, rfl, rfl, trivial⟩
      · refine am_wb1 rfl false (zn_eq (zq_a _) (by decide) (zr_t _) ⟨by decide, by decide⟩ c18) rfl ?_
        have h22 := h20 c18
        refine am_wh 2 (pc1 := 34) (lv1 := [(0, .ref 32), (1, .int a1), (2, .int a2)]) (st1 := [.int a2, .ref 32]) rfl ?_
        refine am_wc rfl rfl rfl ?_
        refine am_ww h22 ?_
        rintro _ _ ⟨v25, s23, rfl, rfl, h24⟩
        show am_W _ _ 180 37 [(0, .ref 32), (1, .int a1), (2, .int a2)] [.int v25] (zH s23) _
        refine am_wh 2 (pc1 := 39) (lv1 := [(3, .int v25), (0, .ref 32), (1, .int a1), (2, .int a2)]) (st1 := [.int v25]) rfl ?_
        obtain ⟨h27, h28⟩ := h24
        by_cases c26 : v25.toInt = 0
        · refine am_wb1 rfl true (zt_eq (zq_a _) (by decide) (zr_t _) ⟨by decide, by decide⟩ c26) rfl ?_
          have h29 := h27 c26
          refine am_wh 1 (pc1 := 58) (lv1 := [(3, .int v25), (0, .ref 32), (1, .int a1), (2, .int a2)]) (st1 := [.int 1]) rfl ?_
          refine am_wr rfl rfl rfl ?_
          exact ⟨_, _, rfl, rfl, h29⟩
        · refine am_wb1 rfl false (zn_eq (zq_a _) (by decide) (zr_t _) ⟨by decide, by decide⟩ c26) rfl ?_
          have h30 := h28 c26
          refine am_wh 7 (pc1 := 51) (lv1 := [(3, .int v25), (0, .ref 32), (1, .int a1), (2, .int a2)]) (st1 := [.int (s23.1 32), .int 4, .int 4, .int a1, .int v25, .ref 32]) rfl ?_
          refine am_wc rfl rfl rfl ?_
          refine am_ww h30 ?_
          rintro _ _ ⟨v33, s31, rfl, rfl, h32⟩
          show am_W _ _ 180 54 [(3, .int v25), (0, .ref 32), (1, .int a1), (2, .int a2)] [.int v33] (zH s31) _
          obtain ⟨h35, h36⟩ := h32
          by_cases c34 : v33.toInt = 0
          · refine am_wb1 rfl true (zt_eq (zq_a _) (by decide) (zr_t _) ⟨by decide, by decide⟩ c34) rfl ?_
            have h37 := h35 c34
            refine am_wh 2 (pc1 := 2) (lv1 := [(2, .int (a2 + 1)), (3, .int v25), (0, .ref 32), (1, .int a1)]) (st1 := []) rfl ?_
            exact am_wm h37 ⟨rfl, rfl, rfl, trivial⟩
          · refine am_wb1 rfl false (zn_eq (zq_a _) (by decide) (zr_t _) ⟨by decide, by decide⟩ c34) rfl ?_
            have h38 := h36 c34
            refine am_wh 1 (pc1 := 58) (lv1 := [(3, .int v25), (0, .ref 32), (1, .int a1), (2, .int a2)]) (st1 := [.int 1]) rfl ?_
            refine am_wr rfl rfl rfl ?_
            exact ⟨_, _, rfl, rfl, h38⟩
  · refine am_wb2 rfl true (zt_ge (zq_a _) (zq_a _) (zr_t _) (zr_t _) c1) rfl ?_
    have h39 := h3 c1
    refine am_wh 1 (pc1 := 66) (lv1 := [(0, .ref 32), (1, .int a1), (2, .int a2)]) (st1 := [.int 0]) rfl ?_
    refine am_wr rfl rfl rfl ?_
    exact ⟨_, _, rfl, rfl, h39⟩
set_option maxRecDepth 100000 in
theorem vc_181_0 (xs : Option (List Int32)) (d : Nat) (s : zS) (a1 : Int32) (Q : Int32 → zS → Prop) (h : zWi xs d 179 0 [(0, .ref 32), (1, .int a1)] s (fun v3 s1 => zWi xs d 168 0 [(0, .ref 32), (1, .int a1)] s1 (fun v6 s4 => ((v3 / 64).toInt = 1 → (zWi xs (d + 1) 181 33 [(0, .ref 32), (1, .int a1), (3, .int (v3 - v3 / 64 * 64)), (4, .int (v3 / 64)), (5, .int v6), (6, .int 0)] s4 Q)) ∧ (¬ (v3 / 64).toInt = 1 → (((v3 / 64).toInt = 5 → (zX (s4.2 51) a1.toInt ∧ zWi xs d 180 0 [(0, .ref 32), (1, .int (zg (s4.2 51) a1.toInt))] s4 (fun v20 s18 => (v20.toInt = 0 → (Q ((6 + (8 * (v3 - v3 / 64 * 64))) + (512 * v6)) s18)) ∧ (¬ v20.toInt = 0 → (Q ((5 + (8 * (v3 - v3 / 64 * 64))) + (512 * v6)) s18))))) ∧ (¬ (v3 / 64).toInt = 5 → (Q (((v3 / 64) + (8 * (v3 - v3 / 64 * 64))) + (512 * v6)) s4))))))) : zWi xs (d + 1) 181 0 [(0, .ref 32), (1, .int a1)] s Q := by
  unfold zWi
  refine am_wh 2 (pc1 := 2) (lv1 := [(0, .ref 32), (1, .int a1)]) (st1 := [.int a1, .ref 32]) rfl ?_
  refine am_wc rfl rfl rfl ?_
  refine am_ww h ?_
  rintro _ _ ⟨v3, s1, rfl, rfl, h2⟩
  show am_W _ _ 181 5 [(0, .ref 32), (1, .int a1)] [.int v3] (zH s1) _
  refine am_wh 11 (pc1 := 19) (lv1 := [(4, .int (v3 / 64)), (3, .int (v3 - v3 / 64 * 64)), (2, .int v3), (0, .ref 32), (1, .int a1)]) (st1 := [.int a1, .ref 32]) rfl ?_
  refine am_wc rfl rfl rfl ?_
  refine am_ww h2 ?_
  rintro _ _ ⟨v6, s4, rfl, rfl, h5⟩
  show am_W _ _ 181 22 [(4, .int (v3 / 64)), (3, .int (v3 - v3 / 64 * 64)), (2, .int v3), (0, .ref 32), (1, .int a1)] [.int v6] (zH s4) _
  refine am_wh 3 (pc1 := 27) (lv1 := [(5, .int v6), (4, .int (v3 / 64)), (3, .int (v3 - v3 / 64 * 64)), (2, .int v3), (0, .ref 32), (1, .int a1)]) (st1 := [.int 1, .int (v3 / 64)]) rfl ?_
  obtain ⟨h8, h9⟩ := h5
  by_cases c7 : (v3 / 64).toInt = 1
  · refine am_wb2 rfl false (zn_ne (zq_a _) (by decide) (zr_t _) ⟨by decide, by decide⟩ c7) rfl ?_
    have h10 := h8 c7
    refine am_wh 2 (pc1 := 33) (lv1 := [(6, .int 0), (5, .int v6), (4, .int (v3 / 64)), (3, .int (v3 - v3 / 64 * 64)), (2, .int v3), (0, .ref 32), (1, .int a1)]) (st1 := []) rfl ?_
    exact am_wm h10 ⟨rfl, rfl, rfl, rfl, rfl, rfl, trivial⟩
  · refine am_wb2 rfl true (zt_ne (zq_a _) (by decide) (zr_t _) ⟨by decide, by decide⟩ c7) rfl ?_
    have h11 := h9 c7
    refine am_wh 2 (pc1 := 116) (lv1 := [(5, .int v6), (4, .int (v3 / 64)), (3, .int (v3 - v3 / 64 * 64)), (2, .int v3), (0, .ref 32), (1, .int a1)]) (st1 := [.int 5, .int (v3 / 64)]) rfl ?_
    obtain ⟨h13, h14⟩ := h11
    by_cases c12 : (v3 / 64).toInt = 5
    · refine am_wb2 rfl false (zn_ne (zq_a _) (by decide) (zr_t _) ⟨by decide, by decide⟩ c12) rfl ?_
      have h15 := h13 c12
      refine am_wh 4 (pc1 := 125) (lv1 := [(5, .int v6), (4, .int (v3 / 64)), (3, .int (v3 - v3 / 64 * 64)), (2, .int v3), (0, .ref 32), (1, .int a1)]) (st1 := [.int a1, .ref 53, .ref 32]) rfl ?_
      obtain ⟨o16, h17⟩ := h15
      refine zw_li (l := (s4.2 51)) (i := a1.toInt) rfl rfl (zq_a _) o16 ?_
      refine am_wc rfl rfl rfl ?_
      refine am_ww h17 ?_
      rintro _ _ ⟨v20, s18, rfl, rfl, h19⟩
      show am_W _ _ 181 129 [(5, .int v6), (4, .int (v3 / 64)), (3, .int (v3 - v3 / 64 * 64)), (2, .int v3), (0, .ref 32), (1, .int a1)] [.int v20] (zH s18) _
      obtain ⟨h22, h23⟩ := h19
      by_cases c21 : v20.toInt = 0
      · refine am_wb1 rfl true (zt_eq (zq_a _) (by decide) (zr_t _) ⟨by decide, by decide⟩ c21) rfl ?_
        have h24 := h22 c21
        refine am_wh 11 (pc1 := 154) (lv1 := [(4, .int 6), (5, .int v6), (3, .int (v3 - v3 / 64 * 64)), (2, .int v3), (0, .ref 32), (1, .int a1)]) (st1 := [.int ((6 + (8 * (v3 - v3 / 64 * 64))) + (512 * v6))]) rfl ?_
        refine am_wr rfl rfl rfl ?_
        exact ⟨_, _, rfl, rfl, h24⟩
      · refine am_wb1 rfl false (zn_eq (zq_a _) (by decide) (zr_t _) ⟨by decide, by decide⟩ c21) rfl ?_
        have h25 := h23 c21
        refine am_wh 12 (pc1 := 154) (lv1 := [(4, .int 5), (5, .int v6), (3, .int (v3 - v3 / 64 * 64)), (2, .int v3), (0, .ref 32), (1, .int a1)]) (st1 := [.int ((5 + (8 * (v3 - v3 / 64 * 64))) + (512 * v6))]) rfl ?_
        refine am_wr rfl rfl rfl ?_
        exact ⟨_, _, rfl, rfl, h25⟩
    · refine am_wb2 rfl true (zt_ne (zq_a _) (by decide) (zr_t _) ⟨by decide, by decide⟩ c12) rfl ?_
      have h26 := h14 c12
      refine am_wh 9 (pc1 := 154) (lv1 := [(5, .int v6), (4, .int (v3 / 64)), (3, .int (v3 - v3 / 64 * 64)), (2, .int v3), (0, .ref 32), (1, .int a1)]) (st1 := [.int (((v3 / 64) + (8 * (v3 - v3 / 64 * 64))) + (512 * v6))]) rfl ?_
      refine am_wr rfl rfl rfl ?_
      exact ⟨_, _, rfl, rfl, h26⟩
set_option maxRecDepth 100000 in
theorem vc_181_33 (xs : Option (List Int32)) (d : Nat) (s : zS) (a1 : Int32) (a3 : Int32) (a4 : Int32) (a5 : Int32) (a6 : Int32) (Q : Int32 → zS → Prop) (h : (a6.toInt < (s.1 32).toInt → (zX (s.2 51) a6.toInt ∧ zX (s.2 51) a1.toInt ∧ zWi xs d 170 0 [(0, .ref 32), (1, .int (zg (s.2 51) a6.toInt)), (2, .int (zg (s.2 51) a1.toInt))] s (fun v11 s9 => (v11.toInt = 0 → (zWi xs (d + 1) 181 33 [(0, .ref 32), (1, .int a1), (3, .int a3), (4, .int a4), (5, .int a5), (6, .int (a6 + 1))] s9 Q)) ∧ (¬ v11.toInt = 0 → (zWi xs d 168 0 [(0, .ref 32), (1, .int a6)] s9 (fun v19 s17 => (v19.toInt = a5.toInt → (zWi xs (d + 1) 181 33 [(0, .ref 32), (1, .int a1), (3, .int a3), (4, .int a4), (5, .int a5), (6, .int (a6 + 1))] s17 Q)) ∧ (¬ v19.toInt = a5.toInt → (zWi xs d 179 0 [(0, .ref 32), (1, .int a6)] s17 (fun v27 s25 => zR (192 + a3.toInt) ∧ (v27.toInt = (192 + a3.toInt) → (zWi xs (d + 1) 181 33 [(0, .ref 32), (1, .int a1), (3, .int a3), (4, .int 2), (5, .int a5), (6, .int (a6 + 1))] s25 Q)) ∧ (¬ v27.toInt = (192 + a3.toInt) → (zWi xs (d + 1) 181 33 [(0, .ref 32), (1, .int a1), (3, .int a3), (4, .int a4), (5, .int a5), (6, .int (a6 + 1))] s25 Q))))))))))) ∧ (¬ a6.toInt < (s.1 32).toInt → ((a4.toInt = 5 → (zX (s.2 51) a1.toInt ∧ zWi xs d 180 0 [(0, .ref 32), (1, .int (zg (s.2 51) a1.toInt))] s (fun v44 s42 => (v44.toInt = 0 → (Q ((6 + (8 * a3)) + (512 * a5)) s42)) ∧ (¬ v44.toInt = 0 → (Q ((5 + (8 * a3)) + (512 * a5)) s42))))) ∧ (¬ a4.toInt = 5 → (Q ((a4 + (8 * a3)) + (512 * a5)) s))))) : zWi xs (d + 1) 181 33 [(0, .ref 32), (1, .int a1), (3, .int a3), (4, .int a4), (5, .int a5), (6, .int a6)] s Q := by
  unfold zWi
  refine am_wh 3 (pc1 := 39) (lv1 := [(0, .ref 32), (1, .int a1), (3, .int a3), (4, .int a4), (5, .int a5), (6, .int a6)]) (st1 := [.int (s.1 32), .int a6]) rfl ?_
  obtain ⟨h2, h3⟩ := h
  by_cases c1 : a6.toInt < (s.1 32).toInt
  · refine am_wb2 rfl false (zn_ge (zq_a _) (zq_a _) (zr_t _) (zr_t _) c1) rfl ?_
    have h4 := h2 c1
    refine am_wh 4 (pc1 := 49) (lv1 := [(0, .ref 32), (1, .int a1), (3, .int a3), (4, .int a4), (5, .int a5), (6, .int a6)]) (st1 := [.int a6, .ref 53, .ref 32]) rfl ?_
    obtain ⟨o5, h6⟩ := h4
    refine zw_li (l := (s.2 51)) (i := a6.toInt) rfl rfl (zq_a _) o5 ?_
    refine am_wh 3 (pc1 := 55) (lv1 := [(0, .ref 32), (1, .int a1), (3, .int a3), (4, .int a4), (5, .int a5), (6, .int a6)]) (st1 := [.int a1, .ref 53, .int (zg (s.2 51) a6.toInt), .ref 32]) rfl ?_
    obtain ⟨o7, h8⟩ := h6
    refine zw_li (l := (s.2 51)) (i := a1.toInt) rfl rfl (zq_a _) o7 ?_
    refine am_wc rfl rfl rfl ?_
    refine am_ww h8 ?_
    rintro _ _ ⟨v11, s9, rfl, rfl, h10⟩
    show am_W _ _ 181 59 [(0, .ref 32), (1, .int a1), (3, .int a3), (4, .int a4), (5, .int a5), (6, .int a6)] [.int v11] (zH s9) _
    obtain ⟨h13, h14⟩ := h10
    by_cases c12 : v11.toInt = 0
    · refine am_wb1 rfl true (zt_eq (zq_a _) (by decide) (zr_t _) ⟨by decide, by decide⟩ c12) rfl ?_
      have h15 := h13 c12
      refine am_wh 8 (pc1 := 33) (lv1 := [(6, .int (a6 + 1)), (4, .int a4), (7, .int 0), (0, .ref 32), (1, .int a1), (3, .int a3), (5, .int a5)]) (st1 := []) rfl ?_
      exact am_wm h15 ⟨rfl, rfl, rfl, rfl, rfl, rfl, trivial⟩
    · refine am_wb1 rfl false (zn_eq (zq_a _) (by decide) (zr_t _) ⟨by decide, by decide⟩ c12) rfl ?_
      have h16 := h14 c12
      refine am_wh 2 (pc1 := 65) (lv1 := [(0, .ref 32), (1, .int a1), (3, .int a3), (4, .int a4), (5, .int a5), (6, .int a6)]) (st1 := [.int a6, .ref 32]) rfl ?_
      refine am_wc rfl rfl rfl ?_
      refine am_ww h16 ?_
      rintro _ _ ⟨v19, s17, rfl, rfl, h18⟩
      show am_W _ _ 181 68 [(0, .ref 32), (1, .int a1), (3, .int a3), (4, .int a4), (5, .int a5), (6, .int a6)] [.int v19] (zH s17) _
      refine am_wh 1 (pc1 := 70) (lv1 := [(0, .ref 32), (1, .int a1), (3, .int a3), (4, .int a4), (5, .int a5), (6, .int a6)]) (st1 := [.int a5, .int v19]) rfl ?_
      obtain ⟨h21, h22⟩ := h18
      by_cases c20 : v19.toInt = a5.toInt
      · refine am_wb2 rfl true (zt_eq (zq_a _) (zq_a _) (zr_t _) (zr_t _) c20) rfl ?_
        have h23 := h21 c20
        refine am_wh 8 (pc1 := 33) (lv1 := [(6, .int (a6 + 1)), (4, .int a4), (7, .int 0), (0, .ref 32), (1, .int a1), (3, .int a3), (5, .int a5)]) (st1 := []) rfl ?_
        exact am_wm h23 ⟨rfl, rfl, rfl, rfl, rfl, rfl, trivial⟩
      · refine am_wb2 rfl false (zn_eq (zq_a _) (zq_a _) (zr_t _) (zr_t _) c20) rfl ?_
        have h24 := h22 c20
        refine am_wh 2 (pc1 := 76) (lv1 := [(0, .ref 32), (1, .int a1), (3, .int a3), (4, .int a4), (5, .int a5), (6, .int a6)]) (st1 := [.int a6, .ref 32]) rfl ?_
        refine am_wc rfl rfl rfl ?_
        refine am_ww h24 ?_
        rintro _ _ ⟨v27, s25, rfl, rfl, h26⟩
        show am_W _ _ 181 79 [(0, .ref 32), (1, .int a1), (3, .int a3), (4, .int a4), (5, .int a5), (6, .int a6)] [.int v27] (zH s25) _
        refine am_wh 3 (pc1 := 84) (lv1 := [(0, .ref 32), (1, .int a1), (3, .int a3), (4, .int a4), (5, .int a5), (6, .int a6)]) (st1 := [.int (192 + a3), .int v27]) rfl ?_
        obtain ⟨o28, h29⟩ := h26
        obtain ⟨h31, h32⟩ := h29
        by_cases c30 : v27.toInt = (192 + a3.toInt)
        · refine am_wb2 rfl false (zn_ne (zq_a _) (zq_add (by decide) (zq_a _)) (zr_t _) o28 c30) rfl ?_
          have h33 := h31 c30
          refine am_wh 10 (pc1 := 33) (lv1 := [(6, .int (a6 + 1)), (4, .int 2), (7, .int 1), (0, .ref 32), (1, .int a1), (3, .int a3), (5, .int a5)]) (st1 := []) rfl ?_
          exact am_wm h33 ⟨rfl, rfl, rfl, rfl, rfl, rfl, trivial⟩
        · refine am_wb2 rfl true (zt_ne (zq_a _) (zq_add (by decide) (zq_a _)) (zr_t _) o28 c30) rfl ?_
          have h34 := h32 c30
          refine am_wh 8 (pc1 := 33) (lv1 := [(6, .int (a6 + 1)), (4, .int a4), (7, .int 0), (0, .ref 32), (1, .int a1), (3, .int a3), (5, .int a5)]) (st1 := []) rfl ?_
          exact am_wm h34 ⟨rfl, rfl, rfl, rfl, rfl, rfl, trivial⟩
  · refine am_wb2 rfl true (zt_ge (zq_a _) (zq_a _) (zr_t _) (zr_t _) c1) rfl ?_
    have h35 := h3 c1
    refine am_wh 2 (pc1 := 116) (lv1 := [(0, .ref 32), (1, .int a1), (3, .int a3), (4, .int a4), (5, .int a5), (6, .int a6)]) (st1 := [.int 5, .int a4]) rfl ?_
    obtain ⟨h37, h38⟩ := h35
    by_cases c36 : a4.toInt = 5
    · refine am_wb2 rfl false (zn_ne (zq_a _) (by decide) (zr_t _) ⟨by decide, by decide⟩ c36) rfl ?_
      have h39 := h37 c36
      refine am_wh 4 (pc1 := 125) (lv1 := [(0, .ref 32), (1, .int a1), (3, .int a3), (4, .int a4), (5, .int a5), (6, .int a6)]) (st1 := [.int a1, .ref 53, .ref 32]) rfl ?_
      obtain ⟨o40, h41⟩ := h39
      refine zw_li (l := (s.2 51)) (i := a1.toInt) rfl rfl (zq_a _) o40 ?_
      refine am_wc rfl rfl rfl ?_
      refine am_ww h41 ?_
      rintro _ _ ⟨v44, s42, rfl, rfl, h43⟩
      show am_W _ _ 181 129 [(0, .ref 32), (1, .int a1), (3, .int a3), (4, .int a4), (5, .int a5), (6, .int a6)] [.int v44] (zH s42) _
      obtain ⟨h46, h47⟩ := h43
      by_cases c45 : v44.toInt = 0
      · refine am_wb1 rfl true (zt_eq (zq_a _) (by decide) (zr_t _) ⟨by decide, by decide⟩ c45) rfl ?_
        have h48 := h46 c45
        refine am_wh 11 (pc1 := 154) (lv1 := [(4, .int 6), (0, .ref 32), (1, .int a1), (3, .int a3), (5, .int a5), (6, .int a6)]) (st1 := [.int ((6 + (8 * a3)) + (512 * a5))]) rfl ?_
        refine am_wr rfl rfl rfl ?_
        exact ⟨_, _, rfl, rfl, h48⟩
      · refine am_wb1 rfl false (zn_eq (zq_a _) (by decide) (zr_t _) ⟨by decide, by decide⟩ c45) rfl ?_
        have h49 := h47 c45
        refine am_wh 12 (pc1 := 154) (lv1 := [(4, .int 5), (0, .ref 32), (1, .int a1), (3, .int a3), (5, .int a5), (6, .int a6)]) (st1 := [.int ((5 + (8 * a3)) + (512 * a5))]) rfl ?_
        refine am_wr rfl rfl rfl ?_
        exact ⟨_, _, rfl, rfl, h49⟩
    · refine am_wb2 rfl true (zt_ne (zq_a _) (by decide) (zr_t _) ⟨by decide, by decide⟩ c36) rfl ?_
      have h50 := h38 c36
      refine am_wh 9 (pc1 := 154) (lv1 := [(0, .ref 32), (1, .int a1), (3, .int a3), (4, .int a4), (5, .int a5), (6, .int a6)]) (st1 := [.int ((a4 + (8 * a3)) + (512 * a5))]) rfl ?_
      refine am_wr rfl rfl rfl ?_
      exact ⟨_, _, rfl, rfl, h50⟩
set_option maxRecDepth 100000 in
theorem vc_182_0 (xs : Option (List Int32)) (d : Nat) (s : zS)  (Q : Int32 → zS → Prop) (h : zWv xs d 136 0 [(0, .ref 32)] s (fun s1 => ((s1.1 28).toInt = 0 → (((s1.1 34).toInt = 0 → (Q 1 s1)) ∧ (¬ (s1.1 34).toInt = 0 → (Q 0 s1)))) ∧ (¬ (s1.1 28).toInt = 0 → (Q 0 s1)))) : zWi xs (d + 1) 182 0 [(0, .ref 32)] s Q := by
  unfold zWi
  refine am_wh 1 (pc1 := 1) (lv1 := [(0, .ref 32)]) (st1 := [.ref 32]) rfl ?_
  refine am_wc rfl rfl rfl ?_
  refine am_ww h ?_
  rintro _ _ ⟨s1, rfl, rfl, h2⟩
  show am_W _ _ 182 4 [(0, .ref 32)] [] (zH s1) _
  refine am_wh 2 (pc1 := 8) (lv1 := [(0, .ref 32)]) (st1 := [.int (s1.1 28)]) rfl ?_
  obtain ⟨h4, h5⟩ := h2
  by_cases c3 : (s1.1 28).toInt = 0
  · refine am_wb1 rfl false (zn_ne (zq_a _) (by decide) (zr_t _) ⟨by decide, by decide⟩ c3) rfl ?_
    have h6 := h4 c3
    refine am_wh 2 (pc1 := 15) (lv1 := [(0, .ref 32)]) (st1 := [.int (s1.1 34)]) rfl ?_
    obtain ⟨h8, h9⟩ := h6
    by_cases c7 : (s1.1 34).toInt = 0
    · refine am_wb1 rfl false (zn_ne (zq_a _) (by decide) (zr_t _) ⟨by decide, by decide⟩ c7) rfl ?_
      have h10 := h8 c7
      refine am_wh 2 (pc1 := 23) (lv1 := [(0, .ref 32)]) (st1 := [.int 1]) rfl ?_
      refine am_wr rfl rfl rfl ?_
      exact ⟨_, _, rfl, rfl, h10⟩
    · refine am_wb1 rfl true (zt_ne (zq_a _) (by decide) (zr_t _) ⟨by decide, by decide⟩ c7) rfl ?_
      have h11 := h9 c7
      refine am_wh 1 (pc1 := 23) (lv1 := [(0, .ref 32)]) (st1 := [.int 0]) rfl ?_
      refine am_wr rfl rfl rfl ?_
      exact ⟨_, _, rfl, rfl, h11⟩
  · refine am_wb1 rfl true (zt_ne (zq_a _) (by decide) (zr_t _) ⟨by decide, by decide⟩ c3) rfl ?_
    have h12 := h5 c3
    refine am_wh 1 (pc1 := 23) (lv1 := [(0, .ref 32)]) (st1 := [.int 0]) rfl ?_
    refine am_wr rfl rfl rfl ?_
    exact ⟨_, _, rfl, rfl, h12⟩
set_option maxRecDepth 100000 in
theorem vc_183_0 (xs : Option (List Int32)) (d : Nat) (s : zS) (a1 : Int32) (Q : Int32 → zS → Prop) (h : zWi xs d 182 0 [(0, .ref 32)] s (fun v3 s1 => zWi xs (d + 1) 183 7 [(0, .ref 32), (1, .int a1), (2, .int v3), (3, .int 0)] s1 Q)) : zWi xs (d + 1) 183 0 [(0, .ref 32), (1, .int a1)] s Q := by
  unfold zWi
  refine am_wh 1 (pc1 := 1) (lv1 := [(0, .ref 32), (1, .int a1)]) (st1 := [.ref 32]) rfl ?_
  refine am_wc rfl rfl rfl ?_
  refine am_ww h ?_
  rintro _ _ ⟨v3, s1, rfl, rfl, h2⟩
  show am_W _ _ 183 4 [(0, .ref 32), (1, .int a1)] [.int v3] (zH s1) _
  refine am_wh 3 (pc1 := 7) (lv1 := [(3, .int 0), (2, .int v3), (0, .ref 32), (1, .int a1)]) (st1 := []) rfl ?_
  exact am_wm h2 ⟨rfl, rfl, rfl, rfl, trivial⟩
set_option maxRecDepth 100000 in
theorem vc_183_7 (xs : Option (List Int32)) (d : Nat) (s : zS) (a1 : Int32) (a2 : Int32) (a3 : Int32) (Q : Int32 → zS → Prop) (h : (a3.toInt < (s.1 32).toInt → ((a2.toInt = 0 → (Q (-1) s)) ∧ (¬ a2.toInt = 0 → (zX (s.2 51) a3.toInt ∧ zX (s.2 35) (zg (s.2 51) a3.toInt).toInt ∧ (a1.toInt < (zg (s.2 35) (zg (s.2 51) a3.toInt).toInt).toInt → (zWi xs (d + 1) 183 7 [(0, .ref 32), (1, .int a1), (2, .int a2), (3, .int (a3 + 1))] s Q)) ∧ (¬ a1.toInt < (zg (s.2 35) (zg (s.2 51) a3.toInt).toInt).toInt → (zX (s.2 36) (zg (s.2 51) a3.toInt).toInt ∧ (a1.toInt < (zg (s.2 36) (zg (s.2 51) a3.toInt).toInt).toInt → (Q a3 s)) ∧ (¬ a1.toInt < (zg (s.2 36) (zg (s.2 51) a3.toInt).toInt).toInt → (zWi xs (d + 1) 183 7 [(0, .ref 32), (1, .int a1), (2, .int a2), (3, .int (a3 + 1))] s Q)))))))) ∧ (¬ a3.toInt < (s.1 32).toInt → (Q (-1) s))) : zWi xs (d + 1) 183 7 [(0, .ref 32), (1, .int a1), (2, .int a2), (3, .int a3)] s Q := by
  unfold zWi
  refine am_wh 3 (pc1 := 12) (lv1 := [(0, .ref 32), (1, .int a1), (2, .int a2), (3, .int a3)]) (st1 := [.int (s.1 32), .int a3]) rfl ?_
  obtain ⟨h2, h3⟩ := h
  by_cases c1 : a3.toInt < (s.1 32).toInt
  · refine am_wb2 rfl false (zn_ge (zq_a _) (zq_a _) (zr_t _) (zr_t _) c1) rfl ?_
    have h4 := h2 c1
    refine am_wh 1 (pc1 := 16) (lv1 := [(0, .ref 32), (1, .int a1), (2, .int a2), (3, .int a3)]) (st1 := [.int a2]) rfl ?_
    obtain ⟨h6, h7⟩ := h4
    by_cases c5 : a2.toInt = 0
    · refine am_wb1 rfl true (zt_eq (zq_a _) (by decide) (zr_t _) ⟨by decide, by decide⟩ c5) rfl ?_
      have h8 := h6 c5
      refine am_wh 1 (pc1 := 58) (lv1 := [(0, .ref 32), (1, .int a1), (2, .int a2), (3, .int a3)]) (st1 := [.int (-1)]) rfl ?_
      refine am_wr rfl rfl rfl ?_
      exact ⟨_, _, rfl, rfl, h8⟩
    · refine am_wb1 rfl false (zn_eq (zq_a _) (by decide) (zr_t _) ⟨by decide, by decide⟩ c5) rfl ?_
      have h9 := h7 c5
      refine am_wh 6 (pc1 := 29) (lv1 := [(0, .ref 32), (1, .int a1), (2, .int a2), (3, .int a3)]) (st1 := [.int a3, .ref 53, .ref 37, .int a1]) rfl ?_
      obtain ⟨o10, h11⟩ := h9
      refine zw_li (l := (s.2 51)) (i := a3.toInt) rfl rfl (zq_a _) o10 ?_
      obtain ⟨o12, h13⟩ := h11
      refine zw_li (l := (s.2 35)) (i := (zg (s.2 51) a3.toInt).toInt) rfl rfl (zq_a _) o12 ?_
      obtain ⟨h15, h16⟩ := h13
      by_cases c14 : a1.toInt < (zg (s.2 35) (zg (s.2 51) a3.toInt).toInt).toInt
      · refine am_wb2 rfl true (zt_lt (zq_a _) (zq_a _) (zr_t _) (zr_t _) c14) rfl ?_
        have h17 := h15 c14
        refine am_wh 2 (pc1 := 7) (lv1 := [(3, .int (a3 + 1)), (0, .ref 32), (1, .int a1), (2, .int a2)]) (st1 := []) rfl ?_
        exact am_wm h17 ⟨rfl, rfl, rfl, rfl, trivial⟩
      · refine am_wb2 rfl false (zn_lt (zq_a _) (zq_a _) (zr_t _) (zr_t _) c14) rfl ?_
        have h18 := h16 c14
        refine am_wh 6 (pc1 := 44) (lv1 := [(0, .ref 32), (1, .int a1), (2, .int a2), (3, .int a3)]) (st1 := [.int a3, .ref 53, .ref 38, .int a1]) rfl ?_
        refine zw_li (l := (s.2 51)) (i := a3.toInt) rfl rfl (zq_a _) o10 ?_
        obtain ⟨o19, h20⟩ := h18
        refine zw_li (l := (s.2 36)) (i := (zg (s.2 51) a3.toInt).toInt) rfl rfl (zq_a _) o19 ?_
        obtain ⟨h22, h23⟩ := h20
        by_cases c21 : a1.toInt < (zg (s.2 36) (zg (s.2 51) a3.toInt).toInt).toInt
        · refine am_wb2 rfl false (zn_ge (zq_a _) (zq_a _) (zr_t _) (zr_t _) c21) rfl ?_
          have h24 := h22 c21
          refine am_wh 1 (pc1 := 50) (lv1 := [(0, .ref 32), (1, .int a1), (2, .int a2), (3, .int a3)]) (st1 := [.int a3]) rfl ?_
          refine am_wr rfl rfl rfl ?_
          exact ⟨_, _, rfl, rfl, h24⟩
        · refine am_wb2 rfl true (zt_ge (zq_a _) (zq_a _) (zr_t _) (zr_t _) c21) rfl ?_
          have h25 := h23 c21
          refine am_wh 2 (pc1 := 7) (lv1 := [(3, .int (a3 + 1)), (0, .ref 32), (1, .int a1), (2, .int a2)]) (st1 := []) rfl ?_
          exact am_wm h25 ⟨rfl, rfl, rfl, rfl, trivial⟩
  · refine am_wb2 rfl true (zt_ge (zq_a _) (zq_a _) (zr_t _) (zr_t _) c1) rfl ?_
    have h26 := h3 c1
    refine am_wh 1 (pc1 := 58) (lv1 := [(0, .ref 32), (1, .int a1), (2, .int a2), (3, .int a3)]) (st1 := [.int (-1)]) rfl ?_
    refine am_wr rfl rfl rfl ?_
    exact ⟨_, _, rfl, rfl, h26⟩
set_option maxRecDepth 100000 in
theorem vc_184_0 (xs : Option (List Int32)) (d : Nat) (s : zS) (a1 : Int32) (a2 : Int32) (Q : Int32 → zS → Prop) (h : zX (s.2 51) a1.toInt ∧ zX (s.2 51) a2.toInt ∧ zWi xs d 170 0 [(0, .ref 32), (1, .int (zg (s.2 51) a1.toInt)), (2, .int (zg (s.2 51) a2.toInt))] s (fun v7 s5 => (v7.toInt = 0 → (Q 0 s5)) ∧ (¬ v7.toInt = 0 → (zWi xs d 179 0 [(0, .ref 32), (1, .int a1)] s5 (fun v15 s13 => zWi xs d 179 0 [(0, .ref 32), (1, .int a2)] s13 (fun v18 s16 => ((v15 - v15 / 64 * 64).toInt = (v18 - v18 / 64 * 64).toInt → (Q 1 s16)) ∧ (¬ (v15 - v15 / 64 * 64).toInt = (v18 - v18 / 64 * 64).toInt → (Q 0 s16)))))))) : zWi xs (d + 1) 184 0 [(0, .ref 32), (1, .int a1), (2, .int a2)] s Q := by
  unfold zWi
  refine am_wh 4 (pc1 := 6) (lv1 := [(0, .ref 32), (1, .int a1), (2, .int a2)]) (st1 := [.int a1, .ref 53, .ref 32]) rfl ?_
  obtain ⟨o1, h2⟩ := h
  refine zw_li (l := (s.2 51)) (i := a1.toInt) rfl rfl (zq_a _) o1 ?_
  refine am_wh 3 (pc1 := 12) (lv1 := [(0, .ref 32), (1, .int a1), (2, .int a2)]) (st1 := [.int a2, .ref 53, .int (zg (s.2 51) a1.toInt), .ref 32]) rfl ?_
  obtain ⟨o3, h4⟩ := h2
  refine zw_li (l := (s.2 51)) (i := a2.toInt) rfl rfl (zq_a _) o3 ?_
  refine am_wc rfl rfl rfl ?_
  refine am_ww h4 ?_
  rintro _ _ ⟨v7, s5, rfl, rfl, h6⟩
  show am_W _ _ 184 16 [(0, .ref 32), (1, .int a1), (2, .int a2)] [.int v7] (zH s5) _
  obtain ⟨h9, h10⟩ := h6
  by_cases c8 : v7.toInt = 0
  · refine am_wb1 rfl true (zt_eq (zq_a _) (by decide) (zr_t _) ⟨by decide, by decide⟩ c8) rfl ?_
    have h11 := h9 c8
    refine am_wh 1 (pc1 := 43) (lv1 := [(0, .ref 32), (1, .int a1), (2, .int a2)]) (st1 := [.int 0]) rfl ?_
    refine am_wr rfl rfl rfl ?_
    exact ⟨_, _, rfl, rfl, h11⟩
  · refine am_wb1 rfl false (zn_eq (zq_a _) (by decide) (zr_t _) ⟨by decide, by decide⟩ c8) rfl ?_
    have h12 := h10 c8
    refine am_wh 2 (pc1 := 21) (lv1 := [(0, .ref 32), (1, .int a1), (2, .int a2)]) (st1 := [.int a1, .ref 32]) rfl ?_
    refine am_wc rfl rfl rfl ?_
    refine am_ww h12 ?_
    rintro _ _ ⟨v15, s13, rfl, rfl, h14⟩
    show am_W _ _ 184 24 [(0, .ref 32), (1, .int a1), (2, .int a2)] [.int v15] (zH s13) _
    refine am_wh 4 (pc1 := 29) (lv1 := [(0, .ref 32), (1, .int a1), (2, .int a2)]) (st1 := [.int a2, .ref 32, .int (v15 - v15 / 64 * 64)]) rfl ?_
    refine am_wc rfl rfl rfl ?_
    refine am_ww h14 ?_
    rintro _ _ ⟨v18, s16, rfl, rfl, h17⟩
    show am_W _ _ 184 32 [(0, .ref 32), (1, .int a1), (2, .int a2)] [.int v18, .int (v15 - v15 / 64 * 64)] (zH s16) _
    refine am_wh 2 (pc1 := 35) (lv1 := [(0, .ref 32), (1, .int a1), (2, .int a2)]) (st1 := [.int (v18 - v18 / 64 * 64), .int (v15 - v15 / 64 * 64)]) rfl ?_
    obtain ⟨h20, h21⟩ := h17
    by_cases c19 : (v15 - v15 / 64 * 64).toInt = (v18 - v18 / 64 * 64).toInt
    · refine am_wb2 rfl false (zn_ne (zq_a _) (zq_a _) (zr_t _) (zr_t _) c19) rfl ?_
      have h22 := h20 c19
      refine am_wh 2 (pc1 := 43) (lv1 := [(0, .ref 32), (1, .int a1), (2, .int a2)]) (st1 := [.int 1]) rfl ?_
      refine am_wr rfl rfl rfl ?_
      exact ⟨_, _, rfl, rfl, h22⟩
    · refine am_wb2 rfl true (zt_ne (zq_a _) (zq_a _) (zr_t _) (zr_t _) c19) rfl ?_
      have h23 := h21 c19
      refine am_wh 1 (pc1 := 43) (lv1 := [(0, .ref 32), (1, .int a1), (2, .int a2)]) (st1 := [.int 0]) rfl ?_
      refine am_wr rfl rfl rfl ?_
      exact ⟨_, _, rfl, rfl, h23⟩
set_option maxRecDepth 100000 in
theorem vc_185_0 (xs : Option (List Int32)) (d : Nat) (s : zS)  (Q : Int32 → zS → Prop) (h : zWv xs d 136 0 [(0, .ref 32)] s (fun s1 => Q (s1.1 23) s1)) : zWi xs (d + 1) 185 0 [(0, .ref 32)] s Q := by
  unfold zWi
  refine am_wh 1 (pc1 := 1) (lv1 := [(0, .ref 32)]) (st1 := [.ref 32]) rfl ?_
  refine am_wc rfl rfl rfl ?_
  refine am_ww h ?_
  rintro _ _ ⟨s1, rfl, rfl, h2⟩
  show am_W _ _ 185 4 [(0, .ref 32)] [] (zH s1) _
  refine am_wh 2 (pc1 := 8) (lv1 := [(0, .ref 32)]) (st1 := [.int (s1.1 23)]) rfl ?_
  refine am_wr rfl rfl rfl ?_
  exact ⟨_, _, rfl, rfl, h2⟩
set_option maxRecDepth 100000 in
theorem vc_186_0 (xs : Option (List Int32)) (d : Nat) (s : zS) (a1 : Int32) (Q : Int32 → zS → Prop) (h : zWv xs d 136 0 [(0, .ref 32)] s (fun s1 => (a1.toInt < 0 → (Q (-1) s1)) ∧ (¬ a1.toInt < 0 → ((a1.toInt < (s1.1 23).toInt → (zX (s1.2 34) a1.toInt ∧ zX (s1.2 35) a1.toInt ∧ zX (s1.2 36) a1.toInt ∧ Q (((zg (s1.2 34) a1.toInt) + (16 * (zg (s1.2 35) a1.toInt))) + (4096 * (zg (s1.2 36) a1.toInt))) s1)) ∧ (¬ a1.toInt < (s1.1 23).toInt → (Q (-1) s1)))))) : zWi xs (d + 1) 186 0 [(0, .ref 32), (1, .int a1)] s Q := by
  unfold zWi
  refine am_wh 1 (pc1 := 1) (lv1 := [(0, .ref 32), (1, .int a1)]) (st1 := [.ref 32]) rfl ?_
  refine am_wc rfl rfl rfl ?_
  refine am_ww h ?_
  rintro _ _ ⟨s1, rfl, rfl, h2⟩
  show am_W _ _ 186 4 [(0, .ref 32), (1, .int a1)] [] (zH s1) _
  refine am_wh 1 (pc1 := 5) (lv1 := [(0, .ref 32), (1, .int a1)]) (st1 := [.int a1]) rfl ?_
  obtain ⟨h4, h5⟩ := h2
  by_cases c3 : a1.toInt < 0
  · refine am_wb1 rfl true (zt_lt (zq_a _) (by decide) (zr_t _) ⟨by decide, by decide⟩ c3) rfl ?_
    have h6 := h4 c3
    refine am_wh 2 (pc1 := 47) (lv1 := [(0, .ref 32), (1, .int a1)]) (st1 := [.int (-1)]) rfl ?_
    refine am_wr rfl rfl rfl ?_
    exact ⟨_, _, rfl, rfl, h6⟩
  · refine am_wb1 rfl false (zn_lt (zq_a _) (by decide) (zr_t _) ⟨by decide, by decide⟩ c3) rfl ?_
    have h7 := h5 c3
    refine am_wh 3 (pc1 := 13) (lv1 := [(0, .ref 32), (1, .int a1)]) (st1 := [.int (s1.1 23), .int a1]) rfl ?_
    obtain ⟨h9, h10⟩ := h7
    by_cases c8 : a1.toInt < (s1.1 23).toInt
    · refine am_wb2 rfl true (zt_lt (zq_a _) (zq_a _) (zr_t _) (zr_t _) c8) rfl ?_
      have h11 := h9 c8
      refine am_wh 3 (pc1 := 25) (lv1 := [(0, .ref 32), (1, .int a1)]) (st1 := [.int a1, .ref 36]) rfl ?_
      obtain ⟨o12, h13⟩ := h11
      refine zw_li (l := (s1.2 34)) (i := a1.toInt) rfl rfl (zq_a _) o12 ?_
      refine am_wh 4 (pc1 := 33) (lv1 := [(0, .ref 32), (1, .int a1)]) (st1 := [.int a1, .ref 37, .int 16, .int (zg (s1.2 34) a1.toInt)]) rfl ?_
      obtain ⟨o14, h15⟩ := h13
      refine zw_li (l := (s1.2 35)) (i := a1.toInt) rfl rfl (zq_a _) o14 ?_
      refine am_wh 6 (pc1 := 44) (lv1 := [(0, .ref 32), (1, .int a1)]) (st1 := [.int a1, .ref 38, .int 4096, .int ((zg (s1.2 34) a1.toInt) + (16 * (zg (s1.2 35) a1.toInt)))]) rfl ?_
      obtain ⟨o16, h17⟩ := h15
      refine zw_li (l := (s1.2 36)) (i := a1.toInt) rfl rfl (zq_a _) o16 ?_
      refine am_wh 2 (pc1 := 47) (lv1 := [(0, .ref 32), (1, .int a1)]) (st1 := [.int (((zg (s1.2 34) a1.toInt) + (16 * (zg (s1.2 35) a1.toInt))) + (4096 * (zg (s1.2 36) a1.toInt)))]) rfl ?_
      refine am_wr rfl rfl rfl ?_
      exact ⟨_, _, rfl, rfl, h17⟩
    · refine am_wb2 rfl false (zn_lt (zq_a _) (zq_a _) (zr_t _) (zr_t _) c8) rfl ?_
      have h18 := h10 c8
      refine am_wh 2 (pc1 := 47) (lv1 := [(0, .ref 32), (1, .int a1)]) (st1 := [.int (-1)]) rfl ?_
      refine am_wr rfl rfl rfl ?_
      exact ⟨_, _, rfl, rfl, h18⟩
set_option maxRecDepth 100000 in
theorem vc_187_0 (xs : Option (List Int32)) (d : Nat) (s : zS)  (Q : Int32 → zS → Prop) (h : zWv xs d 136 0 [(0, .ref 32)] s (fun s1 => ((s1.1 28).toInt = 0 → (Q (s1.1 34) s1)) ∧ (¬ (s1.1 28).toInt = 0 → (Q (s1.1 28) s1)))) : zWi xs (d + 1) 187 0 [(0, .ref 32)] s Q := by
  unfold zWi
  refine am_wh 1 (pc1 := 1) (lv1 := [(0, .ref 32)]) (st1 := [.ref 32]) rfl ?_
  refine am_wc rfl rfl rfl ?_
  refine am_ww h ?_
  rintro _ _ ⟨s1, rfl, rfl, h2⟩
  show am_W _ _ 187 4 [(0, .ref 32)] [] (zH s1) _
  refine am_wh 2 (pc1 := 8) (lv1 := [(0, .ref 32)]) (st1 := [.int (s1.1 28)]) rfl ?_
  obtain ⟨h4, h5⟩ := h2
  by_cases c3 : (s1.1 28).toInt = 0
  · refine am_wb1 rfl true (zt_eq (zq_a _) (by decide) (zr_t _) ⟨by decide, by decide⟩ c3) rfl ?_
    have h6 := h4 c3
    refine am_wh 2 (pc1 := 22) (lv1 := [(0, .ref 32)]) (st1 := [.int (s1.1 34)]) rfl ?_
    refine am_wr rfl rfl rfl ?_
    exact ⟨_, _, rfl, rfl, h6⟩
  · refine am_wb1 rfl false (zn_eq (zq_a _) (by decide) (zr_t _) ⟨by decide, by decide⟩ c3) rfl ?_
    have h7 := h5 c3
    refine am_wh 3 (pc1 := 22) (lv1 := [(0, .ref 32)]) (st1 := [.int (s1.1 28)]) rfl ?_
    refine am_wr rfl rfl rfl ?_
    exact ⟨_, _, rfl, rfl, h7⟩
set_option maxRecDepth 100000 in
theorem vc_188_0 (xs : Option (List Int32)) (d : Nat) (s : zS)  (Q : Int32 → zS → Prop) (h : zWv xs d 136 0 [(0, .ref 32)] s (fun s1 => ((s1.1 28).toInt = 0 → (((s1.1 34).toInt = 0 → (Q (-1) s1)) ∧ (¬ (s1.1 34).toInt = 0 → (zX (s1.2 35) (s1.1 33).toInt ∧ Q (zg (s1.2 35) (s1.1 33).toInt) s1)))) ∧ (¬ (s1.1 28).toInt = 0 → (zX (s1.2 35) (s1.1 29).toInt ∧ Q (zg (s1.2 35) (s1.1 29).toInt) s1)))) : zWi xs (d + 1) 188 0 [(0, .ref 32)] s Q := by
  unfold zWi
  refine am_wh 1 (pc1 := 1) (lv1 := [(0, .ref 32)]) (st1 := [.ref 32]) rfl ?_
  refine am_wc rfl rfl rfl ?_
  refine am_ww h ?_
  rintro _ _ ⟨s1, rfl, rfl, h2⟩
  show am_W _ _ 188 4 [(0, .ref 32)] [] (zH s1) _
  refine am_wh 2 (pc1 := 8) (lv1 := [(0, .ref 32)]) (st1 := [.int (s1.1 28)]) rfl ?_
  obtain ⟨h4, h5⟩ := h2
  by_cases c3 : (s1.1 28).toInt = 0
  · refine am_wb1 rfl true (zt_eq (zq_a _) (by decide) (zr_t _) ⟨by decide, by decide⟩ c3) rfl ?_
    have h6 := h4 c3
    refine am_wh 2 (pc1 := 27) (lv1 := [(0, .ref 32)]) (st1 := [.int (s1.1 34)]) rfl ?_
    obtain ⟨h8, h9⟩ := h6
    by_cases c7 : (s1.1 34).toInt = 0
    · refine am_wb1 rfl true (zt_eq (zq_a _) (by decide) (zr_t _) ⟨by decide, by decide⟩ c7) rfl ?_
      have h10 := h8 c7
      refine am_wh 1 (pc1 := 43) (lv1 := [(0, .ref 32)]) (st1 := [.int (-1)]) rfl ?_
      refine am_wr rfl rfl rfl ?_
      exact ⟨_, _, rfl, rfl, h10⟩
    · refine am_wb1 rfl false (zn_eq (zq_a _) (by decide) (zr_t _) ⟨by decide, by decide⟩ c7) rfl ?_
      have h11 := h9 c7
      refine am_wh 4 (pc1 := 38) (lv1 := [(0, .ref 32)]) (st1 := [.int (s1.1 33), .ref 37]) rfl ?_
      obtain ⟨o12, h13⟩ := h11
      refine zw_li (l := (s1.2 35)) (i := (s1.1 33).toInt) rfl rfl (zq_a _) o12 ?_
      refine am_wh 1 (pc1 := 43) (lv1 := [(0, .ref 32)]) (st1 := [.int (zg (s1.2 35) (s1.1 33).toInt)]) rfl ?_
      refine am_wr rfl rfl rfl ?_
      exact ⟨_, _, rfl, rfl, h13⟩
  · refine am_wb1 rfl false (zn_eq (zq_a _) (by decide) (zr_t _) ⟨by decide, by decide⟩ c3) rfl ?_
    have h14 := h5 c3
    refine am_wh 4 (pc1 := 19) (lv1 := [(0, .ref 32)]) (st1 := [.int (s1.1 29), .ref 37]) rfl ?_
    obtain ⟨o15, h16⟩ := h14
    refine zw_li (l := (s1.2 35)) (i := (s1.1 29).toInt) rfl rfl (zq_a _) o15 ?_
    refine am_wh 1 (pc1 := 43) (lv1 := [(0, .ref 32)]) (st1 := [.int (zg (s1.2 35) (s1.1 29).toInt)]) rfl ?_
    refine am_wr rfl rfl rfl ?_
    exact ⟨_, _, rfl, rfl, h16⟩
set_option maxRecDepth 100000 in
theorem vc_189_0 (xs : Option (List Int32)) (d : Nat) (s : zS) (a1 : Int32) (a2 : Int32) (Q : Int32 → zS → Prop) (h : zWv xs d 136 0 [(0, .ref 32)] s (fun s1 => zWi xs (d + 1) 189 9 [(0, .ref 32), (1, .int a1), (2, .int a2), (3, .int (-1)), (4, .int 0)] s1 Q)) : zWi xs (d + 1) 189 0 [(0, .ref 32), (1, .int a1), (2, .int a2)] s Q := by
  unfold zWi
  refine am_wh 1 (pc1 := 1) (lv1 := [(0, .ref 32), (1, .int a1), (2, .int a2)]) (st1 := [.ref 32]) rfl ?_
  refine am_wc rfl rfl rfl ?_
  refine am_ww h ?_
  rintro _ _ ⟨s1, rfl, rfl, h2⟩
  show am_W _ _ 189 4 [(0, .ref 32), (1, .int a1), (2, .int a2)] [] (zH s1) _
  refine am_wh 4 (pc1 := 9) (lv1 := [(4, .int 0), (3, .int (-1)), (0, .ref 32), (1, .int a1), (2, .int a2)]) (st1 := []) rfl ?_
  exact am_wm h2 ⟨rfl, rfl, rfl, rfl, rfl, trivial⟩
set_option maxRecDepth 100000 in
theorem vc_189_9 (xs : Option (List Int32)) (d : Nat) (s : zS) (a1 : Int32) (a2 : Int32) (a3 : Int32) (a4 : Int32) (Q : Int32 → zS → Prop) (h : (a4.toInt < (s.1 30).toInt → (((s.1 28).toInt = 0 → (zX (s.2 42) a4.toInt ∧ (a1.toInt < (zg (s.2 42) a4.toInt).toInt → (zWi xs (d + 1) 189 9 [(0, .ref 32), (1, .int a1), (2, .int a2), (3, .int a3), (4, .int (a4 + 1))] s Q)) ∧ (¬ a1.toInt < (zg (s.2 42) a4.toInt).toInt → (zX (s.2 43) a4.toInt ∧ (a1.toInt < (zg (s.2 43) a4.toInt).toInt → (zWi xs d 190 0 [(0, .ref 32), (1, .int a4), (2, .int a1)] s (fun v24 s22 => (v24.toInt = a2.toInt → (zX (s22.2 42) a4.toInt ∧ zX (s22.2 43) a4.toInt ∧ zWi xs (d + 1) 189 9 [(0, .ref 32), (1, .int a1), (2, .int a2), (3, .int ((zg (s22.2 42) a4.toInt) + (256 * (zg (s22.2 43) a4.toInt)))), (4, .int (a4 + 1))] s22 Q)) ∧ (¬ v24.toInt = a2.toInt → (zWi xs (d + 1) 189 9 [(0, .ref 32), (1, .int a1), (2, .int a2), (3, .int a3), (4, .int (a4 + 1))] s22 Q))))) ∧ (¬ a1.toInt < (zg (s.2 43) a4.toInt).toInt → (zWi xs (d + 1) 189 9 [(0, .ref 32), (1, .int a1), (2, .int a2), (3, .int a3), (4, .int (a4 + 1))] s Q)))))) ∧ (¬ (s.1 28).toInt = 0 → (Q a3 s)))) ∧ (¬ a4.toInt < (s.1 30).toInt → (Q a3 s))) : zWi xs (d + 1) 189 9 [(0, .ref 32), (1, .int a1), (2, .int a2), (3, .int a3), (4, .int a4)] s Q := by
  unfold zWi
  refine am_wh 3 (pc1 := 15) (lv1 := [(0, .ref 32), (1, .int a1), (2, .int a2), (3, .int a3), (4, .int a4)]) (st1 := [.int (s.1 30), .int a4]) rfl ?_
  obtain ⟨h2, h3⟩ := h
  by_cases c1 : a4.toInt < (s.1 30).toInt
  · refine am_wb2 rfl false (zn_ge (zq_a _) (zq_a _) (zr_t _) (zr_t _) c1) rfl ?_
    have h4 := h2 c1
    refine am_wh 2 (pc1 := 22) (lv1 := [(0, .ref 32), (1, .int a1), (2, .int a2), (3, .int a3), (4, .int a4)]) (st1 := [.int (s.1 28)]) rfl ?_
    obtain ⟨h6, h7⟩ := h4
    by_cases c5 : (s.1 28).toInt = 0
    · refine am_wb1 rfl false (zn_ne (zq_a _) (by decide) (zr_t _) ⟨by decide, by decide⟩ c5) rfl ?_
      have h8 := h6 c5
      refine am_wh 3 (pc1 := 31) (lv1 := [(0, .ref 32), (1, .int a1), (2, .int a2), (3, .int a3), (4, .int a4)]) (st1 := [.int a4, .ref 44]) rfl ?_
      obtain ⟨o9, h10⟩ := h8
      refine zw_li (l := (s.2 42)) (i := a4.toInt) rfl rfl (zq_a _) o9 ?_
      refine am_wh 1 (pc1 := 33) (lv1 := [(0, .ref 32), (1, .int a1), (2, .int a2), (3, .int a3), (4, .int a4)]) (st1 := [.int a1, .int (zg (s.2 42) a4.toInt)]) rfl ?_
      obtain ⟨h12, h13⟩ := h10
      by_cases c11 : a1.toInt < (zg (s.2 42) a4.toInt).toInt
      · refine am_wb2 rfl true (zt_gt (zq_a _) (zq_a _) (zr_t _) (zr_t _) c11) rfl ?_
        have h14 := h12 c11
        refine am_wh 2 (pc1 := 9) (lv1 := [(4, .int (a4 + 1)), (0, .ref 32), (1, .int a1), (2, .int a2), (3, .int a3)]) (st1 := []) rfl ?_
        exact am_wm h14 ⟨rfl, rfl, rfl, rfl, rfl, trivial⟩
      · refine am_wb2 rfl false (zn_gt (zq_a _) (zq_a _) (zr_t _) (zr_t _) c11) rfl ?_
        have h15 := h13 c11
        refine am_wh 4 (pc1 := 43) (lv1 := [(0, .ref 32), (1, .int a1), (2, .int a2), (3, .int a3), (4, .int a4)]) (st1 := [.int a4, .ref 45, .int a1]) rfl ?_
        obtain ⟨o16, h17⟩ := h15
        refine zw_li (l := (s.2 43)) (i := a4.toInt) rfl rfl (zq_a _) o16 ?_
        obtain ⟨h19, h20⟩ := h17
        by_cases c18 : a1.toInt < (zg (s.2 43) a4.toInt).toInt
        · refine am_wb2 rfl false (zn_ge (zq_a _) (zq_a _) (zr_t _) (zr_t _) c18) rfl ?_
          have h21 := h19 c18
          refine am_wh 3 (pc1 := 51) (lv1 := [(0, .ref 32), (1, .int a1), (2, .int a2), (3, .int a3), (4, .int a4)]) (st1 := [.int a1, .int a4, .ref 32]) rfl ?_
          refine am_wc rfl rfl rfl ?_
          refine am_ww h21 ?_
          rintro _ _ ⟨v24, s22, rfl, rfl, h23⟩
          show am_W _ _ 189 54 [(0, .ref 32), (1, .int a1), (2, .int a2), (3, .int a3), (4, .int a4)] [.int v24] (zH s22) _
          refine am_wh 1 (pc1 := 55) (lv1 := [(0, .ref 32), (1, .int a1), (2, .int a2), (3, .int a3), (4, .int a4)]) (st1 := [.int a2, .int v24]) rfl ?_
          obtain ⟨h26, h27⟩ := h23
          by_cases c25 : v24.toInt = a2.toInt
          · refine am_wb2 rfl false (zn_ne (zq_a _) (zq_a _) (zr_t _) (zr_t _) c25) rfl ?_
            have h28 := h26 c25
            refine am_wh 3 (pc1 := 64) (lv1 := [(0, .ref 32), (1, .int a1), (2, .int a2), (3, .int a3), (4, .int a4)]) (st1 := [.int a4, .ref 44]) rfl ?_
            obtain ⟨o29, h30⟩ := h28
            refine zw_li (l := (s22.2 42)) (i := a4.toInt) rfl rfl (zq_a _) o29 ?_
            refine am_wh 4 (pc1 := 74) (lv1 := [(0, .ref 32), (1, .int a1), (2, .int a2), (3, .int a3), (4, .int a4)]) (st1 := [.int a4, .ref 45, .int 256, .int (zg (s22.2 42) a4.toInt)]) rfl ?_
            obtain ⟨o31, h32⟩ := h30
            refine zw_li (l := (s22.2 43)) (i := a4.toInt) rfl rfl (zq_a _) o31 ?_
            refine am_wh 5 (pc1 := 9) (lv1 := [(4, .int (a4 + 1)), (3, .int ((zg (s22.2 42) a4.toInt) + (256 * (zg (s22.2 43) a4.toInt)))), (0, .ref 32), (1, .int a1), (2, .int a2)]) (st1 := []) rfl ?_
            exact am_wm h32 ⟨rfl, rfl, rfl, rfl, rfl, trivial⟩
          · refine am_wb2 rfl true (zt_ne (zq_a _) (zq_a _) (zr_t _) (zr_t _) c25) rfl ?_
            have h33 := h27 c25
            refine am_wh 2 (pc1 := 9) (lv1 := [(4, .int (a4 + 1)), (0, .ref 32), (1, .int a1), (2, .int a2), (3, .int a3)]) (st1 := []) rfl ?_
            exact am_wm h33 ⟨rfl, rfl, rfl, rfl, rfl, trivial⟩
        · refine am_wb2 rfl true (zt_ge (zq_a _) (zq_a _) (zr_t _) (zr_t _) c18) rfl ?_
          have h34 := h20 c18
          refine am_wh 2 (pc1 := 9) (lv1 := [(4, .int (a4 + 1)), (0, .ref 32), (1, .int a1), (2, .int a2), (3, .int a3)]) (st1 := []) rfl ?_
          exact am_wm h34 ⟨rfl, rfl, rfl, rfl, rfl, trivial⟩
    · refine am_wb1 rfl true (zt_ne (zq_a _) (by decide) (zr_t _) ⟨by decide, by decide⟩ c5) rfl ?_
      have h35 := h7 c5
      refine am_wh 1 (pc1 := 85) (lv1 := [(0, .ref 32), (1, .int a1), (2, .int a2), (3, .int a3), (4, .int a4)]) (st1 := [.int a3]) rfl ?_
      refine am_wr rfl rfl rfl ?_
      exact ⟨_, _, rfl, rfl, h35⟩
  · refine am_wb2 rfl true (zt_ge (zq_a _) (zq_a _) (zr_t _) (zr_t _) c1) rfl ?_
    have h36 := h3 c1
    refine am_wh 1 (pc1 := 85) (lv1 := [(0, .ref 32), (1, .int a1), (2, .int a2), (3, .int a3), (4, .int a4)]) (st1 := [.int a3]) rfl ?_
    refine am_wr rfl rfl rfl ?_
    exact ⟨_, _, rfl, rfl, h36⟩
set_option maxRecDepth 100000 in
theorem vc_190_0 (xs : Option (List Int32)) (d : Nat) (s : zS) (a1 : Int32) (a2 : Int32) (Q : Int32 → zS → Prop) (h : zWi xs d 190 5 [(0, .ref 32), (1, .int a1), (2, .int a2), (3, .int 0), (4, .int 0)] s Q) : zWi xs d 190 0 [(0, .ref 32), (1, .int a1), (2, .int a2)] s Q := by
  unfold zWi
  refine am_wh 4 (pc1 := 5) (lv1 := [(4, .int 0), (3, .int 0), (0, .ref 32), (1, .int a1), (2, .int a2)]) (st1 := []) rfl ?_
  exact am_wm h ⟨rfl, rfl, rfl, rfl, rfl, trivial⟩
set_option maxRecDepth 100000 in
theorem vc_190_5 (xs : Option (List Int32)) (d : Nat) (s : zS) (a1 : Int32) (a2 : Int32) (a3 : Int32) (a4 : Int32) (Q : Int32 → zS → Prop) (h : (a4.toInt < (s.1 30).toInt → (zX (s.2 42) a4.toInt ∧ (a2.toInt < (zg (s.2 42) a4.toInt).toInt → (zWi xs d 190 80 [(0, .ref 32), (1, .int a1), (2, .int a2), (3, .int a3), (4, .int a4), (5, .int 0), (6, .int 0), (7, .int 0)] s Q)) ∧ (¬ a2.toInt < (zg (s.2 42) a4.toInt).toInt → (zX (s.2 43) a4.toInt ∧ (a2.toInt < (zg (s.2 43) a4.toInt).toInt → (zX (s.2 43) a1.toInt ∧ zX (s.2 42) a1.toInt ∧ zR ((zg (s.2 43) a4.toInt).toInt - (zg (s.2 42) a4.toInt).toInt) ∧ zR ((zg (s.2 43) a1.toInt).toInt - (zg (s.2 42) a1.toInt).toInt) ∧ (((zg (s.2 43) a4.toInt).toInt - (zg (s.2 42) a4.toInt).toInt) < ((zg (s.2 43) a1.toInt).toInt - (zg (s.2 42) a1.toInt).toInt) → (zWi xs d 190 80 [(0, .ref 32), (1, .int a1), (2, .int a2), (3, .int a3), (4, .int a4), (5, .int 1), (6, .int 0), (7, .int 0)] s Q)) ∧ (¬ ((zg (s.2 43) a4.toInt).toInt - (zg (s.2 42) a4.toInt).toInt) < ((zg (s.2 43) a1.toInt).toInt - (zg (s.2 42) a1.toInt).toInt) → (zWi xs d 190 80 [(0, .ref 32), (1, .int a1), (2, .int a2), (3, .int a3), (4, .int a4), (5, .int 0), (6, .int 0), (7, .int 0)] s Q)))) ∧ (¬ a2.toInt < (zg (s.2 43) a4.toInt).toInt → (zWi xs d 190 80 [(0, .ref 32), (1, .int a1), (2, .int a2), (3, .int a3), (4, .int a4), (5, .int 0), (6, .int 0), (7, .int 0)] s Q)))))) ∧ (¬ a4.toInt < (s.1 30).toInt → (Q a3 s))) : zWi xs d 190 5 [(0, .ref 32), (1, .int a1), (2, .int a2), (3, .int a3), (4, .int a4)] s Q := by
  unfold zWi
  refine am_wh 3 (pc1 := 11) (lv1 := [(0, .ref 32), (1, .int a1), (2, .int a2), (3, .int a3), (4, .int a4)]) (st1 := [.int (s.1 30), .int a4]) rfl ?_
  obtain ⟨h2, h3⟩ := h
  by_cases c1 : a4.toInt < (s.1 30).toInt
  · refine am_wb2 rfl false (zn_ge (zq_a _) (zq_a _) (zr_t _) (zr_t _) c1) rfl ?_
    have h4 := h2 c1
    refine am_wh 3 (pc1 := 20) (lv1 := [(0, .ref 32), (1, .int a1), (2, .int a2), (3, .int a3), (4, .int a4)]) (st1 := [.int a4, .ref 44]) rfl ?_
    obtain ⟨o5, h6⟩ := h4
    refine zw_li (l := (s.2 42)) (i := a4.toInt) rfl rfl (zq_a _) o5 ?_
    refine am_wh 1 (pc1 := 22) (lv1 := [(0, .ref 32), (1, .int a1), (2, .int a2), (3, .int a3), (4, .int a4)]) (st1 := [.int a2, .int (zg (s.2 42) a4.toInt)]) rfl ?_
    obtain ⟨h8, h9⟩ := h6
    by_cases c7 : a2.toInt < (zg (s.2 42) a4.toInt).toInt
    · refine am_wb2 rfl true (zt_gt (zq_a _) (zq_a _) (zr_t _) (zr_t _) c7) rfl ?_
      have h10 := h8 c7
      refine am_wh 6 (pc1 := 80) (lv1 := [(7, .int 0), (6, .int 0), (5, .int 0), (0, .ref 32), (1, .int a1), (2, .int a2), (3, .int a3), (4, .int a4)]) (st1 := []) rfl ?_
      exact am_wm h10 ⟨rfl, rfl, rfl, rfl, rfl, rfl, rfl, rfl, trivial⟩
    · refine am_wb2 rfl false (zn_gt (zq_a _) (zq_a _) (zr_t _) (zr_t _) c7) rfl ?_
      have h11 := h9 c7
      refine am_wh 4 (pc1 := 32) (lv1 := [(0, .ref 32), (1, .int a1), (2, .int a2), (3, .int a3), (4, .int a4)]) (st1 := [.int a4, .ref 45, .int a2]) rfl ?_
      obtain ⟨o12, h13⟩ := h11
      refine zw_li (l := (s.2 43)) (i := a4.toInt) rfl rfl (zq_a _) o12 ?_
      obtain ⟨h15, h16⟩ := h13
      by_cases c14 : a2.toInt < (zg (s.2 43) a4.toInt).toInt
      · refine am_wb2 rfl false (zn_ge (zq_a _) (zq_a _) (zr_t _) (zr_t _) c14) rfl ?_
        have h17 := h15 c14
        refine am_wh 3 (pc1 := 42) (lv1 := [(0, .ref 32), (1, .int a1), (2, .int a2), (3, .int a3), (4, .int a4)]) (st1 := [.int a4, .ref 45]) rfl ?_
        refine zw_li (l := (s.2 43)) (i := a4.toInt) rfl rfl (zq_a _) o12 ?_
        refine am_wh 3 (pc1 := 49) (lv1 := [(0, .ref 32), (1, .int a1), (2, .int a2), (3, .int a3), (4, .int a4)]) (st1 := [.int a4, .ref 44, .int (zg (s.2 43) a4.toInt)]) rfl ?_
        refine zw_li (l := (s.2 42)) (i := a4.toInt) rfl rfl (zq_a _) o5 ?_
        refine am_wh 4 (pc1 := 56) (lv1 := [(0, .ref 32), (1, .int a1), (2, .int a2), (3, .int a3), (4, .int a4)]) (st1 := [.int a1, .ref 45, .int ((zg (s.2 43) a4.toInt) - (zg (s.2 42) a4.toInt))]) rfl ?_
        obtain ⟨o18, h19⟩ := h17
        refine zw_li (l := (s.2 43)) (i := a1.toInt) rfl rfl (zq_a _) o18 ?_
        refine am_wh 3 (pc1 := 62) (lv1 := [(0, .ref 32), (1, .int a1), (2, .int a2), (3, .int a3), (4, .int a4)]) (st1 := [.int a1, .ref 44, .int (zg (s.2 43) a1.toInt), .int ((zg (s.2 43) a4.toInt) - (zg (s.2 42) a4.toInt))]) rfl ?_
        obtain ⟨o20, h21⟩ := h19
        refine zw_li (l := (s.2 42)) (i := a1.toInt) rfl rfl (zq_a _) o20 ?_
        refine am_wh 1 (pc1 := 64) (lv1 := [(0, .ref 32), (1, .int a1), (2, .int a2), (3, .int a3), (4, .int a4)]) (st1 := [.int ((zg (s.2 43) a1.toInt) - (zg (s.2 42) a1.toInt)), .int ((zg (s.2 43) a4.toInt) - (zg (s.2 42) a4.toInt))]) rfl ?_
        obtain ⟨o22, h23⟩ := h21
        obtain ⟨o24, h25⟩ := h23
        obtain ⟨h27, h28⟩ := h25
        by_cases c26 : ((zg (s.2 43) a4.toInt).toInt - (zg (s.2 42) a4.toInt).toInt) < ((zg (s.2 43) a1.toInt).toInt - (zg (s.2 42) a1.toInt).toInt)
        · refine am_wb2 rfl false (zn_ge (zq_sub (zq_a _) (zq_a _)) (zq_sub (zq_a _) (zq_a _)) o22 o24 c26) rfl ?_
          have h29 := h27 c26
          refine am_wh 7 (pc1 := 80) (lv1 := [(7, .int 0), (6, .int 0), (5, .int 1), (0, .ref 32), (1, .int a1), (2, .int a2), (3, .int a3), (4, .int a4)]) (st1 := []) rfl ?_
          exact am_wm h29 ⟨rfl, rfl, rfl, rfl, rfl, rfl, rfl, rfl, trivial⟩
        · refine am_wb2 rfl true (zt_ge (zq_sub (zq_a _) (zq_a _)) (zq_sub (zq_a _) (zq_a _)) o22 o24 c26) rfl ?_
          have h30 := h28 c26
          refine am_wh 6 (pc1 := 80) (lv1 := [(7, .int 0), (6, .int 0), (5, .int 0), (0, .ref 32), (1, .int a1), (2, .int a2), (3, .int a3), (4, .int a4)]) (st1 := []) rfl ?_
          exact am_wm h30 ⟨rfl, rfl, rfl, rfl, rfl, rfl, rfl, rfl, trivial⟩
      · refine am_wb2 rfl true (zt_ge (zq_a _) (zq_a _) (zr_t _) (zr_t _) c14) rfl ?_
        have h31 := h16 c14
        refine am_wh 6 (pc1 := 80) (lv1 := [(7, .int 0), (6, .int 0), (5, .int 0), (0, .ref 32), (1, .int a1), (2, .int a2), (3, .int a3), (4, .int a4)]) (st1 := []) rfl ?_
        exact am_wm h31 ⟨rfl, rfl, rfl, rfl, rfl, rfl, rfl, rfl, trivial⟩
  · refine am_wb2 rfl true (zt_ge (zq_a _) (zq_a _) (zr_t _) (zr_t _) c1) rfl ?_
    have h32 := h3 c1
    refine am_wh 1 (pc1 := 169) (lv1 := [(0, .ref 32), (1, .int a1), (2, .int a2), (3, .int a3), (4, .int a4)]) (st1 := [.int a3]) rfl ?_
    refine am_wr rfl rfl rfl ?_
    exact ⟨_, _, rfl, rfl, h32⟩
set_option maxRecDepth 100000 in
theorem vc_190_80 (xs : Option (List Int32)) (d : Nat) (s : zS) (a1 : Int32) (a2 : Int32) (a3 : Int32) (a4 : Int32) (a5 : Int32) (a6 : Int32) (a7 : Int32) (Q : Int32 → zS → Prop) (h : (a7.toInt < a4.toInt → ((a5.toInt = 0 → (zWi xs d 190 5 [(0, .ref 32), (1, .int a1), (2, .int a2), (3, .int a3), (4, .int (a4 + 1))] s Q)) ∧ (¬ a5.toInt = 0 → ((a6.toInt = 0 → (zX (s.2 42) a7.toInt ∧ zX (s.2 42) a4.toInt ∧ ((zg (s.2 42) a7.toInt).toInt = (zg (s.2 42) a4.toInt).toInt → (zX (s.2 43) a7.toInt ∧ zX (s.2 43) a4.toInt ∧ ((zg (s.2 43) a7.toInt).toInt = (zg (s.2 43) a4.toInt).toInt → (zWi xs d 190 80 [(0, .ref 32), (1, .int a1), (2, .int a2), (3, .int a3), (4, .int a4), (5, .int a5), (6, .int 1), (7, .int (a7 + 1))] s Q)) ∧ (¬ (zg (s.2 43) a7.toInt).toInt = (zg (s.2 43) a4.toInt).toInt → (zWi xs d 190 80 [(0, .ref 32), (1, .int a1), (2, .int a2), (3, .int a3), (4, .int a4), (5, .int a5), (6, .int 0), (7, .int (a7 + 1))] s Q)))) ∧ (¬ (zg (s.2 42) a7.toInt).toInt = (zg (s.2 42) a4.toInt).toInt → (zWi xs d 190 80 [(0, .ref 32), (1, .int a1), (2, .int a2), (3, .int a3), (4, .int a4), (5, .int a5), (6, .int 0), (7, .int (a7 + 1))] s Q)))) ∧ (¬ a6.toInt = 0 → (zWi xs d 190 5 [(0, .ref 32), (1, .int a1), (2, .int a2), (3, .int a3), (4, .int (a4 + 1))] s Q)))))) ∧ (¬ a7.toInt < a4.toInt → ((a5.toInt = 0 → (zWi xs d 190 5 [(0, .ref 32), (1, .int a1), (2, .int a2), (3, .int a3), (4, .int (a4 + 1))] s Q)) ∧ (¬ a5.toInt = 0 → ((a6.toInt = 0 → (zWi xs d 190 5 [(0, .ref 32), (1, .int a1), (2, .int a2), (3, .int (a3 + 1)), (4, .int (a4 + 1))] s Q)) ∧ (¬ a6.toInt = 0 → (zWi xs d 190 5 [(0, .ref 32), (1, .int a1), (2, .int a2), (3, .int a3), (4, .int (a4 + 1))] s Q))))))) : zWi xs d 190 80 [(0, .ref 32), (1, .int a1), (2, .int a2), (3, .int a3), (4, .int a4), (5, .int a5), (6, .int a6), (7, .int a7)] s Q := by
  unfold zWi
  refine am_wh 2 (pc1 := 84) (lv1 := [(0, .ref 32), (1, .int a1), (2, .int a2), (3, .int a3), (4, .int a4), (5, .int a5), (6, .int a6), (7, .int a7)]) (st1 := [.int a4, .int a7]) rfl ?_
  obtain ⟨h2, h3⟩ := h
  by_cases c1 : a7.toInt < a4.toInt
  · refine am_wb2 rfl false (zn_ge (zq_a _) (zq_a _) (zr_t _) (zr_t _) c1) rfl ?_
    have h4 := h2 c1
    refine am_wh 1 (pc1 := 89) (lv1 := [(0, .ref 32), (1, .int a1), (2, .int a2), (3, .int a3), (4, .int a4), (5, .int a5), (6, .int a6), (7, .int a7)]) (st1 := [.int a5]) rfl ?_
    obtain ⟨h6, h7⟩ := h4
    by_cases c5 : a5.toInt = 0
    · refine am_wb1 rfl true (zt_eq (zq_a _) (by decide) (zr_t _) ⟨by decide, by decide⟩ c5) rfl ?_
      have h8 := h6 c5
      refine am_wh 1 (pc1 := 146) (lv1 := [(0, .ref 32), (1, .int a1), (2, .int a2), (3, .int a3), (4, .int a4), (5, .int a5), (6, .int a6), (7, .int a7)]) (st1 := [.int a5]) rfl ?_
      refine am_wb1 rfl true (zt_eq (zq_a _) (by decide) (zr_t _) ⟨by decide, by decide⟩ c5) rfl ?_
      refine am_wh 4 (pc1 := 5) (lv1 := [(4, .int (a4 + 1)), (3, .int a3), (0, .ref 32), (1, .int a1), (2, .int a2), (5, .int a5), (6, .int a6), (7, .int a7)]) (st1 := []) rfl ?_
      exact am_wm h8 ⟨rfl, rfl, rfl, rfl, rfl, trivial⟩
    · refine am_wb1 rfl false (zn_eq (zq_a _) (by decide) (zr_t _) ⟨by decide, by decide⟩ c5) rfl ?_
      have h9 := h7 c5
      refine am_wh 1 (pc1 := 94) (lv1 := [(0, .ref 32), (1, .int a1), (2, .int a2), (3, .int a3), (4, .int a4), (5, .int a5), (6, .int a6), (7, .int a7)]) (st1 := [.int a6]) rfl ?_
      obtain ⟨h11, h12⟩ := h9
      by_cases c10 : a6.toInt = 0
      · refine am_wb1 rfl false (zn_ne (zq_a _) (by decide) (zr_t _) ⟨by decide, by decide⟩ c10) rfl ?_
        have h13 := h11 c10
        refine am_wh 3 (pc1 := 103) (lv1 := [(0, .ref 32), (1, .int a1), (2, .int a2), (3, .int a3), (4, .int a4), (5, .int a5), (6, .int a6), (7, .int a7)]) (st1 := [.int a7, .ref 44]) rfl ?_
        obtain ⟨o14, h15⟩ := h13
        refine zw_li (l := (s.2 42)) (i := a7.toInt) rfl rfl (zq_a _) o14 ?_
        refine am_wh 3 (pc1 := 110) (lv1 := [(0, .ref 32), (1, .int a1), (2, .int a2), (3, .int a3), (4, .int a4), (5, .int a5), (6, .int a6), (7, .int a7)]) (st1 := [.int a4, .ref 44, .int (zg (s.2 42) a7.toInt)]) rfl ?_
        obtain ⟨o16, h17⟩ := h15
        refine zw_li (l := (s.2 42)) (i := a4.toInt) rfl rfl (zq_a _) o16 ?_
        obtain ⟨h19, h20⟩ := h17
        by_cases c18 : (zg (s.2 42) a7.toInt).toInt = (zg (s.2 42) a4.toInt).toInt
        · refine am_wb2 rfl false (zn_ne (zq_a _) (zq_a _) (zr_t _) (zr_t _) c18) rfl ?_
          have h21 := h19 c18
          refine am_wh 3 (pc1 := 120) (lv1 := [(0, .ref 32), (1, .int a1), (2, .int a2), (3, .int a3), (4, .int a4), (5, .int a5), (6, .int a6), (7, .int a7)]) (st1 := [.int a7, .ref 45]) rfl ?_
          obtain ⟨o22, h23⟩ := h21
          refine zw_li (l := (s.2 43)) (i := a7.toInt) rfl rfl (zq_a _) o22 ?_
          refine am_wh 3 (pc1 := 127) (lv1 := [(0, .ref 32), (1, .int a1), (2, .int a2), (3, .int a3), (4, .int a4), (5, .int a5), (6, .int a6), (7, .int a7)]) (st1 := [.int a4, .ref 45, .int (zg (s.2 43) a7.toInt)]) rfl ?_
          obtain ⟨o24, h25⟩ := h23
          refine zw_li (l := (s.2 43)) (i := a4.toInt) rfl rfl (zq_a _) o24 ?_
          obtain ⟨h27, h28⟩ := h25
          by_cases c26 : (zg (s.2 43) a7.toInt).toInt = (zg (s.2 43) a4.toInt).toInt
          · refine am_wb2 rfl false (zn_ne (zq_a _) (zq_a _) (zr_t _) (zr_t _) c26) rfl ?_
            have h29 := h27 c26
            refine am_wh 5 (pc1 := 80) (lv1 := [(7, .int (a7 + 1)), (6, .int 1), (0, .ref 32), (1, .int a1), (2, .int a2), (3, .int a3), (4, .int a4), (5, .int a5)]) (st1 := []) rfl ?_
            exact am_wm h29 ⟨rfl, rfl, rfl, rfl, rfl, rfl, rfl, rfl, trivial⟩
          · refine am_wb2 rfl true (zt_ne (zq_a _) (zq_a _) (zr_t _) (zr_t _) c26) rfl ?_
            have h30 := h28 c26
            refine am_wh 4 (pc1 := 80) (lv1 := [(7, .int (a7 + 1)), (6, .int 0), (0, .ref 32), (1, .int a1), (2, .int a2), (3, .int a3), (4, .int a4), (5, .int a5)]) (st1 := []) rfl ?_
            exact am_wm h30 ⟨rfl, rfl, rfl, rfl, rfl, rfl, rfl, rfl, trivial⟩
        · refine am_wb2 rfl true (zt_ne (zq_a _) (zq_a _) (zr_t _) (zr_t _) c18) rfl ?_
          have h31 := h20 c18
          refine am_wh 4 (pc1 := 80) (lv1 := [(7, .int (a7 + 1)), (6, .int 0), (0, .ref 32), (1, .int a1), (2, .int a2), (3, .int a3), (4, .int a4), (5, .int a5)]) (st1 := []) rfl ?_
          exact am_wm h31 ⟨rfl, rfl, rfl, rfl, rfl, rfl, rfl, rfl, trivial⟩
      · refine am_wb1 rfl true (zt_ne (zq_a _) (by decide) (zr_t _) ⟨by decide, by decide⟩ c10) rfl ?_
        have h32 := h12 c10
        refine am_wh 1 (pc1 := 146) (lv1 := [(0, .ref 32), (1, .int a1), (2, .int a2), (3, .int a3), (4, .int a4), (5, .int a5), (6, .int a6), (7, .int a7)]) (st1 := [.int a5]) rfl ?_
        refine am_wb1 rfl false (zn_eq (zq_a _) (by decide) (zr_t _) ⟨by decide, by decide⟩ c5) rfl ?_
        refine am_wh 1 (pc1 := 151) (lv1 := [(0, .ref 32), (1, .int a1), (2, .int a2), (3, .int a3), (4, .int a4), (5, .int a5), (6, .int a6), (7, .int a7)]) (st1 := [.int a6]) rfl ?_
        refine am_wb1 rfl true (zt_ne (zq_a _) (by decide) (zr_t _) ⟨by decide, by decide⟩ c10) rfl ?_
        refine am_wh 4 (pc1 := 5) (lv1 := [(4, .int (a4 + 1)), (3, .int a3), (0, .ref 32), (1, .int a1), (2, .int a2), (5, .int a5), (6, .int a6), (7, .int a7)]) (st1 := []) rfl ?_
        exact am_wm h32 ⟨rfl, rfl, rfl, rfl, rfl, trivial⟩
  · refine am_wb2 rfl true (zt_ge (zq_a _) (zq_a _) (zr_t _) (zr_t _) c1) rfl ?_
    have h33 := h3 c1
    refine am_wh 1 (pc1 := 146) (lv1 := [(0, .ref 32), (1, .int a1), (2, .int a2), (3, .int a3), (4, .int a4), (5, .int a5), (6, .int a6), (7, .int a7)]) (st1 := [.int a5]) rfl ?_
    obtain ⟨h35, h36⟩ := h33
    by_cases c34 : a5.toInt = 0
    · refine am_wb1 rfl true (zt_eq (zq_a _) (by decide) (zr_t _) ⟨by decide, by decide⟩ c34) rfl ?_
      have h37 := h35 c34
      refine am_wh 4 (pc1 := 5) (lv1 := [(4, .int (a4 + 1)), (3, .int a3), (0, .ref 32), (1, .int a1), (2, .int a2), (5, .int a5), (6, .int a6), (7, .int a7)]) (st1 := []) rfl ?_
      exact am_wm h37 ⟨rfl, rfl, rfl, rfl, rfl, trivial⟩
    · refine am_wb1 rfl false (zn_eq (zq_a _) (by decide) (zr_t _) ⟨by decide, by decide⟩ c34) rfl ?_
      have h38 := h36 c34
      refine am_wh 1 (pc1 := 151) (lv1 := [(0, .ref 32), (1, .int a1), (2, .int a2), (3, .int a3), (4, .int a4), (5, .int a5), (6, .int a6), (7, .int a7)]) (st1 := [.int a6]) rfl ?_
      obtain ⟨h40, h41⟩ := h38
      by_cases c39 : a6.toInt = 0
      · refine am_wb1 rfl false (zn_ne (zq_a _) (by decide) (zr_t _) ⟨by decide, by decide⟩ c39) rfl ?_
        have h42 := h40 c39
        refine am_wh 7 (pc1 := 5) (lv1 := [(4, .int (a4 + 1)), (3, .int (a3 + 1)), (0, .ref 32), (1, .int a1), (2, .int a2), (5, .int a5), (6, .int a6), (7, .int a7)]) (st1 := []) rfl ?_
        exact am_wm h42 ⟨rfl, rfl, rfl, rfl, rfl, trivial⟩
      · refine am_wb1 rfl true (zt_ne (zq_a _) (by decide) (zr_t _) ⟨by decide, by decide⟩ c39) rfl ?_
        have h43 := h41 c39
        refine am_wh 4 (pc1 := 5) (lv1 := [(4, .int (a4 + 1)), (3, .int a3), (0, .ref 32), (1, .int a1), (2, .int a2), (5, .int a5), (6, .int a6), (7, .int a7)]) (st1 := []) rfl ?_
        exact am_wm h43 ⟨rfl, rfl, rfl, rfl, rfl, trivial⟩
set_option maxRecDepth 100000 in
theorem vc_191_0 (xs : Option (List Int32)) (d : Nat) (s : zS)  (Q : Int32 → zS → Prop) (h : zWv xs d 136 0 [(0, .ref 32)] s (fun s1 => ((s1.1 28).toInt = 0 → (Q (s1.1 31) s1)) ∧ (¬ (s1.1 28).toInt = 0 → (Q (-1) s1)))) : zWi xs (d + 1) 191 0 [(0, .ref 32)] s Q := by
  unfold zWi
  refine am_wh 1 (pc1 := 1) (lv1 := [(0, .ref 32)]) (st1 := [.ref 32]) rfl ?_
  refine am_wc rfl rfl rfl ?_
  refine am_ww h ?_
  rintro _ _ ⟨s1, rfl, rfl, h2⟩
  show am_W _ _ 191 4 [(0, .ref 32)] [] (zH s1) _
  refine am_wh 2 (pc1 := 8) (lv1 := [(0, .ref 32)]) (st1 := [.int (s1.1 28)]) rfl ?_
  obtain ⟨h4, h5⟩ := h2
  by_cases c3 : (s1.1 28).toInt = 0
  · refine am_wb1 rfl true (zt_eq (zq_a _) (by decide) (zr_t _) ⟨by decide, by decide⟩ c3) rfl ?_
    have h6 := h4 c3
    refine am_wh 2 (pc1 := 19) (lv1 := [(0, .ref 32)]) (st1 := [.int (s1.1 31)]) rfl ?_
    refine am_wr rfl rfl rfl ?_
    exact ⟨_, _, rfl, rfl, h6⟩
  · refine am_wb1 rfl false (zn_eq (zq_a _) (by decide) (zr_t _) ⟨by decide, by decide⟩ c3) rfl ?_
    have h7 := h5 c3
    refine am_wh 2 (pc1 := 19) (lv1 := [(0, .ref 32)]) (st1 := [.int (-1)]) rfl ?_
    refine am_wr rfl rfl rfl ?_
    exact ⟨_, _, rfl, rfl, h7⟩
set_option maxRecDepth 100000 in
theorem vc_192_0 (xs : Option (List Int32)) (d : Nat) (s : zS) (a1 : Int32) (Q : Int32 → zS → Prop) (h : zWv xs d 136 0 [(0, .ref 32)] s (fun s1 => ((s1.1 28).toInt = 0 → ((a1.toInt < 0 → (Q (-1) s1)) ∧ (¬ a1.toInt < 0 → ((a1.toInt < (s1.1 31).toInt → (zX (s1.2 44) a1.toInt ∧ zWi xs d 167 0 [(0, .ref 32), (1, .int a1)] s1 (fun v20 s18 => Q ((zg (s1.2 44) a1.toInt) + (8 * v20)) s18))) ∧ (¬ a1.toInt < (s1.1 31).toInt → (Q (-1) s1)))))) ∧ (¬ (s1.1 28).toInt = 0 → (Q (-1) s1)))) : zWi xs (d + 1) 192 0 [(0, .ref 32), (1, .int a1)] s Q := by
  unfold zWi
  refine am_wh 1 (pc1 := 1) (lv1 := [(0, .ref 32), (1, .int a1)]) (st1 := [.ref 32]) rfl ?_
  refine am_wc rfl rfl rfl ?_
  refine am_ww h ?_
  rintro _ _ ⟨s1, rfl, rfl, h2⟩
  show am_W _ _ 192 4 [(0, .ref 32), (1, .int a1)] [] (zH s1) _
  refine am_wh 2 (pc1 := 8) (lv1 := [(0, .ref 32), (1, .int a1)]) (st1 := [.int (s1.1 28)]) rfl ?_
  obtain ⟨h4, h5⟩ := h2
  by_cases c3 : (s1.1 28).toInt = 0
  · refine am_wb1 rfl false (zn_ne (zq_a _) (by decide) (zr_t _) ⟨by decide, by decide⟩ c3) rfl ?_
    have h6 := h4 c3
    refine am_wh 1 (pc1 := 12) (lv1 := [(0, .ref 32), (1, .int a1)]) (st1 := [.int a1]) rfl ?_
    obtain ⟨h8, h9⟩ := h6
    by_cases c7 : a1.toInt < 0
    · refine am_wb1 rfl true (zt_lt (zq_a _) (by decide) (zr_t _) ⟨by decide, by decide⟩ c7) rfl ?_
      have h10 := h8 c7
      refine am_wh 2 (pc1 := 42) (lv1 := [(0, .ref 32), (1, .int a1)]) (st1 := [.int (-1)]) rfl ?_
      refine am_wr rfl rfl rfl ?_
      exact ⟨_, _, rfl, rfl, h10⟩
    · refine am_wb1 rfl false (zn_lt (zq_a _) (by decide) (zr_t _) ⟨by decide, by decide⟩ c7) rfl ?_
      have h11 := h9 c7
      refine am_wh 3 (pc1 := 20) (lv1 := [(0, .ref 32), (1, .int a1)]) (st1 := [.int (s1.1 31), .int a1]) rfl ?_
      obtain ⟨h13, h14⟩ := h11
      by_cases c12 : a1.toInt < (s1.1 31).toInt
      · refine am_wb2 rfl true (zt_lt (zq_a _) (zq_a _) (zr_t _) (zr_t _) c12) rfl ?_
        have h15 := h13 c12
        refine am_wh 3 (pc1 := 32) (lv1 := [(0, .ref 32), (1, .int a1)]) (st1 := [.int a1, .ref 46]) rfl ?_
        obtain ⟨o16, h17⟩ := h15
        refine zw_li (l := (s1.2 44)) (i := a1.toInt) rfl rfl (zq_a _) o16 ?_
        refine am_wh 3 (pc1 := 37) (lv1 := [(0, .ref 32), (1, .int a1)]) (st1 := [.int a1, .ref 32, .int 8, .int (zg (s1.2 44) a1.toInt)]) rfl ?_
        refine am_wc rfl rfl rfl ?_
        refine am_ww h17 ?_
        rintro _ _ ⟨v20, s18, rfl, rfl, h19⟩
        show am_W _ _ 192 40 [(0, .ref 32), (1, .int a1)] [.int v20, .int 8, .int (zg (s1.2 44) a1.toInt)] (zH s18) _
        refine am_wh 2 (pc1 := 42) (lv1 := [(0, .ref 32), (1, .int a1)]) (st1 := [.int ((zg (s1.2 44) a1.toInt) + (8 * v20))]) rfl ?_
        refine am_wr rfl rfl rfl ?_
        exact ⟨_, _, rfl, rfl, h19⟩
      · refine am_wb2 rfl false (zn_lt (zq_a _) (zq_a _) (zr_t _) (zr_t _) c12) rfl ?_
        have h21 := h14 c12
        refine am_wh 2 (pc1 := 42) (lv1 := [(0, .ref 32), (1, .int a1)]) (st1 := [.int (-1)]) rfl ?_
        refine am_wr rfl rfl rfl ?_
        exact ⟨_, _, rfl, rfl, h21⟩
  · refine am_wb1 rfl true (zt_ne (zq_a _) (by decide) (zr_t _) ⟨by decide, by decide⟩ c3) rfl ?_
    have h22 := h5 c3
    refine am_wh 2 (pc1 := 42) (lv1 := [(0, .ref 32), (1, .int a1)]) (st1 := [.int (-1)]) rfl ?_
    refine am_wr rfl rfl rfl ?_
    exact ⟨_, _, rfl, rfl, h22⟩
set_option maxRecDepth 100000 in
theorem vc_193_0 (xs : Option (List Int32)) (d : Nat) (s : zS)  (Q : Int32 → zS → Prop) (h : zWv xs d 136 0 [(0, .ref 32)] s (fun s1 => ((s1.1 28).toInt = 0 → (Q (s1.1 32) s1)) ∧ (¬ (s1.1 28).toInt = 0 → (Q (-1) s1)))) : zWi xs (d + 1) 193 0 [(0, .ref 32)] s Q := by
  unfold zWi
  refine am_wh 1 (pc1 := 1) (lv1 := [(0, .ref 32)]) (st1 := [.ref 32]) rfl ?_
  refine am_wc rfl rfl rfl ?_
  refine am_ww h ?_
  rintro _ _ ⟨s1, rfl, rfl, h2⟩
  show am_W _ _ 193 4 [(0, .ref 32)] [] (zH s1) _
  refine am_wh 2 (pc1 := 8) (lv1 := [(0, .ref 32)]) (st1 := [.int (s1.1 28)]) rfl ?_
  obtain ⟨h4, h5⟩ := h2
  by_cases c3 : (s1.1 28).toInt = 0
  · refine am_wb1 rfl true (zt_eq (zq_a _) (by decide) (zr_t _) ⟨by decide, by decide⟩ c3) rfl ?_
    have h6 := h4 c3
    refine am_wh 2 (pc1 := 19) (lv1 := [(0, .ref 32)]) (st1 := [.int (s1.1 32)]) rfl ?_
    refine am_wr rfl rfl rfl ?_
    exact ⟨_, _, rfl, rfl, h6⟩
  · refine am_wb1 rfl false (zn_eq (zq_a _) (by decide) (zr_t _) ⟨by decide, by decide⟩ c3) rfl ?_
    have h7 := h5 c3
    refine am_wh 2 (pc1 := 19) (lv1 := [(0, .ref 32)]) (st1 := [.int (-1)]) rfl ?_
    refine am_wr rfl rfl rfl ?_
    exact ⟨_, _, rfl, rfl, h7⟩
set_option maxRecDepth 100000 in
theorem vc_194_0 (xs : Option (List Int32)) (d : Nat) (s : zS) (a1 : Int32) (Q : Int32 → zS → Prop) (h : zWv xs d 136 0 [(0, .ref 32)] s (fun s1 => ((s1.1 28).toInt = 0 → ((a1.toInt < 0 → (Q (-1) s1)) ∧ (¬ a1.toInt < 0 → ((a1.toInt < (s1.1 32).toInt → (zX (s1.2 51) a1.toInt ∧ zX (s1.2 35) (zg (s1.2 51) a1.toInt).toInt ∧ Q (zg (s1.2 35) (zg (s1.2 51) a1.toInt).toInt) s1)) ∧ (¬ a1.toInt < (s1.1 32).toInt → (Q (-1) s1)))))) ∧ (¬ (s1.1 28).toInt = 0 → (Q (-1) s1)))) : zWi xs (d + 1) 194 0 [(0, .ref 32), (1, .int a1)] s Q := by
  unfold zWi
  refine am_wh 1 (pc1 := 1) (lv1 := [(0, .ref 32), (1, .int a1)]) (st1 := [.ref 32]) rfl ?_
  refine am_wc rfl rfl rfl ?_
  refine am_ww h ?_
  rintro _ _ ⟨s1, rfl, rfl, h2⟩
  show am_W _ _ 194 4 [(0, .ref 32), (1, .int a1)] [] (zH s1) _
  refine am_wh 2 (pc1 := 8) (lv1 := [(0, .ref 32), (1, .int a1)]) (st1 := [.int (s1.1 28)]) rfl ?_
  obtain ⟨h4, h5⟩ := h2
  by_cases c3 : (s1.1 28).toInt = 0
  · refine am_wb1 rfl false (zn_ne (zq_a _) (by decide) (zr_t _) ⟨by decide, by decide⟩ c3) rfl ?_
    have h6 := h4 c3
    refine am_wh 1 (pc1 := 12) (lv1 := [(0, .ref 32), (1, .int a1)]) (st1 := [.int a1]) rfl ?_
    obtain ⟨h8, h9⟩ := h6
    by_cases c7 : a1.toInt < 0
    · refine am_wb1 rfl true (zt_lt (zq_a _) (by decide) (zr_t _) ⟨by decide, by decide⟩ c7) rfl ?_
      have h10 := h8 c7
      refine am_wh 2 (pc1 := 38) (lv1 := [(0, .ref 32), (1, .int a1)]) (st1 := [.int (-1)]) rfl ?_
      refine am_wr rfl rfl rfl ?_
      exact ⟨_, _, rfl, rfl, h10⟩
    · refine am_wb1 rfl false (zn_lt (zq_a _) (by decide) (zr_t _) ⟨by decide, by decide⟩ c7) rfl ?_
      have h11 := h9 c7
      refine am_wh 3 (pc1 := 20) (lv1 := [(0, .ref 32), (1, .int a1)]) (st1 := [.int (s1.1 32), .int a1]) rfl ?_
      obtain ⟨h13, h14⟩ := h11
      by_cases c12 : a1.toInt < (s1.1 32).toInt
      · refine am_wb2 rfl true (zt_lt (zq_a _) (zq_a _) (zr_t _) (zr_t _) c12) rfl ?_
        have h15 := h13 c12
        refine am_wh 5 (pc1 := 36) (lv1 := [(0, .ref 32), (1, .int a1)]) (st1 := [.int a1, .ref 53, .ref 37]) rfl ?_
        obtain ⟨o16, h17⟩ := h15
        refine zw_li (l := (s1.2 51)) (i := a1.toInt) rfl rfl (zq_a _) o16 ?_
        obtain ⟨o18, h19⟩ := h17
        refine zw_li (l := (s1.2 35)) (i := (zg (s1.2 51) a1.toInt).toInt) rfl rfl (zq_a _) o18 ?_
        refine am_wr rfl rfl rfl ?_
        exact ⟨_, _, rfl, rfl, h19⟩
      · refine am_wb2 rfl false (zn_lt (zq_a _) (zq_a _) (zr_t _) (zr_t _) c12) rfl ?_
        have h20 := h14 c12
        refine am_wh 2 (pc1 := 38) (lv1 := [(0, .ref 32), (1, .int a1)]) (st1 := [.int (-1)]) rfl ?_
        refine am_wr rfl rfl rfl ?_
        exact ⟨_, _, rfl, rfl, h20⟩
  · refine am_wb1 rfl true (zt_ne (zq_a _) (by decide) (zr_t _) ⟨by decide, by decide⟩ c3) rfl ?_
    have h21 := h5 c3
    refine am_wh 2 (pc1 := 38) (lv1 := [(0, .ref 32), (1, .int a1)]) (st1 := [.int (-1)]) rfl ?_
    refine am_wr rfl rfl rfl ?_
    exact ⟨_, _, rfl, rfl, h21⟩
set_option maxRecDepth 100000 in
theorem vc_195_0 (xs : Option (List Int32)) (d : Nat) (s : zS) (a1 : Int32) (Q : Int32 → zS → Prop) (h : zWi xs d 183 0 [(0, .ref 32), (1, .int a1)] s (fun v3 s1 => (v3.toInt < 0 → (Q (-1) s1)) ∧ (¬ v3.toInt < 0 → (zWi xs d 181 0 [(0, .ref 32), (1, .int v3)] s1 (fun v11 s9 => Q v11 s9))))) : zWi xs (d + 1) 195 0 [(0, .ref 32), (1, .int a1)] s Q := by
  unfold zWi
  refine am_wh 2 (pc1 := 2) (lv1 := [(0, .ref 32), (1, .int a1)]) (st1 := [.int a1, .ref 32]) rfl ?_
  refine am_wc rfl rfl rfl ?_
  refine am_ww h ?_
  rintro _ _ ⟨v3, s1, rfl, rfl, h2⟩
  show am_W _ _ 195 5 [(0, .ref 32), (1, .int a1)] [.int v3] (zH s1) _
  refine am_wh 2 (pc1 := 7) (lv1 := [(2, .int v3), (0, .ref 32), (1, .int a1)]) (st1 := [.int v3]) rfl ?_
  obtain ⟨h5, h6⟩ := h2
  by_cases c4 : v3.toInt < 0
  · refine am_wb1 rfl false (zn_ge (zq_a _) (by decide) (zr_t _) ⟨by decide, by decide⟩ c4) rfl ?_
    have h7 := h5 c4
    refine am_wh 2 (pc1 := 19) (lv1 := [(2, .int v3), (0, .ref 32), (1, .int a1)]) (st1 := [.int (-1)]) rfl ?_
    refine am_wr rfl rfl rfl ?_
    exact ⟨_, _, rfl, rfl, h7⟩
  · refine am_wb1 rfl true (zt_ge (zq_a _) (by decide) (zr_t _) ⟨by decide, by decide⟩ c4) rfl ?_
    have h8 := h6 c4
    refine am_wh 2 (pc1 := 16) (lv1 := [(2, .int v3), (0, .ref 32), (1, .int a1)]) (st1 := [.int v3, .ref 32]) rfl ?_
    refine am_wc rfl rfl rfl ?_
    refine am_ww h8 ?_
    rintro _ _ ⟨v11, s9, rfl, rfl, h10⟩
    show am_W _ _ 195 19 [(2, .int v3), (0, .ref 32), (1, .int a1)] [.int v11] (zH s9) _
    refine am_wr rfl rfl rfl ?_
    exact ⟨_, _, rfl, rfl, h10⟩
set_option maxRecDepth 100000 in
theorem vc_196_0 (xs : Option (List Int32)) (d : Nat) (s : zS) (a1 : Int32) (Q : Int32 → zS → Prop) (h : zWi xs d 183 0 [(0, .ref 32), (1, .int a1)] s (fun v3 s1 => zWi xs (d + 1) 196 8 [(0, .ref 32), (2, .int v3), (3, .int 0)] s1 Q)) : zWi xs (d + 1) 196 0 [(0, .ref 32), (1, .int a1)] s Q := by
  unfold zWi
  refine am_wh 2 (pc1 := 2) (lv1 := [(0, .ref 32), (1, .int a1)]) (st1 := [.int a1, .ref 32]) rfl ?_
  refine am_wc rfl rfl rfl ?_
  refine am_ww h ?_
  rintro _ _ ⟨v3, s1, rfl, rfl, h2⟩
  show am_W _ _ 196 5 [(0, .ref 32), (1, .int a1)] [.int v3] (zH s1) _
  refine am_wh 3 (pc1 := 8) (lv1 := [(3, .int 0), (2, .int v3), (0, .ref 32), (1, .int a1)]) (st1 := []) rfl ?_
  exact am_wm h2 ⟨rfl, rfl, rfl, trivial⟩
set_option maxRecDepth 100000 in
theorem vc_196_8 (xs : Option (List Int32)) (d : Nat) (s : zS) (a2 : Int32) (a3 : Int32) (Q : Int32 → zS → Prop) (h : (a3.toInt < (s.1 32).toInt → ((a2.toInt < 0 → (Q (-1) s)) ∧ (¬ a2.toInt < 0 → (zWi xs d 171 0 [(0, .ref 32), (1, .int a3)] s (fun v12 s10 => (v12.toInt = 0 → (zWi xs (d + 1) 196 8 [(0, .ref 32), (2, .int a2), (3, .int (a3 + 1))] s10 Q)) ∧ (¬ v12.toInt = 0 → (zWi xs d 184 0 [(0, .ref 32), (1, .int a2), (2, .int a3)] s10 (fun v20 s18 => (v20.toInt = 0 → (zWi xs (d + 1) 196 8 [(0, .ref 32), (2, .int a2), (3, .int (a3 + 1))] s18 Q)) ∧ (¬ v20.toInt = 0 → (zX (s18.2 51) a3.toInt ∧ zX (s18.2 35) (zg (s18.2 51) a3.toInt).toInt ∧ Q (zg (s18.2 35) (zg (s18.2 51) a3.toInt).toInt) s18)))))))))) ∧ (¬ a3.toInt < (s.1 32).toInt → (Q (-1) s))) : zWi xs (d + 1) 196 8 [(0, .ref 32), (2, .int a2), (3, .int a3)] s Q := by
  unfold zWi
  refine am_wh 3 (pc1 := 13) (lv1 := [(0, .ref 32), (2, .int a2), (3, .int a3)]) (st1 := [.int (s.1 32), .int a3]) rfl ?_
  obtain ⟨h2, h3⟩ := h
  by_cases c1 : a3.toInt < (s.1 32).toInt
  · refine am_wb2 rfl false (zn_ge (zq_a _) (zq_a _) (zr_t _) (zr_t _) c1) rfl ?_
    have h4 := h2 c1
    refine am_wh 1 (pc1 := 17) (lv1 := [(0, .ref 32), (2, .int a2), (3, .int a3)]) (st1 := [.int a2]) rfl ?_
    obtain ⟨h6, h7⟩ := h4
    by_cases c5 : a2.toInt < 0
    · refine am_wb1 rfl true (zt_lt (zq_a _) (by decide) (zr_t _) ⟨by decide, by decide⟩ c5) rfl ?_
      have h8 := h6 c5
      refine am_wh 1 (pc1 := 56) (lv1 := [(0, .ref 32), (2, .int a2), (3, .int a3)]) (st1 := [.int (-1)]) rfl ?_
      refine am_wr rfl rfl rfl ?_
      exact ⟨_, _, rfl, rfl, h8⟩
    · refine am_wb1 rfl false (zn_lt (zq_a _) (by decide) (zr_t _) ⟨by decide, by decide⟩ c5) rfl ?_
      have h9 := h7 c5
      refine am_wh 2 (pc1 := 22) (lv1 := [(0, .ref 32), (2, .int a2), (3, .int a3)]) (st1 := [.int a3, .ref 32]) rfl ?_
      refine am_wc rfl rfl rfl ?_
      refine am_ww h9 ?_
      rintro _ _ ⟨v12, s10, rfl, rfl, h11⟩
      show am_W _ _ 196 25 [(0, .ref 32), (2, .int a2), (3, .int a3)] [.int v12] (zH s10) _
      obtain ⟨h14, h15⟩ := h11
      by_cases c13 : v12.toInt = 0
      · refine am_wb1 rfl true (zt_eq (zq_a _) (by decide) (zr_t _) ⟨by decide, by decide⟩ c13) rfl ?_
        have h16 := h14 c13
        refine am_wh 2 (pc1 := 8) (lv1 := [(3, .int (a3 + 1)), (0, .ref 32), (2, .int a2)]) (st1 := []) rfl ?_
        exact am_wm h16 ⟨rfl, rfl, rfl, trivial⟩
      · refine am_wb1 rfl false (zn_eq (zq_a _) (by decide) (zr_t _) ⟨by decide, by decide⟩ c13) rfl ?_
        have h17 := h15 c13
        refine am_wh 3 (pc1 := 31) (lv1 := [(0, .ref 32), (2, .int a2), (3, .int a3)]) (st1 := [.int a3, .int a2, .ref 32]) rfl ?_
        refine am_wc rfl rfl rfl ?_
        refine am_ww h17 ?_
        rintro _ _ ⟨v20, s18, rfl, rfl, h19⟩
        show am_W _ _ 196 34 [(0, .ref 32), (2, .int a2), (3, .int a3)] [.int v20] (zH s18) _
        obtain ⟨h22, h23⟩ := h19
        by_cases c21 : v20.toInt = 0
        · refine am_wb1 rfl true (zt_eq (zq_a _) (by decide) (zr_t _) ⟨by decide, by decide⟩ c21) rfl ?_
          have h24 := h22 c21
          refine am_wh 2 (pc1 := 8) (lv1 := [(3, .int (a3 + 1)), (0, .ref 32), (2, .int a2)]) (st1 := []) rfl ?_
          exact am_wm h24 ⟨rfl, rfl, rfl, trivial⟩
        · refine am_wb1 rfl false (zn_eq (zq_a _) (by decide) (zr_t _) ⟨by decide, by decide⟩ c21) rfl ?_
          have h25 := h23 c21
          refine am_wh 5 (pc1 := 46) (lv1 := [(0, .ref 32), (2, .int a2), (3, .int a3)]) (st1 := [.int a3, .ref 53, .ref 37]) rfl ?_
          obtain ⟨o26, h27⟩ := h25
          refine zw_li (l := (s18.2 51)) (i := a3.toInt) rfl rfl (zq_a _) o26 ?_
          obtain ⟨o28, h29⟩ := h27
          refine zw_li (l := (s18.2 35)) (i := (zg (s18.2 51) a3.toInt).toInt) rfl rfl (zq_a _) o28 ?_
          refine am_wr rfl rfl rfl ?_
          exact ⟨_, _, rfl, rfl, h29⟩
  · refine am_wb2 rfl true (zt_ge (zq_a _) (zq_a _) (zr_t _) (zr_t _) c1) rfl ?_
    have h30 := h3 c1
    refine am_wh 1 (pc1 := 56) (lv1 := [(0, .ref 32), (2, .int a2), (3, .int a3)]) (st1 := [.int (-1)]) rfl ?_
    refine am_wr rfl rfl rfl ?_
    exact ⟨_, _, rfl, rfl, h30⟩
set_option maxRecDepth 100000 in
theorem vc_197_0 (xs : Option (List Int32)) (d : Nat) (s : zS) (a1 : Int32) (a2 : Int32) (Q : Int32 → zS → Prop) (h : zWi xs d 183 0 [(0, .ref 32), (1, .int a1)] s (fun v3 s1 => zWi xs (d + 1) 197 12 [(0, .ref 32), (2, .int a2), (3, .int v3), (4, .int 0), (5, .int 0)] s1 Q)) : zWi xs (d + 1) 197 0 [(0, .ref 32), (1, .int a1), (2, .int a2)] s Q := by
  unfold zWi
  refine am_wh 2 (pc1 := 2) (lv1 := [(0, .ref 32), (1, .int a1), (2, .int a2)]) (st1 := [.int a1, .ref 32]) rfl ?_
  refine am_wc rfl rfl rfl ?_
  refine am_ww h ?_
  rintro _ _ ⟨v3, s1, rfl, rfl, h2⟩
  show am_W _ _ 197 5 [(0, .ref 32), (1, .int a1), (2, .int a2)] [.int v3] (zH s1) _
  refine am_wh 5 (pc1 := 12) (lv1 := [(5, .int 0), (4, .int 0), (3, .int v3), (0, .ref 32), (1, .int a1), (2, .int a2)]) (st1 := []) rfl ?_
  exact am_wm h2 ⟨rfl, rfl, rfl, rfl, rfl, trivial⟩
set_option maxRecDepth 100000 in
theorem vc_197_12 (xs : Option (List Int32)) (d : Nat) (s : zS) (a2 : Int32) (a3 : Int32) (a4 : Int32) (a5 : Int32) (Q : Int32 → zS → Prop) (h : (a5.toInt < (s.1 32).toInt → ((a3.toInt < 0 → (Q (-1) s)) ∧ (¬ a3.toInt < 0 → (zWi xs d 184 0 [(0, .ref 32), (1, .int a3), (2, .int a5)] s (fun v12 s10 => (v12.toInt = 0 → (zWi xs (d + 1) 197 12 [(0, .ref 32), (2, .int a2), (3, .int a3), (4, .int a4), (5, .int (a5 + 1))] s10 Q)) ∧ (¬ v12.toInt = 0 → ((a4.toInt = a2.toInt → (zX (s10.2 51) a5.toInt ∧ zX (s10.2 35) (zg (s10.2 51) a5.toInt).toInt ∧ Q (zg (s10.2 35) (zg (s10.2 51) a5.toInt).toInt) s10)) ∧ (¬ a4.toInt = a2.toInt → (zWi xs (d + 1) 197 12 [(0, .ref 32), (2, .int a2), (3, .int a3), (4, .int (a4 + 1)), (5, .int (a5 + 1))] s10 Q))))))))) ∧ (¬ a5.toInt < (s.1 32).toInt → (Q (-1) s))) : zWi xs (d + 1) 197 12 [(0, .ref 32), (2, .int a2), (3, .int a3), (4, .int a4), (5, .int a5)] s Q := by
  unfold zWi
  refine am_wh 3 (pc1 := 18) (lv1 := [(0, .ref 32), (2, .int a2), (3, .int a3), (4, .int a4), (5, .int a5)]) (st1 := [.int (s.1 32), .int a5]) rfl ?_
  obtain ⟨h2, h3⟩ := h
  by_cases c1 : a5.toInt < (s.1 32).toInt
  · refine am_wb2 rfl false (zn_ge (zq_a _) (zq_a _) (zr_t _) (zr_t _) c1) rfl ?_
    have h4 := h2 c1
    refine am_wh 1 (pc1 := 22) (lv1 := [(0, .ref 32), (2, .int a2), (3, .int a3), (4, .int a4), (5, .int a5)]) (st1 := [.int a3]) rfl ?_
    obtain ⟨h6, h7⟩ := h4
    by_cases c5 : a3.toInt < 0
    · refine am_wb1 rfl true (zt_lt (zq_a _) (by decide) (zr_t _) ⟨by decide, by decide⟩ c5) rfl ?_
      have h8 := h6 c5
      refine am_wh 1 (pc1 := 64) (lv1 := [(0, .ref 32), (2, .int a2), (3, .int a3), (4, .int a4), (5, .int a5)]) (st1 := [.int (-1)]) rfl ?_
      refine am_wr rfl rfl rfl ?_
      exact ⟨_, _, rfl, rfl, h8⟩
    · refine am_wb1 rfl false (zn_lt (zq_a _) (by decide) (zr_t _) ⟨by decide, by decide⟩ c5) rfl ?_
      have h9 := h7 c5
      refine am_wh 3 (pc1 := 29) (lv1 := [(0, .ref 32), (2, .int a2), (3, .int a3), (4, .int a4), (5, .int a5)]) (st1 := [.int a5, .int a3, .ref 32]) rfl ?_
      refine am_wc rfl rfl rfl ?_
      refine am_ww h9 ?_
      rintro _ _ ⟨v12, s10, rfl, rfl, h11⟩
      show am_W _ _ 197 32 [(0, .ref 32), (2, .int a2), (3, .int a3), (4, .int a4), (5, .int a5)] [.int v12] (zH s10) _
      obtain ⟨h14, h15⟩ := h11
      by_cases c13 : v12.toInt = 0
      · refine am_wb1 rfl true (zt_eq (zq_a _) (by decide) (zr_t _) ⟨by decide, by decide⟩ c13) rfl ?_
        have h16 := h14 c13
        refine am_wh 2 (pc1 := 12) (lv1 := [(5, .int (a5 + 1)), (0, .ref 32), (2, .int a2), (3, .int a3), (4, .int a4)]) (st1 := []) rfl ?_
        exact am_wm h16 ⟨rfl, rfl, rfl, rfl, rfl, trivial⟩
      · refine am_wb1 rfl false (zn_eq (zq_a _) (by decide) (zr_t _) ⟨by decide, by decide⟩ c13) rfl ?_
        have h17 := h15 c13
        refine am_wh 2 (pc1 := 38) (lv1 := [(0, .ref 32), (2, .int a2), (3, .int a3), (4, .int a4), (5, .int a5)]) (st1 := [.int a2, .int a4]) rfl ?_
        obtain ⟨h19, h20⟩ := h17
        by_cases c18 : a4.toInt = a2.toInt
        · refine am_wb2 rfl false (zn_ne (zq_a _) (zq_a _) (zr_t _) (zr_t _) c18) rfl ?_
          have h21 := h19 c18
          refine am_wh 5 (pc1 := 51) (lv1 := [(0, .ref 32), (2, .int a2), (3, .int a3), (4, .int a4), (5, .int a5)]) (st1 := [.int a5, .ref 53, .ref 37]) rfl ?_
          obtain ⟨o22, h23⟩ := h21
          refine zw_li (l := (s10.2 51)) (i := a5.toInt) rfl rfl (zq_a _) o22 ?_
          obtain ⟨o24, h25⟩ := h23
          refine zw_li (l := (s10.2 35)) (i := (zg (s10.2 51) a5.toInt).toInt) rfl rfl (zq_a _) o24 ?_
          refine am_wr rfl rfl rfl ?_
          exact ⟨_, _, rfl, rfl, h25⟩
        · refine am_wb2 rfl true (zt_ne (zq_a _) (zq_a _) (zr_t _) (zr_t _) c18) rfl ?_
          have h26 := h20 c18
          refine am_wh 3 (pc1 := 12) (lv1 := [(5, .int (a5 + 1)), (4, .int (a4 + 1)), (0, .ref 32), (2, .int a2), (3, .int a3)]) (st1 := []) rfl ?_
          exact am_wm h26 ⟨rfl, rfl, rfl, rfl, rfl, trivial⟩
  · refine am_wb2 rfl true (zt_ge (zq_a _) (zq_a _) (zr_t _) (zr_t _) c1) rfl ?_
    have h27 := h3 c1
    refine am_wh 1 (pc1 := 64) (lv1 := [(0, .ref 32), (2, .int a2), (3, .int a3), (4, .int a4), (5, .int a5)]) (st1 := [.int (-1)]) rfl ?_
    refine am_wr rfl rfl rfl ?_
    exact ⟨_, _, rfl, rfl, h27⟩
set_option maxRecDepth 100000 in
theorem vc_198_0 (xs : Option (List Int32)) (d : Nat) (s : zS) (a0 : Int64) (Q : Int32 → zS → Prop) (h : zWi xs (d + 1) 198 11 [(0, .long a0), (2, .int 0), (3, .long 0), (5, .int 1), (6, .int 56)] s Q) : zWi xs (d + 1) 198 0 [(0, .long a0)] s Q := by
  unfold zWi
  refine am_wh 8 (pc1 := 11) (lv1 := [(6, .int 56), (5, .int 1), (3, .long 0), (2, .int 0), (0, .long a0)]) (st1 := []) rfl ?_
  exact am_wm h ⟨rfl, rfl, rfl, rfl, rfl, trivial⟩
set_option maxRecDepth 100000 in
theorem vc_198_11 (xs : Option (List Int32)) (d : Nat) (s : zS) (a0 : Int64) (a2 : Int32) (a3 : Int64) (a5 : Int32) (a6 : Int32) (Q : Int32 → zS → Prop) (h : (a6.toInt < 0 → ((a5.toInt = 0 → (Q 0 s)) ∧ (¬ a5.toInt = 0 → (zWi xs d 139 0 [(0, .long a3)] s (fun v12 s10 => (v12.toInt = 0 → (Q a2 s10)) ∧ (¬ v12.toInt = 0 → (Q 0 s10))))))) ∧ (¬ a6.toInt < 0 → ((((Int64.toInt32 (((Int64.toUInt64 a0) >>> ((Int32.toInt64 a6).toUInt64 &&& Int64.toUInt64 63)).toInt64)) &&& 255).toInt = 0 → (zWi xs (d + 1) 198 11 [(0, .long a0), (2, .int a2), (3, .long a3), (5, .int a5), (6, .int (a6 + (-8)))] s Q)) ∧ (¬ ((Int64.toInt32 (((Int64.toUInt64 a0) >>> ((Int32.toInt64 a6).toUInt64 &&& Int64.toUInt64 63)).toInt64)) &&& 255).toInt = 0 → ((a5.toInt = 0 → (zWi xs (d + 1) 198 11 [(0, .long a0), (2, .int (a2 + 1)), (3, .long ((a3 * 256) + (Int32.toInt64 ((Int64.toInt32 (((Int64.toUInt64 a0) >>> ((Int32.toInt64 a6).toUInt64 &&& Int64.toUInt64 63)).toInt64)) &&& 255)))), (5, .int 0), (6, .int (a6 + (-8)))] s Q)) ∧ (¬ a5.toInt = 0 → (zWi xs d 138 0 [(0, .int ((Int64.toInt32 (((Int64.toUInt64 a0) >>> ((Int32.toInt64 a6).toUInt64 &&& Int64.toUInt64 63)).toInt64)) &&& 255))] s (fun v31 s29 => (v31.toInt = 0 → ((0 < a2.toInt → (zWi xs d 137 0 [(0, .int ((Int64.toInt32 (((Int64.toUInt64 a0) >>> ((Int32.toInt64 a6).toUInt64 &&& Int64.toUInt64 63)).toInt64)) &&& 255))] s29 (fun v42 s40 => (v42.toInt = 0 → (zWi xs (d + 1) 198 11 [(0, .long a0), (2, .int (a2 + 1)), (3, .long ((a3 * 256) + (Int32.toInt64 ((Int64.toInt32 (((Int64.toUInt64 a0) >>> ((Int32.toInt64 a6).toUInt64 &&& Int64.toUInt64 63)).toInt64)) &&& 255)))), (5, .int 0), (6, .int (a6 + (-8)))] s40 Q)) ∧ (¬ v42.toInt = 0 → (zWi xs (d + 1) 198 11 [(0, .long a0), (2, .int (a2 + 1)), (3, .long ((a3 * 256) + (Int32.toInt64 ((Int64.toInt32 (((Int64.toUInt64 a0) >>> ((Int32.toInt64 a6).toUInt64 &&& Int64.toUInt64 63)).toInt64)) &&& 255)))), (5, .int 1), (6, .int (a6 + (-8)))] s40 Q))))) ∧ (¬ 0 < a2.toInt → (zWi xs (d + 1) 198 11 [(0, .long a0), (2, .int (a2 + 1)), (3, .long ((a3 * 256) + (Int32.toInt64 ((Int64.toInt32 (((Int64.toUInt64 a0) >>> ((Int32.toInt64 a6).toUInt64 &&& Int64.toUInt64 63)).toInt64)) &&& 255)))), (5, .int 0), (6, .int (a6 + (-8)))] s29 Q)))) ∧ (¬ v31.toInt = 0 → (zWi xs (d + 1) 198 11 [(0, .long a0), (2, .int (a2 + 1)), (3, .long ((a3 * 256) + (Int32.toInt64 ((Int64.toInt32 (((Int64.toUInt64 a0) >>> ((Int32.toInt64 a6).toUInt64 &&& Int64.toUInt64 63)).toInt64)) &&& 255)))), (5, .int 1), (6, .int (a6 + (-8)))] s29 Q)))))))))) : zWi xs (d + 1) 198 11 [(0, .long a0), (2, .int a2), (3, .long a3), (5, .int a5), (6, .int a6)] s Q := by
  unfold zWi
  refine am_wh 1 (pc1 := 13) (lv1 := [(0, .long a0), (2, .int a2), (3, .long a3), (5, .int a5), (6, .int a6)]) (st1 := [.int a6]) rfl ?_
  obtain ⟨h2, h3⟩ := h
  by_cases c1 : a6.toInt < 0
  · refine am_wb1 rfl true (zt_lt (zq_a _) (by decide) (zr_t _) ⟨by decide, by decide⟩ c1) rfl ?_
    have h4 := h2 c1
    refine am_wh 1 (pc1 := 85) (lv1 := [(0, .long a0), (2, .int a2), (3, .long a3), (5, .int a5), (6, .int a6)]) (st1 := [.int a5]) rfl ?_
    obtain ⟨h6, h7⟩ := h4
    by_cases c5 : a5.toInt = 0
    · refine am_wb1 rfl true (zt_eq (zq_a _) (by decide) (zr_t _) ⟨by decide, by decide⟩ c5) rfl ?_
      have h8 := h6 c5
      refine am_wh 1 (pc1 := 100) (lv1 := [(0, .long a0), (2, .int a2), (3, .long a3), (5, .int a5), (6, .int a6)]) (st1 := [.int 0]) rfl ?_
      refine am_wr rfl rfl rfl ?_
      exact ⟨_, _, rfl, rfl, h8⟩
    · refine am_wb1 rfl false (zn_eq (zq_a _) (by decide) (zr_t _) ⟨by decide, by decide⟩ c5) rfl ?_
      have h9 := h7 c5
      refine am_wh 1 (pc1 := 89) (lv1 := [(0, .long a0), (2, .int a2), (3, .long a3), (5, .int a5), (6, .int a6)]) (st1 := [.long a3]) rfl ?_
      refine am_wc rfl rfl rfl ?_
      refine am_ww h9 ?_
      rintro _ _ ⟨v12, s10, rfl, rfl, h11⟩
      show am_W _ _ 198 92 [(0, .long a0), (2, .int a2), (3, .long a3), (5, .int a5), (6, .int a6)] [.int v12] (zH s10) _
      obtain ⟨h14, h15⟩ := h11
      by_cases c13 : v12.toInt = 0
      · refine am_wb1 rfl false (zn_ne (zq_a _) (by decide) (zr_t _) ⟨by decide, by decide⟩ c13) rfl ?_
        have h16 := h14 c13
        refine am_wh 2 (pc1 := 100) (lv1 := [(0, .long a0), (2, .int a2), (3, .long a3), (5, .int a5), (6, .int a6)]) (st1 := [.int a2]) rfl ?_
        refine am_wr rfl rfl rfl ?_
        exact ⟨_, _, rfl, rfl, h16⟩
      · refine am_wb1 rfl true (zt_ne (zq_a _) (by decide) (zr_t _) ⟨by decide, by decide⟩ c13) rfl ?_
        have h17 := h15 c13
        refine am_wh 1 (pc1 := 100) (lv1 := [(0, .long a0), (2, .int a2), (3, .long a3), (5, .int a5), (6, .int a6)]) (st1 := [.int 0]) rfl ?_
        refine am_wr rfl rfl rfl ?_
        exact ⟨_, _, rfl, rfl, h17⟩
  · refine am_wb1 rfl false (zn_lt (zq_a _) (by decide) (zr_t _) ⟨by decide, by decide⟩ c1) rfl ?_
    have h18 := h3 c1
    refine am_wh 8 (pc1 := 29) (lv1 := [(7, .int ((Int64.toInt32 (((Int64.toUInt64 a0) >>> ((Int32.toInt64 a6).toUInt64 &&& Int64.toUInt64 63)).toInt64)) &&& 255)), (0, .long a0), (2, .int a2), (3, .long a3), (5, .int a5), (6, .int a6)]) (st1 := [.int ((Int64.toInt32 (((Int64.toUInt64 a0) >>> ((Int32.toInt64 a6).toUInt64 &&& Int64.toUInt64 63)).toInt64)) &&& 255)]) rfl ?_
    obtain ⟨h20, h21⟩ := h18
    by_cases c19 : ((Int64.toInt32 (((Int64.toUInt64 a0) >>> ((Int32.toInt64 a6).toUInt64 &&& Int64.toUInt64 63)).toInt64)) &&& 255).toInt = 0
    · refine am_wb1 rfl true (zt_eq (zq_a _) (by decide) (zr_t _) ⟨by decide, by decide⟩ c19) rfl ?_
      have h22 := h20 c19
      refine am_wh 2 (pc1 := 11) (lv1 := [(6, .int (a6 + (-8))), (7, .int ((Int64.toInt32 (((Int64.toUInt64 a0) >>> ((Int32.toInt64 a6).toUInt64 &&& Int64.toUInt64 63)).toInt64)) &&& 255)), (0, .long a0), (2, .int a2), (3, .long a3), (5, .int a5)]) (st1 := []) rfl ?_
      exact am_wm h22 ⟨rfl, rfl, rfl, rfl, rfl, trivial⟩
    · refine am_wb1 rfl false (zn_eq (zq_a _) (by decide) (zr_t _) ⟨by decide, by decide⟩ c19) rfl ?_
      have h23 := h21 c19
      refine am_wh 1 (pc1 := 34) (lv1 := [(7, .int ((Int64.toInt32 (((Int64.toUInt64 a0) >>> ((Int32.toInt64 a6).toUInt64 &&& Int64.toUInt64 63)).toInt64)) &&& 255)), (0, .long a0), (2, .int a2), (3, .long a3), (5, .int a5), (6, .int a6)]) (st1 := [.int a5]) rfl ?_
      obtain ⟨h25, h26⟩ := h23
      by_cases c24 : a5.toInt = 0
      · refine am_wb1 rfl true (zt_eq (zq_a _) (by decide) (zr_t _) ⟨by decide, by decide⟩ c24) rfl ?_
        have h27 := h25 c24
        refine am_wh 12 (pc1 := 11) (lv1 := [(6, .int (a6 + (-8))), (2, .int (a2 + 1)), (3, .long ((a3 * 256) + (Int32.toInt64 ((Int64.toInt32 (((Int64.toUInt64 a0) >>> ((Int32.toInt64 a6).toUInt64 &&& Int64.toUInt64 63)).toInt64)) &&& 255)))), (5, .int 0), (7, .int ((Int64.toInt32 (((Int64.toUInt64 a0) >>> ((Int32.toInt64 a6).toUInt64 &&& Int64.toUInt64 63)).toInt64)) &&& 255)), (0, .long a0)]) (st1 := []) rfl ?_
        exact am_wm h27 ⟨rfl, rfl, rfl, rfl, rfl, trivial⟩
      · refine am_wb1 rfl false (zn_eq (zq_a _) (by decide) (zr_t _) ⟨by decide, by decide⟩ c24) rfl ?_
        have h28 := h26 c24
        refine am_wh 1 (pc1 := 39) (lv1 := [(7, .int ((Int64.toInt32 (((Int64.toUInt64 a0) >>> ((Int32.toInt64 a6).toUInt64 &&& Int64.toUInt64 63)).toInt64)) &&& 255)), (0, .long a0), (2, .int a2), (3, .long a3), (5, .int a5), (6, .int a6)]) (st1 := [.int ((Int64.toInt32 (((Int64.toUInt64 a0) >>> ((Int32.toInt64 a6).toUInt64 &&& Int64.toUInt64 63)).toInt64)) &&& 255)]) rfl ?_
        refine am_wc rfl rfl rfl ?_
        refine am_ww h28 ?_
        rintro _ _ ⟨v31, s29, rfl, rfl, h30⟩
        show am_W _ _ 198 42 [(7, .int ((Int64.toInt32 (((Int64.toUInt64 a0) >>> ((Int32.toInt64 a6).toUInt64 &&& Int64.toUInt64 63)).toInt64)) &&& 255)), (0, .long a0), (2, .int a2), (3, .long a3), (5, .int a5), (6, .int a6)] [.int v31] (zH s29) _
        obtain ⟨h33, h34⟩ := h30
        by_cases c32 : v31.toInt = 0
        · refine am_wb1 rfl false (zn_ne (zq_a _) (by decide) (zr_t _) ⟨by decide, by decide⟩ c32) rfl ?_
          have h35 := h33 c32
          refine am_wh 1 (pc1 := 46) (lv1 := [(7, .int ((Int64.toInt32 (((Int64.toUInt64 a0) >>> ((Int32.toInt64 a6).toUInt64 &&& Int64.toUInt64 63)).toInt64)) &&& 255)), (0, .long a0), (2, .int a2), (3, .long a3), (5, .int a5), (6, .int a6)]) (st1 := [.int a2]) rfl ?_
          obtain ⟨h37, h38⟩ := h35
          by_cases c36 : 0 < a2.toInt
          · refine am_wb1 rfl false (zn_le (zq_a _) (by decide) (zr_t _) ⟨by decide, by decide⟩ c36) rfl ?_
            have h39 := h37 c36
            refine am_wh 1 (pc1 := 51) (lv1 := [(7, .int ((Int64.toInt32 (((Int64.toUInt64 a0) >>> ((Int32.toInt64 a6).toUInt64 &&& Int64.toUInt64 63)).toInt64)) &&& 255)), (0, .long a0), (2, .int a2), (3, .long a3), (5, .int a5), (6, .int a6)]) (st1 := [.int ((Int64.toInt32 (((Int64.toUInt64 a0) >>> ((Int32.toInt64 a6).toUInt64 &&& Int64.toUInt64 63)).toInt64)) &&& 255)]) rfl ?_
            refine am_wc rfl rfl rfl ?_
            refine am_ww h39 ?_
            rintro _ _ ⟨v42, s40, rfl, rfl, h41⟩
            show am_W _ _ 198 54 [(7, .int ((Int64.toInt32 (((Int64.toUInt64 a0) >>> ((Int32.toInt64 a6).toUInt64 &&& Int64.toUInt64 63)).toInt64)) &&& 255)), (0, .long a0), (2, .int a2), (3, .long a3), (5, .int a5), (6, .int a6)] [.int v42] (zH s40) _
            obtain ⟨h44, h45⟩ := h41
            by_cases c43 : v42.toInt = 0
            · refine am_wb1 rfl true (zt_eq (zq_a _) (by decide) (zr_t _) ⟨by decide, by decide⟩ c43) rfl ?_
              have h46 := h44 c43
              refine am_wh 12 (pc1 := 11) (lv1 := [(6, .int (a6 + (-8))), (2, .int (a2 + 1)), (3, .long ((a3 * 256) + (Int32.toInt64 ((Int64.toInt32 (((Int64.toUInt64 a0) >>> ((Int32.toInt64 a6).toUInt64 &&& Int64.toUInt64 63)).toInt64)) &&& 255)))), (5, .int 0), (7, .int ((Int64.toInt32 (((Int64.toUInt64 a0) >>> ((Int32.toInt64 a6).toUInt64 &&& Int64.toUInt64 63)).toInt64)) &&& 255)), (0, .long a0)]) (st1 := []) rfl ?_
              exact am_wm h46 ⟨rfl, rfl, rfl, rfl, rfl, trivial⟩
            · refine am_wb1 rfl false (zn_eq (zq_a _) (by decide) (zr_t _) ⟨by decide, by decide⟩ c43) rfl ?_
              have h47 := h45 c43
              refine am_wh 13 (pc1 := 11) (lv1 := [(6, .int (a6 + (-8))), (2, .int (a2 + 1)), (3, .long ((a3 * 256) + (Int32.toInt64 ((Int64.toInt32 (((Int64.toUInt64 a0) >>> ((Int32.toInt64 a6).toUInt64 &&& Int64.toUInt64 63)).toInt64)) &&& 255)))), (5, .int 1), (7, .int ((Int64.toInt32 (((Int64.toUInt64 a0) >>> ((Int32.toInt64 a6).toUInt64 &&& Int64.toUInt64 63)).toInt64)) &&& 255)), (0, .long a0)]) (st1 := []) rfl ?_
              exact am_wm h47 ⟨rfl, rfl, rfl, rfl, rfl, trivial⟩
          · refine am_wb1 rfl true (zt_le (zq_a _) (by decide) (zr_t _) ⟨by decide, by decide⟩ c36) rfl ?_
            have h48 := h38 c36
            refine am_wh 12 (pc1 := 11) (lv1 := [(6, .int (a6 + (-8))), (2, .int (a2 + 1)), (3, .long ((a3 * 256) + (Int32.toInt64 ((Int64.toInt32 (((Int64.toUInt64 a0) >>> ((Int32.toInt64 a6).toUInt64 &&& Int64.toUInt64 63)).toInt64)) &&& 255)))), (5, .int 0), (7, .int ((Int64.toInt32 (((Int64.toUInt64 a0) >>> ((Int32.toInt64 a6).toUInt64 &&& Int64.toUInt64 63)).toInt64)) &&& 255)), (0, .long a0)]) (st1 := []) rfl ?_
            exact am_wm h48 ⟨rfl, rfl, rfl, rfl, rfl, trivial⟩
        · refine am_wb1 rfl true (zt_ne (zq_a _) (by decide) (zr_t _) ⟨by decide, by decide⟩ c32) rfl ?_
          have h49 := h34 c32
          refine am_wh 13 (pc1 := 11) (lv1 := [(6, .int (a6 + (-8))), (2, .int (a2 + 1)), (3, .long ((a3 * 256) + (Int32.toInt64 ((Int64.toInt32 (((Int64.toUInt64 a0) >>> ((Int32.toInt64 a6).toUInt64 &&& Int64.toUInt64 63)).toInt64)) &&& 255)))), (5, .int 1), (7, .int ((Int64.toInt32 (((Int64.toUInt64 a0) >>> ((Int32.toInt64 a6).toUInt64 &&& Int64.toUInt64 63)).toInt64)) &&& 255)), (0, .long a0)]) (st1 := []) rfl ?_
          exact am_wm h49 ⟨rfl, rfl, rfl, rfl, rfl, trivial⟩
set_option maxRecDepth 100000 in
theorem vc_199_0 (xs : Option (List Int32)) (d : Nat) (s : zS) (a1 : Int32) (Q : Int32 → zS → Prop) (h : zWi xs (d + 1) 199 4 [(0, .ref 32), (1, .int a1), (2, .int 1), (3, .int 0)] s Q) : zWi xs (d + 1) 199 0 [(0, .ref 32), (1, .int a1)] s Q := by
  unfold zWi
  refine am_wh 4 (pc1 := 4) (lv1 := [(3, .int 0), (2, .int 1), (0, .ref 32), (1, .int a1)]) (st1 := []) rfl ?_
  exact am_wm h ⟨rfl, rfl, rfl, rfl, trivial⟩
set_option maxRecDepth 100000 in
theorem vc_199_4 (xs : Option (List Int32)) (d : Nat) (s : zS) (a1 : Int32) (a2 : Int32) (a3 : Int32) (Q : Int32 → zS → Prop) (h : (a3.toInt < (s.1 32).toInt → (zWi xs d 181 0 [(0, .ref 32), (1, .int a3)] s (fun v7 s5 => zWi xs (d + 1) 199 27 [(0, .ref 32), (1, .int a1), (2, .int a2), (3, .int a3), (4, .int v7), (5, .int a3), (6, .int (a3 - 1))] s5 Q))) ∧ (¬ a3.toInt < (s.1 32).toInt → ((a2 = 0 ∨ a2 = 1) ∧ Q a2 s))) : zWi xs (d + 1) 199 4 [(0, .ref 32), (1, .int a1), (2, .int a2), (3, .int a3)] s Q := by
  unfold zWi
  refine am_wh 3 (pc1 := 9) (lv1 := [(0, .ref 32), (1, .int a1), (2, .int a2), (3, .int a3)]) (st1 := [.int (s.1 32), .int a3]) rfl ?_
  obtain ⟨h2, h3⟩ := h
  by_cases c1 : a3.toInt < (s.1 32).toInt
  · refine am_wb2 rfl false (zn_ge (zq_a _) (zq_a _) (zr_t _) (zr_t _) c1) rfl ?_
    have h4 := h2 c1
    refine am_wh 2 (pc1 := 14) (lv1 := [(0, .ref 32), (1, .int a1), (2, .int a2), (3, .int a3)]) (st1 := [.int a3, .ref 32]) rfl ?_
    refine am_wc rfl rfl rfl ?_
    refine am_ww h4 ?_
    rintro _ _ ⟨v7, s5, rfl, rfl, h6⟩
    show am_W _ _ 199 17 [(0, .ref 32), (1, .int a1), (2, .int a2), (3, .int a3)] [.int v7] (zH s5) _
    refine am_wh 7 (pc1 := 27) (lv1 := [(6, .int (a3 - 1)), (5, .int a3), (4, .int v7), (0, .ref 32), (1, .int a1), (2, .int a2), (3, .int a3)]) (st1 := []) rfl ?_
    exact am_wm h6 ⟨rfl, rfl, rfl, rfl, rfl, rfl, rfl, trivial⟩
  · refine am_wb2 rfl true (zt_ge (zq_a _) (zq_a _) (zr_t _) (zr_t _) c1) rfl ?_
    have h8 := h3 c1
    refine am_wh 1 (pc1 := 142) (lv1 := [(0, .ref 32), (1, .int a1), (2, .int a2), (3, .int a3)]) (st1 := [.int a2]) rfl ?_
    obtain ⟨o9, h10⟩ := h8
    refine am_wr rfl rfl (zr_b o9) ?_
    exact ⟨_, _, rfl, rfl, h10⟩
set_option maxRecDepth 100000 in
theorem vc_199_27 (xs : Option (List Int32)) (d : Nat) (s : zS) (a1 : Int32) (a2 : Int32) (a3 : Int32) (a4 : Int32) (a5 : Int32) (a6 : Int32) (Q : Int32 → zS → Prop) (h : (a6.toInt < 0 → ((a2.toInt = 0 → ((a1.toInt = 0 → (zX (s.2 52) a3.toInt ∧ zX (s.2 53) a3.toInt ∧ zWi xs (d + 1) 199 4 [(0, .ref 32), (1, .int a1), (2, .int 0), (3, .int (a3 + 1))] (za (za s 52 (zu (s.2 52) a3.toInt a4)) 53 (zu (s.2 53) a3.toInt a5)) Q)) ∧ (¬ a1.toInt = 0 → (zX (s.2 52) a3.toInt ∧ zX (s.2 53) a3.toInt ∧ zWi xs (d + 1) 199 4 [(0, .ref 32), (1, .int a1), (2, .int 0), (3, .int (a3 + 1))] (za (za s 52 (zu (s.2 52) a3.toInt (zg (s.2 52) a3.toInt))) 53 (zu (s.2 53) a3.toInt (zg (s.2 53) a3.toInt))) Q)))) ∧ (¬ a2.toInt = 0 → ((a1.toInt = 0 → (zX (s.2 52) a3.toInt ∧ zX (s.2 53) a3.toInt ∧ zWi xs (d + 1) 199 4 [(0, .ref 32), (1, .int a1), (2, .int 1), (3, .int (a3 + 1))] (za (za s 52 (zu (s.2 52) a3.toInt a4)) 53 (zu (s.2 53) a3.toInt a5)) Q)) ∧ (¬ a1.toInt = 0 → (zX (s.2 52) a3.toInt ∧ ((zg (s.2 52) a3.toInt).toInt = a4.toInt → (zX (s.2 53) a3.toInt ∧ ((zg (s.2 53) a3.toInt).toInt = a5.toInt → (zWi xs (d + 1) 199 4 [(0, .ref 32), (1, .int a1), (2, .int 1), (3, .int (a3 + 1))] (za (za s 52 (zu (s.2 52) a3.toInt (zg (s.2 52) a3.toInt))) 53 (zu (s.2 53) a3.toInt (zg (s.2 53) a3.toInt))) Q)) ∧ (¬ (zg (s.2 53) a3.toInt).toInt = a5.toInt → (zWi xs (d + 1) 199 4 [(0, .ref 32), (1, .int a1), (2, .int 0), (3, .int (a3 + 1))] (za (za s 52 (zu (s.2 52) a3.toInt (zg (s.2 52) a3.toInt))) 53 (zu (s.2 53) a3.toInt (zg (s.2 53) a3.toInt))) Q)))) ∧ (¬ (zg (s.2 52) a3.toInt).toInt = a4.toInt → (zX (s.2 53) a3.toInt ∧ zWi xs (d + 1) 199 4 [(0, .ref 32), (1, .int a1), (2, .int 0), (3, .int (a3 + 1))] (za (za s 52 (zu (s.2 52) a3.toInt (zg (s.2 52) a3.toInt))) 53 (zu (s.2 53) a3.toInt (zg (s.2 53) a3.toInt))) Q)))))))) ∧ (¬ a6.toInt < 0 → (zWi xs d 184 0 [(0, .ref 32), (1, .int a3), (2, .int a6)] s (fun v51 s49 => (v51.toInt = 0 → (zWi xs (d + 1) 199 27 [(0, .ref 32), (1, .int a1), (2, .int a2), (3, .int a3), (4, .int a4), (5, .int a5), (6, .int (a6 + (-1)))] s49 Q)) ∧ (¬ v51.toInt = 0 → (zWi xs (d + 1) 199 27 [(0, .ref 32), (1, .int a1), (2, .int a2), (3, .int a3), (4, .int a4), (5, .int a6), (6, .int (a6 + (-1)))] s49 Q)))))) : zWi xs (d + 1) 199 27 [(0, .ref 32), (1, .int a1), (2, .int a2), (3, .int a3), (4, .int a4), (5, .int a5), (6, .int a6)] s Q := by
  unfold zWi
  refine am_wh 1 (pc1 := 29) (lv1 := [(0, .ref 32), (1, .int a1), (2, .int a2), (3, .int a3), (4, .int a4), (5, .int a5), (6, .int a6)]) (st1 := [.int a6]) rfl ?_
  obtain ⟨h2, h3⟩ := h
  by_cases c1 : a6.toInt < 0
  · refine am_wb1 rfl true (zt_lt (zq_a _) (by decide) (zr_t _) ⟨by decide, by decide⟩ c1) rfl ?_
    have h4 := h2 c1
    refine am_wh 1 (pc1 := 58) (lv1 := [(0, .ref 32), (1, .int a1), (2, .int a2), (3, .int a3), (4, .int a4), (5, .int a5), (6, .int a6)]) (st1 := [.int a2]) rfl ?_
    obtain ⟨h6, h7⟩ := h4
    by_cases c5 : a2.toInt = 0
    · refine am_wb1 rfl true (zt_eq (zq_a _) (by decide) (zr_t _) ⟨by decide, by decide⟩ c5) rfl ?_
      have h8 := h6 c5
      refine am_wh 6 (pc1 := 99) (lv1 := [(2, .int 0), (0, .ref 32), (1, .int a1), (3, .int a3), (4, .int a4), (5, .int a5), (6, .int a6)]) (st1 := [.int a1, .int a3, .ref 54]) rfl ?_
      obtain ⟨h10, h11⟩ := h8
      by_cases c9 : a1.toInt = 0
      · refine am_wb1 rfl true (zt_eq (zq_a _) (by decide) (zr_t _) ⟨by decide, by decide⟩ c9) rfl ?_
        have h12 := h10 c9
        refine am_wh 1 (pc1 := 113) (lv1 := [(2, .int 0), (0, .ref 32), (1, .int a1), (3, .int a3), (4, .int a4), (5, .int a5), (6, .int a6)]) (st1 := [.int a4, .int a3, .ref 54]) rfl ?_
        obtain ⟨o13, h14⟩ := h12
        refine zw_si (l := (s.2 52)) (i := a3.toInt) rfl rfl (zq_a _) o13 (zh_52 _ _) ?_
        refine am_wh 4 (pc1 := 120) (lv1 := [(2, .int 0), (0, .ref 32), (1, .int a1), (3, .int a3), (4, .int a4), (5, .int a5), (6, .int a6)]) (st1 := [.int a1, .int a3, .ref 55]) rfl ?_
        refine am_wb1 rfl true (zt_eq (zq_a _) (by decide) (zr_t _) ⟨by decide, by decide⟩ c9) rfl ?_
        refine am_wh 1 (pc1 := 134) (lv1 := [(2, .int 0), (0, .ref 32), (1, .int a1), (3, .int a3), (4, .int a4), (5, .int a5), (6, .int a6)]) (st1 := [.int a5, .int a3, .ref 55]) rfl ?_
        obtain ⟨o15, h16⟩ := h14
        refine zw_si (l := (s.2 53)) (i := a3.toInt) rfl rfl (zq_a _) o15 (zh_53 _ _) ?_
        refine am_wh 2 (pc1 := 4) (lv1 := [(3, .int (a3 + 1)), (2, .int 0), (0, .ref 32), (1, .int a1), (4, .int a4), (5, .int a5), (6, .int a6)]) (st1 := []) rfl ?_
        exact am_wm h16 ⟨rfl, rfl, rfl, rfl, trivial⟩
      · refine am_wb1 rfl false (zn_eq (zq_a _) (by decide) (zr_t _) ⟨by decide, by decide⟩ c9) rfl ?_
        have h17 := h11 c9
        refine am_wh 3 (pc1 := 107) (lv1 := [(2, .int 0), (0, .ref 32), (1, .int a1), (3, .int a3), (4, .int a4), (5, .int a5), (6, .int a6)]) (st1 := [.int a3, .ref 54, .int a3, .ref 54]) rfl ?_
        obtain ⟨o18, h19⟩ := h17
        refine zw_li (l := (s.2 52)) (i := a3.toInt) rfl rfl (zq_a _) o18 ?_
        refine am_wh 1 (pc1 := 113) (lv1 := [(2, .int 0), (0, .ref 32), (1, .int a1), (3, .int a3), (4, .int a4), (5, .int a5), (6, .int a6)]) (st1 := [.int (zg (s.2 52) a3.toInt), .int a3, .ref 54]) rfl ?_
        refine zw_si (l := (s.2 52)) (i := a3.toInt) rfl rfl (zq_a _) o18 (zh_52 _ _) ?_
        refine am_wh 4 (pc1 := 120) (lv1 := [(2, .int 0), (0, .ref 32), (1, .int a1), (3, .int a3), (4, .int a4), (5, .int a5), (6, .int a6)]) (st1 := [.int a1, .int a3, .ref 55]) rfl ?_
        refine am_wb1 rfl false (zn_eq (zq_a _) (by decide) (zr_t _) ⟨by decide, by decide⟩ c9) rfl ?_
        refine am_wh 3 (pc1 := 128) (lv1 := [(2, .int 0), (0, .ref 32), (1, .int a1), (3, .int a3), (4, .int a4), (5, .int a5), (6, .int a6)]) (st1 := [.int a3, .ref 55, .int a3, .ref 55]) rfl ?_
        obtain ⟨o20, h21⟩ := h19
        refine zw_li (l := (s.2 53)) (i := a3.toInt) rfl rfl (zq_a _) o20 ?_
        refine am_wh 1 (pc1 := 134) (lv1 := [(2, .int 0), (0, .ref 32), (1, .int a1), (3, .int a3), (4, .int a4), (5, .int a5), (6, .int a6)]) (st1 := [.int (zg (s.2 53) a3.toInt), .int a3, .ref 55]) rfl ?_
        refine zw_si (l := (s.2 53)) (i := a3.toInt) rfl rfl (zq_a _) o20 (zh_53 _ _) ?_
        refine am_wh 2 (pc1 := 4) (lv1 := [(3, .int (a3 + 1)), (2, .int 0), (0, .ref 32), (1, .int a1), (4, .int a4), (5, .int a5), (6, .int a6)]) (st1 := []) rfl ?_
        exact am_wm h21 ⟨rfl, rfl, rfl, rfl, trivial⟩
    · refine am_wb1 rfl false (zn_eq (zq_a _) (by decide) (zr_t _) ⟨by decide, by decide⟩ c5) rfl ?_
      have h22 := h7 c5
      refine am_wh 1 (pc1 := 62) (lv1 := [(0, .ref 32), (1, .int a1), (2, .int a2), (3, .int a3), (4, .int a4), (5, .int a5), (6, .int a6)]) (st1 := [.int a1]) rfl ?_
      obtain ⟨h24, h25⟩ := h22
      by_cases c23 : a1.toInt = 0
      · refine am_wb1 rfl true (zt_eq (zq_a _) (by decide) (zr_t _) ⟨by decide, by decide⟩ c23) rfl ?_
        have h26 := h24 c23
        refine am_wh 7 (pc1 := 99) (lv1 := [(2, .int 1), (0, .ref 32), (1, .int a1), (3, .int a3), (4, .int a4), (5, .int a5), (6, .int a6)]) (st1 := [.int a1, .int a3, .ref 54]) rfl ?_
        refine am_wb1 rfl true (zt_eq (zq_a _) (by decide) (zr_t _) ⟨by decide, by decide⟩ c23) rfl ?_
        refine am_wh 1 (pc1 := 113) (lv1 := [(2, .int 1), (0, .ref 32), (1, .int a1), (3, .int a3), (4, .int a4), (5, .int a5), (6, .int a6)]) (st1 := [.int a4, .int a3, .ref 54]) rfl ?_
        obtain ⟨o27, h28⟩ := h26
        refine zw_si (l := (s.2 52)) (i := a3.toInt) rfl rfl (zq_a _) o27 (zh_52 _ _) ?_
        refine am_wh 4 (pc1 := 120) (lv1 := [(2, .int 1), (0, .ref 32), (1, .int a1), (3, .int a3), (4, .int a4), (5, .int a5), (6, .int a6)]) (st1 := [.int a1, .int a3, .ref 55]) rfl ?_
        refine am_wb1 rfl true (zt_eq (zq_a _) (by decide) (zr_t _) ⟨by decide, by decide⟩ c23) rfl ?_
        refine am_wh 1 (pc1 := 134) (lv1 := [(2, .int 1), (0, .ref 32), (1, .int a1), (3, .int a3), (4, .int a4), (5, .int a5), (6, .int a6)]) (st1 := [.int a5, .int a3, .ref 55]) rfl ?_
        obtain ⟨o29, h30⟩ := h28
        refine zw_si (l := (s.2 53)) (i := a3.toInt) rfl rfl (zq_a _) o29 (zh_53 _ _) ?_
        refine am_wh 2 (pc1 := 4) (lv1 := [(3, .int (a3 + 1)), (2, .int 1), (0, .ref 32), (1, .int a1), (4, .int a4), (5, .int a5), (6, .int a6)]) (st1 := []) rfl ?_
        exact am_wm h30 ⟨rfl, rfl, rfl, rfl, trivial⟩
      · refine am_wb1 rfl false (zn_eq (zq_a _) (by decide) (zr_t _) ⟨by decide, by decide⟩ c23) rfl ?_
        have h31 := h25 c23
        refine am_wh 3 (pc1 := 70) (lv1 := [(0, .ref 32), (1, .int a1), (2, .int a2), (3, .int a3), (4, .int a4), (5, .int a5), (6, .int a6)]) (st1 := [.int a3, .ref 54]) rfl ?_
        obtain ⟨o32, h33⟩ := h31
        refine zw_li (l := (s.2 52)) (i := a3.toInt) rfl rfl (zq_a _) o32 ?_
        refine am_wh 1 (pc1 := 73) (lv1 := [(0, .ref 32), (1, .int a1), (2, .int a2), (3, .int a3), (4, .int a4), (5, .int a5), (6, .int a6)]) (st1 := [.int a4, .int (zg (s.2 52) a3.toInt)]) rfl ?_
        obtain ⟨h35, h36⟩ := h33
        by_cases c34 : (zg (s.2 52) a3.toInt).toInt = a4.toInt
        · refine am_wb2 rfl false (zn_ne (zq_a _) (zq_a _) (zr_t _) (zr_t _) c34) rfl ?_
          have h37 := h35 c34
          refine am_wh 3 (pc1 := 81) (lv1 := [(0, .ref 32), (1, .int a1), (2, .int a2), (3, .int a3), (4, .int a4), (5, .int a5), (6, .int a6)]) (st1 := [.int a3, .ref 55]) rfl ?_
          obtain ⟨o38, h39⟩ := h37
          refine zw_li (l := (s.2 53)) (i := a3.toInt) rfl rfl (zq_a _) o38 ?_
          refine am_wh 1 (pc1 := 84) (lv1 := [(0, .ref 32), (1, .int a1), (2, .int a2), (3, .int a3), (4, .int a4), (5, .int a5), (6, .int a6)]) (st1 := [.int a5, .int (zg (s.2 53) a3.toInt)]) rfl ?_
          obtain ⟨h41, h42⟩ := h39
          by_cases c40 : (zg (s.2 53) a3.toInt).toInt = a5.toInt
          · refine am_wb2 rfl false (zn_ne (zq_a _) (zq_a _) (zr_t _) (zr_t _) c40) rfl ?_
            have h43 := h41 c40
            refine am_wh 7 (pc1 := 99) (lv1 := [(2, .int 1), (0, .ref 32), (1, .int a1), (3, .int a3), (4, .int a4), (5, .int a5), (6, .int a6)]) (st1 := [.int a1, .int a3, .ref 54]) rfl ?_
            refine am_wb1 rfl false (zn_eq (zq_a _) (by decide) (zr_t _) ⟨by decide, by decide⟩ c23) rfl ?_
            refine am_wh 3 (pc1 := 107) (lv1 := [(2, .int 1), (0, .ref 32), (1, .int a1), (3, .int a3), (4, .int a4), (5, .int a5), (6, .int a6)]) (st1 := [.int a3, .ref 54, .int a3, .ref 54]) rfl ?_
            refine zw_li (l := (s.2 52)) (i := a3.toInt) rfl rfl (zq_a _) o32 ?_
            refine am_wh 1 (pc1 := 113) (lv1 := [(2, .int 1), (0, .ref 32), (1, .int a1), (3, .int a3), (4, .int a4), (5, .int a5), (6, .int a6)]) (st1 := [.int (zg (s.2 52) a3.toInt), .int a3, .ref 54]) rfl ?_
            refine zw_si (l := (s.2 52)) (i := a3.toInt) rfl rfl (zq_a _) o32 (zh_52 _ _) ?_
            refine am_wh 4 (pc1 := 120) (lv1 := [(2, .int 1), (0, .ref 32), (1, .int a1), (3, .int a3), (4, .int a4), (5, .int a5), (6, .int a6)]) (st1 := [.int a1, .int a3, .ref 55]) rfl ?_
            refine am_wb1 rfl false (zn_eq (zq_a _) (by decide) (zr_t _) ⟨by decide, by decide⟩ c23) rfl ?_
            refine am_wh 3 (pc1 := 128) (lv1 := [(2, .int 1), (0, .ref 32), (1, .int a1), (3, .int a3), (4, .int a4), (5, .int a5), (6, .int a6)]) (st1 := [.int a3, .ref 55, .int a3, .ref 55]) rfl ?_
            refine zw_li (l := (s.2 53)) (i := a3.toInt) rfl rfl (zq_a _) o38 ?_
            refine am_wh 1 (pc1 := 134) (lv1 := [(2, .int 1), (0, .ref 32), (1, .int a1), (3, .int a3), (4, .int a4), (5, .int a5), (6, .int a6)]) (st1 := [.int (zg (s.2 53) a3.toInt), .int a3, .ref 55]) rfl ?_
            refine zw_si (l := (s.2 53)) (i := a3.toInt) rfl rfl (zq_a _) o38 (zh_53 _ _) ?_
            refine am_wh 2 (pc1 := 4) (lv1 := [(3, .int (a3 + 1)), (2, .int 1), (0, .ref 32), (1, .int a1), (4, .int a4), (5, .int a5), (6, .int a6)]) (st1 := []) rfl ?_
            exact am_wm h43 ⟨rfl, rfl, rfl, rfl, trivial⟩
          · refine am_wb2 rfl true (zt_ne (zq_a _) (zq_a _) (zr_t _) (zr_t _) c40) rfl ?_
            have h44 := h42 c40
            refine am_wh 6 (pc1 := 99) (lv1 := [(2, .int 0), (0, .ref 32), (1, .int a1), (3, .int a3), (4, .int a4), (5, .int a5), (6, .int a6)]) (st1 := [.int a1, .int a3, .ref 54]) rfl ?_
            refine am_wb1 rfl false (zn_eq (zq_a _) (by decide) (zr_t _) ⟨by decide, by decide⟩ c23) rfl ?_
            refine am_wh 3 (pc1 := 107) (lv1 := [(2, .int 0), (0, .ref 32), (1, .int a1), (3, .int a3), (4, .int a4), (5, .int a5), (6, .int a6)]) (st1 := [.int a3, .ref 54, .int a3, .ref 54]) rfl ?_
            refine zw_li (l := (s.2 52)) (i := a3.toInt) rfl rfl (zq_a _) o32 ?_
            refine am_wh 1 (pc1 := 113) (lv1 := [(2, .int 0), (0, .ref 32), (1, .int a1), (3, .int a3), (4, .int a4), (5, .int a5), (6, .int a6)]) (st1 := [.int (zg (s.2 52) a3.toInt), .int a3, .ref 54]) rfl ?_
            refine zw_si (l := (s.2 52)) (i := a3.toInt) rfl rfl (zq_a _) o32 (zh_52 _ _) ?_
            refine am_wh 4 (pc1 := 120) (lv1 := [(2, .int 0), (0, .ref 32), (1, .int a1), (3, .int a3), (4, .int a4), (5, .int a5), (6, .int a6)]) (st1 := [.int a1, .int a3, .ref 55]) rfl ?_
            refine am_wb1 rfl false (zn_eq (zq_a _) (by decide) (zr_t _) ⟨by decide, by decide⟩ c23) rfl ?_
            refine am_wh 3 (pc1 := 128) (lv1 := [(2, .int 0), (0, .ref 32), (1, .int a1), (3, .int a3), (4, .int a4), (5, .int a5), (6, .int a6)]) (st1 := [.int a3, .ref 55, .int a3, .ref 55]) rfl ?_
            refine zw_li (l := (s.2 53)) (i := a3.toInt) rfl rfl (zq_a _) o38 ?_
            refine am_wh 1 (pc1 := 134) (lv1 := [(2, .int 0), (0, .ref 32), (1, .int a1), (3, .int a3), (4, .int a4), (5, .int a5), (6, .int a6)]) (st1 := [.int (zg (s.2 53) a3.toInt), .int a3, .ref 55]) rfl ?_
            refine zw_si (l := (s.2 53)) (i := a3.toInt) rfl rfl (zq_a _) o38 (zh_53 _ _) ?_
            refine am_wh 2 (pc1 := 4) (lv1 := [(3, .int (a3 + 1)), (2, .int 0), (0, .ref 32), (1, .int a1), (4, .int a4), (5, .int a5), (6, .int a6)]) (st1 := []) rfl ?_
            exact am_wm h44 ⟨rfl, rfl, rfl, rfl, trivial⟩
        · refine am_wb2 rfl true (zt_ne (zq_a _) (zq_a _) (zr_t _) (zr_t _) c34) rfl ?_
          have h45 := h36 c34
          refine am_wh 6 (pc1 := 99) (lv1 := [(2, .int 0), (0, .ref 32), (1, .int a1), (3, .int a3), (4, .int a4), (5, .int a5), (6, .int a6)]) (st1 := [.int a1, .int a3, .ref 54]) rfl ?_
          refine am_wb1 rfl false (zn_eq (zq_a _) (by decide) (zr_t _) ⟨by decide, by decide⟩ c23) rfl ?_
          refine am_wh 3 (pc1 := 107) (lv1 := [(2, .int 0), (0, .ref 32), (1, .int a1), (3, .int a3), (4, .int a4), (5, .int a5), (6, .int a6)]) (st1 := [.int a3, .ref 54, .int a3, .ref 54]) rfl ?_
          refine zw_li (l := (s.2 52)) (i := a3.toInt) rfl rfl (zq_a _) o32 ?_
          refine am_wh 1 (pc1 := 113) (lv1 := [(2, .int 0), (0, .ref 32), (1, .int a1), (3, .int a3), (4, .int a4), (5, .int a5), (6, .int a6)]) (st1 := [.int (zg (s.2 52) a3.toInt), .int a3, .ref 54]) rfl ?_
          refine zw_si (l := (s.2 52)) (i := a3.toInt) rfl rfl (zq_a _) o32 (zh_52 _ _) ?_
          refine am_wh 4 (pc1 := 120) (lv1 := [(2, .int 0), (0, .ref 32), (1, .int a1), (3, .int a3), (4, .int a4), (5, .int a5), (6, .int a6)]) (st1 := [.int a1, .int a3, .ref 55]) rfl ?_
          refine am_wb1 rfl false (zn_eq (zq_a _) (by decide) (zr_t _) ⟨by decide, by decide⟩ c23) rfl ?_
          refine am_wh 3 (pc1 := 128) (lv1 := [(2, .int 0), (0, .ref 32), (1, .int a1), (3, .int a3), (4, .int a4), (5, .int a5), (6, .int a6)]) (st1 := [.int a3, .ref 55, .int a3, .ref 55]) rfl ?_
          obtain ⟨o46, h47⟩ := h45
          refine zw_li (l := (s.2 53)) (i := a3.toInt) rfl rfl (zq_a _) o46 ?_
          refine am_wh 1 (pc1 := 134) (lv1 := [(2, .int 0), (0, .ref 32), (1, .int a1), (3, .int a3), (4, .int a4), (5, .int a5), (6, .int a6)]) (st1 := [.int (zg (s.2 53) a3.toInt), .int a3, .ref 55]) rfl ?_
          refine zw_si (l := (s.2 53)) (i := a3.toInt) rfl rfl (zq_a _) o46 (zh_53 _ _) ?_
          refine am_wh 2 (pc1 := 4) (lv1 := [(3, .int (a3 + 1)), (2, .int 0), (0, .ref 32), (1, .int a1), (4, .int a4), (5, .int a5), (6, .int a6)]) (st1 := []) rfl ?_
          exact am_wm h47 ⟨rfl, rfl, rfl, rfl, trivial⟩
  · refine am_wb1 rfl false (zn_lt (zq_a _) (by decide) (zr_t _) ⟨by decide, by decide⟩ c1) rfl ?_
    have h48 := h3 c1
    refine am_wh 3 (pc1 := 36) (lv1 := [(0, .ref 32), (1, .int a1), (2, .int a2), (3, .int a3), (4, .int a4), (5, .int a5), (6, .int a6)]) (st1 := [.int a6, .int a3, .ref 32]) rfl ?_
    refine am_wc rfl rfl rfl ?_
    refine am_ww h48 ?_
    rintro _ _ ⟨v51, s49, rfl, rfl, h50⟩
    show am_W _ _ 199 39 [(0, .ref 32), (1, .int a1), (2, .int a2), (3, .int a3), (4, .int a4), (5, .int a5), (6, .int a6)] [.int v51] (zH s49) _
    obtain ⟨h53, h54⟩ := h50
    by_cases c52 : v51.toInt = 0
    · refine am_wb1 rfl true (zt_eq (zq_a _) (by decide) (zr_t _) ⟨by decide, by decide⟩ c52) rfl ?_
      have h55 := h53 c52
      refine am_wh 4 (pc1 := 27) (lv1 := [(6, .int (a6 + (-1))), (5, .int a5), (0, .ref 32), (1, .int a1), (2, .int a2), (3, .int a3), (4, .int a4)]) (st1 := []) rfl ?_
      exact am_wm h55 ⟨rfl, rfl, rfl, rfl, rfl, rfl, rfl, trivial⟩
    · refine am_wb1 rfl false (zn_eq (zq_a _) (by decide) (zr_t _) ⟨by decide, by decide⟩ c52) rfl ?_
      have h56 := h54 c52
      refine am_wh 5 (pc1 := 27) (lv1 := [(6, .int (a6 + (-1))), (5, .int a6), (0, .ref 32), (1, .int a1), (2, .int a2), (3, .int a3), (4, .int a4)]) (st1 := []) rfl ?_
      exact am_wm h56 ⟨rfl, rfl, rfl, rfl, rfl, rfl, rfl, trivial⟩
set_option maxRecDepth 100000 in
theorem vc_200_0 (xs : Option (List Int32)) (d : Nat) (s : zS) (a1 : Int32) (a2 : Int64) (Q : Int32 → zS → Prop) (h : zWi xs d 183 0 [(0, .ref 32), (1, .int a1)] s (fun v3 s1 => zWi xs d 198 0 [(0, .long a2)] s1 (fun v6 s4 => (v3.toInt < 0 → (Q (-1) s4)) ∧ (¬ v3.toInt < 0 → ((v6.toInt = 0 → (Q (-1) s4)) ∧ (¬ v6.toInt = 0 → (zWi xs d 181 0 [(0, .ref 32), (1, .int v3)] s4 (fun v19 s17 => ((v19 - v19 / 8 * 8).toInt = 6 → (Q (-3) s17)) ∧ (¬ (v19 - v19 / 8 * 8).toInt = 6 → (zX (s17.2 51) v3.toInt ∧ zX (s17.2 36) (zg (s17.2 51) v3.toInt).toInt ∧ zX (s17.2 35) (zg (s17.2 51) v3.toInt).toInt ∧ zWi xs d 199 0 [(0, .ref 32), (1, .int 0)] s17 (fun v33 s31 => zWi xs (d + 1) 200 81 [(0, .ref 32), (2, .long a2), (4, .int v3), (5, .int v6), (6, .int 0), (7, .int ((zg (s17.2 36) (zg (s17.2 51) v3.toInt).toInt) - (zg (s17.2 35) (zg (s17.2 51) v3.toInt).toInt))), (8, .int 0)] s31 Q))))))))))) : zWi xs (d + 1) 200 0 [(0, .ref 32), (1, .int a1), (2, .long a2)] s Q := by
  unfold zWi
  refine am_wh 2 (pc1 := 2) (lv1 := [(0, .ref 32), (1, .int a1), (2, .long a2)]) (st1 := [.int a1, .ref 32]) rfl ?_
  refine am_wc rfl rfl rfl ?_
  refine am_ww h ?_
  rintro _ _ ⟨v3, s1, rfl, rfl, h2⟩
  show am_W _ _ 200 5 [(0, .ref 32), (1, .int a1), (2, .long a2)] [.int v3] (zH s1) _
  refine am_wh 2 (pc1 := 8) (lv1 := [(4, .int v3), (0, .ref 32), (1, .int a1), (2, .long a2)]) (st1 := [.long a2]) rfl ?_
  refine am_wc rfl rfl rfl ?_
  refine am_ww h2 ?_
  rintro _ _ ⟨v6, s4, rfl, rfl, h5⟩
  show am_W _ _ 200 11 [(4, .int v3), (0, .ref 32), (1, .int a1), (2, .long a2)] [.int v6] (zH s4) _
  refine am_wh 2 (pc1 := 15) (lv1 := [(5, .int v6), (4, .int v3), (0, .ref 32), (1, .int a1), (2, .long a2)]) (st1 := [.int v3]) rfl ?_
  obtain ⟨h8, h9⟩ := h5
  by_cases c7 : v3.toInt < 0
  · refine am_wb1 rfl true (zt_lt (zq_a _) (by decide) (zr_t _) ⟨by decide, by decide⟩ c7) rfl ?_
    have h10 := h8 c7
    refine am_wh 1 (pc1 := 24) (lv1 := [(5, .int v6), (4, .int v3), (0, .ref 32), (1, .int a1), (2, .long a2)]) (st1 := [.int (-1)]) rfl ?_
    refine am_wr rfl rfl rfl ?_
    exact ⟨_, _, rfl, rfl, h10⟩
  · refine am_wb1 rfl false (zn_lt (zq_a _) (by decide) (zr_t _) ⟨by decide, by decide⟩ c7) rfl ?_
    have h11 := h9 c7
    refine am_wh 1 (pc1 := 20) (lv1 := [(5, .int v6), (4, .int v3), (0, .ref 32), (1, .int a1), (2, .long a2)]) (st1 := [.int v6]) rfl ?_
    obtain ⟨h13, h14⟩ := h11
    by_cases c12 : v6.toInt = 0
    · refine am_wb1 rfl false (zn_ne (zq_a _) (by decide) (zr_t _) ⟨by decide, by decide⟩ c12) rfl ?_
      have h15 := h13 c12
      refine am_wh 1 (pc1 := 24) (lv1 := [(5, .int v6), (4, .int v3), (0, .ref 32), (1, .int a1), (2, .long a2)]) (st1 := [.int (-1)]) rfl ?_
      refine am_wr rfl rfl rfl ?_
      exact ⟨_, _, rfl, rfl, h15⟩
    · refine am_wb1 rfl true (zt_ne (zq_a _) (by decide) (zr_t _) ⟨by decide, by decide⟩ c12) rfl ?_
      have h16 := h14 c12
      refine am_wh 2 (pc1 := 28) (lv1 := [(5, .int v6), (4, .int v3), (0, .ref 32), (1, .int a1), (2, .long a2)]) (st1 := [.int v3, .ref 32]) rfl ?_
      refine am_wc rfl rfl rfl ?_
      refine am_ww h16 ?_
      rintro _ _ ⟨v19, s17, rfl, rfl, h18⟩
      show am_W _ _ 200 31 [(5, .int v6), (4, .int v3), (0, .ref 32), (1, .int a1), (2, .long a2)] [.int v19] (zH s17) _
      refine am_wh 3 (pc1 := 36) (lv1 := [(5, .int v6), (4, .int v3), (0, .ref 32), (1, .int a1), (2, .long a2)]) (st1 := [.int 6, .int (v19 - v19 / 8 * 8)]) rfl ?_
      obtain ⟨h21, h22⟩ := h18
      by_cases c20 : (v19 - v19 / 8 * 8).toInt = 6
      · refine am_wb2 rfl false (zn_ne (zq_a _) (by decide) (zr_t _) ⟨by decide, by decide⟩ c20) rfl ?_
        have h23 := h21 c20
        refine am_wh 1 (pc1 := 41) (lv1 := [(5, .int v6), (4, .int v3), (0, .ref 32), (1, .int a1), (2, .long a2)]) (st1 := [.int (-3)]) rfl ?_
        refine am_wr rfl rfl rfl ?_
        exact ⟨_, _, rfl, rfl, h23⟩
      · refine am_wb2 rfl true (zt_ne (zq_a _) (by decide) (zr_t _) ⟨by decide, by decide⟩ c20) rfl ?_
        have h24 := h22 c20
        refine am_wh 7 (pc1 := 55) (lv1 := [(6, .int 0), (5, .int v6), (4, .int v3), (0, .ref 32), (1, .int a1), (2, .long a2)]) (st1 := [.int v3, .ref 53, .ref 38]) rfl ?_
        obtain ⟨o25, h26⟩ := h24
        refine zw_li (l := (s17.2 51)) (i := v3.toInt) rfl rfl (zq_a _) o25 ?_
        obtain ⟨o27, h28⟩ := h26
        refine zw_li (l := (s17.2 36)) (i := (zg (s17.2 51) v3.toInt).toInt) rfl rfl (zq_a _) o27 ?_
        refine am_wh 5 (pc1 := 67) (lv1 := [(6, .int 0), (5, .int v6), (4, .int v3), (0, .ref 32), (1, .int a1), (2, .long a2)]) (st1 := [.int v3, .ref 53, .ref 37, .int (zg (s17.2 36) (zg (s17.2 51) v3.toInt).toInt)]) rfl ?_
        refine zw_li (l := (s17.2 51)) (i := v3.toInt) rfl rfl (zq_a _) o25 ?_
        obtain ⟨o29, h30⟩ := h28
        refine zw_li (l := (s17.2 35)) (i := (zg (s17.2 51) v3.toInt).toInt) rfl rfl (zq_a _) o29 ?_
        refine am_wh 4 (pc1 := 74) (lv1 := [(7, .int ((zg (s17.2 36) (zg (s17.2 51) v3.toInt).toInt) - (zg (s17.2 35) (zg (s17.2 51) v3.toInt).toInt))), (6, .int 0), (5, .int v6), (4, .int v3), (0, .ref 32), (1, .int a1), (2, .long a2)]) (st1 := [.int 0, .ref 32]) rfl ?_
        refine am_wc rfl rfl rfl ?_
        refine am_ww h30 ?_
        rintro _ _ ⟨v33, s31, rfl, rfl, h32⟩
        show am_W _ _ 200 77 [(7, .int ((zg (s17.2 36) (zg (s17.2 51) v3.toInt).toInt) - (zg (s17.2 35) (zg (s17.2 51) v3.toInt).toInt))), (6, .int 0), (5, .int v6), (4, .int v3), (0, .ref 32), (1, .int a1), (2, .long a2)] [.int v33] (zH s31) _
        refine am_wh 3 (pc1 := 81) (lv1 := [(8, .int 0), (7, .int ((zg (s17.2 36) (zg (s17.2 51) v3.toInt).toInt) - (zg (s17.2 35) (zg (s17.2 51) v3.toInt).toInt))), (6, .int 0), (5, .int v6), (4, .int v3), (0, .ref 32), (1, .int a1), (2, .long a2)]) (st1 := []) rfl ?_
        exact am_wm h32 ⟨rfl, rfl, rfl, rfl, rfl, rfl, rfl, trivial⟩
set_option maxRecDepth 100000 in
theorem vc_200_81 (xs : Option (List Int32)) (d : Nat) (s : zS) (a2 : Int64) (a4 : Int32) (a5 : Int32) (a6 : Int32) (a7 : Int32) (a8 : Int32) (Q : Int32 → zS → Prop) (h : (a8.toInt < (s.1 32).toInt → (zX (s.2 53) a8.toInt ∧ zX (s.2 53) a4.toInt ∧ ((zg (s.2 53) a8.toInt).toInt = (zg (s.2 53) a4.toInt).toInt → (zWi xs (d + 1) 200 81 [(0, .ref 32), (2, .long a2), (4, .int a4), (5, .int a5), (6, .int (a6 + 1)), (7, .int a7), (8, .int (a8 + 1))] s Q)) ∧ (¬ (zg (s.2 53) a8.toInt).toInt = (zg (s.2 53) a4.toInt).toInt → (zWi xs (d + 1) 200 81 [(0, .ref 32), (2, .long a2), (4, .int a4), (5, .int a5), (6, .int a6), (7, .int a7), (8, .int (a8 + 1))] s Q)))) ∧ (¬ a8.toInt < (s.1 32).toInt → (zR ((s.1 21).toInt + (a6.toInt * (a5.toInt - a7.toInt))) ∧ (200 < ((s.1 21).toInt + (a6.toInt * (a5.toInt - a7.toInt))) → (Q (-2) s)) ∧ (¬ 200 < ((s.1 21).toInt + (a6.toInt * (a5.toInt - a7.toInt))) → (zWi xs d 201 0 [(0, .ref 32), (1, .int a4), (2, .int a7), (3, .int a5), (4, .long a2)] s (fun v24 s22 => (v24.toInt = 0 → (Q (-4) s22)) ∧ (¬ v24.toInt = 0 → (Q a6 s22)))))))) : zWi xs (d + 1) 200 81 [(0, .ref 32), (2, .long a2), (4, .int a4), (5, .int a5), (6, .int a6), (7, .int a7), (8, .int a8)] s Q := by
  unfold zWi
  refine am_wh 3 (pc1 := 87) (lv1 := [(0, .ref 32), (2, .long a2), (4, .int a4), (5, .int a5), (6, .int a6), (7, .int a7), (8, .int a8)]) (st1 := [.int (s.1 32), .int a8]) rfl ?_
  obtain ⟨h2, h3⟩ := h
  by_cases c1 : a8.toInt < (s.1 32).toInt
  · refine am_wb2 rfl false (zn_ge (zq_a _) (zq_a _) (zr_t _) (zr_t _) c1) rfl ?_
    have h4 := h2 c1
    refine am_wh 3 (pc1 := 96) (lv1 := [(0, .ref 32), (2, .long a2), (4, .int a4), (5, .int a5), (6, .int a6), (7, .int a7), (8, .int a8)]) (st1 := [.int a8, .ref 55]) rfl ?_
    obtain ⟨o5, h6⟩ := h4
    refine zw_li (l := (s.2 53)) (i := a8.toInt) rfl rfl (zq_a _) o5 ?_
    refine am_wh 3 (pc1 := 103) (lv1 := [(0, .ref 32), (2, .long a2), (4, .int a4), (5, .int a5), (6, .int a6), (7, .int a7), (8, .int a8)]) (st1 := [.int a4, .ref 55, .int (zg (s.2 53) a8.toInt)]) rfl ?_
    obtain ⟨o7, h8⟩ := h6
    refine zw_li (l := (s.2 53)) (i := a4.toInt) rfl rfl (zq_a _) o7 ?_
    obtain ⟨h10, h11⟩ := h8
    by_cases c9 : (zg (s.2 53) a8.toInt).toInt = (zg (s.2 53) a4.toInt).toInt
    · refine am_wb2 rfl false (zn_ne (zq_a _) (zq_a _) (zr_t _) (zr_t _) c9) rfl ?_
      have h12 := h10 c9
      refine am_wh 7 (pc1 := 81) (lv1 := [(8, .int (a8 + 1)), (6, .int (a6 + 1)), (0, .ref 32), (2, .long a2), (4, .int a4), (5, .int a5), (7, .int a7)]) (st1 := []) rfl ?_
      exact am_wm h12 ⟨rfl, rfl, rfl, rfl, rfl, rfl, rfl, trivial⟩
    · refine am_wb2 rfl true (zt_ne (zq_a _) (zq_a _) (zr_t _) (zr_t _) c9) rfl ?_
      have h13 := h11 c9
      refine am_wh 4 (pc1 := 81) (lv1 := [(8, .int (a8 + 1)), (6, .int a6), (0, .ref 32), (2, .long a2), (4, .int a4), (5, .int a5), (7, .int a7)]) (st1 := []) rfl ?_
      exact am_wm h13 ⟨rfl, rfl, rfl, rfl, rfl, rfl, rfl, trivial⟩
  · refine am_wb2 rfl true (zt_ge (zq_a _) (zq_a _) (zr_t _) (zr_t _) c1) rfl ?_
    have h14 := h3 c1
    refine am_wh 9 (pc1 := 140) (lv1 := [(0, .ref 32), (2, .long a2), (4, .int a4), (5, .int a5), (6, .int a6), (7, .int a7), (8, .int a8)]) (st1 := [.int 200, .int ((s.1 21) + (a6 * (a5 - a7)))]) rfl ?_
    obtain ⟨o15, h16⟩ := h14
    obtain ⟨h18, h19⟩ := h16
    by_cases c17 : 200 < ((s.1 21).toInt + (a6.toInt * (a5.toInt - a7.toInt)))
    · refine am_wb2 rfl false (zn_le (zq_add (zq_a _) (zq_mul (zq_a _) (zq_sub (zq_a _) (zq_a _)))) (by decide) o15 ⟨by decide, by decide⟩ c17) rfl ?_
      have h20 := h18 c17
      refine am_wh 1 (pc1 := 145) (lv1 := [(0, .ref 32), (2, .long a2), (4, .int a4), (5, .int a5), (6, .int a6), (7, .int a7), (8, .int a8)]) (st1 := [.int (-2)]) rfl ?_
      refine am_wr rfl rfl rfl ?_
      exact ⟨_, _, rfl, rfl, h20⟩
    · refine am_wb2 rfl true (zt_le (zq_add (zq_a _) (zq_mul (zq_a _) (zq_sub (zq_a _) (zq_a _)))) (by decide) o15 ⟨by decide, by decide⟩ c17) rfl ?_
      have h21 := h19 c17
      refine am_wh 5 (pc1 := 154) (lv1 := [(0, .ref 32), (2, .long a2), (4, .int a4), (5, .int a5), (6, .int a6), (7, .int a7), (8, .int a8)]) (st1 := [.long a2, .int a5, .int a7, .int a4, .ref 32]) rfl ?_
      refine am_wc rfl rfl rfl ?_
      refine am_ww h21 ?_
      rintro _ _ ⟨v24, s22, rfl, rfl, h23⟩
      show am_W _ _ 200 157 [(0, .ref 32), (2, .long a2), (4, .int a4), (5, .int a5), (6, .int a6), (7, .int a7), (8, .int a8)] [.int v24] (zH s22) _
      obtain ⟨h26, h27⟩ := h23
      by_cases c25 : v24.toInt = 0
      · refine am_wb1 rfl true (zt_eq (zq_a _) (by decide) (zr_t _) ⟨by decide, by decide⟩ c25) rfl ?_
        have h28 := h26 c25
        refine am_wh 1 (pc1 := 167) (lv1 := [(0, .ref 32), (2, .long a2), (4, .int a4), (5, .int a5), (6, .int a6), (7, .int a7), (8, .int a8)]) (st1 := [.int (-4)]) rfl ?_
        refine am_wr rfl rfl rfl ?_
        exact ⟨_, _, rfl, rfl, h28⟩
      · refine am_wb1 rfl false (zn_eq (zq_a _) (by decide) (zr_t _) ⟨by decide, by decide⟩ c25) rfl ?_
        have h29 := h27 c25
        refine am_wh 2 (pc1 := 167) (lv1 := [(0, .ref 32), (2, .long a2), (4, .int a4), (5, .int a5), (6, .int a6), (7, .int a7), (8, .int a8)]) (st1 := [.int a6]) rfl ?_
        refine am_wr rfl rfl rfl ?_
        exact ⟨_, _, rfl, rfl, h29⟩
set_option maxRecDepth 100000 in
theorem vc_201_0 (xs : Option (List Int32)) (d : Nat) (s : zS) (a1 : Int32) (a2 : Int32) (a3 : Int32) (a4 : Int64) (Q : Int32 → zS → Prop) (h : zWi xs (d + 1) 201 15 [(0, .ref 32), (1, .int a1), (2, .int a2), (3, .int a3), (4, .long a4), (6, .int (s.1 21)), (7, .int (s.1 32)), (8, .int 0)] s Q) : zWi xs (d + 1) 201 0 [(0, .ref 32), (1, .int a1), (2, .int a2), (3, .int a3), (4, .long a4)] s Q := by
  unfold zWi
  refine am_wh 8 (pc1 := 15) (lv1 := [(8, .int 0), (7, .int (s.1 32)), (6, .int (s.1 21)), (0, .ref 32), (1, .int a1), (2, .int a2), (3, .int a3), (4, .long a4)]) (st1 := []) rfl ?_
  exact am_wm h ⟨rfl, rfl, rfl, rfl, rfl, rfl, rfl, rfl, trivial⟩
set_option maxRecDepth 100000 in
theorem vc_201_15 (xs : Option (List Int32)) (d : Nat) (s : zS) (a1 : Int32) (a2 : Int32) (a3 : Int32) (a4 : Int64) (a6 : Int32) (a7 : Int32) (a8 : Int32) (Q : Int32 → zS → Prop) (h : (a8.toInt < (s.1 21).toInt → (zX (s.2 31) a8.toInt ∧ zX (s.2 33) a8.toInt ∧ zWi xs (d + 1) 201 15 [(0, .ref 32), (1, .int a1), (2, .int a2), (3, .int a3), (4, .long a4), (6, .int a6), (7, .int a7), (8, .int (a8 + 1))] (za s 33 (zu (s.2 33) a8.toInt (zg (s.2 31) a8.toInt))) Q)) ∧ (¬ a8.toInt < (s.1 21).toInt → (zX (s.2 53) a1.toInt ∧ zWi xs (d + 1) 201 58 [(0, .ref 32), (2, .int a2), (3, .int a3), (4, .long a4), (6, .int a6), (7, .int a7), (8, .int (zg (s.2 53) a1.toInt)), (9, .int (a7 - 1))] s Q))) : zWi xs (d + 1) 201 15 [(0, .ref 32), (1, .int a1), (2, .int a2), (3, .int a3), (4, .long a4), (6, .int a6), (7, .int a7), (8, .int a8)] s Q := by
  unfold zWi
  refine am_wh 3 (pc1 := 21) (lv1 := [(0, .ref 32), (1, .int a1), (2, .int a2), (3, .int a3), (4, .long a4), (6, .int a6), (7, .int a7), (8, .int a8)]) (st1 := [.int (s.1 21), .int a8]) rfl ?_
  obtain ⟨h2, h3⟩ := h
  by_cases c1 : a8.toInt < (s.1 21).toInt
  · refine am_wb2 rfl false (zn_ge (zq_a _) (zq_a _) (zr_t _) (zr_t _) c1) rfl ?_
    have h4 := h2 c1
    refine am_wh 6 (pc1 := 36) (lv1 := [(0, .ref 32), (1, .int a1), (2, .int a2), (3, .int a3), (4, .long a4), (6, .int a6), (7, .int a7), (8, .int a8)]) (st1 := [.int a8, .ref 33, .int a8, .ref 35]) rfl ?_
    obtain ⟨o5, h6⟩ := h4
    refine zw_li (l := (s.2 31)) (i := a8.toInt) rfl rfl (zq_a _) o5 ?_
    obtain ⟨o7, h8⟩ := h6
    refine zw_si (l := (s.2 33)) (i := a8.toInt) rfl rfl (zq_a _) o7 (zh_33 _ _) ?_
    refine am_wh 2 (pc1 := 15) (lv1 := [(8, .int (a8 + 1)), (0, .ref 32), (1, .int a1), (2, .int a2), (3, .int a3), (4, .long a4), (6, .int a6), (7, .int a7)]) (st1 := []) rfl ?_
    exact am_wm h8 ⟨rfl, rfl, rfl, rfl, rfl, rfl, rfl, rfl, trivial⟩
  · refine am_wb2 rfl true (zt_ge (zq_a _) (zq_a _) (zr_t _) (zr_t _) c1) rfl ?_
    have h9 := h3 c1
    refine am_wh 3 (pc1 := 49) (lv1 := [(0, .ref 32), (1, .int a1), (2, .int a2), (3, .int a3), (4, .long a4), (6, .int a6), (7, .int a7), (8, .int a8)]) (st1 := [.int a1, .ref 55]) rfl ?_
    obtain ⟨o10, h11⟩ := h9
    refine zw_li (l := (s.2 53)) (i := a1.toInt) rfl rfl (zq_a _) o10 ?_
    refine am_wh 5 (pc1 := 58) (lv1 := [(9, .int (a7 - 1)), (8, .int (zg (s.2 53) a1.toInt)), (0, .ref 32), (1, .int a1), (2, .int a2), (3, .int a3), (4, .long a4), (6, .int a6), (7, .int a7)]) (st1 := []) rfl ?_
    exact am_wm h11 ⟨rfl, rfl, rfl, rfl, rfl, rfl, rfl, rfl, trivial⟩
set_option maxRecDepth 100000 in
theorem vc_201_58 (xs : Option (List Int32)) (d : Nat) (s : zS) (a2 : Int32) (a3 : Int32) (a4 : Int64) (a6 : Int32) (a7 : Int32) (a8 : Int32) (a9 : Int32) (Q : Int32 → zS → Prop) (h : (a9.toInt < 0 → (zWi xs d 182 0 [(0, .ref 32)] s (fun v7 s5 => (v7.toInt = 0 → (zWi xs (d + 1) 201 136 [(0, .ref 32), (9, .int 0)] (zf s5 21 a6) Q)) ∧ (¬ v7.toInt = 0 → (((s5.1 32).toInt = a7.toInt → (zWi xs d 199 0 [(0, .ref 32), (1, .int 1)] s5 (fun v19 s17 => (v19.toInt = 0 → (zWi xs (d + 1) 201 136 [(0, .ref 32), (9, .int 0)] (zf s17 21 a6) Q)) ∧ (¬ v19.toInt = 0 → (Q 1 s17))))) ∧ (¬ (s5.1 32).toInt = a7.toInt → (zWi xs (d + 1) 201 136 [(0, .ref 32), (9, .int 0)] (zf s5 21 a6) Q))))))) ∧ (¬ a9.toInt < 0 → (zX (s.2 53) a9.toInt ∧ ((zg (s.2 53) a9.toInt).toInt = a8.toInt → (zX (s.2 51) a9.toInt ∧ zX (s.2 35) (zg (s.2 51) a9.toInt).toInt ∧ zWv xs d 133 0 [(0, .ref 32), (1, .int (zg (s.2 35) (zg (s.2 51) a9.toInt).toInt)), (2, .int a2), (3, .int a3), (4, .long a4)] s (fun s37 => zWi xs (d + 1) 201 58 [(0, .ref 32), (2, .int a2), (3, .int a3), (4, .long a4), (6, .int a6), (7, .int a7), (8, .int a8), (9, .int (a9 + (-1)))] s37 Q))) ∧ (¬ (zg (s.2 53) a9.toInt).toInt = a8.toInt → (zWi xs (d + 1) 201 58 [(0, .ref 32), (2, .int a2), (3, .int a3), (4, .long a4), (6, .int a6), (7, .int a7), (8, .int a8), (9, .int (a9 + (-1)))] s Q))))) : zWi xs (d + 1) 201 58 [(0, .ref 32), (2, .int a2), (3, .int a3), (4, .long a4), (6, .int a6), (7, .int a7), (8, .int a8), (9, .int a9)] s Q := by
  unfold zWi
  refine am_wh 1 (pc1 := 60) (lv1 := [(0, .ref 32), (2, .int a2), (3, .int a3), (4, .long a4), (6, .int a6), (7, .int a7), (8, .int a8), (9, .int a9)]) (st1 := [.int a9]) rfl ?_
  obtain ⟨h2, h3⟩ := h
  by_cases c1 : a9.toInt < 0
  · refine am_wb1 rfl true (zt_lt (zq_a _) (by decide) (zr_t _) ⟨by decide, by decide⟩ c1) rfl ?_
    have h4 := h2 c1
    refine am_wh 1 (pc1 := 102) (lv1 := [(0, .ref 32), (2, .int a2), (3, .int a3), (4, .long a4), (6, .int a6), (7, .int a7), (8, .int a8), (9, .int a9)]) (st1 := [.ref 32]) rfl ?_
    refine am_wc rfl rfl rfl ?_
    refine am_ww h4 ?_
    rintro _ _ ⟨v7, s5, rfl, rfl, h6⟩
    show am_W _ _ 201 105 [(0, .ref 32), (2, .int a2), (3, .int a3), (4, .long a4), (6, .int a6), (7, .int a7), (8, .int a8), (9, .int a9)] [.int v7] (zH s5) _
    obtain ⟨h9, h10⟩ := h6
    by_cases c8 : v7.toInt = 0
    · refine am_wb1 rfl true (zt_eq (zq_a _) (by decide) (zr_t _) ⟨by decide, by decide⟩ c8) rfl ?_
      have h11 := h9 c8
      refine am_wh 2 (pc1 := 130) (lv1 := [(0, .ref 32), (2, .int a2), (3, .int a3), (4, .long a4), (6, .int a6), (7, .int a7), (8, .int a8), (9, .int a9)]) (st1 := [.int a6, .ref 32]) rfl ?_
      refine am_w0 (z := (133, [(0, .ref 32), (2, .int a2), (3, .int a3), (4, .long a4), (6, .int a6), (7, .int a7), (8, .int a8), (9, .int a9)], [], zH (zf s5 21 a6))) rfl rfl (zp_21 ) ?_
      refine am_wh 2 (pc1 := 136) (lv1 := [(9, .int 0), (0, .ref 32), (2, .int a2), (3, .int a3), (4, .long a4), (6, .int a6), (7, .int a7), (8, .int a8)]) (st1 := []) rfl ?_
      exact am_wm h11 ⟨rfl, rfl, trivial⟩
    · refine am_wb1 rfl false (zn_eq (zq_a _) (by decide) (zr_t _) ⟨by decide, by decide⟩ c8) rfl ?_
      have h12 := h10 c8
      refine am_wh 3 (pc1 := 114) (lv1 := [(0, .ref 32), (2, .int a2), (3, .int a3), (4, .long a4), (6, .int a6), (7, .int a7), (8, .int a8), (9, .int a9)]) (st1 := [.int a7, .int (s5.1 32)]) rfl ?_
      obtain ⟨h14, h15⟩ := h12
      by_cases c13 : (s5.1 32).toInt = a7.toInt
      · refine am_wb2 rfl false (zn_ne (zq_a _) (zq_a _) (zr_t _) (zr_t _) c13) rfl ?_
        have h16 := h14 c13
        refine am_wh 2 (pc1 := 119) (lv1 := [(0, .ref 32), (2, .int a2), (3, .int a3), (4, .long a4), (6, .int a6), (7, .int a7), (8, .int a8), (9, .int a9)]) (st1 := [.int 1, .ref 32]) rfl ?_
        refine am_wc rfl rfl rfl ?_
        refine am_ww h16 ?_
        rintro _ _ ⟨v19, s17, rfl, rfl, h18⟩
        show am_W _ _ 201 122 [(0, .ref 32), (2, .int a2), (3, .int a3), (4, .long a4), (6, .int a6), (7, .int a7), (8, .int a8), (9, .int a9)] [.int v19] (zH s17) _
        obtain ⟨h21, h22⟩ := h18
        by_cases c20 : v19.toInt = 0
        · refine am_wb1 rfl true (zt_eq (zq_a _) (by decide) (zr_t _) ⟨by decide, by decide⟩ c20) rfl ?_
          have h23 := h21 c20
          refine am_wh 2 (pc1 := 130) (lv1 := [(0, .ref 32), (2, .int a2), (3, .int a3), (4, .long a4), (6, .int a6), (7, .int a7), (8, .int a8), (9, .int a9)]) (st1 := [.int a6, .ref 32]) rfl ?_
          refine am_w0 (z := (133, [(0, .ref 32), (2, .int a2), (3, .int a3), (4, .long a4), (6, .int a6), (7, .int a7), (8, .int a8), (9, .int a9)], [], zH (zf s17 21 a6))) rfl rfl (zp_21 ) ?_
          refine am_wh 2 (pc1 := 136) (lv1 := [(9, .int 0), (0, .ref 32), (2, .int a2), (3, .int a3), (4, .long a4), (6, .int a6), (7, .int a7), (8, .int a8)]) (st1 := []) rfl ?_
          exact am_wm h23 ⟨rfl, rfl, trivial⟩
        · refine am_wb1 rfl false (zn_eq (zq_a _) (by decide) (zr_t _) ⟨by decide, by decide⟩ c20) rfl ?_
          have h24 := h22 c20
          refine am_wh 1 (pc1 := 126) (lv1 := [(0, .ref 32), (2, .int a2), (3, .int a3), (4, .long a4), (6, .int a6), (7, .int a7), (8, .int a8), (9, .int a9)]) (st1 := [.int 1]) rfl ?_
          refine am_wr rfl rfl rfl ?_
          exact ⟨_, _, rfl, rfl, h24⟩
      · refine am_wb2 rfl true (zt_ne (zq_a _) (zq_a _) (zr_t _) (zr_t _) c13) rfl ?_
        have h25 := h15 c13
        refine am_wh 2 (pc1 := 130) (lv1 := [(0, .ref 32), (2, .int a2), (3, .int a3), (4, .long a4), (6, .int a6), (7, .int a7), (8, .int a8), (9, .int a9)]) (st1 := [.int a6, .ref 32]) rfl ?_
        refine am_w0 (z := (133, [(0, .ref 32), (2, .int a2), (3, .int a3), (4, .long a4), (6, .int a6), (7, .int a7), (8, .int a8), (9, .int a9)], [], zH (zf s5 21 a6))) rfl rfl (zp_21 ) ?_
        refine am_wh 2 (pc1 := 136) (lv1 := [(9, .int 0), (0, .ref 32), (2, .int a2), (3, .int a3), (4, .long a4), (6, .int a6), (7, .int a7), (8, .int a8)]) (st1 := []) rfl ?_
        exact am_wm h25 ⟨rfl, rfl, trivial⟩
  · refine am_wb1 rfl false (zn_lt (zq_a _) (by decide) (zr_t _) ⟨by decide, by decide⟩ c1) rfl ?_
    have h26 := h3 c1
    refine am_wh 3 (pc1 := 69) (lv1 := [(0, .ref 32), (2, .int a2), (3, .int a3), (4, .long a4), (6, .int a6), (7, .int a7), (8, .int a8), (9, .int a9)]) (st1 := [.int a9, .ref 55]) rfl ?_
    obtain ⟨o27, h28⟩ := h26
    refine zw_li (l := (s.2 53)) (i := a9.toInt) rfl rfl (zq_a _) o27 ?_
    refine am_wh 1 (pc1 := 72) (lv1 := [(0, .ref 32), (2, .int a2), (3, .int a3), (4, .long a4), (6, .int a6), (7, .int a7), (8, .int a8), (9, .int a9)]) (st1 := [.int a8, .int (zg (s.2 53) a9.toInt)]) rfl ?_
    obtain ⟨h30, h31⟩ := h28
    by_cases c29 : (zg (s.2 53) a9.toInt).toInt = a8.toInt
    · refine am_wb2 rfl false (zn_ne (zq_a _) (zq_a _) (zr_t _) (zr_t _) c29) rfl ?_
      have h32 := h30 c29
      refine am_wh 6 (pc1 := 86) (lv1 := [(0, .ref 32), (2, .int a2), (3, .int a3), (4, .long a4), (6, .int a6), (7, .int a7), (8, .int a8), (9, .int a9)]) (st1 := [.int a9, .ref 53, .ref 37, .ref 32]) rfl ?_
      obtain ⟨o33, h34⟩ := h32
      refine zw_li (l := (s.2 51)) (i := a9.toInt) rfl rfl (zq_a _) o33 ?_
      obtain ⟨o35, h36⟩ := h34
      refine zw_li (l := (s.2 35)) (i := (zg (s.2 51) a9.toInt).toInt) rfl rfl (zq_a _) o35 ?_
      refine am_wh 3 (pc1 := 92) (lv1 := [(0, .ref 32), (2, .int a2), (3, .int a3), (4, .long a4), (6, .int a6), (7, .int a7), (8, .int a8), (9, .int a9)]) (st1 := [.long a4, .int a3, .int a2, .int (zg (s.2 35) (zg (s.2 51) a9.toInt).toInt), .ref 32]) rfl ?_
      refine am_wc rfl rfl rfl ?_
      refine am_ww h36 ?_
      rintro _ _ ⟨s37, rfl, rfl, h38⟩
      show am_W _ _ 201 95 [(0, .ref 32), (2, .int a2), (3, .int a3), (4, .long a4), (6, .int a6), (7, .int a7), (8, .int a8), (9, .int a9)] [] (zH s37) _
      refine am_wh 2 (pc1 := 58) (lv1 := [(9, .int (a9 + (-1))), (0, .ref 32), (2, .int a2), (3, .int a3), (4, .long a4), (6, .int a6), (7, .int a7), (8, .int a8)]) (st1 := []) rfl ?_
      exact am_wm h38 ⟨rfl, rfl, rfl, rfl, rfl, rfl, rfl, rfl, trivial⟩
    · refine am_wb2 rfl true (zt_ne (zq_a _) (zq_a _) (zr_t _) (zr_t _) c29) rfl ?_
      have h39 := h31 c29
      refine am_wh 2 (pc1 := 58) (lv1 := [(9, .int (a9 + (-1))), (0, .ref 32), (2, .int a2), (3, .int a3), (4, .long a4), (6, .int a6), (7, .int a7), (8, .int a8)]) (st1 := []) rfl ?_
      exact am_wm h39 ⟨rfl, rfl, rfl, rfl, rfl, rfl, rfl, rfl, trivial⟩
set_option maxRecDepth 100000 in
theorem vc_201_136 (xs : Option (List Int32)) (d : Nat) (s : zS) (a9 : Int32) (Q : Int32 → zS → Prop) (h : (a9.toInt < (s.1 21).toInt → (zX (s.2 33) a9.toInt ∧ zX (s.2 31) a9.toInt ∧ zWi xs (d + 1) 201 136 [(0, .ref 32), (9, .int (a9 + 1))] (za s 31 (zu (s.2 31) a9.toInt (zg (s.2 33) a9.toInt))) Q)) ∧ (¬ a9.toInt < (s.1 21).toInt → (Q 0 (zf s 22 1)))) : zWi xs (d + 1) 201 136 [(0, .ref 32), (9, .int a9)] s Q := by
  unfold zWi
  refine am_wh 3 (pc1 := 142) (lv1 := [(0, .ref 32), (9, .int a9)]) (st1 := [.int (s.1 21), .int a9]) rfl ?_
  obtain ⟨h2, h3⟩ := h
  by_cases c1 : a9.toInt < (s.1 21).toInt
  · refine am_wb2 rfl false (zn_ge (zq_a _) (zq_a _) (zr_t _) (zr_t _) c1) rfl ?_
    have h4 := h2 c1
    refine am_wh 6 (pc1 := 157) (lv1 := [(0, .ref 32), (9, .int a9)]) (st1 := [.int a9, .ref 35, .int a9, .ref 33]) rfl ?_
    obtain ⟨o5, h6⟩ := h4
    refine zw_li (l := (s.2 33)) (i := a9.toInt) rfl rfl (zq_a _) o5 ?_
    obtain ⟨o7, h8⟩ := h6
    refine zw_si (l := (s.2 31)) (i := a9.toInt) rfl rfl (zq_a _) o7 (zh_31 _ _) ?_
    refine am_wh 2 (pc1 := 136) (lv1 := [(9, .int (a9 + 1)), (0, .ref 32)]) (st1 := []) rfl ?_
    exact am_wm h8 ⟨rfl, rfl, trivial⟩
  · refine am_wb2 rfl true (zt_ge (zq_a _) (zq_a _) (zr_t _) (zr_t _) c1) rfl ?_
    have h9 := h3 c1
    refine am_wh 2 (pc1 := 167) (lv1 := [(0, .ref 32), (9, .int a9)]) (st1 := [.int 1, .ref 32]) rfl ?_
    refine am_w0 (z := (170, [(0, .ref 32), (9, .int a9)], [], zH (zf s 22 1))) rfl rfl (zp_22 (v := 1) (by decide)) ?_
    refine am_wh 1 (pc1 := 171) (lv1 := [(0, .ref 32), (9, .int a9)]) (st1 := [.int 0]) rfl ?_
    refine am_wr rfl rfl rfl ?_
    exact ⟨_, _, rfl, rfl, h9⟩
