set_option maxRecDepth 100000 in
theorem vc_19_0 (xs : Option (List Int32)) (d : Nat) (s : zS) (a0 : Int64) (a2 : Int32) (Q : Int32 → zS → Prop) (h : Q ((Int64.toInt32 (((Int64.toUInt64 a0) >>> ((Int32.toInt64 (56 - (8 * a2))).toUInt64 &&& Int64.toUInt64 63)).toInt64)) &&& 255) s) : zWi xs d 19 0 [(0, .long a0), (2, .int a2)] s Q := by
  unfold zWi
  refine am_wh 10 (pc1 := 14) (lv1 := [(0, .long a0), (2, .int a2)]) (st1 := [.int ((Int64.toInt32 (((Int64.toUInt64 a0) >>> ((Int32.toInt64 (56 - (8 * a2))).toUInt64 &&& Int64.toUInt64 63)).toInt64)) &&& 255)]) rfl ?_
  refine am_wr rfl rfl rfl ?_
  exact ⟨_, _, rfl, rfl, h⟩
set_option maxRecDepth 100000 in
theorem vc_20_0 (xs : Option (List Int32)) (d : Nat) (s : zS) (a0 : Int64) (Q : Int32 → zS → Prop) (h : zWi xs (d + 1) 20 4 [(0, .long a0), (2, .int 0), (3, .int 0)] s Q) : zWi xs (d + 1) 20 0 [(0, .long a0)] s Q := by
  unfold zWi
  refine am_wh 4 (pc1 := 4) (lv1 := [(3, .int 0), (2, .int 0), (0, .long a0)]) (st1 := []) rfl ?_
  exact am_wm h ⟨rfl, rfl, rfl, trivial⟩
set_option maxRecDepth 100000 in
theorem vc_20_4 (xs : Option (List Int32)) (d : Nat) (s : zS) (a0 : Int64) (a2 : Int32) (a3 : Int32) (Q : Int32 → zS → Prop) (h : (a3.toInt < 8 → (zWi xs d 19 0 [(0, .long a0), (2, .int a3)] s (fun v7 s5 => (v7.toInt = 0 → (zWi xs (d + 1) 20 4 [(0, .long a0), (2, .int a2), (3, .int (a3 + 1))] s5 Q)) ∧ (¬ v7.toInt = 0 → (zWi xs (d + 1) 20 4 [(0, .long a0), (2, .int (a2 + 1)), (3, .int (a3 + 1))] s5 Q))))) ∧ (¬ a3.toInt < 8 → (Q a2 s))) : zWi xs (d + 1) 20 4 [(0, .long a0), (2, .int a2), (3, .int a3)] s Q := by
  unfold zWi
  refine am_wh 2 (pc1 := 7) (lv1 := [(0, .long a0), (2, .int a2), (3, .int a3)]) (st1 := [.int 8, .int a3]) rfl ?_
  obtain ⟨h2, h3⟩ := h
  by_cases c1 : a3.toInt < 8
  · refine am_wb2 rfl false (zn_ge (zq_a _) (by decide) (zr_t _) ⟨by decide, by decide⟩ c1) rfl ?_
    have h4 := h2 c1
    refine am_wh 2 (pc1 := 12) (lv1 := [(0, .long a0), (2, .int a2), (3, .int a3)]) (st1 := [.int a3, .long a0]) rfl ?_
    refine am_wc rfl rfl rfl ?_
    refine am_ww h4 ?_
    rintro _ _ ⟨v7, s5, rfl, rfl, h6⟩
    show am_W _ _ 20 15 [(0, .long a0), (2, .int a2), (3, .int a3)] [.int v7] (zH s5) _
    obtain ⟨h9, h10⟩ := h6
    by_cases c8 : v7.toInt = 0
    · refine am_wb1 rfl true (zt_eq (zq_a _) (by decide) (zr_t _) ⟨by decide, by decide⟩ c8) rfl ?_
      have h11 := h9 c8
      refine am_wh 2 (pc1 := 4) (lv1 := [(3, .int (a3 + 1)), (0, .long a0), (2, .int a2)]) (st1 := []) rfl ?_
      exact am_wm h11 ⟨rfl, rfl, rfl, trivial⟩
    · refine am_wb1 rfl false (zn_eq (zq_a _) (by decide) (zr_t _) ⟨by decide, by decide⟩ c8) rfl ?_
      have h12 := h10 c8
      refine am_wh 3 (pc1 := 4) (lv1 := [(3, .int (a3 + 1)), (2, .int (a2 + 1)), (0, .long a0)]) (st1 := []) rfl ?_
      exact am_wm h12 ⟨rfl, rfl, rfl, trivial⟩
  · refine am_wb2 rfl true (zt_ge (zq_a _) (by decide) (zr_t _) ⟨by decide, by decide⟩ c1) rfl ?_
    have h13 := h3 c1
    refine am_wh 1 (pc1 := 28) (lv1 := [(0, .long a0), (2, .int a2), (3, .int a3)]) (st1 := [.int a2]) rfl ?_
    refine am_wr rfl rfl rfl ?_
    exact ⟨_, _, rfl, rfl, h13⟩
set_option maxRecDepth 100000 in
theorem vc_21_0 (xs : Option (List Int32)) (d : Nat) (s : zS) (a0 : Int64) (Q : Int32 → zS → Prop) (h : zWi xs (d + 1) 21 2 [(0, .long a0), (2, .int 0)] s Q) : zWi xs (d + 1) 21 0 [(0, .long a0)] s Q := by
  unfold zWi
  refine am_wh 2 (pc1 := 2) (lv1 := [(2, .int 0), (0, .long a0)]) (st1 := []) rfl ?_
  exact am_wm h ⟨rfl, rfl, trivial⟩
set_option maxRecDepth 100000 in
theorem vc_21_2 (xs : Option (List Int32)) (d : Nat) (s : zS) (a0 : Int64) (a2 : Int32) (Q : Int32 → zS → Prop) (h : (a2.toInt < 8 → (zWi xs d 19 0 [(0, .long a0), (2, .int a2)] s (fun v7 s5 => (v7.toInt = 0 → (zWi xs (d + 1) 21 2 [(0, .long a0), (2, .int (a2 + 1))] s5 Q)) ∧ (¬ v7.toInt = 0 → (zWi xs d 81 0 [(0, .int v7)] s5 (fun v15 s13 => (v15.toInt = 0 → (Q 0 s13)) ∧ (¬ v15.toInt = 0 → (zWi xs (d + 1) 21 2 [(0, .long a0), (2, .int (a2 + 1))] s13 Q)))))))) ∧ (¬ a2.toInt < 8 → (Q 1 s))) : zWi xs (d + 1) 21 2 [(0, .long a0), (2, .int a2)] s Q := by
  unfold zWi
  refine am_wh 2 (pc1 := 5) (lv1 := [(0, .long a0), (2, .int a2)]) (st1 := [.int 8, .int a2]) rfl ?_
  obtain ⟨h2, h3⟩ := h
  by_cases c1 : a2.toInt < 8
  · refine am_wb2 rfl false (zn_ge (zq_a _) (by decide) (zr_t _) ⟨by decide, by decide⟩ c1) rfl ?_
    have h4 := h2 c1
    refine am_wh 2 (pc1 := 10) (lv1 := [(0, .long a0), (2, .int a2)]) (st1 := [.int a2, .long a0]) rfl ?_
    refine am_wc rfl rfl rfl ?_
    refine am_ww h4 ?_
    rintro _ _ ⟨v7, s5, rfl, rfl, h6⟩
    show am_W _ _ 21 13 [(0, .long a0), (2, .int a2)] [.int v7] (zH s5) _
    refine am_wh 2 (pc1 := 15) (lv1 := [(3, .int v7), (0, .long a0), (2, .int a2)]) (st1 := [.int v7]) rfl ?_
    obtain ⟨h9, h10⟩ := h6
    by_cases c8 : v7.toInt = 0
    · refine am_wb1 rfl true (zt_eq (zq_a _) (by decide) (zr_t _) ⟨by decide, by decide⟩ c8) rfl ?_
      have h11 := h9 c8
      refine am_wh 2 (pc1 := 2) (lv1 := [(2, .int (a2 + 1)), (3, .int v7), (0, .long a0)]) (st1 := []) rfl ?_
      exact am_wm h11 ⟨rfl, rfl, trivial⟩
    · refine am_wb1 rfl false (zn_eq (zq_a _) (by decide) (zr_t _) ⟨by decide, by decide⟩ c8) rfl ?_
      have h12 := h10 c8
      refine am_wh 1 (pc1 := 19) (lv1 := [(3, .int v7), (0, .long a0), (2, .int a2)]) (st1 := [.int v7]) rfl ?_
      refine am_wc rfl rfl rfl ?_
      refine am_ww h12 ?_
      rintro _ _ ⟨v15, s13, rfl, rfl, h14⟩
      show am_W _ _ 21 22 [(3, .int v7), (0, .long a0), (2, .int a2)] [.int v15] (zH s13) _
      obtain ⟨h17, h18⟩ := h14
      by_cases c16 : v15.toInt = 0
      · refine am_wb1 rfl false (zn_ne (zq_a _) (by decide) (zr_t _) ⟨by decide, by decide⟩ c16) rfl ?_
        have h19 := h17 c16
        refine am_wh 1 (pc1 := 26) (lv1 := [(3, .int v7), (0, .long a0), (2, .int a2)]) (st1 := [.int 0]) rfl ?_
        refine am_wr rfl rfl rfl ?_
        exact ⟨_, _, rfl, rfl, h19⟩
      · refine am_wb1 rfl true (zt_ne (zq_a _) (by decide) (zr_t _) ⟨by decide, by decide⟩ c16) rfl ?_
        have h20 := h18 c16
        refine am_wh 2 (pc1 := 2) (lv1 := [(2, .int (a2 + 1)), (3, .int v7), (0, .long a0)]) (st1 := []) rfl ?_
        exact am_wm h20 ⟨rfl, rfl, trivial⟩
  · refine am_wb2 rfl true (zt_ge (zq_a _) (by decide) (zr_t _) ⟨by decide, by decide⟩ c1) rfl ?_
    have h21 := h3 c1
    refine am_wh 1 (pc1 := 34) (lv1 := [(0, .long a0), (2, .int a2)]) (st1 := [.int 1]) rfl ?_
    refine am_wr rfl rfl rfl ?_
    exact ⟨_, _, rfl, rfl, h21⟩
set_option maxRecDepth 100000 in
theorem vc_22_0 (xs : Option (List Int32)) (d : Nat) (s : zS) (a0 : Int64) (Q : Int32 → zS → Prop) (h : zWi xs (d + 1) 22 5 [(0, .long a0), (2, .long 0), (4, .int 0)] s Q) : zWi xs (d + 1) 22 0 [(0, .long a0)] s Q := by
  unfold zWi
  refine am_wh 4 (pc1 := 5) (lv1 := [(4, .int 0), (2, .long 0), (0, .long a0)]) (st1 := []) rfl ?_
  exact am_wm h ⟨rfl, rfl, rfl, trivial⟩
set_option maxRecDepth 100000 in
theorem vc_22_5 (xs : Option (List Int32)) (d : Nat) (s : zS) (a0 : Int64) (a2 : Int64) (a4 : Int32) (Q : Int32 → zS → Prop) (h : (a4.toInt < 8 → (zWi xs d 19 0 [(0, .long a0), (2, .int a4)] s (fun v7 s5 => (v7.toInt = 0 → (zWi xs (d + 1) 22 5 [(0, .long a0), (2, .long a2), (4, .int (a4 + 1))] s5 Q)) ∧ (¬ v7.toInt = 0 → (((lg_cmp a2 0).toInt = 0 → (zWi xs d 83 0 [(0, .int v7)] s5 (fun v19 s17 => (v19.toInt = 0 → (Q 0 s17)) ∧ (¬ v19.toInt = 0 → (zWi xs (d + 1) 22 5 [(0, .long a0), (2, .long ((a2 <<< (Int32.toInt64 8 &&& 63)) ||| (Int32.toInt64 v7))), (4, .int (a4 + 1))] s17 Q))))) ∧ (¬ (lg_cmp a2 0).toInt = 0 → (zWi xs d 84 0 [(0, .int v7)] s5 (fun v28 s26 => (v28.toInt = 0 → (Q 0 s26)) ∧ (¬ v28.toInt = 0 → (zWi xs (d + 1) 22 5 [(0, .long a0), (2, .long ((a2 <<< (Int32.toInt64 8 &&& 63)) ||| (Int32.toInt64 v7))), (4, .int (a4 + 1))] s26 Q)))))))))) ∧ (¬ a4.toInt < 8 → (((lg_cmp a2 0).toInt = 0 → (Q 0 s)) ∧ (¬ (lg_cmp a2 0).toInt = 0 → (zWi xs d 93 0 [(0, .long a2)] s (fun v42 s40 => (v42.toInt = 0 → (Q 1 s40)) ∧ (¬ v42.toInt = 0 → (Q 0 s40)))))))) : zWi xs (d + 1) 22 5 [(0, .long a0), (2, .long a2), (4, .int a4)] s Q := by
  unfold zWi
  refine am_wh 2 (pc1 := 9) (lv1 := [(0, .long a0), (2, .long a2), (4, .int a4)]) (st1 := [.int 8, .int a4]) rfl ?_
  obtain ⟨h2, h3⟩ := h
  by_cases c1 : a4.toInt < 8
  · refine am_wb2 rfl false (zn_ge (zq_a _) (by decide) (zr_t _) ⟨by decide, by decide⟩ c1) rfl ?_
    have h4 := h2 c1
    refine am_wh 2 (pc1 := 15) (lv1 := [(0, .long a0), (2, .long a2), (4, .int a4)]) (st1 := [.int a4, .long a0]) rfl ?_
    refine am_wc rfl rfl rfl ?_
    refine am_ww h4 ?_
    rintro _ _ ⟨v7, s5, rfl, rfl, h6⟩
    show am_W _ _ 22 18 [(0, .long a0), (2, .long a2), (4, .int a4)] [.int v7] (zH s5) _
    refine am_wh 2 (pc1 := 22) (lv1 := [(5, .int v7), (0, .long a0), (2, .long a2), (4, .int a4)]) (st1 := [.int v7]) rfl ?_
    obtain ⟨h9, h10⟩ := h6
    by_cases c8 : v7.toInt = 0
    · refine am_wb1 rfl true (zt_eq (zq_a _) (by decide) (zr_t _) ⟨by decide, by decide⟩ c8) rfl ?_
      have h11 := h9 c8
      refine am_wh 2 (pc1 := 5) (lv1 := [(4, .int (a4 + 1)), (5, .int v7), (0, .long a0), (2, .long a2)]) (st1 := []) rfl ?_
      exact am_wm h11 ⟨rfl, rfl, rfl, trivial⟩
    · refine am_wb1 rfl false (zn_eq (zq_a _) (by decide) (zr_t _) ⟨by decide, by decide⟩ c8) rfl ?_
      have h12 := h10 c8
      refine am_wh 3 (pc1 := 28) (lv1 := [(5, .int v7), (0, .long a0), (2, .long a2), (4, .int a4)]) (st1 := [.int (lg_cmp a2 0)]) rfl ?_
      obtain ⟨h14, h15⟩ := h12
      by_cases c13 : (lg_cmp a2 0).toInt = 0
      · refine am_wb1 rfl false (zn_ne (zq_a _) (by decide) (zr_t _) ⟨by decide, by decide⟩ c13) rfl ?_
        have h16 := h14 c13
        refine am_wh 1 (pc1 := 33) (lv1 := [(5, .int v7), (0, .long a0), (2, .long a2), (4, .int a4)]) (st1 := [.int v7]) rfl ?_
        refine am_wc rfl rfl rfl ?_
        refine am_ww h16 ?_
        rintro _ _ ⟨v19, s17, rfl, rfl, h18⟩
        show am_W _ _ 22 36 [(5, .int v7), (0, .long a0), (2, .long a2), (4, .int a4)] [.int v19] (zH s17) _
        refine am_wh 3 (pc1 := 48) (lv1 := [(6, .int v19), (5, .int v7), (0, .long a0), (2, .long a2), (4, .int a4)]) (st1 := [.int v19]) rfl ?_
        obtain ⟨h21, h22⟩ := h18
        by_cases c20 : v19.toInt = 0
        · refine am_wb1 rfl false (zn_ne (zq_a _) (by decide) (zr_t _) ⟨by decide, by decide⟩ c20) rfl ?_
          have h23 := h21 c20
          refine am_wh 1 (pc1 := 52) (lv1 := [(6, .int v19), (5, .int v7), (0, .long a0), (2, .long a2), (4, .int a4)]) (st1 := [.int 0]) rfl ?_
          refine am_wr rfl rfl rfl ?_
          exact ⟨_, _, rfl, rfl, h23⟩
        · refine am_wb1 rfl true (zt_ne (zq_a _) (by decide) (zr_t _) ⟨by decide, by decide⟩ c20) rfl ?_
          have h24 := h22 c20
          refine am_wh 9 (pc1 := 5) (lv1 := [(4, .int (a4 + 1)), (2, .long ((a2 <<< (Int32.toInt64 8 &&& 63)) ||| (Int32.toInt64 v7))), (6, .int v19), (5, .int v7), (0, .long a0)]) (st1 := []) rfl ?_
          exact am_wm h24 ⟨rfl, rfl, rfl, trivial⟩
      · refine am_wb1 rfl true (zt_ne (zq_a _) (by decide) (zr_t _) ⟨by decide, by decide⟩ c13) rfl ?_
        have h25 := h15 c13
        refine am_wh 1 (pc1 := 41) (lv1 := [(5, .int v7), (0, .long a0), (2, .long a2), (4, .int a4)]) (st1 := [.int v7]) rfl ?_
        refine am_wc rfl rfl rfl ?_
        refine am_ww h25 ?_
        rintro _ _ ⟨v28, s26, rfl, rfl, h27⟩
        show am_W _ _ 22 44 [(5, .int v7), (0, .long a0), (2, .long a2), (4, .int a4)] [.int v28] (zH s26) _
        refine am_wh 2 (pc1 := 48) (lv1 := [(6, .int v28), (5, .int v7), (0, .long a0), (2, .long a2), (4, .int a4)]) (st1 := [.int v28]) rfl ?_
        obtain ⟨h30, h31⟩ := h27
        by_cases c29 : v28.toInt = 0
        · refine am_wb1 rfl false (zn_ne (zq_a _) (by decide) (zr_t _) ⟨by decide, by decide⟩ c29) rfl ?_
          have h32 := h30 c29
          refine am_wh 1 (pc1 := 52) (lv1 := [(6, .int v28), (5, .int v7), (0, .long a0), (2, .long a2), (4, .int a4)]) (st1 := [.int 0]) rfl ?_
          refine am_wr rfl rfl rfl ?_
          exact ⟨_, _, rfl, rfl, h32⟩
        · refine am_wb1 rfl true (zt_ne (zq_a _) (by decide) (zr_t _) ⟨by decide, by decide⟩ c29) rfl ?_
          have h33 := h31 c29
          refine am_wh 9 (pc1 := 5) (lv1 := [(4, .int (a4 + 1)), (2, .long ((a2 <<< (Int32.toInt64 8 &&& 63)) ||| (Int32.toInt64 v7))), (6, .int v28), (5, .int v7), (0, .long a0)]) (st1 := []) rfl ?_
          exact am_wm h33 ⟨rfl, rfl, rfl, trivial⟩
  · refine am_wb2 rfl true (zt_ge (zq_a _) (by decide) (zr_t _) ⟨by decide, by decide⟩ c1) rfl ?_
    have h34 := h3 c1
    refine am_wh 3 (pc1 := 71) (lv1 := [(0, .long a0), (2, .long a2), (4, .int a4)]) (st1 := [.int (lg_cmp a2 0)]) rfl ?_
    obtain ⟨h36, h37⟩ := h34
    by_cases c35 : (lg_cmp a2 0).toInt = 0
    · refine am_wb1 rfl true (zt_eq (zq_a _) (by decide) (zr_t _) ⟨by decide, by decide⟩ c35) rfl ?_
      have h38 := h36 c35
      refine am_wh 1 (pc1 := 86) (lv1 := [(0, .long a0), (2, .long a2), (4, .int a4)]) (st1 := [.int 0]) rfl ?_
      refine am_wr rfl rfl rfl ?_
      exact ⟨_, _, rfl, rfl, h38⟩
    · refine am_wb1 rfl false (zn_eq (zq_a _) (by decide) (zr_t _) ⟨by decide, by decide⟩ c35) rfl ?_
      have h39 := h37 c35
      refine am_wh 1 (pc1 := 75) (lv1 := [(0, .long a0), (2, .long a2), (4, .int a4)]) (st1 := [.long a2]) rfl ?_
      refine am_wc rfl rfl rfl ?_
      refine am_ww h39 ?_
      rintro _ _ ⟨v42, s40, rfl, rfl, h41⟩
      show am_W _ _ 22 78 [(0, .long a0), (2, .long a2), (4, .int a4)] [.int v42] (zH s40) _
      obtain ⟨h44, h45⟩ := h41
      by_cases c43 : v42.toInt = 0
      · refine am_wb1 rfl false (zn_ne (zq_a _) (by decide) (zr_t _) ⟨by decide, by decide⟩ c43) rfl ?_
        have h46 := h44 c43
        refine am_wh 2 (pc1 := 86) (lv1 := [(0, .long a0), (2, .long a2), (4, .int a4)]) (st1 := [.int 1]) rfl ?_
        refine am_wr rfl rfl rfl ?_
        exact ⟨_, _, rfl, rfl, h46⟩
      · refine am_wb1 rfl true (zt_ne (zq_a _) (by decide) (zr_t _) ⟨by decide, by decide⟩ c43) rfl ?_
        have h47 := h45 c43
        refine am_wh 1 (pc1 := 86) (lv1 := [(0, .long a0), (2, .long a2), (4, .int a4)]) (st1 := [.int 0]) rfl ?_
        refine am_wr rfl rfl rfl ?_
        exact ⟨_, _, rfl, rfl, h47⟩
set_option maxRecDepth 100000 in
theorem vc_79_0 (xs : Option (List Int32)) (d : Nat) (s : zS)  (Q : Int32 → zS → Prop) (h : ((s.1 7).toInt = (s.1 20).toInt → (zWi xs (d + 1) 79 15 [(0, .ref 28), (1, .ref 17), (2, .int 0)] s Q)) ∧ (¬ (s.1 7).toInt = (s.1 20).toInt → (Q 0 s))) : zWi xs (d + 1) 79 0 [(0, .ref 28), (1, .ref 17)] s Q := by
  unfold zWi
  refine am_wh 4 (pc1 := 8) (lv1 := [(0, .ref 28), (1, .ref 17)]) (st1 := [.int (s.1 20), .int (s.1 7)]) rfl ?_
  obtain ⟨h2, h3⟩ := h
  by_cases c1 : (s.1 7).toInt = (s.1 20).toInt
  · refine am_wb2 rfl true (zt_eq (zq_a _) (zq_a _) (zr_t _) (zr_t _) c1) rfl ?_
    have h4 := h2 c1
    refine am_wh 2 (pc1 := 15) (lv1 := [(2, .int 0), (0, .ref 28), (1, .ref 17)]) (st1 := []) rfl ?_
    exact am_wm h4 ⟨rfl, rfl, rfl, trivial⟩
  · refine am_wb2 rfl false (zn_eq (zq_a _) (zq_a _) (zr_t _) (zr_t _) c1) rfl ?_
    have h5 := h3 c1
    refine am_wh 1 (pc1 := 12) (lv1 := [(0, .ref 28), (1, .ref 17)]) (st1 := [.int 0]) rfl ?_
    refine am_wr rfl rfl rfl ?_
    exact ⟨_, _, rfl, rfl, h5⟩
set_option maxRecDepth 100000 in
theorem vc_79_15 (xs : Option (List Int32)) (d : Nat) (s : zS) (a2 : Int32) (Q : Int32 → zS → Prop) (h : (a2.toInt < (s.1 20).toInt → (zWi xs d 38 0 [(0, .ref 17), (1, .int a2)] s (fun v7 s5 => zX (s5.2 28) a2.toInt ∧ (v7.toInt = (zg (s5.2 28) a2.toInt).toInt → (zWi xs d 36 0 [(0, .ref 17), (1, .int a2)] s5 (fun v16 s14 => zX (s14.2 29) a2.toInt ∧ (v16.toInt = (zg (s14.2 29) a2.toInt).toInt → (zWi xs (d + 1) 79 15 [(0, .ref 28), (1, .ref 17), (2, .int (a2 + 1))] s14 Q)) ∧ (¬ v16.toInt = (zg (s14.2 29) a2.toInt).toInt → (Q 0 s14))))) ∧ (¬ v7.toInt = (zg (s5.2 28) a2.toInt).toInt → (Q 0 s5))))) ∧ (¬ a2.toInt < (s.1 20).toInt → (Q 1 s))) : zWi xs (d + 1) 79 15 [(0, .ref 28), (1, .ref 17), (2, .int a2)] s Q := by
  unfold zWi
  refine am_wh 3 (pc1 := 20) (lv1 := [(0, .ref 28), (1, .ref 17), (2, .int a2)]) (st1 := [.int (s.1 20), .int a2]) rfl ?_
  obtain ⟨h2, h3⟩ := h
  by_cases c1 : a2.toInt < (s.1 20).toInt
  · refine am_wb2 rfl false (zn_ge (zq_a _) (zq_a _) (zr_t _) (zr_t _) c1) rfl ?_
    have h4 := h2 c1
    refine am_wh 2 (pc1 := 25) (lv1 := [(0, .ref 28), (1, .ref 17), (2, .int a2)]) (st1 := [.int a2, .ref 17]) rfl ?_
    refine am_wc rfl rfl rfl ?_
    refine am_ww h4 ?_
    rintro _ _ ⟨v7, s5, rfl, rfl, h6⟩
    show am_W _ _ 79 28 [(0, .ref 28), (1, .ref 17), (2, .int a2)] [.int v7] (zH s5) _
    refine am_wh 3 (pc1 := 33) (lv1 := [(0, .ref 28), (1, .ref 17), (2, .int a2)]) (st1 := [.int a2, .ref 30, .int v7]) rfl ?_
    obtain ⟨o8, h9⟩ := h6
    refine zw_li (l := (s5.2 28)) (i := a2.toInt) rfl rfl (zq_a _) o8 ?_
    obtain ⟨h11, h12⟩ := h9
    by_cases c10 : v7.toInt = (zg (s5.2 28) a2.toInt).toInt
    · refine am_wb2 rfl false (zn_ne (zq_a _) (zq_a _) (zr_t _) (zr_t _) c10) rfl ?_
      have h13 := h11 c10
      refine am_wh 2 (pc1 := 39) (lv1 := [(0, .ref 28), (1, .ref 17), (2, .int a2)]) (st1 := [.int a2, .ref 17]) rfl ?_
      refine am_wc rfl rfl rfl ?_
      refine am_ww h13 ?_
      rintro _ _ ⟨v16, s14, rfl, rfl, h15⟩
      show am_W _ _ 79 42 [(0, .ref 28), (1, .ref 17), (2, .int a2)] [.int v16] (zH s14) _
      refine am_wh 3 (pc1 := 47) (lv1 := [(0, .ref 28), (1, .ref 17), (2, .int a2)]) (st1 := [.int a2, .ref 31, .int v16]) rfl ?_
      obtain ⟨o17, h18⟩ := h15
      refine zw_li (l := (s14.2 29)) (i := a2.toInt) rfl rfl (zq_a _) o17 ?_
      obtain ⟨h20, h21⟩ := h18
      by_cases c19 : v16.toInt = (zg (s14.2 29) a2.toInt).toInt
      · refine am_wb2 rfl true (zt_eq (zq_a _) (zq_a _) (zr_t _) (zr_t _) c19) rfl ?_
        have h22 := h20 c19
        refine am_wh 2 (pc1 := 15) (lv1 := [(2, .int (a2 + 1)), (0, .ref 28), (1, .ref 17)]) (st1 := []) rfl ?_
        exact am_wm h22 ⟨rfl, rfl, rfl, trivial⟩
      · refine am_wb2 rfl false (zn_eq (zq_a _) (zq_a _) (zr_t _) (zr_t _) c19) rfl ?_
        have h23 := h21 c19
        refine am_wh 1 (pc1 := 52) (lv1 := [(0, .ref 28), (1, .ref 17), (2, .int a2)]) (st1 := [.int 0]) rfl ?_
        refine am_wr rfl rfl rfl ?_
        exact ⟨_, _, rfl, rfl, h23⟩
    · refine am_wb2 rfl true (zt_ne (zq_a _) (zq_a _) (zr_t _) (zr_t _) c10) rfl ?_
      have h24 := h12 c10
      refine am_wh 1 (pc1 := 52) (lv1 := [(0, .ref 28), (1, .ref 17), (2, .int a2)]) (st1 := [.int 0]) rfl ?_
      refine am_wr rfl rfl rfl ?_
      exact ⟨_, _, rfl, rfl, h24⟩
  · refine am_wb2 rfl true (zt_ge (zq_a _) (zq_a _) (zr_t _) (zr_t _) c1) rfl ?_
    have h25 := h3 c1
    refine am_wh 1 (pc1 := 60) (lv1 := [(0, .ref 28), (1, .ref 17), (2, .int a2)]) (st1 := [.int 1]) rfl ?_
    refine am_wr rfl rfl rfl ?_
    exact ⟨_, _, rfl, rfl, h25⟩
set_option maxRecDepth 100000 in
theorem vc_81_0 (xs : Option (List Int32)) (d : Nat) (s : zS) (a0 : Int32) (Q : Int32 → zS → Prop) (h : (a0.toInt = 10 → (Q 1 s)) ∧ (¬ a0.toInt = 10 → ((a0.toInt < 32 → (Q 0 s)) ∧ (¬ a0.toInt < 32 → ((126 < a0.toInt → (Q 0 s)) ∧ (¬ 126 < a0.toInt → (Q 1 s))))))) : zWi xs d 81 0 [(0, .int a0)] s Q := by
  unfold zWi
  refine am_wh 2 (pc1 := 3) (lv1 := [(0, .int a0)]) (st1 := [.int 10, .int a0]) rfl ?_
  obtain ⟨h2, h3⟩ := h
  by_cases c1 : a0.toInt = 10
  · refine am_wb2 rfl true (zt_eq (zq_a _) (by decide) (zr_t _) ⟨by decide, by decide⟩ c1) rfl ?_
    have h4 := h2 c1
    refine am_wh 2 (pc1 := 23) (lv1 := [(0, .int a0)]) (st1 := [.int 1]) rfl ?_
    refine am_wr rfl rfl rfl ?_
    exact ⟨_, _, rfl, rfl, h4⟩
  · refine am_wb2 rfl false (zn_eq (zq_a _) (by decide) (zr_t _) ⟨by decide, by decide⟩ c1) rfl ?_
    have h5 := h3 c1
    refine am_wh 2 (pc1 := 9) (lv1 := [(0, .int a0)]) (st1 := [.int 32, .int a0]) rfl ?_
    obtain ⟨h7, h8⟩ := h5
    by_cases c6 : a0.toInt < 32
    · refine am_wb2 rfl true (zt_lt (zq_a _) (by decide) (zr_t _) ⟨by decide, by decide⟩ c6) rfl ?_
      have h9 := h7 c6
      refine am_wh 1 (pc1 := 23) (lv1 := [(0, .int a0)]) (st1 := [.int 0]) rfl ?_
      refine am_wr rfl rfl rfl ?_
      exact ⟨_, _, rfl, rfl, h9⟩
    · refine am_wb2 rfl false (zn_lt (zq_a _) (by decide) (zr_t _) ⟨by decide, by decide⟩ c6) rfl ?_
      have h10 := h8 c6
      refine am_wh 2 (pc1 := 15) (lv1 := [(0, .int a0)]) (st1 := [.int 126, .int a0]) rfl ?_
      obtain ⟨h12, h13⟩ := h10
      by_cases c11 : 126 < a0.toInt
      · refine am_wb2 rfl true (zt_gt (zq_a _) (by decide) (zr_t _) ⟨by decide, by decide⟩ c11) rfl ?_
        have h14 := h12 c11
        refine am_wh 1 (pc1 := 23) (lv1 := [(0, .int a0)]) (st1 := [.int 0]) rfl ?_
        refine am_wr rfl rfl rfl ?_
        exact ⟨_, _, rfl, rfl, h14⟩
      · refine am_wb2 rfl false (zn_gt (zq_a _) (by decide) (zr_t _) ⟨by decide, by decide⟩ c11) rfl ?_
        have h15 := h13 c11
        refine am_wh 2 (pc1 := 23) (lv1 := [(0, .int a0)]) (st1 := [.int 1]) rfl ?_
        refine am_wr rfl rfl rfl ?_
        exact ⟨_, _, rfl, rfl, h15⟩
set_option maxRecDepth 100000 in
theorem vc_82_0 (xs : Option (List Int32)) (d : Nat) (s : zS) (a0 : Int32) (Q : Int32 → zS → Prop) (h : (a0.toInt < 48 → (Q 0 s)) ∧ (¬ a0.toInt < 48 → ((57 < a0.toInt → (Q 0 s)) ∧ (¬ 57 < a0.toInt → (Q 1 s))))) : zWi xs d 82 0 [(0, .int a0)] s Q := by
  unfold zWi
  refine am_wh 2 (pc1 := 3) (lv1 := [(0, .int a0)]) (st1 := [.int 48, .int a0]) rfl ?_
  obtain ⟨h2, h3⟩ := h
  by_cases c1 : a0.toInt < 48
  · refine am_wb2 rfl true (zt_lt (zq_a _) (by decide) (zr_t _) ⟨by decide, by decide⟩ c1) rfl ?_
    have h4 := h2 c1
    refine am_wh 1 (pc1 := 17) (lv1 := [(0, .int a0)]) (st1 := [.int 0]) rfl ?_
    refine am_wr rfl rfl rfl ?_
    exact ⟨_, _, rfl, rfl, h4⟩
  · refine am_wb2 rfl false (zn_lt (zq_a _) (by decide) (zr_t _) ⟨by decide, by decide⟩ c1) rfl ?_
    have h5 := h3 c1
    refine am_wh 2 (pc1 := 9) (lv1 := [(0, .int a0)]) (st1 := [.int 57, .int a0]) rfl ?_
    obtain ⟨h7, h8⟩ := h5
    by_cases c6 : 57 < a0.toInt
    · refine am_wb2 rfl true (zt_gt (zq_a _) (by decide) (zr_t _) ⟨by decide, by decide⟩ c6) rfl ?_
      have h9 := h7 c6
      refine am_wh 1 (pc1 := 17) (lv1 := [(0, .int a0)]) (st1 := [.int 0]) rfl ?_
      refine am_wr rfl rfl rfl ?_
      exact ⟨_, _, rfl, rfl, h9⟩
    · refine am_wb2 rfl false (zn_gt (zq_a _) (by decide) (zr_t _) ⟨by decide, by decide⟩ c6) rfl ?_
      have h10 := h8 c6
      refine am_wh 2 (pc1 := 17) (lv1 := [(0, .int a0)]) (st1 := [.int 1]) rfl ?_
      refine am_wr rfl rfl rfl ?_
      exact ⟨_, _, rfl, rfl, h10⟩
set_option maxRecDepth 100000 in
theorem vc_83_0 (xs : Option (List Int32)) (d : Nat) (s : zS) (a0 : Int32) (Q : Int32 → zS → Prop) (h : (a0.toInt < 97 → ((a0.toInt < 65 → ((a0.toInt = 95 → (Q 1 s)) ∧ (¬ a0.toInt = 95 → (Q 0 s)))) ∧ (¬ a0.toInt < 65 → ((90 < a0.toInt → ((a0.toInt = 95 → (Q 1 s)) ∧ (¬ a0.toInt = 95 → (Q 0 s)))) ∧ (¬ 90 < a0.toInt → (Q 1 s)))))) ∧ (¬ a0.toInt < 97 → ((122 < a0.toInt → ((a0.toInt < 65 → ((a0.toInt = 95 → (Q 1 s)) ∧ (¬ a0.toInt = 95 → (Q 0 s)))) ∧ (¬ a0.toInt < 65 → ((90 < a0.toInt → ((a0.toInt = 95 → (Q 1 s)) ∧ (¬ a0.toInt = 95 → (Q 0 s)))) ∧ (¬ 90 < a0.toInt → (Q 1 s)))))) ∧ (¬ 122 < a0.toInt → (Q 1 s))))) : zWi xs d 83 0 [(0, .int a0)] s Q := by
  unfold zWi
  refine am_wh 2 (pc1 := 3) (lv1 := [(0, .int a0)]) (st1 := [.int 97, .int a0]) rfl ?_
  obtain ⟨h2, h3⟩ := h
  by_cases c1 : a0.toInt < 97
  · refine am_wb2 rfl true (zt_lt (zq_a _) (by decide) (zr_t _) ⟨by decide, by decide⟩ c1) rfl ?_
    have h4 := h2 c1
    refine am_wh 2 (pc1 := 15) (lv1 := [(0, .int a0)]) (st1 := [.int 65, .int a0]) rfl ?_
    obtain ⟨h6, h7⟩ := h4
    by_cases c5 : a0.toInt < 65
    · refine am_wb2 rfl true (zt_lt (zq_a _) (by decide) (zr_t _) ⟨by decide, by decide⟩ c5) rfl ?_
      have h8 := h6 c5
      refine am_wh 2 (pc1 := 27) (lv1 := [(0, .int a0)]) (st1 := [.int 95, .int a0]) rfl ?_
      obtain ⟨h10, h11⟩ := h8
      by_cases c9 : a0.toInt = 95
      · refine am_wb2 rfl false (zn_ne (zq_a _) (by decide) (zr_t _) ⟨by decide, by decide⟩ c9) rfl ?_
        have h12 := h10 c9
        refine am_wh 2 (pc1 := 35) (lv1 := [(0, .int a0)]) (st1 := [.int 1]) rfl ?_
        refine am_wr rfl rfl rfl ?_
        exact ⟨_, _, rfl, rfl, h12⟩
      · refine am_wb2 rfl true (zt_ne (zq_a _) (by decide) (zr_t _) ⟨by decide, by decide⟩ c9) rfl ?_
        have h13 := h11 c9
        refine am_wh 1 (pc1 := 35) (lv1 := [(0, .int a0)]) (st1 := [.int 0]) rfl ?_
        refine am_wr rfl rfl rfl ?_
        exact ⟨_, _, rfl, rfl, h13⟩
    · refine am_wb2 rfl false (zn_lt (zq_a _) (by decide) (zr_t _) ⟨by decide, by decide⟩ c5) rfl ?_
      have h14 := h7 c5
      refine am_wh 2 (pc1 := 21) (lv1 := [(0, .int a0)]) (st1 := [.int 90, .int a0]) rfl ?_
      obtain ⟨h16, h17⟩ := h14
      by_cases c15 : 90 < a0.toInt
      · refine am_wb2 rfl false (zn_le (zq_a _) (by decide) (zr_t _) ⟨by decide, by decide⟩ c15) rfl ?_
        have h18 := h16 c15
        refine am_wh 2 (pc1 := 27) (lv1 := [(0, .int a0)]) (st1 := [.int 95, .int a0]) rfl ?_
        obtain ⟨h20, h21⟩ := h18
        by_cases c19 : a0.toInt = 95
        · refine am_wb2 rfl false (zn_ne (zq_a _) (by decide) (zr_t _) ⟨by decide, by decide⟩ c19) rfl ?_
          have h22 := h20 c19
          refine am_wh 2 (pc1 := 35) (lv1 := [(0, .int a0)]) (st1 := [.int 1]) rfl ?_
          refine am_wr rfl rfl rfl ?_
          exact ⟨_, _, rfl, rfl, h22⟩
        · refine am_wb2 rfl true (zt_ne (zq_a _) (by decide) (zr_t _) ⟨by decide, by decide⟩ c19) rfl ?_
          have h23 := h21 c19
          refine am_wh 1 (pc1 := 35) (lv1 := [(0, .int a0)]) (st1 := [.int 0]) rfl ?_
          refine am_wr rfl rfl rfl ?_
          exact ⟨_, _, rfl, rfl, h23⟩
      · refine am_wb2 rfl true (zt_le (zq_a _) (by decide) (zr_t _) ⟨by decide, by decide⟩ c15) rfl ?_
        have h24 := h17 c15
        refine am_wh 2 (pc1 := 35) (lv1 := [(0, .int a0)]) (st1 := [.int 1]) rfl ?_
        refine am_wr rfl rfl rfl ?_
        exact ⟨_, _, rfl, rfl, h24⟩
  · refine am_wb2 rfl false (zn_lt (zq_a _) (by decide) (zr_t _) ⟨by decide, by decide⟩ c1) rfl ?_
    have h25 := h3 c1
    refine am_wh 2 (pc1 := 9) (lv1 := [(0, .int a0)]) (st1 := [.int 122, .int a0]) rfl ?_
    obtain ⟨h27, h28⟩ := h25
    by_cases c26 : 122 < a0.toInt
    · refine am_wb2 rfl false (zn_le (zq_a _) (by decide) (zr_t _) ⟨by decide, by decide⟩ c26) rfl ?_
      have h29 := h27 c26
      refine am_wh 2 (pc1 := 15) (lv1 := [(0, .int a0)]) (st1 := [.int 65, .int a0]) rfl ?_
      obtain ⟨h31, h32⟩ := h29
      by_cases c30 : a0.toInt < 65
      · refine am_wb2 rfl true (zt_lt (zq_a _) (by decide) (zr_t _) ⟨by decide, by decide⟩ c30) rfl ?_
        have h33 := h31 c30
        refine am_wh 2 (pc1 := 27) (lv1 := [(0, .int a0)]) (st1 := [.int 95, .int a0]) rfl ?_
        obtain ⟨h35, h36⟩ := h33
        by_cases c34 : a0.toInt = 95
        · refine am_wb2 rfl false (zn_ne (zq_a _) (by decide) (zr_t _) ⟨by decide, by decide⟩ c34) rfl ?_
          have h37 := h35 c34
          refine am_wh 2 (pc1 := 35) (lv1 := [(0, .int a0)]) (st1 := [.int 1]) rfl ?_
          refine am_wr rfl rfl rfl ?_
          exact ⟨_, _, rfl, rfl, h37⟩
        · refine am_wb2 rfl true (zt_ne (zq_a _) (by decide) (zr_t _) ⟨by decide, by decide⟩ c34) rfl ?_
          have h38 := h36 c34
          refine am_wh 1 (pc1 := 35) (lv1 := [(0, .int a0)]) (st1 := [.int 0]) rfl ?_
          refine am_wr rfl rfl rfl ?_
          exact ⟨_, _, rfl, rfl, h38⟩
      · refine am_wb2 rfl false (zn_lt (zq_a _) (by decide) (zr_t _) ⟨by decide, by decide⟩ c30) rfl ?_
        have h39 := h32 c30
        refine am_wh 2 (pc1 := 21) (lv1 := [(0, .int a0)]) (st1 := [.int 90, .int a0]) rfl ?_
        obtain ⟨h41, h42⟩ := h39
        by_cases c40 : 90 < a0.toInt
        · refine am_wb2 rfl false (zn_le (zq_a _) (by decide) (zr_t _) ⟨by decide, by decide⟩ c40) rfl ?_
          have h43 := h41 c40
          refine am_wh 2 (pc1 := 27) (lv1 := [(0, .int a0)]) (st1 := [.int 95, .int a0]) rfl ?_
          obtain ⟨h45, h46⟩ := h43
          by_cases c44 : a0.toInt = 95
          · refine am_wb2 rfl false (zn_ne (zq_a _) (by decide) (zr_t _) ⟨by decide, by decide⟩ c44) rfl ?_
            have h47 := h45 c44
            refine am_wh 2 (pc1 := 35) (lv1 := [(0, .int a0)]) (st1 := [.int 1]) rfl ?_
            refine am_wr rfl rfl rfl ?_
            exact ⟨_, _, rfl, rfl, h47⟩
          · refine am_wb2 rfl true (zt_ne (zq_a _) (by decide) (zr_t _) ⟨by decide, by decide⟩ c44) rfl ?_
            have h48 := h46 c44
            refine am_wh 1 (pc1 := 35) (lv1 := [(0, .int a0)]) (st1 := [.int 0]) rfl ?_
            refine am_wr rfl rfl rfl ?_
            exact ⟨_, _, rfl, rfl, h48⟩
        · refine am_wb2 rfl true (zt_le (zq_a _) (by decide) (zr_t _) ⟨by decide, by decide⟩ c40) rfl ?_
          have h49 := h42 c40
          refine am_wh 2 (pc1 := 35) (lv1 := [(0, .int a0)]) (st1 := [.int 1]) rfl ?_
          refine am_wr rfl rfl rfl ?_
          exact ⟨_, _, rfl, rfl, h49⟩
    · refine am_wb2 rfl true (zt_le (zq_a _) (by decide) (zr_t _) ⟨by decide, by decide⟩ c26) rfl ?_
      have h50 := h28 c26
      refine am_wh 2 (pc1 := 35) (lv1 := [(0, .int a0)]) (st1 := [.int 1]) rfl ?_
      refine am_wr rfl rfl rfl ?_
      exact ⟨_, _, rfl, rfl, h50⟩
set_option maxRecDepth 100000 in
theorem vc_84_0 (xs : Option (List Int32)) (d : Nat) (s : zS) (a0 : Int32) (Q : Int32 → zS → Prop) (h : zWi xs d 83 0 [(0, .int a0)] s (fun v3 s1 => (v3.toInt = 0 → (zWi xs d 82 0 [(0, .int a0)] s1 (fun v10 s8 => (v10.toInt = 0 → (Q 0 s8)) ∧ (¬ v10.toInt = 0 → (Q 1 s8))))) ∧ (¬ v3.toInt = 0 → (Q 1 s1)))) : zWi xs (d + 1) 84 0 [(0, .int a0)] s Q := by
  unfold zWi
  refine am_wh 1 (pc1 := 1) (lv1 := [(0, .int a0)]) (st1 := [.int a0]) rfl ?_
  refine am_wc rfl rfl rfl ?_
  refine am_ww h ?_
  rintro _ _ ⟨v3, s1, rfl, rfl, h2⟩
  show am_W _ _ 84 4 [(0, .int a0)] [.int v3] (zH s1) _
  obtain ⟨h5, h6⟩ := h2
  by_cases c4 : v3.toInt = 0
  · refine am_wb1 rfl false (zn_ne (zq_a _) (by decide) (zr_t _) ⟨by decide, by decide⟩ c4) rfl ?_
    have h7 := h5 c4
    refine am_wh 1 (pc1 := 8) (lv1 := [(0, .int a0)]) (st1 := [.int a0]) rfl ?_
    refine am_wc rfl rfl rfl ?_
    refine am_ww h7 ?_
    rintro _ _ ⟨v10, s8, rfl, rfl, h9⟩
    show am_W _ _ 84 11 [(0, .int a0)] [.int v10] (zH s8) _
    obtain ⟨h12, h13⟩ := h9
    by_cases c11 : v10.toInt = 0
    · refine am_wb1 rfl true (zt_eq (zq_a _) (by decide) (zr_t _) ⟨by decide, by decide⟩ c11) rfl ?_
      have h14 := h12 c11
      refine am_wh 1 (pc1 := 19) (lv1 := [(0, .int a0)]) (st1 := [.int 0]) rfl ?_
      refine am_wr rfl rfl rfl ?_
      exact ⟨_, _, rfl, rfl, h14⟩
    · refine am_wb1 rfl false (zn_eq (zq_a _) (by decide) (zr_t _) ⟨by decide, by decide⟩ c11) rfl ?_
      have h15 := h13 c11
      refine am_wh 2 (pc1 := 19) (lv1 := [(0, .int a0)]) (st1 := [.int 1]) rfl ?_
      refine am_wr rfl rfl rfl ?_
      exact ⟨_, _, rfl, rfl, h15⟩
  · refine am_wb1 rfl true (zt_ne (zq_a _) (by decide) (zr_t _) ⟨by decide, by decide⟩ c4) rfl ?_
    have h16 := h6 c4
    refine am_wh 2 (pc1 := 19) (lv1 := [(0, .int a0)]) (st1 := [.int 1]) rfl ?_
    refine am_wr rfl rfl rfl ?_
    exact ⟨_, _, rfl, rfl, h16⟩
set_option maxRecDepth 100000 in
theorem vc_85_0 (xs : Option (List Int32)) (d : Nat) (s : zS) (a1 : Int32) (Q : Int32 → zS → Prop) (h : (a1.toInt < 0 → (Q (-1) s)) ∧ (¬ a1.toInt < 0 → ((a1.toInt < (s.1 1).toInt → (zX (s.2 2) a1.toInt ∧ Q (zg (s.2 2) a1.toInt) s)) ∧ (¬ a1.toInt < (s.1 1).toInt → (Q (-1) s))))) : zWi xs d 85 0 [(0, .ref 3), (1, .int a1)] s Q := by
  unfold zWi
  refine am_wh 1 (pc1 := 1) (lv1 := [(0, .ref 3), (1, .int a1)]) (st1 := [.int a1]) rfl ?_
  obtain ⟨h2, h3⟩ := h
  by_cases c1 : a1.toInt < 0
  · refine am_wb1 rfl true (zt_lt (zq_a _) (by decide) (zr_t _) ⟨by decide, by decide⟩ c1) rfl ?_
    have h4 := h2 c1
    refine am_wh 1 (pc1 := 22) (lv1 := [(0, .ref 3), (1, .int a1)]) (st1 := [.int (-1)]) rfl ?_
    refine am_wr rfl rfl rfl ?_
    exact ⟨_, _, rfl, rfl, h4⟩
  · refine am_wb1 rfl false (zn_lt (zq_a _) (by decide) (zr_t _) ⟨by decide, by decide⟩ c1) rfl ?_
    have h5 := h3 c1
    refine am_wh 3 (pc1 := 9) (lv1 := [(0, .ref 3), (1, .int a1)]) (st1 := [.int (s.1 1), .int a1]) rfl ?_
    obtain ⟨h7, h8⟩ := h5
    by_cases c6 : a1.toInt < (s.1 1).toInt
    · refine am_wb2 rfl false (zn_ge (zq_a _) (zq_a _) (zr_t _) (zr_t _) c6) rfl ?_
      have h9 := h7 c6
      refine am_wh 3 (pc1 := 17) (lv1 := [(0, .ref 3), (1, .int a1)]) (st1 := [.int a1, .ref 4]) rfl ?_
      obtain ⟨o10, h11⟩ := h9
      refine zw_lc (l := (s.2 2)) (i := a1.toInt) rfl rfl (zq_a _) o10 ?_
      refine am_wh 1 (pc1 := 22) (lv1 := [(0, .ref 3), (1, .int a1)]) (st1 := [.int (zg (s.2 2) a1.toInt)]) rfl ?_
      refine am_wr rfl rfl rfl ?_
      exact ⟨_, _, rfl, rfl, h11⟩
    · refine am_wb2 rfl true (zt_ge (zq_a _) (zq_a _) (zr_t _) (zr_t _) c6) rfl ?_
      have h12 := h8 c6
      refine am_wh 1 (pc1 := 22) (lv1 := [(0, .ref 3), (1, .int a1)]) (st1 := [.int (-1)]) rfl ?_
      refine am_wr rfl rfl rfl ?_
      exact ⟨_, _, rfl, rfl, h12⟩
set_option maxRecDepth 100000 in
theorem vc_87_0 (xs : Option (List Int32)) (d : Nat) (s : zS) (a1 : Int32) (Q : Int32 → zS → Prop) (h : zWi xs d 87 2 [(0, .ref 3), (2, .int a1)] s Q) : zWi xs d 87 0 [(0, .ref 3), (1, .int a1)] s Q := by
  unfold zWi
  refine am_wh 2 (pc1 := 2) (lv1 := [(2, .int a1), (0, .ref 3), (1, .int a1)]) (st1 := []) rfl ?_
  exact am_wm h ⟨rfl, rfl, trivial⟩
set_option maxRecDepth 100000 in
theorem vc_87_2 (xs : Option (List Int32)) (d : Nat) (s : zS) (a2 : Int32) (Q : Int32 → zS → Prop) (h : (a2.toInt < (s.1 1).toInt → (zX (s.2 2) a2.toInt ∧ ((zg (s.2 2) a2.toInt).toInt = 10 → (Q a2 s)) ∧ (¬ (zg (s.2 2) a2.toInt).toInt = 10 → (zWi xs d 87 2 [(0, .ref 3), (2, .int (a2 + 1))] s Q)))) ∧ (¬ a2.toInt < (s.1 1).toInt → (Q a2 s))) : zWi xs d 87 2 [(0, .ref 3), (2, .int a2)] s Q := by
  unfold zWi
  refine am_wh 3 (pc1 := 7) (lv1 := [(0, .ref 3), (2, .int a2)]) (st1 := [.int (s.1 1), .int a2]) rfl ?_
  obtain ⟨h2, h3⟩ := h
  by_cases c1 : a2.toInt < (s.1 1).toInt
  · refine am_wb2 rfl false (zn_ge (zq_a _) (zq_a _) (zr_t _) (zr_t _) c1) rfl ?_
    have h4 := h2 c1
    refine am_wh 3 (pc1 := 15) (lv1 := [(0, .ref 3), (2, .int a2)]) (st1 := [.int a2, .ref 4]) rfl ?_
    obtain ⟨o5, h6⟩ := h4
    refine zw_lc (l := (s.2 2)) (i := a2.toInt) rfl rfl (zq_a _) o5 ?_
    refine am_wh 1 (pc1 := 18) (lv1 := [(0, .ref 3), (2, .int a2)]) (st1 := [.int 10, .int (zg (s.2 2) a2.toInt)]) rfl ?_
    obtain ⟨h8, h9⟩ := h6
    by_cases c7 : (zg (s.2 2) a2.toInt).toInt = 10
    · refine am_wb2 rfl true (zt_eq (zq_a _) (by decide) (zr_t _) ⟨by decide, by decide⟩ c7) rfl ?_
      have h10 := h8 c7
      refine am_wh 1 (pc1 := 28) (lv1 := [(0, .ref 3), (2, .int a2)]) (st1 := [.int a2]) rfl ?_
      refine am_wr rfl rfl rfl ?_
      exact ⟨_, _, rfl, rfl, h10⟩
    · refine am_wb2 rfl false (zn_eq (zq_a _) (by decide) (zr_t _) ⟨by decide, by decide⟩ c7) rfl ?_
      have h11 := h9 c7
      refine am_wh 2 (pc1 := 2) (lv1 := [(2, .int (a2 + 1)), (0, .ref 3)]) (st1 := []) rfl ?_
      exact am_wm h11 ⟨rfl, rfl, trivial⟩
  · refine am_wb2 rfl true (zt_ge (zq_a _) (zq_a _) (zr_t _) (zr_t _) c1) rfl ?_
    have h12 := h3 c1
    refine am_wh 1 (pc1 := 28) (lv1 := [(0, .ref 3), (2, .int a2)]) (st1 := [.int a2]) rfl ?_
    refine am_wr rfl rfl rfl ?_
    exact ⟨_, _, rfl, rfl, h12⟩
set_option maxRecDepth 100000 in
theorem vc_88_0 (xs : Option (List Int32)) (d : Nat) (s : zS) (a1 : Int32) (Q : Int32 → zS → Prop) (h : zWi xs (d + 1) 88 2 [(0, .ref 3), (2, .int a1)] s Q) : zWi xs (d + 1) 88 0 [(0, .ref 3), (1, .int a1)] s Q := by
  unfold zWi
  refine am_wh 2 (pc1 := 2) (lv1 := [(2, .int a1), (0, .ref 3), (1, .int a1)]) (st1 := []) rfl ?_
  exact am_wm h ⟨rfl, rfl, trivial⟩
set_option maxRecDepth 100000 in
theorem vc_88_2 (xs : Option (List Int32)) (d : Nat) (s : zS) (a2 : Int32) (Q : Int32 → zS → Prop) (h : (a2.toInt < (s.1 1).toInt → (zX (s.2 2) a2.toInt ∧ zWi xs d 82 0 [(0, .int (zg (s.2 2) a2.toInt))] s (fun v9 s7 => (v9.toInt = 0 → (Q a2 s7)) ∧ (¬ v9.toInt = 0 → (zWi xs (d + 1) 88 2 [(0, .ref 3), (2, .int (a2 + 1))] s7 Q))))) ∧ (¬ a2.toInt < (s.1 1).toInt → (Q a2 s))) : zWi xs (d + 1) 88 2 [(0, .ref 3), (2, .int a2)] s Q := by
  unfold zWi
  refine am_wh 3 (pc1 := 7) (lv1 := [(0, .ref 3), (2, .int a2)]) (st1 := [.int (s.1 1), .int a2]) rfl ?_
  obtain ⟨h2, h3⟩ := h
  by_cases c1 : a2.toInt < (s.1 1).toInt
  · refine am_wb2 rfl false (zn_ge (zq_a _) (zq_a _) (zr_t _) (zr_t _) c1) rfl ?_
    have h4 := h2 c1
    refine am_wh 3 (pc1 := 15) (lv1 := [(0, .ref 3), (2, .int a2)]) (st1 := [.int a2, .ref 4]) rfl ?_
    obtain ⟨o5, h6⟩ := h4
    refine zw_lc (l := (s.2 2)) (i := a2.toInt) rfl rfl (zq_a _) o5 ?_
    refine am_wc rfl rfl rfl ?_
    refine am_ww h6 ?_
    rintro _ _ ⟨v9, s7, rfl, rfl, h8⟩
    show am_W _ _ 88 19 [(0, .ref 3), (2, .int a2)] [.int v9] (zH s7) _
    obtain ⟨h11, h12⟩ := h8
    by_cases c10 : v9.toInt = 0
    · refine am_wb1 rfl true (zt_eq (zq_a _) (by decide) (zr_t _) ⟨by decide, by decide⟩ c10) rfl ?_
      have h13 := h11 c10
      refine am_wh 1 (pc1 := 29) (lv1 := [(0, .ref 3), (2, .int a2)]) (st1 := [.int a2]) rfl ?_
      refine am_wr rfl rfl rfl ?_
      exact ⟨_, _, rfl, rfl, h13⟩
    · refine am_wb1 rfl false (zn_eq (zq_a _) (by decide) (zr_t _) ⟨by decide, by decide⟩ c10) rfl ?_
      have h14 := h12 c10
      refine am_wh 2 (pc1 := 2) (lv1 := [(2, .int (a2 + 1)), (0, .ref 3)]) (st1 := []) rfl ?_
      exact am_wm h14 ⟨rfl, rfl, trivial⟩
  · refine am_wb2 rfl true (zt_ge (zq_a _) (zq_a _) (zr_t _) (zr_t _) c1) rfl ?_
    have h15 := h3 c1
    refine am_wh 1 (pc1 := 29) (lv1 := [(0, .ref 3), (2, .int a2)]) (st1 := [.int a2]) rfl ?_
    refine am_wr rfl rfl rfl ?_
    exact ⟨_, _, rfl, rfl, h15⟩
set_option maxRecDepth 100000 in
theorem vc_89_0 (xs : Option (List Int32)) (d : Nat) (s : zS) (a1 : Int32) (Q : Int32 → zS → Prop) (h : zWi xs (d + 1) 89 2 [(0, .ref 3), (2, .int a1)] s Q) : zWi xs (d + 1) 89 0 [(0, .ref 3), (1, .int a1)] s Q := by
  unfold zWi
  refine am_wh 2 (pc1 := 2) (lv1 := [(2, .int a1), (0, .ref 3), (1, .int a1)]) (st1 := []) rfl ?_
  exact am_wm h ⟨rfl, rfl, trivial⟩
set_option maxRecDepth 100000 in
theorem vc_89_2 (xs : Option (List Int32)) (d : Nat) (s : zS) (a2 : Int32) (Q : Int32 → zS → Prop) (h : (a2.toInt < (s.1 1).toInt → (zX (s.2 2) a2.toInt ∧ zWi xs d 84 0 [(0, .int (zg (s.2 2) a2.toInt))] s (fun v9 s7 => (v9.toInt = 0 → (Q a2 s7)) ∧ (¬ v9.toInt = 0 → (zWi xs (d + 1) 89 2 [(0, .ref 3), (2, .int (a2 + 1))] s7 Q))))) ∧ (¬ a2.toInt < (s.1 1).toInt → (Q a2 s))) : zWi xs (d + 1) 89 2 [(0, .ref 3), (2, .int a2)] s Q := by
  unfold zWi
  refine am_wh 3 (pc1 := 7) (lv1 := [(0, .ref 3), (2, .int a2)]) (st1 := [.int (s.1 1), .int a2]) rfl ?_
  obtain ⟨h2, h3⟩ := h
  by_cases c1 : a2.toInt < (s.1 1).toInt
  · refine am_wb2 rfl false (zn_ge (zq_a _) (zq_a _) (zr_t _) (zr_t _) c1) rfl ?_
    have h4 := h2 c1
    refine am_wh 3 (pc1 := 15) (lv1 := [(0, .ref 3), (2, .int a2)]) (st1 := [.int a2, .ref 4]) rfl ?_
    obtain ⟨o5, h6⟩ := h4
    refine zw_lc (l := (s.2 2)) (i := a2.toInt) rfl rfl (zq_a _) o5 ?_
    refine am_wc rfl rfl rfl ?_
    refine am_ww h6 ?_
    rintro _ _ ⟨v9, s7, rfl, rfl, h8⟩
    show am_W _ _ 89 19 [(0, .ref 3), (2, .int a2)] [.int v9] (zH s7) _
    obtain ⟨h11, h12⟩ := h8
    by_cases c10 : v9.toInt = 0
    · refine am_wb1 rfl true (zt_eq (zq_a _) (by decide) (zr_t _) ⟨by decide, by decide⟩ c10) rfl ?_
      have h13 := h11 c10
      refine am_wh 1 (pc1 := 29) (lv1 := [(0, .ref 3), (2, .int a2)]) (st1 := [.int a2]) rfl ?_
      refine am_wr rfl rfl rfl ?_
      exact ⟨_, _, rfl, rfl, h13⟩
    · refine am_wb1 rfl false (zn_eq (zq_a _) (by decide) (zr_t _) ⟨by decide, by decide⟩ c10) rfl ?_
      have h14 := h12 c10
      refine am_wh 2 (pc1 := 2) (lv1 := [(2, .int (a2 + 1)), (0, .ref 3)]) (st1 := []) rfl ?_
      exact am_wm h14 ⟨rfl, rfl, trivial⟩
  · refine am_wb2 rfl true (zt_ge (zq_a _) (zq_a _) (zr_t _) (zr_t _) c1) rfl ?_
    have h15 := h3 c1
    refine am_wh 1 (pc1 := 29) (lv1 := [(0, .ref 3), (2, .int a2)]) (st1 := [.int a2]) rfl ?_
    refine am_wr rfl rfl rfl ?_
    exact ⟨_, _, rfl, rfl, h15⟩
set_option maxRecDepth 100000 in
theorem vc_90_0 (xs : Option (List Int32)) (d : Nat) (s : zS) (a1 : Int32) (a2 : Int32) (a3 : Int32) (Q : Int32 → zS → Prop) (h : zWi xs (d + 1) 90 3 [(0, .ref 3), (1, .int a1), (2, .int a2), (3, .int a3), (4, .int 0)] s Q) : zWi xs (d + 1) 90 0 [(0, .ref 3), (1, .int a1), (2, .int a2), (3, .int a3)] s Q := by
  unfold zWi
  refine am_wh 2 (pc1 := 3) (lv1 := [(4, .int 0), (0, .ref 3), (1, .int a1), (2, .int a2), (3, .int a3)]) (st1 := []) rfl ?_
  exact am_wm h ⟨rfl, rfl, rfl, rfl, rfl, trivial⟩
set_option maxRecDepth 100000 in
theorem vc_90_3 (xs : Option (List Int32)) (d : Nat) (s : zS) (a1 : Int32) (a2 : Int32) (a3 : Int32) (a4 : Int32) (Q : Int32 → zS → Prop) (h : (a4.toInt < a3.toInt → (zWi xs d 85 0 [(0, .ref 3), (1, .int (a1 + a4))] s (fun v7 s5 => zWi xs d 85 0 [(0, .ref 3), (1, .int (a2 + a4))] s5 (fun v10 s8 => (v7.toInt = v10.toInt → (zWi xs (d + 1) 90 3 [(0, .ref 3), (1, .int a1), (2, .int a2), (3, .int a3), (4, .int (a4 + 1))] s8 Q)) ∧ (¬ v7.toInt = v10.toInt → (Q 0 s8)))))) ∧ (¬ a4.toInt < a3.toInt → (Q 1 s))) : zWi xs (d + 1) 90 3 [(0, .ref 3), (1, .int a1), (2, .int a2), (3, .int a3), (4, .int a4)] s Q := by
  unfold zWi
  refine am_wh 2 (pc1 := 6) (lv1 := [(0, .ref 3), (1, .int a1), (2, .int a2), (3, .int a3), (4, .int a4)]) (st1 := [.int a3, .int a4]) rfl ?_
  obtain ⟨h2, h3⟩ := h
  by_cases c1 : a4.toInt < a3.toInt
  · refine am_wb2 rfl false (zn_ge (zq_a _) (zq_a _) (zr_t _) (zr_t _) c1) rfl ?_
    have h4 := h2 c1
    refine am_wh 4 (pc1 := 14) (lv1 := [(0, .ref 3), (1, .int a1), (2, .int a2), (3, .int a3), (4, .int a4)]) (st1 := [.int (a1 + a4), .ref 3]) rfl ?_
    refine am_wc rfl rfl rfl ?_
    refine am_ww h4 ?_
    rintro _ _ ⟨v7, s5, rfl, rfl, h6⟩
    show am_W _ _ 90 17 [(0, .ref 3), (1, .int a1), (2, .int a2), (3, .int a3), (4, .int a4)] [.int v7] (zH s5) _
    refine am_wh 4 (pc1 := 22) (lv1 := [(0, .ref 3), (1, .int a1), (2, .int a2), (3, .int a3), (4, .int a4)]) (st1 := [.int (a2 + a4), .ref 3, .int v7]) rfl ?_
    refine am_wc rfl rfl rfl ?_
    refine am_ww h6 ?_
    rintro _ _ ⟨v10, s8, rfl, rfl, h9⟩
    show am_W _ _ 90 25 [(0, .ref 3), (1, .int a1), (2, .int a2), (3, .int a3), (4, .int a4)] [.int v10, .int v7] (zH s8) _
    obtain ⟨h12, h13⟩ := h9
    by_cases c11 : v7.toInt = v10.toInt
    · refine am_wb2 rfl true (zt_eq (zq_a _) (zq_a _) (zr_t _) (zr_t _) c11) rfl ?_
      have h14 := h12 c11
      refine am_wh 2 (pc1 := 3) (lv1 := [(4, .int (a4 + 1)), (0, .ref 3), (1, .int a1), (2, .int a2), (3, .int a3)]) (st1 := []) rfl ?_
      exact am_wm h14 ⟨rfl, rfl, rfl, rfl, rfl, trivial⟩
    · refine am_wb2 rfl false (zn_eq (zq_a _) (zq_a _) (zr_t _) (zr_t _) c11) rfl ?_
      have h15 := h13 c11
      refine am_wh 1 (pc1 := 29) (lv1 := [(0, .ref 3), (1, .int a1), (2, .int a2), (3, .int a3), (4, .int a4)]) (st1 := [.int 0]) rfl ?_
      refine am_wr rfl rfl rfl ?_
      exact ⟨_, _, rfl, rfl, h15⟩
  · refine am_wb2 rfl true (zt_ge (zq_a _) (zq_a _) (zr_t _) (zr_t _) c1) rfl ?_
    have h16 := h3 c1
    refine am_wh 1 (pc1 := 37) (lv1 := [(0, .ref 3), (1, .int a1), (2, .int a2), (3, .int a3), (4, .int a4)]) (st1 := [.int 1]) rfl ?_
    refine am_wr rfl rfl rfl ?_
    exact ⟨_, _, rfl, rfl, h16⟩
set_option maxRecDepth 100000 in
theorem vc_91_0 (xs : Option (List Int32)) (d : Nat) (s : zS) (a1 : Int32) (a2 : Int32) (Q : Int64 → zS → Prop) (h : zR (a2.toInt - a1.toInt) ∧ (8 < (a2.toInt - a1.toInt) → (Q 0 s)) ∧ (¬ 8 < (a2.toInt - a1.toInt) → (zWl xs (d + 1) 91 13 [(0, .ref 3), (2, .int a2), (3, .long 0), (5, .int a1)] s Q))) : zWl xs (d + 1) 91 0 [(0, .ref 3), (1, .int a1), (2, .int a2)] s Q := by
  unfold zWl
  refine am_wh 6 (pc1 := 7) (lv1 := [(3, .long 0), (0, .ref 3), (1, .int a1), (2, .int a2)]) (st1 := [.int 8, .int (a2 - a1)]) rfl ?_
  obtain ⟨o1, h2⟩ := h
  obtain ⟨h4, h5⟩ := h2
  by_cases c3 : 8 < (a2.toInt - a1.toInt)
  · refine am_wb2 rfl true (zt_gt (zq_sub (zq_a _) (zq_a _)) (by decide) o1 ⟨by decide, by decide⟩ c3) rfl ?_
    have h6 := h4 c3
    refine am_wh 1 (pc1 := 39) (lv1 := [(3, .long 0), (0, .ref 3), (1, .int a1), (2, .int a2)]) (st1 := [.long 0]) rfl ?_
    refine am_wr rfl rfl rfl ?_
    exact ⟨_, _, rfl, rfl, h6⟩
  · refine am_wb2 rfl false (zn_gt (zq_sub (zq_a _) (zq_a _)) (by decide) o1 ⟨by decide, by decide⟩ c3) rfl ?_
    have h7 := h5 c3
    refine am_wh 2 (pc1 := 13) (lv1 := [(5, .int a1), (3, .long 0), (0, .ref 3), (1, .int a1), (2, .int a2)]) (st1 := []) rfl ?_
    exact am_wm h7 ⟨rfl, rfl, rfl, rfl, trivial⟩
set_option maxRecDepth 100000 in
theorem vc_91_13 (xs : Option (List Int32)) (d : Nat) (s : zS) (a2 : Int32) (a3 : Int64) (a5 : Int32) (Q : Int64 → zS → Prop) (h : (a5.toInt < a2.toInt → (zWi xs d 85 0 [(0, .ref 3), (1, .int a5)] s (fun v7 s5 => zWl xs (d + 1) 91 13 [(0, .ref 3), (2, .int a2), (3, .long ((a3 <<< (Int32.toInt64 8 &&& 63)) ||| (Int32.toInt64 v7))), (5, .int (a5 + 1))] s5 Q))) ∧ (¬ a5.toInt < a2.toInt → (Q a3 s))) : zWl xs (d + 1) 91 13 [(0, .ref 3), (2, .int a2), (3, .long a3), (5, .int a5)] s Q := by
  unfold zWl
  refine am_wh 2 (pc1 := 16) (lv1 := [(0, .ref 3), (2, .int a2), (3, .long a3), (5, .int a5)]) (st1 := [.int a2, .int a5]) rfl ?_
  obtain ⟨h2, h3⟩ := h
  by_cases c1 : a5.toInt < a2.toInt
  · refine am_wb2 rfl false (zn_ge (zq_a _) (zq_a _) (zr_t _) (zr_t _) c1) rfl ?_
    have h4 := h2 c1
    refine am_wh 5 (pc1 := 26) (lv1 := [(0, .ref 3), (2, .int a2), (3, .long a3), (5, .int a5)]) (st1 := [.int a5, .ref 3, .long (a3 <<< (Int32.toInt64 8 &&& 63))]) rfl ?_
    refine am_wc rfl rfl rfl ?_
    refine am_ww h4 ?_
    rintro _ _ ⟨v7, s5, rfl, rfl, h6⟩
    show am_W _ _ 91 29 [(0, .ref 3), (2, .int a2), (3, .long a3), (5, .int a5)] [.int v7, .long (a3 <<< (Int32.toInt64 8 &&& 63))] (zH s5) _
    refine am_wh 5 (pc1 := 13) (lv1 := [(5, .int (a5 + 1)), (3, .long ((a3 <<< (Int32.toInt64 8 &&& 63)) ||| (Int32.toInt64 v7))), (0, .ref 3), (2, .int a2)]) (st1 := []) rfl ?_
    exact am_wm h6 ⟨rfl, rfl, rfl, rfl, trivial⟩
  · refine am_wb2 rfl true (zt_ge (zq_a _) (zq_a _) (zr_t _) (zr_t _) c1) rfl ?_
    have h8 := h3 c1
    refine am_wh 1 (pc1 := 39) (lv1 := [(0, .ref 3), (2, .int a2), (3, .long a3), (5, .int a5)]) (st1 := [.long a3]) rfl ?_
    refine am_wr rfl rfl rfl ?_
    exact ⟨_, _, rfl, rfl, h8⟩
set_option maxRecDepth 100000 in
theorem vc_109_0 (xs : Option (List Int32)) (d : Nat) (s : zS) (a1 : Int32) (a2 : Int32) (a3 : Int64) (Q : Int32 → zS → Prop) (h : (a1.toInt < 0 → (Q (-1) s)) ∧ (¬ a1.toInt < 0 → (((s.1 1).toInt < a1.toInt → (Q (-1) s)) ∧ (¬ (s.1 1).toInt < a1.toInt → ((a2.toInt < 0 → (Q (-1) s)) ∧ (¬ a2.toInt < 0 → (zR ((s.1 1).toInt - a1.toInt) ∧ (((s.1 1).toInt - a1.toInt) < a2.toInt → (Q (-1) s)) ∧ (¬ ((s.1 1).toInt - a1.toInt) < a2.toInt → (zWi xs d 21 0 [(0, .long a3)] s (fun v25 s23 => (v25.toInt = 0 → (Q (-1) s23)) ∧ (¬ v25.toInt = 0 → (zWi xs d 20 0 [(0, .long a3)] s23 (fun v33 s31 => zR (((s23.1 1).toInt - a2.toInt) + v33.toInt) ∧ (200 < (((s23.1 1).toInt - a2.toInt) + v33.toInt) → (Q (-2) s31)) ∧ (¬ 200 < (((s23.1 1).toInt - a2.toInt) + v33.toInt) → (zWv xs d 86 0 [(0, .ref 3), (1, .int a1), (2, .int a2), (3, .long a3)] s31 (fun s41 => Q (s41.1 1) (zf s41 0 1))))))))))))))))) : zWi xs (d + 1) 109 0 [(0, .ref 2), (1, .int a1), (2, .int a2), (3, .long a3)] s Q := by
  unfold zWi
  refine am_wh 1 (pc1 := 1) (lv1 := [(0, .ref 2), (1, .int a1), (2, .int a2), (3, .long a3)]) (st1 := [.int a1]) rfl ?_
  obtain ⟨h2, h3⟩ := h
  by_cases c1 : a1.toInt < 0
  · refine am_wb1 rfl true (zt_lt (zq_a _) (by decide) (zr_t _) ⟨by decide, by decide⟩ c1) rfl ?_
    have h4 := h2 c1
    refine am_wh 1 (pc1 := 33) (lv1 := [(0, .ref 2), (1, .int a1), (2, .int a2), (3, .long a3)]) (st1 := [.int (-1)]) rfl ?_
    refine am_wr rfl rfl rfl ?_
    exact ⟨_, _, rfl, rfl, h4⟩
  · refine am_wb1 rfl false (zn_lt (zq_a _) (by decide) (zr_t _) ⟨by decide, by decide⟩ c1) rfl ?_
    have h5 := h3 c1
    refine am_wh 4 (pc1 := 12) (lv1 := [(0, .ref 2), (1, .int a1), (2, .int a2), (3, .long a3)]) (st1 := [.int (s.1 1), .int a1]) rfl ?_
    obtain ⟨h7, h8⟩ := h5
    by_cases c6 : (s.1 1).toInt < a1.toInt
    · refine am_wb2 rfl true (zt_gt (zq_a _) (zq_a _) (zr_t _) (zr_t _) c6) rfl ?_
      have h9 := h7 c6
      refine am_wh 1 (pc1 := 33) (lv1 := [(0, .ref 2), (1, .int a1), (2, .int a2), (3, .long a3)]) (st1 := [.int (-1)]) rfl ?_
      refine am_wr rfl rfl rfl ?_
      exact ⟨_, _, rfl, rfl, h9⟩
    · refine am_wb2 rfl false (zn_gt (zq_a _) (zq_a _) (zr_t _) (zr_t _) c6) rfl ?_
      have h10 := h8 c6
      refine am_wh 1 (pc1 := 16) (lv1 := [(0, .ref 2), (1, .int a1), (2, .int a2), (3, .long a3)]) (st1 := [.int a2]) rfl ?_
      obtain ⟨h12, h13⟩ := h10
      by_cases c11 : a2.toInt < 0
      · refine am_wb1 rfl true (zt_lt (zq_a _) (by decide) (zr_t _) ⟨by decide, by decide⟩ c11) rfl ?_
        have h14 := h12 c11
        refine am_wh 1 (pc1 := 33) (lv1 := [(0, .ref 2), (1, .int a1), (2, .int a2), (3, .long a3)]) (st1 := [.int (-1)]) rfl ?_
        refine am_wr rfl rfl rfl ?_
        exact ⟨_, _, rfl, rfl, h14⟩
      · refine am_wb1 rfl false (zn_lt (zq_a _) (by decide) (zr_t _) ⟨by decide, by decide⟩ c11) rfl ?_
        have h15 := h13 c11
        refine am_wh 6 (pc1 := 29) (lv1 := [(0, .ref 2), (1, .int a1), (2, .int a2), (3, .long a3)]) (st1 := [.int ((s.1 1) - a1), .int a2]) rfl ?_
        obtain ⟨o16, h17⟩ := h15
        obtain ⟨h19, h20⟩ := h17
        by_cases c18 : ((s.1 1).toInt - a1.toInt) < a2.toInt
        · refine am_wb2 rfl false (zn_le (zq_a _) (zq_sub (zq_a _) (zq_a _)) (zr_t _) o16 c18) rfl ?_
          have h21 := h19 c18
          refine am_wh 1 (pc1 := 33) (lv1 := [(0, .ref 2), (1, .int a1), (2, .int a2), (3, .long a3)]) (st1 := [.int (-1)]) rfl ?_
          refine am_wr rfl rfl rfl ?_
          exact ⟨_, _, rfl, rfl, h21⟩
        · refine am_wb2 rfl true (zt_le (zq_a _) (zq_sub (zq_a _) (zq_a _)) (zr_t _) o16 c18) rfl ?_
          have h22 := h20 c18
          refine am_wh 1 (pc1 := 35) (lv1 := [(0, .ref 2), (1, .int a1), (2, .int a2), (3, .long a3)]) (st1 := [.long a3]) rfl ?_
          refine am_wc rfl rfl rfl ?_
          refine am_ww h22 ?_
          rintro _ _ ⟨v25, s23, rfl, rfl, h24⟩
          show am_W _ _ 109 38 [(0, .ref 2), (1, .int a1), (2, .int a2), (3, .long a3)] [.int v25] (zH s23) _
          obtain ⟨h27, h28⟩ := h24
          by_cases c26 : v25.toInt = 0
          · refine am_wb1 rfl false (zn_ne (zq_a _) (by decide) (zr_t _) ⟨by decide, by decide⟩ c26) rfl ?_
            have h29 := h27 c26
            refine am_wh 1 (pc1 := 42) (lv1 := [(0, .ref 2), (1, .int a1), (2, .int a2), (3, .long a3)]) (st1 := [.int (-1)]) rfl ?_
            refine am_wr rfl rfl rfl ?_
            exact ⟨_, _, rfl, rfl, h29⟩
          · refine am_wb1 rfl true (zt_ne (zq_a _) (by decide) (zr_t _) ⟨by decide, by decide⟩ c26) rfl ?_
            have h30 := h28 c26
            refine am_wh 6 (pc1 := 53) (lv1 := [(0, .ref 2), (1, .int a1), (2, .int a2), (3, .long a3)]) (st1 := [.long a3, .int ((s23.1 1) - a2)]) rfl ?_
            refine am_wc rfl rfl rfl ?_
            refine am_ww h30 ?_
            rintro _ _ ⟨v33, s31, rfl, rfl, h32⟩
            show am_W _ _ 109 56 [(0, .ref 2), (1, .int a1), (2, .int a2), (3, .long a3)] [.int v33, .int ((s23.1 1) - a2)] (zH s31) _
            refine am_wh 2 (pc1 := 60) (lv1 := [(0, .ref 2), (1, .int a1), (2, .int a2), (3, .long a3)]) (st1 := [.int 200, .int (((s23.1 1) - a2) + v33)]) rfl ?_
            obtain ⟨o34, h35⟩ := h32
            obtain ⟨h37, h38⟩ := h35
            by_cases c36 : 200 < (((s23.1 1).toInt - a2.toInt) + v33.toInt)
            · refine am_wb2 rfl false (zn_le (zq_add (zq_sub (zq_a _) (zq_a _)) (zq_a _)) (by decide) o34 ⟨by decide, by decide⟩ c36) rfl ?_
              have h39 := h37 c36
              refine am_wh 1 (pc1 := 65) (lv1 := [(0, .ref 2), (1, .int a1), (2, .int a2), (3, .long a3)]) (st1 := [.int (-2)]) rfl ?_
              refine am_wr rfl rfl rfl ?_
              exact ⟨_, _, rfl, rfl, h39⟩
            · refine am_wb2 rfl true (zt_le (zq_add (zq_sub (zq_a _) (zq_a _)) (zq_a _)) (by decide) o34 ⟨by decide, by decide⟩ c36) rfl ?_
              have h40 := h38 c36
              refine am_wh 5 (pc1 := 73) (lv1 := [(0, .ref 2), (1, .int a1), (2, .int a2), (3, .long a3)]) (st1 := [.long a3, .int a2, .int a1, .ref 3]) rfl ?_
              refine am_wc rfl rfl rfl ?_
              refine am_ww h40 ?_
              rintro _ _ ⟨s41, rfl, rfl, h42⟩
              show am_W _ _ 109 76 [(0, .ref 2), (1, .int a1), (2, .int a2), (3, .long a3)] [] (zH s41) _
              refine am_wh 2 (pc1 := 78) (lv1 := [(0, .ref 2), (1, .int a1), (2, .int a2), (3, .long a3)]) (st1 := [.int 1, .ref 2]) rfl ?_
              refine am_w0 (z := (81, [(0, .ref 2), (1, .int a1), (2, .int a2), (3, .long a3)], [], zH (zf s41 0 1))) rfl rfl (zp_0 (v := 1) (by decide)) ?_
              refine am_wh 3 (pc1 := 88) (lv1 := [(0, .ref 2), (1, .int a1), (2, .int a2), (3, .long a3)]) (st1 := [.int (s41.1 1)]) rfl ?_
              refine am_wr rfl rfl rfl ?_
              exact ⟨_, _, rfl, rfl, h42⟩
set_option maxRecDepth 100000 in
theorem vc_110_0 (xs : Option (List Int32)) (d : Nat) (s : zS)  (Q : Int32 → zS → Prop) (h : Q (s.1 1) s) : zWi xs d 110 0 [(0, .ref 2)] s Q := by
  unfold zWi
  refine am_wh 3 (pc1 := 7) (lv1 := [(0, .ref 2)]) (st1 := [.int (s.1 1)]) rfl ?_
  refine am_wr rfl rfl rfl ?_
  exact ⟨_, _, rfl, rfl, h⟩
set_option maxRecDepth 100000 in
theorem vc_111_0 (xs : Option (List Int32)) (d : Nat) (s : zS) (a1 : Int32) (Q : Int32 → zS → Prop) (h : zWi xs d 85 0 [(0, .ref 3), (1, .int a1)] s (fun v3 s1 => Q v3 s1)) : zWi xs (d + 1) 111 0 [(0, .ref 2), (1, .int a1)] s Q := by
  unfold zWi
  refine am_wh 3 (pc1 := 5) (lv1 := [(0, .ref 2), (1, .int a1)]) (st1 := [.int a1, .ref 3]) rfl ?_
  refine am_wc rfl rfl rfl ?_
  refine am_ww h ?_
  rintro _ _ ⟨v3, s1, rfl, rfl, h2⟩
  show am_W _ _ 111 8 [(0, .ref 2), (1, .int a1)] [.int v3] (zH s1) _
  refine am_wr rfl rfl rfl ?_
  exact ⟨_, _, rfl, rfl, h2⟩
set_option maxRecDepth 100000 in
theorem vc_112_0 (xs : Option (List Int32)) (d : Nat) (s : zS)  (Q : Int32 → zS → Prop) (h : zWv xs d 126 0 [(0, .ref 2)] s (fun s1 => Q (s1.1 2) s1)) : zWi xs (d + 1) 112 0 [(0, .ref 2)] s Q := by
  unfold zWi
  refine am_wh 1 (pc1 := 1) (lv1 := [(0, .ref 2)]) (st1 := [.ref 2]) rfl ?_
  refine am_wc rfl rfl rfl ?_
  refine am_ww h ?_
  rintro _ _ ⟨s1, rfl, rfl, h2⟩
  show am_W _ _ 112 4 [(0, .ref 2)] [] (zH s1) _
  refine am_wh 3 (pc1 := 11) (lv1 := [(0, .ref 2)]) (st1 := [.int (s1.1 2)]) rfl ?_
  refine am_wr rfl rfl rfl ?_
  exact ⟨_, _, rfl, rfl, h2⟩
set_option maxRecDepth 100000 in
theorem vc_113_0 (xs : Option (List Int32)) (d : Nat) (s : zS) (a1 : Int32) (Q : Int32 → zS → Prop) (h : zWv xs d 126 0 [(0, .ref 2)] s (fun s1 => (a1.toInt < 0 → (Q (-1) s1)) ∧ (¬ a1.toInt < 0 → ((a1.toInt < (s1.1 2).toInt → (zWi xs d 97 0 [(0, .ref 5), (1, .int a1)] s1 (fun v14 s12 => zWi xs d 95 0 [(0, .ref 5), (1, .int a1)] s12 (fun v17 s15 => zWi xs d 96 0 [(0, .ref 5), (1, .int a1)] s15 (fun v20 s18 => Q ((v14 + (16 * v17)) + (4096 * v20)) s18))))) ∧ (¬ a1.toInt < (s1.1 2).toInt → (Q (-1) s1)))))) : zWi xs (d + 1) 113 0 [(0, .ref 2), (1, .int a1)] s Q := by
  unfold zWi
  refine am_wh 1 (pc1 := 1) (lv1 := [(0, .ref 2), (1, .int a1)]) (st1 := [.ref 2]) rfl ?_
  refine am_wc rfl rfl rfl ?_
  refine am_ww h ?_
  rintro _ _ ⟨s1, rfl, rfl, h2⟩
  show am_W _ _ 113 4 [(0, .ref 2), (1, .int a1)] [] (zH s1) _
  refine am_wh 1 (pc1 := 5) (lv1 := [(0, .ref 2), (1, .int a1)]) (st1 := [.int a1]) rfl ?_
  obtain ⟨h4, h5⟩ := h2
  by_cases c3 : a1.toInt < 0
  · refine am_wb1 rfl true (zt_lt (zq_a _) (by decide) (zr_t _) ⟨by decide, by decide⟩ c3) rfl ?_
    have h6 := h4 c3
    refine am_wh 1 (pc1 := 20) (lv1 := [(0, .ref 2), (1, .int a1)]) (st1 := [.int (-1)]) rfl ?_
    refine am_wr rfl rfl rfl ?_
    exact ⟨_, _, rfl, rfl, h6⟩
  · refine am_wb1 rfl false (zn_lt (zq_a _) (by decide) (zr_t _) ⟨by decide, by decide⟩ c3) rfl ?_
    have h7 := h5 c3
    refine am_wh 4 (pc1 := 16) (lv1 := [(0, .ref 2), (1, .int a1)]) (st1 := [.int (s1.1 2), .int a1]) rfl ?_
    obtain ⟨h9, h10⟩ := h7
    by_cases c8 : a1.toInt < (s1.1 2).toInt
    · refine am_wb2 rfl true (zt_lt (zq_a _) (zq_a _) (zr_t _) (zr_t _) c8) rfl ?_
      have h11 := h9 c8
      refine am_wh 3 (pc1 := 26) (lv1 := [(0, .ref 2), (1, .int a1)]) (st1 := [.int a1, .ref 5]) rfl ?_
      refine am_wc rfl rfl rfl ?_
      refine am_ww h11 ?_
      rintro _ _ ⟨v14, s12, rfl, rfl, h13⟩
      show am_W _ _ 113 29 [(0, .ref 2), (1, .int a1)] [.int v14] (zH s12) _
      refine am_wh 4 (pc1 := 36) (lv1 := [(0, .ref 2), (1, .int a1)]) (st1 := [.int a1, .ref 5, .int 16, .int v14]) rfl ?_
      refine am_wc rfl rfl rfl ?_
      refine am_ww h13 ?_
      rintro _ _ ⟨v17, s15, rfl, rfl, h16⟩
      show am_W _ _ 113 39 [(0, .ref 2), (1, .int a1)] [.int v17, .int 16, .int v14] (zH s15) _
      refine am_wh 6 (pc1 := 49) (lv1 := [(0, .ref 2), (1, .int a1)]) (st1 := [.int a1, .ref 5, .int 4096, .int (v14 + (16 * v17))]) rfl ?_
      refine am_wc rfl rfl rfl ?_
      refine am_ww h16 ?_
      rintro _ _ ⟨v20, s18, rfl, rfl, h19⟩
      show am_W _ _ 113 52 [(0, .ref 2), (1, .int a1)] [.int v20, .int 4096, .int (v14 + (16 * v17))] (zH s18) _
      refine am_wh 2 (pc1 := 54) (lv1 := [(0, .ref 2), (1, .int a1)]) (st1 := [.int ((v14 + (16 * v17)) + (4096 * v20))]) rfl ?_
      refine am_wr rfl rfl rfl ?_
      exact ⟨_, _, rfl, rfl, h19⟩
    · refine am_wb2 rfl false (zn_lt (zq_a _) (zq_a _) (zr_t _) (zr_t _) c8) rfl ?_
      have h21 := h10 c8
      refine am_wh 1 (pc1 := 20) (lv1 := [(0, .ref 2), (1, .int a1)]) (st1 := [.int (-1)]) rfl ?_
      refine am_wr rfl rfl rfl ?_
      exact ⟨_, _, rfl, rfl, h21⟩
set_option maxRecDepth 100000 in
theorem vc_114_0 (xs : Option (List Int32)) (d : Nat) (s : zS)  (Q : Int32 → zS → Prop) (h : zWv xs d 126 0 [(0, .ref 2)] s (fun s1 => zWi xs d 127 0 [(0, .ref 2)] s1 (fun v5 s3 => (v5.toInt = 0 → (Q (s3.1 14) s3)) ∧ (¬ v5.toInt = 0 → (Q (s3.1 17) s3))))) : zWi xs (d + 1) 114 0 [(0, .ref 2)] s Q := by
  unfold zWi
  refine am_wh 1 (pc1 := 1) (lv1 := [(0, .ref 2)]) (st1 := [.ref 2]) rfl ?_
  refine am_wc rfl rfl rfl ?_
  refine am_ww h ?_
  rintro _ _ ⟨s1, rfl, rfl, h2⟩
  show am_W _ _ 114 4 [(0, .ref 2)] [] (zH s1) _
  refine am_wh 1 (pc1 := 5) (lv1 := [(0, .ref 2)]) (st1 := [.ref 2]) rfl ?_
  refine am_wc rfl rfl rfl ?_
  refine am_ww h2 ?_
  rintro _ _ ⟨v5, s3, rfl, rfl, h4⟩
  show am_W _ _ 114 8 [(0, .ref 2)] [.int v5] (zH s3) _
  obtain ⟨h7, h8⟩ := h4
  by_cases c6 : v5.toInt = 0
  · refine am_wb1 rfl true (zt_eq (zq_a _) (by decide) (zr_t _) ⟨by decide, by decide⟩ c6) rfl ?_
    have h9 := h7 c6
    refine am_wh 3 (pc1 := 28) (lv1 := [(0, .ref 2)]) (st1 := [.int (s3.1 14)]) rfl ?_
    refine am_wr rfl rfl rfl ?_
    exact ⟨_, _, rfl, rfl, h9⟩
  · refine am_wb1 rfl false (zn_eq (zq_a _) (by decide) (zr_t _) ⟨by decide, by decide⟩ c6) rfl ?_
    have h10 := h8 c6
    refine am_wh 4 (pc1 := 28) (lv1 := [(0, .ref 2)]) (st1 := [.int (s3.1 17)]) rfl ?_
    refine am_wr rfl rfl rfl ?_
    exact ⟨_, _, rfl, rfl, h10⟩
set_option maxRecDepth 100000 in
theorem vc_115_0 (xs : Option (List Int32)) (d : Nat) (s : zS)  (Q : Int32 → zS → Prop) (h : zWv xs d 126 0 [(0, .ref 2)] s (fun s1 => zWi xs d 127 0 [(0, .ref 2)] s1 (fun v5 s3 => (v5.toInt = 0 → (Q (s3.1 15) s3)) ∧ (¬ v5.toInt = 0 → (Q (s3.1 18) s3))))) : zWi xs (d + 1) 115 0 [(0, .ref 2)] s Q := by
  unfold zWi
  refine am_wh 1 (pc1 := 1) (lv1 := [(0, .ref 2)]) (st1 := [.ref 2]) rfl ?_
  refine am_wc rfl rfl rfl ?_
  refine am_ww h ?_
  rintro _ _ ⟨s1, rfl, rfl, h2⟩
  show am_W _ _ 115 4 [(0, .ref 2)] [] (zH s1) _
  refine am_wh 1 (pc1 := 5) (lv1 := [(0, .ref 2)]) (st1 := [.ref 2]) rfl ?_
  refine am_wc rfl rfl rfl ?_
  refine am_ww h2 ?_
  rintro _ _ ⟨v5, s3, rfl, rfl, h4⟩
  show am_W _ _ 115 8 [(0, .ref 2)] [.int v5] (zH s3) _
  obtain ⟨h7, h8⟩ := h4
  by_cases c6 : v5.toInt = 0
  · refine am_wb1 rfl true (zt_eq (zq_a _) (by decide) (zr_t _) ⟨by decide, by decide⟩ c6) rfl ?_
    have h9 := h7 c6
    refine am_wh 3 (pc1 := 28) (lv1 := [(0, .ref 2)]) (st1 := [.int (s3.1 15)]) rfl ?_
    refine am_wr rfl rfl rfl ?_
    exact ⟨_, _, rfl, rfl, h9⟩
  · refine am_wb1 rfl false (zn_eq (zq_a _) (by decide) (zr_t _) ⟨by decide, by decide⟩ c6) rfl ?_
    have h10 := h8 c6
    refine am_wh 4 (pc1 := 28) (lv1 := [(0, .ref 2)]) (st1 := [.int (s3.1 18)]) rfl ?_
    refine am_wr rfl rfl rfl ?_
    exact ⟨_, _, rfl, rfl, h10⟩
set_option maxRecDepth 100000 in
theorem vc_116_0 (xs : Option (List Int32)) (d : Nat) (s : zS) (a1 : Int32) (a2 : Int32) (Q : Int32 → zS → Prop) (h : zWv xs d 126 0 [(0, .ref 2)] s (fun s1 => zWi xs d 127 0 [(0, .ref 2)] s1 (fun v5 s3 => (v5.toInt = 0 → (Q (-1) s3)) ∧ (¬ v5.toInt = 0 → (zWi xs d 25 0 [(0, .ref 10), (1, .int a1), (2, .int a2)] s3 (fun v13 s11 => Q v13 s11)))))) : zWi xs (d + 1) 116 0 [(0, .ref 2), (1, .int a1), (2, .int a2)] s Q := by
  unfold zWi
  refine am_wh 1 (pc1 := 1) (lv1 := [(0, .ref 2), (1, .int a1), (2, .int a2)]) (st1 := [.ref 2]) rfl ?_
  refine am_wc rfl rfl rfl ?_
  refine am_ww h ?_
  rintro _ _ ⟨s1, rfl, rfl, h2⟩
  show am_W _ _ 116 4 [(0, .ref 2), (1, .int a1), (2, .int a2)] [] (zH s1) _
  refine am_wh 1 (pc1 := 5) (lv1 := [(0, .ref 2), (1, .int a1), (2, .int a2)]) (st1 := [.ref 2]) rfl ?_
  refine am_wc rfl rfl rfl ?_
  refine am_ww h2 ?_
  rintro _ _ ⟨v5, s3, rfl, rfl, h4⟩
  show am_W _ _ 116 8 [(0, .ref 2), (1, .int a1), (2, .int a2)] [.int v5] (zH s3) _
  obtain ⟨h7, h8⟩ := h4
  by_cases c6 : v5.toInt = 0
  · refine am_wb1 rfl true (zt_eq (zq_a _) (by decide) (zr_t _) ⟨by decide, by decide⟩ c6) rfl ?_
    have h9 := h7 c6
    refine am_wh 1 (pc1 := 24) (lv1 := [(0, .ref 2), (1, .int a1), (2, .int a2)]) (st1 := [.int (-1)]) rfl ?_
    refine am_wr rfl rfl rfl ?_
    exact ⟨_, _, rfl, rfl, h9⟩
  · refine am_wb1 rfl false (zn_eq (zq_a _) (by decide) (zr_t _) ⟨by decide, by decide⟩ c6) rfl ?_
    have h10 := h8 c6
    refine am_wh 4 (pc1 := 17) (lv1 := [(0, .ref 2), (1, .int a1), (2, .int a2)]) (st1 := [.int a2, .int a1, .ref 10]) rfl ?_
    refine am_wc rfl rfl rfl ?_
    refine am_ww h10 ?_
    rintro _ _ ⟨v13, s11, rfl, rfl, h12⟩
    show am_W _ _ 116 20 [(0, .ref 2), (1, .int a1), (2, .int a2)] [.int v13] (zH s11) _
    refine am_wh 1 (pc1 := 24) (lv1 := [(0, .ref 2), (1, .int a1), (2, .int a2)]) (st1 := [.int v13]) rfl ?_
    refine am_wr rfl rfl rfl ?_
    exact ⟨_, _, rfl, rfl, h12⟩
set_option maxRecDepth 100000 in
theorem vc_117_0 (xs : Option (List Int32)) (d : Nat) (s : zS)  (Q : Int32 → zS → Prop) (h : zWv xs d 126 0 [(0, .ref 2)] s (fun s1 => zWi xs d 127 0 [(0, .ref 2)] s1 (fun v5 s3 => (v5.toInt = 0 → (Q (-1) s3)) ∧ (¬ v5.toInt = 0 → (Q (s3.1 6) s3))))) : zWi xs (d + 1) 117 0 [(0, .ref 2)] s Q := by
  unfold zWi
  refine am_wh 1 (pc1 := 1) (lv1 := [(0, .ref 2)]) (st1 := [.ref 2]) rfl ?_
  refine am_wc rfl rfl rfl ?_
  refine am_ww h ?_
  rintro _ _ ⟨s1, rfl, rfl, h2⟩
  show am_W _ _ 117 4 [(0, .ref 2)] [] (zH s1) _
  refine am_wh 1 (pc1 := 5) (lv1 := [(0, .ref 2)]) (st1 := [.ref 2]) rfl ?_
  refine am_wc rfl rfl rfl ?_
  refine am_ww h2 ?_
  rintro _ _ ⟨v5, s3, rfl, rfl, h4⟩
  show am_W _ _ 117 8 [(0, .ref 2)] [.int v5] (zH s3) _
  obtain ⟨h7, h8⟩ := h4
  by_cases c6 : v5.toInt = 0
  · refine am_wb1 rfl true (zt_eq (zq_a _) (by decide) (zr_t _) ⟨by decide, by decide⟩ c6) rfl ?_
    have h9 := h7 c6
    refine am_wh 1 (pc1 := 22) (lv1 := [(0, .ref 2)]) (st1 := [.int (-1)]) rfl ?_
    refine am_wr rfl rfl rfl ?_
    exact ⟨_, _, rfl, rfl, h9⟩
  · refine am_wb1 rfl false (zn_eq (zq_a _) (by decide) (zr_t _) ⟨by decide, by decide⟩ c6) rfl ?_
    have h10 := h8 c6
    refine am_wh 4 (pc1 := 22) (lv1 := [(0, .ref 2)]) (st1 := [.int (s3.1 6)]) rfl ?_
    refine am_wr rfl rfl rfl ?_
    exact ⟨_, _, rfl, rfl, h10⟩
set_option maxRecDepth 100000 in
theorem vc_118_0 (xs : Option (List Int32)) (d : Nat) (s : zS) (a1 : Int32) (Q : Int32 → zS → Prop) (h : zWv xs d 126 0 [(0, .ref 2)] s (fun s1 => zWi xs d 127 0 [(0, .ref 2)] s1 (fun v5 s3 => (v5.toInt = 0 → (Q (-1) s3)) ∧ (¬ v5.toInt = 0 → ((a1.toInt < 0 → (Q (-1) s3)) ∧ (¬ a1.toInt < 0 → ((a1.toInt < (s3.1 6).toInt → (zWi xs d 71 0 [(0, .ref 13), (1, .int a1)] s3 (fun v22 s20 => zWi xs d 72 0 [(0, .ref 13), (1, .int a1)] s20 (fun v25 s23 => Q (v22 + (8 * v25)) s23)))) ∧ (¬ a1.toInt < (s3.1 6).toInt → (Q (-1) s3))))))))) : zWi xs (d + 1) 118 0 [(0, .ref 2), (1, .int a1)] s Q := by
  unfold zWi
  refine am_wh 1 (pc1 := 1) (lv1 := [(0, .ref 2), (1, .int a1)]) (st1 := [.ref 2]) rfl ?_
  refine am_wc rfl rfl rfl ?_
  refine am_ww h ?_
  rintro _ _ ⟨s1, rfl, rfl, h2⟩
  show am_W _ _ 118 4 [(0, .ref 2), (1, .int a1)] [] (zH s1) _
  refine am_wh 1 (pc1 := 5) (lv1 := [(0, .ref 2), (1, .int a1)]) (st1 := [.ref 2]) rfl ?_
  refine am_wc rfl rfl rfl ?_
  refine am_ww h2 ?_
  rintro _ _ ⟨v5, s3, rfl, rfl, h4⟩
  show am_W _ _ 118 8 [(0, .ref 2), (1, .int a1)] [.int v5] (zH s3) _
  obtain ⟨h7, h8⟩ := h4
  by_cases c6 : v5.toInt = 0
  · refine am_wb1 rfl true (zt_eq (zq_a _) (by decide) (zr_t _) ⟨by decide, by decide⟩ c6) rfl ?_
    have h9 := h7 c6
    refine am_wh 1 (pc1 := 27) (lv1 := [(0, .ref 2), (1, .int a1)]) (st1 := [.int (-1)]) rfl ?_
    refine am_wr rfl rfl rfl ?_
    exact ⟨_, _, rfl, rfl, h9⟩
  · refine am_wb1 rfl false (zn_eq (zq_a _) (by decide) (zr_t _) ⟨by decide, by decide⟩ c6) rfl ?_
    have h10 := h8 c6
    refine am_wh 1 (pc1 := 12) (lv1 := [(0, .ref 2), (1, .int a1)]) (st1 := [.int a1]) rfl ?_
    obtain ⟨h12, h13⟩ := h10
    by_cases c11 : a1.toInt < 0
    · refine am_wb1 rfl true (zt_lt (zq_a _) (by decide) (zr_t _) ⟨by decide, by decide⟩ c11) rfl ?_
      have h14 := h12 c11
      refine am_wh 1 (pc1 := 27) (lv1 := [(0, .ref 2), (1, .int a1)]) (st1 := [.int (-1)]) rfl ?_
      refine am_wr rfl rfl rfl ?_
      exact ⟨_, _, rfl, rfl, h14⟩
    · refine am_wb1 rfl false (zn_lt (zq_a _) (by decide) (zr_t _) ⟨by decide, by decide⟩ c11) rfl ?_
      have h15 := h13 c11
      refine am_wh 4 (pc1 := 23) (lv1 := [(0, .ref 2), (1, .int a1)]) (st1 := [.int (s3.1 6), .int a1]) rfl ?_
      obtain ⟨h17, h18⟩ := h15
      by_cases c16 : a1.toInt < (s3.1 6).toInt
      · refine am_wb2 rfl true (zt_lt (zq_a _) (zq_a _) (zr_t _) (zr_t _) c16) rfl ?_
        have h19 := h17 c16
        refine am_wh 3 (pc1 := 33) (lv1 := [(0, .ref 2), (1, .int a1)]) (st1 := [.int a1, .ref 13]) rfl ?_
        refine am_wc rfl rfl rfl ?_
        refine am_ww h19 ?_
        rintro _ _ ⟨v22, s20, rfl, rfl, h21⟩
        show am_W _ _ 118 36 [(0, .ref 2), (1, .int a1)] [.int v22] (zH s20) _
        refine am_wh 4 (pc1 := 43) (lv1 := [(0, .ref 2), (1, .int a1)]) (st1 := [.int a1, .ref 13, .int 8, .int v22]) rfl ?_
        refine am_wc rfl rfl rfl ?_
        refine am_ww h21 ?_
        rintro _ _ ⟨v25, s23, rfl, rfl, h24⟩
        show am_W _ _ 118 46 [(0, .ref 2), (1, .int a1)] [.int v25, .int 8, .int v22] (zH s23) _
        refine am_wh 2 (pc1 := 48) (lv1 := [(0, .ref 2), (1, .int a1)]) (st1 := [.int (v22 + (8 * v25))]) rfl ?_
        refine am_wr rfl rfl rfl ?_
        exact ⟨_, _, rfl, rfl, h24⟩
      · refine am_wb2 rfl false (zn_lt (zq_a _) (zq_a _) (zr_t _) (zr_t _) c16) rfl ?_
        have h26 := h18 c16
        refine am_wh 1 (pc1 := 27) (lv1 := [(0, .ref 2), (1, .int a1)]) (st1 := [.int (-1)]) rfl ?_
        refine am_wr rfl rfl rfl ?_
        exact ⟨_, _, rfl, rfl, h26⟩
set_option maxRecDepth 100000 in
theorem vc_119_0 (xs : Option (List Int32)) (d : Nat) (s : zS)  (Q : Int32 → zS → Prop) (h : zWv xs d 126 0 [(0, .ref 2)] s (fun s1 => zWi xs d 127 0 [(0, .ref 2)] s1 (fun v5 s3 => (v5.toInt = 0 → (Q (-1) s3)) ∧ (¬ v5.toInt = 0 → (Q (s3.1 7) s3))))) : zWi xs (d + 1) 119 0 [(0, .ref 2)] s Q := by
  unfold zWi
  refine am_wh 1 (pc1 := 1) (lv1 := [(0, .ref 2)]) (st1 := [.ref 2]) rfl ?_
  refine am_wc rfl rfl rfl ?_
  refine am_ww h ?_
  rintro _ _ ⟨s1, rfl, rfl, h2⟩
  show am_W _ _ 119 4 [(0, .ref 2)] [] (zH s1) _
  refine am_wh 1 (pc1 := 5) (lv1 := [(0, .ref 2)]) (st1 := [.ref 2]) rfl ?_
  refine am_wc rfl rfl rfl ?_
  refine am_ww h2 ?_
  rintro _ _ ⟨v5, s3, rfl, rfl, h4⟩
  show am_W _ _ 119 8 [(0, .ref 2)] [.int v5] (zH s3) _
  obtain ⟨h7, h8⟩ := h4
  by_cases c6 : v5.toInt = 0
  · refine am_wb1 rfl true (zt_eq (zq_a _) (by decide) (zr_t _) ⟨by decide, by decide⟩ c6) rfl ?_
    have h9 := h7 c6
    refine am_wh 1 (pc1 := 22) (lv1 := [(0, .ref 2)]) (st1 := [.int (-1)]) rfl ?_
    refine am_wr rfl rfl rfl ?_
    exact ⟨_, _, rfl, rfl, h9⟩
  · refine am_wb1 rfl false (zn_eq (zq_a _) (by decide) (zr_t _) ⟨by decide, by decide⟩ c6) rfl ?_
    have h10 := h8 c6
    refine am_wh 4 (pc1 := 22) (lv1 := [(0, .ref 2)]) (st1 := [.int (s3.1 7)]) rfl ?_
    refine am_wr rfl rfl rfl ?_
    exact ⟨_, _, rfl, rfl, h10⟩
set_option maxRecDepth 100000 in
theorem vc_120_0 (xs : Option (List Int32)) (d : Nat) (s : zS) (a1 : Int32) (Q : Int32 → zS → Prop) (h : zWv xs d 126 0 [(0, .ref 2)] s (fun s1 => zWi xs d 127 0 [(0, .ref 2)] s1 (fun v5 s3 => (v5.toInt = 0 → (Q (-1) s3)) ∧ (¬ v5.toInt = 0 → ((a1.toInt < 0 → (Q (-1) s3)) ∧ (¬ a1.toInt < 0 → ((a1.toInt < (s3.1 7).toInt → (zX (s3.2 16) a1.toInt ∧ Q (zg (s3.2 16) a1.toInt) s3)) ∧ (¬ a1.toInt < (s3.1 7).toInt → (Q (-1) s3))))))))) : zWi xs (d + 1) 120 0 [(0, .ref 2), (1, .int a1)] s Q := by
  unfold zWi
  refine am_wh 1 (pc1 := 1) (lv1 := [(0, .ref 2), (1, .int a1)]) (st1 := [.ref 2]) rfl ?_
  refine am_wc rfl rfl rfl ?_
  refine am_ww h ?_
  rintro _ _ ⟨s1, rfl, rfl, h2⟩
  show am_W _ _ 120 4 [(0, .ref 2), (1, .int a1)] [] (zH s1) _
  refine am_wh 1 (pc1 := 5) (lv1 := [(0, .ref 2), (1, .int a1)]) (st1 := [.ref 2]) rfl ?_
  refine am_wc rfl rfl rfl ?_
  refine am_ww h2 ?_
  rintro _ _ ⟨v5, s3, rfl, rfl, h4⟩
  show am_W _ _ 120 8 [(0, .ref 2), (1, .int a1)] [.int v5] (zH s3) _
  obtain ⟨h7, h8⟩ := h4
  by_cases c6 : v5.toInt = 0
  · refine am_wb1 rfl true (zt_eq (zq_a _) (by decide) (zr_t _) ⟨by decide, by decide⟩ c6) rfl ?_
    have h9 := h7 c6
    refine am_wh 1 (pc1 := 27) (lv1 := [(0, .ref 2), (1, .int a1)]) (st1 := [.int (-1)]) rfl ?_
    refine am_wr rfl rfl rfl ?_
    exact ⟨_, _, rfl, rfl, h9⟩
  · refine am_wb1 rfl false (zn_eq (zq_a _) (by decide) (zr_t _) ⟨by decide, by decide⟩ c6) rfl ?_
    have h10 := h8 c6
    refine am_wh 1 (pc1 := 12) (lv1 := [(0, .ref 2), (1, .int a1)]) (st1 := [.int a1]) rfl ?_
    obtain ⟨h12, h13⟩ := h10
    by_cases c11 : a1.toInt < 0
    · refine am_wb1 rfl true (zt_lt (zq_a _) (by decide) (zr_t _) ⟨by decide, by decide⟩ c11) rfl ?_
      have h14 := h12 c11
      refine am_wh 1 (pc1 := 27) (lv1 := [(0, .ref 2), (1, .int a1)]) (st1 := [.int (-1)]) rfl ?_
      refine am_wr rfl rfl rfl ?_
      exact ⟨_, _, rfl, rfl, h14⟩
    · refine am_wb1 rfl false (zn_lt (zq_a _) (by decide) (zr_t _) ⟨by decide, by decide⟩ c11) rfl ?_
      have h15 := h13 c11
      refine am_wh 4 (pc1 := 23) (lv1 := [(0, .ref 2), (1, .int a1)]) (st1 := [.int (s3.1 7), .int a1]) rfl ?_
      obtain ⟨h17, h18⟩ := h15
      by_cases c16 : a1.toInt < (s3.1 7).toInt
      · refine am_wb2 rfl true (zt_lt (zq_a _) (zq_a _) (zr_t _) (zr_t _) c16) rfl ?_
        have h19 := h17 c16
        refine am_wh 4 (pc1 := 36) (lv1 := [(0, .ref 2), (1, .int a1)]) (st1 := [.int a1, .ref 18]) rfl ?_
        obtain ⟨o20, h21⟩ := h19
        refine zw_li (l := (s3.2 16)) (i := a1.toInt) rfl rfl (zq_a _) o20 ?_
        refine am_wr rfl rfl rfl ?_
        exact ⟨_, _, rfl, rfl, h21⟩
      · refine am_wb2 rfl false (zn_lt (zq_a _) (zq_a _) (zr_t _) (zr_t _) c16) rfl ?_
        have h22 := h18 c16
        refine am_wh 1 (pc1 := 27) (lv1 := [(0, .ref 2), (1, .int a1)]) (st1 := [.int (-1)]) rfl ?_
        refine am_wr rfl rfl rfl ?_
        exact ⟨_, _, rfl, rfl, h22⟩
set_option maxRecDepth 100000 in
theorem vc_121_0 (xs : Option (List Int32)) (d : Nat) (s : zS) (a1 : Int32) (Q : Int32 → zS → Prop) (h : zWv xs d 126 0 [(0, .ref 2)] s (fun s1 => zWi xs d 129 0 [(0, .ref 2), (1, .int a1)] s1 (fun v5 s3 => (v5.toInt < 0 → (Q (-1) s3)) ∧ (¬ v5.toInt < 0 → (zWi xs d 38 0 [(0, .ref 17), (1, .int v5)] s3 (fun v13 s11 => Q v13 s11)))))) : zWi xs (d + 1) 121 0 [(0, .ref 2), (1, .int a1)] s Q := by
  unfold zWi
  refine am_wh 1 (pc1 := 1) (lv1 := [(0, .ref 2), (1, .int a1)]) (st1 := [.ref 2]) rfl ?_
  refine am_wc rfl rfl rfl ?_
  refine am_ww h ?_
  rintro _ _ ⟨s1, rfl, rfl, h2⟩
  show am_W _ _ 121 4 [(0, .ref 2), (1, .int a1)] [] (zH s1) _
  refine am_wh 2 (pc1 := 6) (lv1 := [(0, .ref 2), (1, .int a1)]) (st1 := [.int a1, .ref 2]) rfl ?_
  refine am_wc rfl rfl rfl ?_
  refine am_ww h2 ?_
  rintro _ _ ⟨v5, s3, rfl, rfl, h4⟩
  show am_W _ _ 121 9 [(0, .ref 2), (1, .int a1)] [.int v5] (zH s3) _
  refine am_wh 2 (pc1 := 11) (lv1 := [(2, .int v5), (0, .ref 2), (1, .int a1)]) (st1 := [.int v5]) rfl ?_
  obtain ⟨h7, h8⟩ := h4
  by_cases c6 : v5.toInt < 0
  · refine am_wb1 rfl false (zn_ge (zq_a _) (by decide) (zr_t _) ⟨by decide, by decide⟩ c6) rfl ?_
    have h9 := h7 c6
    refine am_wh 2 (pc1 := 26) (lv1 := [(2, .int v5), (0, .ref 2), (1, .int a1)]) (st1 := [.int (-1)]) rfl ?_
    refine am_wr rfl rfl rfl ?_
    exact ⟨_, _, rfl, rfl, h9⟩
  · refine am_wb1 rfl true (zt_ge (zq_a _) (by decide) (zr_t _) ⟨by decide, by decide⟩ c6) rfl ?_
    have h10 := h8 c6
    refine am_wh 3 (pc1 := 23) (lv1 := [(2, .int v5), (0, .ref 2), (1, .int a1)]) (st1 := [.int v5, .ref 17]) rfl ?_
    refine am_wc rfl rfl rfl ?_
    refine am_ww h10 ?_
    rintro _ _ ⟨v13, s11, rfl, rfl, h12⟩
    show am_W _ _ 121 26 [(2, .int v5), (0, .ref 2), (1, .int a1)] [.int v13] (zH s11) _
    refine am_wr rfl rfl rfl ?_
    exact ⟨_, _, rfl, rfl, h12⟩
set_option maxRecDepth 100000 in
theorem vc_122_0 (xs : Option (List Int32)) (d : Nat) (s : zS) (a1 : Int32) (Q : Int32 → zS → Prop) (h : zWv xs d 126 0 [(0, .ref 2)] s (fun s1 => zWi xs d 129 0 [(0, .ref 2), (1, .int a1)] s1 (fun v5 s3 => (v5.toInt < 0 → (Q (-1) s3)) ∧ (¬ v5.toInt < 0 → (zWi xs (d + 1) 122 18 [(0, .ref 2), (2, .int v5), (3, .int 0)] s3 Q))))) : zWi xs (d + 1) 122 0 [(0, .ref 2), (1, .int a1)] s Q := by
  unfold zWi
  refine am_wh 1 (pc1 := 1) (lv1 := [(0, .ref 2), (1, .int a1)]) (st1 := [.ref 2]) rfl ?_
  refine am_wc rfl rfl rfl ?_
  refine am_ww h ?_
  rintro _ _ ⟨s1, rfl, rfl, h2⟩
  show am_W _ _ 122 4 [(0, .ref 2), (1, .int a1)] [] (zH s1) _
  refine am_wh 2 (pc1 := 6) (lv1 := [(0, .ref 2), (1, .int a1)]) (st1 := [.int a1, .ref 2]) rfl ?_
  refine am_wc rfl rfl rfl ?_
  refine am_ww h2 ?_
  rintro _ _ ⟨v5, s3, rfl, rfl, h4⟩
  show am_W _ _ 122 9 [(0, .ref 2), (1, .int a1)] [.int v5] (zH s3) _
  refine am_wh 2 (pc1 := 11) (lv1 := [(2, .int v5), (0, .ref 2), (1, .int a1)]) (st1 := [.int v5]) rfl ?_
  obtain ⟨h7, h8⟩ := h4
  by_cases c6 : v5.toInt < 0
  · refine am_wb1 rfl false (zn_ge (zq_a _) (by decide) (zr_t _) ⟨by decide, by decide⟩ c6) rfl ?_
    have h9 := h7 c6
    refine am_wh 1 (pc1 := 15) (lv1 := [(2, .int v5), (0, .ref 2), (1, .int a1)]) (st1 := [.int (-1)]) rfl ?_
    refine am_wr rfl rfl rfl ?_
    exact ⟨_, _, rfl, rfl, h9⟩
  · refine am_wb1 rfl true (zt_ge (zq_a _) (by decide) (zr_t _) ⟨by decide, by decide⟩ c6) rfl ?_
    have h10 := h8 c6
    refine am_wh 2 (pc1 := 18) (lv1 := [(3, .int 0), (2, .int v5), (0, .ref 2), (1, .int a1)]) (st1 := []) rfl ?_
    exact am_wm h10 ⟨rfl, rfl, rfl, trivial⟩
set_option maxRecDepth 100000 in
theorem vc_122_18 (xs : Option (List Int32)) (d : Nat) (s : zS) (a2 : Int32) (a3 : Int32) (Q : Int32 → zS → Prop) (h : (a3.toInt < (s.1 7).toInt → (zWi xs d 33 0 [(0, .ref 17), (1, .int a3)] s (fun v7 s5 => (v7.toInt = 0 → (zWi xs (d + 1) 122 18 [(0, .ref 2), (2, .int a2), (3, .int (a3 + 1))] s5 Q)) ∧ (¬ v7.toInt = 0 → (zWi xs d 35 0 [(0, .ref 17), (1, .int a2), (2, .int a3)] s5 (fun v15 s13 => (v15.toInt = 0 → (zWi xs (d + 1) 122 18 [(0, .ref 2), (2, .int a2), (3, .int (a3 + 1))] s13 Q)) ∧ (¬ v15.toInt = 0 → (zX (s13.2 16) a3.toInt ∧ Q (zg (s13.2 16) a3.toInt) s13)))))))) ∧ (¬ a3.toInt < (s.1 7).toInt → (Q (-1) s))) : zWi xs (d + 1) 122 18 [(0, .ref 2), (2, .int a2), (3, .int a3)] s Q := by
  unfold zWi
  refine am_wh 4 (pc1 := 26) (lv1 := [(0, .ref 2), (2, .int a2), (3, .int a3)]) (st1 := [.int (s.1 7), .int a3]) rfl ?_
  obtain ⟨h2, h3⟩ := h
  by_cases c1 : a3.toInt < (s.1 7).toInt
  · refine am_wb2 rfl false (zn_ge (zq_a _) (zq_a _) (zr_t _) (zr_t _) c1) rfl ?_
    have h4 := h2 c1
    refine am_wh 3 (pc1 := 34) (lv1 := [(0, .ref 2), (2, .int a2), (3, .int a3)]) (st1 := [.int a3, .ref 17]) rfl ?_
    refine am_wc rfl rfl rfl ?_
    refine am_ww h4 ?_
    rintro _ _ ⟨v7, s5, rfl, rfl, h6⟩
    show am_W _ _ 122 37 [(0, .ref 2), (2, .int a2), (3, .int a3)] [.int v7] (zH s5) _
    obtain ⟨h9, h10⟩ := h6
    by_cases c8 : v7.toInt = 0
    · refine am_wb1 rfl true (zt_eq (zq_a _) (by decide) (zr_t _) ⟨by decide, by decide⟩ c8) rfl ?_
      have h11 := h9 c8
      refine am_wh 2 (pc1 := 18) (lv1 := [(3, .int (a3 + 1)), (0, .ref 2), (2, .int a2)]) (st1 := []) rfl ?_
      exact am_wm h11 ⟨rfl, rfl, rfl, trivial⟩
    · refine am_wb1 rfl false (zn_eq (zq_a _) (by decide) (zr_t _) ⟨by decide, by decide⟩ c8) rfl ?_
      have h12 := h10 c8
      refine am_wh 4 (pc1 := 46) (lv1 := [(0, .ref 2), (2, .int a2), (3, .int a3)]) (st1 := [.int a3, .int a2, .ref 17]) rfl ?_
      refine am_wc rfl rfl rfl ?_
      refine am_ww h12 ?_
      rintro _ _ ⟨v15, s13, rfl, rfl, h14⟩
      show am_W _ _ 122 49 [(0, .ref 2), (2, .int a2), (3, .int a3)] [.int v15] (zH s13) _
      obtain ⟨h17, h18⟩ := h14
      by_cases c16 : v15.toInt = 0
      · refine am_wb1 rfl true (zt_eq (zq_a _) (by decide) (zr_t _) ⟨by decide, by decide⟩ c16) rfl ?_
        have h19 := h17 c16
        refine am_wh 2 (pc1 := 18) (lv1 := [(3, .int (a3 + 1)), (0, .ref 2), (2, .int a2)]) (st1 := []) rfl ?_
        exact am_wm h19 ⟨rfl, rfl, rfl, trivial⟩
      · refine am_wb1 rfl false (zn_eq (zq_a _) (by decide) (zr_t _) ⟨by decide, by decide⟩ c16) rfl ?_
        have h20 := h18 c16
        refine am_wh 4 (pc1 := 60) (lv1 := [(0, .ref 2), (2, .int a2), (3, .int a3)]) (st1 := [.int a3, .ref 18]) rfl ?_
        obtain ⟨o21, h22⟩ := h20
        refine zw_li (l := (s13.2 16)) (i := a3.toInt) rfl rfl (zq_a _) o21 ?_
        refine am_wr rfl rfl rfl ?_
        exact ⟨_, _, rfl, rfl, h22⟩
  · refine am_wb2 rfl true (zt_ge (zq_a _) (zq_a _) (zr_t _) (zr_t _) c1) rfl ?_
    have h23 := h3 c1
    refine am_wh 1 (pc1 := 69) (lv1 := [(0, .ref 2), (2, .int a2), (3, .int a3)]) (st1 := [.int (-1)]) rfl ?_
    refine am_wr rfl rfl rfl ?_
    exact ⟨_, _, rfl, rfl, h23⟩
set_option maxRecDepth 100000 in
theorem vc_123_0 (xs : Option (List Int32)) (d : Nat) (s : zS) (a1 : Int32) (a2 : Int32) (Q : Int32 → zS → Prop) (h : zWv xs d 126 0 [(0, .ref 2)] s (fun s1 => zWi xs d 129 0 [(0, .ref 2), (1, .int a1)] s1 (fun v5 s3 => (v5.toInt < 0 → (Q (-1) s3)) ∧ (¬ v5.toInt < 0 → ((a2.toInt < 0 → (Q (-1) s3)) ∧ (¬ a2.toInt < 0 → (zWi xs (d + 1) 123 26 [(0, .ref 2), (2, .int a2), (3, .int v5), (4, .int 0), (5, .int 0)] s3 Q))))))) : zWi xs (d + 1) 123 0 [(0, .ref 2), (1, .int a1), (2, .int a2)] s Q := by
  unfold zWi
  refine am_wh 1 (pc1 := 1) (lv1 := [(0, .ref 2), (1, .int a1), (2, .int a2)]) (st1 := [.ref 2]) rfl ?_
  refine am_wc rfl rfl rfl ?_
  refine am_ww h ?_
  rintro _ _ ⟨s1, rfl, rfl, h2⟩
  show am_W _ _ 123 4 [(0, .ref 2), (1, .int a1), (2, .int a2)] [] (zH s1) _
  refine am_wh 2 (pc1 := 6) (lv1 := [(0, .ref 2), (1, .int a1), (2, .int a2)]) (st1 := [.int a1, .ref 2]) rfl ?_
  refine am_wc rfl rfl rfl ?_
  refine am_ww h2 ?_
  rintro _ _ ⟨v5, s3, rfl, rfl, h4⟩
  show am_W _ _ 123 9 [(0, .ref 2), (1, .int a1), (2, .int a2)] [.int v5] (zH s3) _
  refine am_wh 2 (pc1 := 11) (lv1 := [(3, .int v5), (0, .ref 2), (1, .int a1), (2, .int a2)]) (st1 := [.int v5]) rfl ?_
  obtain ⟨h7, h8⟩ := h4
  by_cases c6 : v5.toInt < 0
  · refine am_wb1 rfl true (zt_lt (zq_a _) (by decide) (zr_t _) ⟨by decide, by decide⟩ c6) rfl ?_
    have h9 := h7 c6
    refine am_wh 1 (pc1 := 19) (lv1 := [(3, .int v5), (0, .ref 2), (1, .int a1), (2, .int a2)]) (st1 := [.int (-1)]) rfl ?_
    refine am_wr rfl rfl rfl ?_
    exact ⟨_, _, rfl, rfl, h9⟩
  · refine am_wb1 rfl false (zn_lt (zq_a _) (by decide) (zr_t _) ⟨by decide, by decide⟩ c6) rfl ?_
    have h10 := h8 c6
    refine am_wh 1 (pc1 := 15) (lv1 := [(3, .int v5), (0, .ref 2), (1, .int a1), (2, .int a2)]) (st1 := [.int a2]) rfl ?_
    obtain ⟨h12, h13⟩ := h10
    by_cases c11 : a2.toInt < 0
    · refine am_wb1 rfl false (zn_ge (zq_a _) (by decide) (zr_t _) ⟨by decide, by decide⟩ c11) rfl ?_
      have h14 := h12 c11
      refine am_wh 1 (pc1 := 19) (lv1 := [(3, .int v5), (0, .ref 2), (1, .int a1), (2, .int a2)]) (st1 := [.int (-1)]) rfl ?_
      refine am_wr rfl rfl rfl ?_
      exact ⟨_, _, rfl, rfl, h14⟩
    · refine am_wb1 rfl true (zt_ge (zq_a _) (by decide) (zr_t _) ⟨by decide, by decide⟩ c11) rfl ?_
      have h15 := h13 c11
      refine am_wh 4 (pc1 := 26) (lv1 := [(5, .int 0), (4, .int 0), (3, .int v5), (0, .ref 2), (1, .int a1), (2, .int a2)]) (st1 := []) rfl ?_
      exact am_wm h15 ⟨rfl, rfl, rfl, rfl, rfl, trivial⟩
set_option maxRecDepth 100000 in
theorem vc_123_26 (xs : Option (List Int32)) (d : Nat) (s : zS) (a2 : Int32) (a3 : Int32) (a4 : Int32) (a5 : Int32) (Q : Int32 → zS → Prop) (h : (a5.toInt < (s.1 7).toInt → (zWi xs d 35 0 [(0, .ref 17), (1, .int a3), (2, .int a5)] s (fun v7 s5 => (v7.toInt = 0 → (zWi xs (d + 1) 123 26 [(0, .ref 2), (2, .int a2), (3, .int a3), (4, .int a4), (5, .int (a5 + 1))] s5 Q)) ∧ (¬ v7.toInt = 0 → ((a4.toInt = a2.toInt → (zX (s5.2 16) a5.toInt ∧ Q (zg (s5.2 16) a5.toInt) s5)) ∧ (¬ a4.toInt = a2.toInt → (zWi xs (d + 1) 123 26 [(0, .ref 2), (2, .int a2), (3, .int a3), (4, .int (a4 + 1)), (5, .int (a5 + 1))] s5 Q))))))) ∧ (¬ a5.toInt < (s.1 7).toInt → (Q (-1) s))) : zWi xs (d + 1) 123 26 [(0, .ref 2), (2, .int a2), (3, .int a3), (4, .int a4), (5, .int a5)] s Q := by
  unfold zWi
  refine am_wh 4 (pc1 := 35) (lv1 := [(0, .ref 2), (2, .int a2), (3, .int a3), (4, .int a4), (5, .int a5)]) (st1 := [.int (s.1 7), .int a5]) rfl ?_
  obtain ⟨h2, h3⟩ := h
  by_cases c1 : a5.toInt < (s.1 7).toInt
  · refine am_wb2 rfl false (zn_ge (zq_a _) (zq_a _) (zr_t _) (zr_t _) c1) rfl ?_
    have h4 := h2 c1
    refine am_wh 4 (pc1 := 45) (lv1 := [(0, .ref 2), (2, .int a2), (3, .int a3), (4, .int a4), (5, .int a5)]) (st1 := [.int a5, .int a3, .ref 17]) rfl ?_
    refine am_wc rfl rfl rfl ?_
    refine am_ww h4 ?_
    rintro _ _ ⟨v7, s5, rfl, rfl, h6⟩
    show am_W _ _ 123 48 [(0, .ref 2), (2, .int a2), (3, .int a3), (4, .int a4), (5, .int a5)] [.int v7] (zH s5) _
    obtain ⟨h9, h10⟩ := h6
    by_cases c8 : v7.toInt = 0
    · refine am_wb1 rfl true (zt_eq (zq_a _) (by decide) (zr_t _) ⟨by decide, by decide⟩ c8) rfl ?_
      have h11 := h9 c8
      refine am_wh 2 (pc1 := 26) (lv1 := [(5, .int (a5 + 1)), (0, .ref 2), (2, .int a2), (3, .int a3), (4, .int a4)]) (st1 := []) rfl ?_
      exact am_wm h11 ⟨rfl, rfl, rfl, rfl, rfl, trivial⟩
    · refine am_wb1 rfl false (zn_eq (zq_a _) (by decide) (zr_t _) ⟨by decide, by decide⟩ c8) rfl ?_
      have h12 := h10 c8
      refine am_wh 2 (pc1 := 54) (lv1 := [(0, .ref 2), (2, .int a2), (3, .int a3), (4, .int a4), (5, .int a5)]) (st1 := [.int a2, .int a4]) rfl ?_
      obtain ⟨h14, h15⟩ := h12
      by_cases c13 : a4.toInt = a2.toInt
      · refine am_wb2 rfl false (zn_ne (zq_a _) (zq_a _) (zr_t _) (zr_t _) c13) rfl ?_
        have h16 := h14 c13
        refine am_wh 4 (pc1 := 66) (lv1 := [(0, .ref 2), (2, .int a2), (3, .int a3), (4, .int a4), (5, .int a5)]) (st1 := [.int a5, .ref 18]) rfl ?_
        obtain ⟨o17, h18⟩ := h16
        refine zw_li (l := (s5.2 16)) (i := a5.toInt) rfl rfl (zq_a _) o17 ?_
        refine am_wr rfl rfl rfl ?_
        exact ⟨_, _, rfl, rfl, h18⟩
      · refine am_wb2 rfl true (zt_ne (zq_a _) (zq_a _) (zr_t _) (zr_t _) c13) rfl ?_
        have h19 := h15 c13
        refine am_wh 3 (pc1 := 26) (lv1 := [(5, .int (a5 + 1)), (4, .int (a4 + 1)), (0, .ref 2), (2, .int a2), (3, .int a3)]) (st1 := []) rfl ?_
        exact am_wm h19 ⟨rfl, rfl, rfl, rfl, rfl, trivial⟩
  · refine am_wb2 rfl true (zt_ge (zq_a _) (zq_a _) (zr_t _) (zr_t _) c1) rfl ?_
    have h20 := h3 c1
    refine am_wh 1 (pc1 := 78) (lv1 := [(0, .ref 2), (2, .int a2), (3, .int a3), (4, .int a4), (5, .int a5)]) (st1 := [.int (-1)]) rfl ?_
    refine am_wr rfl rfl rfl ?_
    exact ⟨_, _, rfl, rfl, h20⟩
set_option maxRecDepth 100000 in
theorem vc_124_0 (xs : Option (List Int32)) (d : Nat) (s : zS) (a1 : Int32) (a2 : Int64) (Q : Int32 → zS → Prop) (h : zWv xs d 126 0 [(0, .ref 2)] s (fun s1 => zWi xs d 129 0 [(0, .ref 2), (1, .int a1)] s1 (fun v5 s3 => (v5.toInt < 0 → (Q (-1) s3)) ∧ (¬ v5.toInt < 0 → (zWi xs d 22 0 [(0, .long a2)] s3 (fun v13 s11 => (v13.toInt = 0 → (Q (-1) s11)) ∧ (¬ v13.toInt = 0 → (zX (s11.2 22) v5.toInt ∧ ((zg (s11.2 22) v5.toInt).toInt = 6 → (Q (-3) s11)) ∧ (¬ (zg (s11.2 22) v5.toInt).toInt = 6 → (zWi xs d 37 0 [(0, .ref 17), (1, .int v5)] s11 (fun v28 s26 => zWi xs d 20 0 [(0, .long a2)] s26 (fun v31 s29 => zWi xs d 31 0 [(0, .ref 17), (1, .int v5)] s29 (fun v34 s32 => zR ((s32.1 1).toInt + (v28.toInt * (v31.toInt - v34.toInt))) ∧ (200 < ((s32.1 1).toInt + (v28.toInt * (v31.toInt - v34.toInt))) → (Q (-2) s32)) ∧ (¬ 200 < ((s32.1 1).toInt + (v28.toInt * (v31.toInt - v34.toInt))) → (zWv xs d 77 0 [(0, .ref 28), (1, .ref 3), (2, .ref 17)] s32 (fun s42 => zWv xs d 125 0 [(0, .ref 2), (1, .int v5), (2, .long a2)] s42 (fun s44 => zWv xs d 126 0 [(0, .ref 2)] (zf s44 0 1) (fun s46 => zWi xs d 128 0 [(0, .ref 2)] s46 (fun v50 s48 => (v50.toInt = 0 → (zWv xs d 78 0 [(0, .ref 28), (1, .ref 3)] s48 (fun s55 => Q (-4) (zf s55 0 1)))) ∧ (¬ v50.toInt = 0 → (zWi xs d 79 0 [(0, .ref 28), (1, .ref 17)] s48 (fun v60 s58 => (v60.toInt = 0 → (zWv xs d 78 0 [(0, .ref 28), (1, .ref 3)] s58 (fun s65 => Q (-4) (zf s65 0 1)))) ∧ (¬ v60.toInt = 0 → (Q v28 s58)))))))))))))))))))))))) : zWi xs (d + 1) 124 0 [(0, .ref 2), (1, .int a1), (2, .long a2)] s Q := by
  unfold zWi
  refine am_wh 1 (pc1 := 1) (lv1 := [(0, .ref 2), (1, .int a1), (2, .long a2)]) (st1 := [.ref 2]) rfl ?_
  refine am_wc rfl rfl rfl ?_
  refine am_ww h ?_
  rintro _ _ ⟨s1, rfl, rfl, h2⟩
  show am_W _ _ 124 4 [(0, .ref 2), (1, .int a1), (2, .long a2)] [] (zH s1) _
  refine am_wh 2 (pc1 := 6) (lv1 := [(0, .ref 2), (1, .int a1), (2, .long a2)]) (st1 := [.int a1, .ref 2]) rfl ?_
  refine am_wc rfl rfl rfl ?_
  refine am_ww h2 ?_
  rintro _ _ ⟨v5, s3, rfl, rfl, h4⟩
  show am_W _ _ 124 9 [(0, .ref 2), (1, .int a1), (2, .long a2)] [.int v5] (zH s3) _
  refine am_wh 2 (pc1 := 13) (lv1 := [(4, .int v5), (0, .ref 2), (1, .int a1), (2, .long a2)]) (st1 := [.int v5]) rfl ?_
  obtain ⟨h7, h8⟩ := h4
  by_cases c6 : v5.toInt < 0
  · refine am_wb1 rfl true (zt_lt (zq_a _) (by decide) (zr_t _) ⟨by decide, by decide⟩ c6) rfl ?_
    have h9 := h7 c6
    refine am_wh 1 (pc1 := 24) (lv1 := [(4, .int v5), (0, .ref 2), (1, .int a1), (2, .long a2)]) (st1 := [.int (-1)]) rfl ?_
    refine am_wr rfl rfl rfl ?_
    exact ⟨_, _, rfl, rfl, h9⟩
  · refine am_wb1 rfl false (zn_lt (zq_a _) (by decide) (zr_t _) ⟨by decide, by decide⟩ c6) rfl ?_
    have h10 := h8 c6
    refine am_wh 1 (pc1 := 17) (lv1 := [(4, .int v5), (0, .ref 2), (1, .int a1), (2, .long a2)]) (st1 := [.long a2]) rfl ?_
    refine am_wc rfl rfl rfl ?_
    refine am_ww h10 ?_
    rintro _ _ ⟨v13, s11, rfl, rfl, h12⟩
    show am_W _ _ 124 20 [(4, .int v5), (0, .ref 2), (1, .int a1), (2, .long a2)] [.int v13] (zH s11) _
    obtain ⟨h15, h16⟩ := h12
    by_cases c14 : v13.toInt = 0
    · refine am_wb1 rfl false (zn_ne (zq_a _) (by decide) (zr_t _) ⟨by decide, by decide⟩ c14) rfl ?_
      have h17 := h15 c14
      refine am_wh 1 (pc1 := 24) (lv1 := [(4, .int v5), (0, .ref 2), (1, .int a1), (2, .long a2)]) (st1 := [.int (-1)]) rfl ?_
      refine am_wr rfl rfl rfl ?_
      exact ⟨_, _, rfl, rfl, h17⟩
    · refine am_wb1 rfl true (zt_ne (zq_a _) (by decide) (zr_t _) ⟨by decide, by decide⟩ c14) rfl ?_
      have h18 := h16 c14
      refine am_wh 4 (pc1 := 34) (lv1 := [(4, .int v5), (0, .ref 2), (1, .int a1), (2, .long a2)]) (st1 := [.int v5, .ref 24]) rfl ?_
      obtain ⟨o19, h20⟩ := h18
      refine zw_li (l := (s11.2 22)) (i := v5.toInt) rfl rfl (zq_a _) o19 ?_
      refine am_wh 1 (pc1 := 37) (lv1 := [(4, .int v5), (0, .ref 2), (1, .int a1), (2, .long a2)]) (st1 := [.int 6, .int (zg (s11.2 22) v5.toInt)]) rfl ?_
      obtain ⟨h22, h23⟩ := h20
      by_cases c21 : (zg (s11.2 22) v5.toInt).toInt = 6
      · refine am_wb2 rfl false (zn_ne (zq_a _) (by decide) (zr_t _) ⟨by decide, by decide⟩ c21) rfl ?_
        have h24 := h22 c21
        refine am_wh 1 (pc1 := 42) (lv1 := [(4, .int v5), (0, .ref 2), (1, .int a1), (2, .long a2)]) (st1 := [.int (-3)]) rfl ?_
        refine am_wr rfl rfl rfl ?_
        exact ⟨_, _, rfl, rfl, h24⟩
      · refine am_wb2 rfl true (zt_ne (zq_a _) (by decide) (zr_t _) ⟨by decide, by decide⟩ c21) rfl ?_
        have h25 := h23 c21
        refine am_wh 3 (pc1 := 49) (lv1 := [(4, .int v5), (0, .ref 2), (1, .int a1), (2, .long a2)]) (st1 := [.int v5, .ref 17]) rfl ?_
        refine am_wc rfl rfl rfl ?_
        refine am_ww h25 ?_
        rintro _ _ ⟨v28, s26, rfl, rfl, h27⟩
        show am_W _ _ 124 52 [(4, .int v5), (0, .ref 2), (1, .int a1), (2, .long a2)] [.int v28] (zH s26) _
        refine am_wh 2 (pc1 := 55) (lv1 := [(5, .int v28), (4, .int v5), (0, .ref 2), (1, .int a1), (2, .long a2)]) (st1 := [.long a2]) rfl ?_
        refine am_wc rfl rfl rfl ?_
        refine am_ww h27 ?_
        rintro _ _ ⟨v31, s29, rfl, rfl, h30⟩
        show am_W _ _ 124 58 [(5, .int v28), (4, .int v5), (0, .ref 2), (1, .int a1), (2, .long a2)] [.int v31] (zH s29) _
        refine am_wh 3 (pc1 := 64) (lv1 := [(5, .int v28), (4, .int v5), (0, .ref 2), (1, .int a1), (2, .long a2)]) (st1 := [.int v5, .ref 17, .int v31]) rfl ?_
        refine am_wc rfl rfl rfl ?_
        refine am_ww h30 ?_
        rintro _ _ ⟨v34, s32, rfl, rfl, h33⟩
        show am_W _ _ 124 67 [(5, .int v28), (4, .int v5), (0, .ref 2), (1, .int a1), (2, .long a2)] [.int v34, .int v31] (zH s32) _
        refine am_wh 10 (pc1 := 86) (lv1 := [(6, .int (v31 - v34)), (5, .int v28), (4, .int v5), (0, .ref 2), (1, .int a1), (2, .long a2)]) (st1 := [.int 200, .int ((s32.1 1) + (v28 * (v31 - v34)))]) rfl ?_
        obtain ⟨o35, h36⟩ := h33
        obtain ⟨h38, h39⟩ := h36
        by_cases c37 : 200 < ((s32.1 1).toInt + (v28.toInt * (v31.toInt - v34.toInt)))
        · refine am_wb2 rfl false (zn_le (zq_add (zq_a _) (zq_mul (zq_a _) (zq_sub (zq_a _) (zq_a _)))) (by decide) o35 ⟨by decide, by decide⟩ c37) rfl ?_
          have h40 := h38 c37
          refine am_wh 1 (pc1 := 91) (lv1 := [(6, .int (v31 - v34)), (5, .int v28), (4, .int v5), (0, .ref 2), (1, .int a1), (2, .long a2)]) (st1 := [.int (-2)]) rfl ?_
          refine am_wr rfl rfl rfl ?_
          exact ⟨_, _, rfl, rfl, h40⟩
        · refine am_wb2 rfl true (zt_le (zq_add (zq_a _) (zq_mul (zq_a _) (zq_sub (zq_a _) (zq_a _)))) (by decide) o35 ⟨by decide, by decide⟩ c37) rfl ?_
          have h41 := h39 c37
          refine am_wh 6 (pc1 := 104) (lv1 := [(6, .int (v31 - v34)), (5, .int v28), (4, .int v5), (0, .ref 2), (1, .int a1), (2, .long a2)]) (st1 := [.ref 17, .ref 3, .ref 28]) rfl ?_
          refine am_wc rfl rfl rfl ?_
          refine am_ww h41 ?_
          rintro _ _ ⟨s42, rfl, rfl, h43⟩
          show am_W _ _ 124 107 [(6, .int (v31 - v34)), (5, .int v28), (4, .int v5), (0, .ref 2), (1, .int a1), (2, .long a2)] [] (zH s42) _
          refine am_wh 3 (pc1 := 111) (lv1 := [(6, .int (v31 - v34)), (5, .int v28), (4, .int v5), (0, .ref 2), (1, .int a1), (2, .long a2)]) (st1 := [.long a2, .int v5, .ref 2]) rfl ?_
          refine am_wc rfl rfl rfl ?_
          refine am_ww h43 ?_
          rintro _ _ ⟨s44, rfl, rfl, h45⟩
          show am_W _ _ 124 114 [(6, .int (v31 - v34)), (5, .int v28), (4, .int v5), (0, .ref 2), (1, .int a1), (2, .long a2)] [] (zH s44) _
          refine am_wh 2 (pc1 := 116) (lv1 := [(6, .int (v31 - v34)), (5, .int v28), (4, .int v5), (0, .ref 2), (1, .int a1), (2, .long a2)]) (st1 := [.int 1, .ref 2]) rfl ?_
          refine am_w0 (z := (119, [(6, .int (v31 - v34)), (5, .int v28), (4, .int v5), (0, .ref 2), (1, .int a1), (2, .long a2)], [], zH (zf s44 0 1))) rfl rfl (zp_0 (v := 1) (by decide)) ?_
          refine am_wh 1 (pc1 := 120) (lv1 := [(6, .int (v31 - v34)), (5, .int v28), (4, .int v5), (0, .ref 2), (1, .int a1), (2, .long a2)]) (st1 := [.ref 2]) rfl ?_
          refine am_wc rfl rfl rfl ?_
          refine am_ww h45 ?_
          rintro _ _ ⟨s46, rfl, rfl, h47⟩
          show am_W _ _ 124 123 [(6, .int (v31 - v34)), (5, .int v28), (4, .int v5), (0, .ref 2), (1, .int a1), (2, .long a2)] [] (zH s46) _
          refine am_wh 1 (pc1 := 124) (lv1 := [(6, .int (v31 - v34)), (5, .int v28), (4, .int v5), (0, .ref 2), (1, .int a1), (2, .long a2)]) (st1 := [.ref 2]) rfl ?_
          refine am_wc rfl rfl rfl ?_
          refine am_ww h47 ?_
          rintro _ _ ⟨v50, s48, rfl, rfl, h49⟩
          show am_W _ _ 124 127 [(6, .int (v31 - v34)), (5, .int v28), (4, .int v5), (0, .ref 2), (1, .int a1), (2, .long a2)] [.int v50] (zH s48) _
          obtain ⟨h52, h53⟩ := h49
          by_cases c51 : v50.toInt = 0
          · refine am_wb1 rfl true (zt_eq (zq_a _) (by decide) (zr_t _) ⟨by decide, by decide⟩ c51) rfl ?_
            have h54 := h52 c51
            refine am_wh 4 (pc1 := 152) (lv1 := [(6, .int (v31 - v34)), (5, .int v28), (4, .int v5), (0, .ref 2), (1, .int a1), (2, .long a2)]) (st1 := [.ref 3, .ref 28]) rfl ?_
            refine am_wc rfl rfl rfl ?_
            refine am_ww h54 ?_
            rintro _ _ ⟨s55, rfl, rfl, h56⟩
            show am_W _ _ 124 155 [(6, .int (v31 - v34)), (5, .int v28), (4, .int v5), (0, .ref 2), (1, .int a1), (2, .long a2)] [] (zH s55) _
            refine am_wh 2 (pc1 := 157) (lv1 := [(6, .int (v31 - v34)), (5, .int v28), (4, .int v5), (0, .ref 2), (1, .int a1), (2, .long a2)]) (st1 := [.int 1, .ref 2]) rfl ?_
            refine am_w0 (z := (160, [(6, .int (v31 - v34)), (5, .int v28), (4, .int v5), (0, .ref 2), (1, .int a1), (2, .long a2)], [], zH (zf s55 0 1))) rfl rfl (zp_0 (v := 1) (by decide)) ?_
            refine am_wh 1 (pc1 := 162) (lv1 := [(6, .int (v31 - v34)), (5, .int v28), (4, .int v5), (0, .ref 2), (1, .int a1), (2, .long a2)]) (st1 := [.int (-4)]) rfl ?_
            refine am_wr rfl rfl rfl ?_
            exact ⟨_, _, rfl, rfl, h56⟩
          · refine am_wb1 rfl false (zn_eq (zq_a _) (by decide) (zr_t _) ⟨by decide, by decide⟩ c51) rfl ?_
            have h57 := h53 c51
            refine am_wh 4 (pc1 := 138) (lv1 := [(6, .int (v31 - v34)), (5, .int v28), (4, .int v5), (0, .ref 2), (1, .int a1), (2, .long a2)]) (st1 := [.ref 17, .ref 28]) rfl ?_
            refine am_wc rfl rfl rfl ?_
            refine am_ww h57 ?_
            rintro _ _ ⟨v60, s58, rfl, rfl, h59⟩
            show am_W _ _ 124 141 [(6, .int (v31 - v34)), (5, .int v28), (4, .int v5), (0, .ref 2), (1, .int a1), (2, .long a2)] [.int v60] (zH s58) _
            obtain ⟨h62, h63⟩ := h59
            by_cases c61 : v60.toInt = 0
            · refine am_wb1 rfl false (zn_ne (zq_a _) (by decide) (zr_t _) ⟨by decide, by decide⟩ c61) rfl ?_
              have h64 := h62 c61
              refine am_wh 4 (pc1 := 152) (lv1 := [(6, .int (v31 - v34)), (5, .int v28), (4, .int v5), (0, .ref 2), (1, .int a1), (2, .long a2)]) (st1 := [.ref 3, .ref 28]) rfl ?_
              refine am_wc rfl rfl rfl ?_
              refine am_ww h64 ?_
              rintro _ _ ⟨s65, rfl, rfl, h66⟩
              show am_W _ _ 124 155 [(6, .int (v31 - v34)), (5, .int v28), (4, .int v5), (0, .ref 2), (1, .int a1), (2, .long a2)] [] (zH s65) _
              refine am_wh 2 (pc1 := 157) (lv1 := [(6, .int (v31 - v34)), (5, .int v28), (4, .int v5), (0, .ref 2), (1, .int a1), (2, .long a2)]) (st1 := [.int 1, .ref 2]) rfl ?_
              refine am_w0 (z := (160, [(6, .int (v31 - v34)), (5, .int v28), (4, .int v5), (0, .ref 2), (1, .int a1), (2, .long a2)], [], zH (zf s65 0 1))) rfl rfl (zp_0 (v := 1) (by decide)) ?_
              refine am_wh 1 (pc1 := 162) (lv1 := [(6, .int (v31 - v34)), (5, .int v28), (4, .int v5), (0, .ref 2), (1, .int a1), (2, .long a2)]) (st1 := [.int (-4)]) rfl ?_
              refine am_wr rfl rfl rfl ?_
              exact ⟨_, _, rfl, rfl, h66⟩
            · refine am_wb1 rfl true (zt_ne (zq_a _) (by decide) (zr_t _) ⟨by decide, by decide⟩ c61) rfl ?_
              have h67 := h63 c61
              refine am_wh 1 (pc1 := 165) (lv1 := [(6, .int (v31 - v34)), (5, .int v28), (4, .int v5), (0, .ref 2), (1, .int a1), (2, .long a2)]) (st1 := [.int v28]) rfl ?_
              refine am_wr rfl rfl rfl ?_
              exact ⟨_, _, rfl, rfl, h67⟩
set_option maxRecDepth 100000 in
theorem vc_125_0 (xs : Option (List Int32)) (d : Nat) (s : zS) (a1 : Int32) (a2 : Int64) (Q : zS → Prop) (h : zWv xs (d + 1) 125 11 [(0, .ref 2), (1, .int a1), (2, .long a2), (4, .int ((s.1 7) - 1))] s Q) : zWv xs (d + 1) 125 0 [(0, .ref 2), (1, .int a1), (2, .long a2)] s Q := by
  unfold zWv
  refine am_wh 6 (pc1 := 11) (lv1 := [(4, .int ((s.1 7) - 1)), (0, .ref 2), (1, .int a1), (2, .long a2)]) (st1 := []) rfl ?_
  exact am_wm h ⟨rfl, rfl, rfl, rfl, trivial⟩
set_option maxRecDepth 100000 in
theorem vc_125_11 (xs : Option (List Int32)) (d : Nat) (s : zS) (a1 : Int32) (a2 : Int64) (a4 : Int32) (Q : zS → Prop) (h : (a4.toInt < 0 → (Q s)) ∧ (¬ a4.toInt < 0 → (zWi xs d 35 0 [(0, .ref 17), (1, .int a1), (2, .int a4)] s (fun v8 s6 => (v8.toInt = 0 → (zWv xs (d + 1) 125 11 [(0, .ref 2), (1, .int a1), (2, .long a2), (4, .int (a4 + (-1)))] s6 Q)) ∧ (¬ v8.toInt = 0 → (zX (s6.2 16) a4.toInt ∧ zWi xs d 31 0 [(0, .ref 17), (1, .int a4)] s6 (fun v18 s16 => zWv xs d 86 0 [(0, .ref 3), (1, .int (zg (s6.2 16) a4.toInt)), (2, .int v18), (3, .long a2)] s16 (fun s19 => zWv xs (d + 1) 125 11 [(0, .ref 2), (1, .int a1), (2, .long a2), (4, .int (a4 + (-1)))] s19 Q)))))))) : zWv xs (d + 1) 125 11 [(0, .ref 2), (1, .int a1), (2, .long a2), (4, .int a4)] s Q := by
  unfold zWv
  refine am_wh 1 (pc1 := 13) (lv1 := [(0, .ref 2), (1, .int a1), (2, .long a2), (4, .int a4)]) (st1 := [.int a4]) rfl ?_
  obtain ⟨h2, h3⟩ := h
  by_cases c1 : a4.toInt < 0
  · refine am_wb1 rfl true (zt_lt (zq_a _) (by decide) (zr_t _) ⟨by decide, by decide⟩ c1) rfl ?_
    have h4 := h2 c1
    refine am_wr rfl rfl rfl ?_
    exact ⟨_, rfl, rfl, h4⟩
  · refine am_wb1 rfl false (zn_lt (zq_a _) (by decide) (zr_t _) ⟨by decide, by decide⟩ c1) rfl ?_
    have h5 := h3 c1
    refine am_wh 4 (pc1 := 23) (lv1 := [(0, .ref 2), (1, .int a1), (2, .long a2), (4, .int a4)]) (st1 := [.int a4, .int a1, .ref 17]) rfl ?_
    refine am_wc rfl rfl rfl ?_
    refine am_ww h5 ?_
    rintro _ _ ⟨v8, s6, rfl, rfl, h7⟩
    show am_W _ _ 125 26 [(0, .ref 2), (1, .int a1), (2, .long a2), (4, .int a4)] [.int v8] (zH s6) _
    obtain ⟨h10, h11⟩ := h7
    by_cases c9 : v8.toInt = 0
    · refine am_wb1 rfl true (zt_eq (zq_a _) (by decide) (zr_t _) ⟨by decide, by decide⟩ c9) rfl ?_
      have h12 := h10 c9
      refine am_wh 2 (pc1 := 11) (lv1 := [(4, .int (a4 + (-1))), (0, .ref 2), (1, .int a1), (2, .long a2)]) (st1 := []) rfl ?_
      exact am_wm h12 ⟨rfl, rfl, rfl, rfl, trivial⟩
    · refine am_wb1 rfl false (zn_eq (zq_a _) (by decide) (zr_t _) ⟨by decide, by decide⟩ c9) rfl ?_
      have h13 := h11 c9
      refine am_wh 6 (pc1 := 42) (lv1 := [(0, .ref 2), (1, .int a1), (2, .long a2), (4, .int a4)]) (st1 := [.int a4, .ref 18, .ref 3]) rfl ?_
      obtain ⟨o14, h15⟩ := h13
      refine zw_li (l := (s6.2 16)) (i := a4.toInt) rfl rfl (zq_a _) o14 ?_
      refine am_wh 3 (pc1 := 49) (lv1 := [(0, .ref 2), (1, .int a1), (2, .long a2), (4, .int a4)]) (st1 := [.int a4, .ref 17, .int (zg (s6.2 16) a4.toInt), .ref 3]) rfl ?_
      refine am_wc rfl rfl rfl ?_
      refine am_ww h15 ?_
      rintro _ _ ⟨v18, s16, rfl, rfl, h17⟩
      show am_W _ _ 125 52 [(0, .ref 2), (1, .int a1), (2, .long a2), (4, .int a4)] [.int v18, .int (zg (s6.2 16) a4.toInt), .ref 3] (zH s16) _
      refine am_wh 1 (pc1 := 53) (lv1 := [(0, .ref 2), (1, .int a1), (2, .long a2), (4, .int a4)]) (st1 := [.long a2, .int v18, .int (zg (s6.2 16) a4.toInt), .ref 3]) rfl ?_
      refine am_wc rfl rfl rfl ?_
      refine am_ww h17 ?_
      rintro _ _ ⟨s19, rfl, rfl, h20⟩
      show am_W _ _ 125 56 [(0, .ref 2), (1, .int a1), (2, .long a2), (4, .int a4)] [] (zH s19) _
      refine am_wh 2 (pc1 := 11) (lv1 := [(4, .int (a4 + (-1))), (0, .ref 2), (1, .int a1), (2, .long a2)]) (st1 := []) rfl ?_
      exact am_wm h20 ⟨rfl, rfl, rfl, rfl, trivial⟩
set_option maxRecDepth 100000 in
theorem vc_126_0 (xs : Option (List Int32)) (d : Nat) (s : zS)  (Q : zS → Prop) (h : ((s.1 0).toInt = 0 → (Q s)) ∧ (¬ (s.1 0).toInt = 0 → (zWv xs d 98 0 [(0, .ref 5)] (zf s 0 0) (fun s6 => zWv xs d 40 0 [(0, .ref 26)] s6 (fun s8 => zWi xs d 127 0 [(0, .ref 2)] s8 (fun v12 s10 => (v12.toInt = 0 → (Q s10)) ∧ (¬ v12.toInt = 0 → (zWv xs d 2 0 [(0, .ref 27), (1, .int (s10.1 16))] s10 (fun s18 => Q s18))))))))) : zWv xs (d + 1) 126 0 [(0, .ref 2)] s Q := by
  unfold zWv
  refine am_wh 2 (pc1 := 4) (lv1 := [(0, .ref 2)]) (st1 := [.int (s.1 0)]) rfl ?_
  obtain ⟨h2, h3⟩ := h
  by_cases c1 : (s.1 0).toInt = 0
  · refine am_wb1 rfl false (zn_ne (zq_a _) (by decide) (zr_t _) ⟨by decide, by decide⟩ c1) rfl ?_
    have h4 := h2 c1
    refine am_wr rfl rfl rfl ?_
    exact ⟨_, rfl, rfl, h4⟩
  · refine am_wb1 rfl true (zt_ne (zq_a _) (by decide) (zr_t _) ⟨by decide, by decide⟩ c1) rfl ?_
    have h5 := h3 c1
    refine am_wh 2 (pc1 := 10) (lv1 := [(0, .ref 2)]) (st1 := [.int 0, .ref 2]) rfl ?_
    refine am_w0 (z := (13, [(0, .ref 2)], [], zH (zf s 0 0))) rfl rfl (zp_0 (v := 0) (by decide)) ?_
    refine am_wh 2 (pc1 := 17) (lv1 := [(0, .ref 2)]) (st1 := [.ref 5]) rfl ?_
    refine am_wc rfl rfl rfl ?_
    refine am_ww h5 ?_
    rintro _ _ ⟨s6, rfl, rfl, h7⟩
    show am_W _ _ 126 20 [(0, .ref 2)] [] (zH s6) _
    refine am_wh 2 (pc1 := 24) (lv1 := [(0, .ref 2)]) (st1 := [.ref 26]) rfl ?_
    refine am_wc rfl rfl rfl ?_
    refine am_ww h7 ?_
    rintro _ _ ⟨s8, rfl, rfl, h9⟩
    show am_W _ _ 126 27 [(0, .ref 2)] [] (zH s8) _
    refine am_wh 1 (pc1 := 28) (lv1 := [(0, .ref 2)]) (st1 := [.ref 2]) rfl ?_
    refine am_wc rfl rfl rfl ?_
    refine am_ww h9 ?_
    rintro _ _ ⟨v12, s10, rfl, rfl, h11⟩
    show am_W _ _ 126 31 [(0, .ref 2)] [.int v12] (zH s10) _
    obtain ⟨h14, h15⟩ := h11
    by_cases c13 : v12.toInt = 0
    · refine am_wb1 rfl true (zt_eq (zq_a _) (by decide) (zr_t _) ⟨by decide, by decide⟩ c13) rfl ?_
      have h16 := h14 c13
      refine am_wr rfl rfl rfl ?_
      exact ⟨_, rfl, rfl, h16⟩
    · refine am_wb1 rfl false (zn_eq (zq_a _) (by decide) (zr_t _) ⟨by decide, by decide⟩ c13) rfl ?_
      have h17 := h15 c13
      refine am_wh 5 (pc1 := 45) (lv1 := [(0, .ref 2)]) (st1 := [.int (s10.1 16), .ref 27]) rfl ?_
      refine am_wc rfl rfl rfl ?_
      refine am_ww h17 ?_
      rintro _ _ ⟨s18, rfl, rfl, h19⟩
      show am_W _ _ 126 48 [(0, .ref 2)] [] (zH s18) _
      refine am_wr rfl rfl rfl ?_
      exact ⟨_, rfl, rfl, h19⟩
set_option maxRecDepth 100000 in
theorem vc_127_0 (xs : Option (List Int32)) (d : Nat) (s : zS)  (Q : Int32 → zS → Prop) (h : ((s.1 14).toInt = 0 → (Q 1 s)) ∧ (¬ (s.1 14).toInt = 0 → (Q 0 s))) : zWi xs d 127 0 [(0, .ref 2)] s Q := by
  unfold zWi
  refine am_wh 3 (pc1 := 7) (lv1 := [(0, .ref 2)]) (st1 := [.int (s.1 14)]) rfl ?_
  obtain ⟨h2, h3⟩ := h
  by_cases c1 : (s.1 14).toInt = 0
  · refine am_wb1 rfl false (zn_ne (zq_a _) (by decide) (zr_t _) ⟨by decide, by decide⟩ c1) rfl ?_
    have h4 := h2 c1
    refine am_wh 2 (pc1 := 15) (lv1 := [(0, .ref 2)]) (st1 := [.int 1]) rfl ?_
    refine am_wr rfl rfl rfl ?_
    exact ⟨_, _, rfl, rfl, h4⟩
  · refine am_wb1 rfl true (zt_ne (zq_a _) (by decide) (zr_t _) ⟨by decide, by decide⟩ c1) rfl ?_
    have h5 := h3 c1
    refine am_wh 1 (pc1 := 15) (lv1 := [(0, .ref 2)]) (st1 := [.int 0]) rfl ?_
    refine am_wr rfl rfl rfl ?_
    exact ⟨_, _, rfl, rfl, h5⟩
set_option maxRecDepth 100000 in
theorem vc_128_0 (xs : Option (List Int32)) (d : Nat) (s : zS)  (Q : Int32 → zS → Prop) (h : zWi xs d 127 0 [(0, .ref 2)] s (fun v3 s1 => (v3.toInt = 0 → (Q 0 s1)) ∧ (¬ v3.toInt = 0 → (((s1.1 17).toInt = 0 → (Q 1 s1)) ∧ (¬ (s1.1 17).toInt = 0 → (Q 0 s1)))))) : zWi xs (d + 1) 128 0 [(0, .ref 2)] s Q := by
  unfold zWi
  refine am_wh 1 (pc1 := 1) (lv1 := [(0, .ref 2)]) (st1 := [.ref 2]) rfl ?_
  refine am_wc rfl rfl rfl ?_
  refine am_ww h ?_
  rintro _ _ ⟨v3, s1, rfl, rfl, h2⟩
  show am_W _ _ 128 4 [(0, .ref 2)] [.int v3] (zH s1) _
  obtain ⟨h5, h6⟩ := h2
  by_cases c4 : v3.toInt = 0
  · refine am_wb1 rfl true (zt_eq (zq_a _) (by decide) (zr_t _) ⟨by decide, by decide⟩ c4) rfl ?_
    have h7 := h5 c4
    refine am_wh 1 (pc1 := 22) (lv1 := [(0, .ref 2)]) (st1 := [.int 0]) rfl ?_
    refine am_wr rfl rfl rfl ?_
    exact ⟨_, _, rfl, rfl, h7⟩
  · refine am_wb1 rfl false (zn_eq (zq_a _) (by decide) (zr_t _) ⟨by decide, by decide⟩ c4) rfl ?_
    have h8 := h6 c4
    refine am_wh 3 (pc1 := 14) (lv1 := [(0, .ref 2)]) (st1 := [.int (s1.1 17)]) rfl ?_
    obtain ⟨h10, h11⟩ := h8
    by_cases c9 : (s1.1 17).toInt = 0
    · refine am_wb1 rfl false (zn_ne (zq_a _) (by decide) (zr_t _) ⟨by decide, by decide⟩ c9) rfl ?_
      have h12 := h10 c9
      refine am_wh 2 (pc1 := 22) (lv1 := [(0, .ref 2)]) (st1 := [.int 1]) rfl ?_
      refine am_wr rfl rfl rfl ?_
      exact ⟨_, _, rfl, rfl, h12⟩
    · refine am_wb1 rfl true (zt_ne (zq_a _) (by decide) (zr_t _) ⟨by decide, by decide⟩ c9) rfl ?_
      have h13 := h11 c9
      refine am_wh 1 (pc1 := 22) (lv1 := [(0, .ref 2)]) (st1 := [.int 0]) rfl ?_
      refine am_wr rfl rfl rfl ?_
      exact ⟨_, _, rfl, rfl, h13⟩
set_option maxRecDepth 100000 in
theorem vc_129_0 (xs : Option (List Int32)) (d : Nat) (s : zS) (a1 : Int32) (Q : Int32 → zS → Prop) (h : zWi xs d 128 0 [(0, .ref 2)] s (fun v3 s1 => (v3.toInt = 0 → (Q (-1) s1)) ∧ (¬ v3.toInt = 0 → (zWi xs d 30 0 [(0, .ref 17), (1, .int a1)] s1 (fun v11 s9 => Q v11 s9))))) : zWi xs (d + 1) 129 0 [(0, .ref 2), (1, .int a1)] s Q := by
  unfold zWi
  refine am_wh 1 (pc1 := 1) (lv1 := [(0, .ref 2), (1, .int a1)]) (st1 := [.ref 2]) rfl ?_
  refine am_wc rfl rfl rfl ?_
  refine am_ww h ?_
  rintro _ _ ⟨v3, s1, rfl, rfl, h2⟩
  show am_W _ _ 129 4 [(0, .ref 2), (1, .int a1)] [.int v3] (zH s1) _
  obtain ⟨h5, h6⟩ := h2
  by_cases c4 : v3.toInt = 0
  · refine am_wb1 rfl true (zt_eq (zq_a _) (by decide) (zr_t _) ⟨by decide, by decide⟩ c4) rfl ?_
    have h7 := h5 c4
    refine am_wh 1 (pc1 := 19) (lv1 := [(0, .ref 2), (1, .int a1)]) (st1 := [.int (-1)]) rfl ?_
    refine am_wr rfl rfl rfl ?_
    exact ⟨_, _, rfl, rfl, h7⟩
  · refine am_wb1 rfl false (zn_eq (zq_a _) (by decide) (zr_t _) ⟨by decide, by decide⟩ c4) rfl ?_
    have h8 := h6 c4
    refine am_wh 3 (pc1 := 12) (lv1 := [(0, .ref 2), (1, .int a1)]) (st1 := [.int a1, .ref 17]) rfl ?_
    refine am_wc rfl rfl rfl ?_
    refine am_ww h8 ?_
    rintro _ _ ⟨v11, s9, rfl, rfl, h10⟩
    show am_W _ _ 129 15 [(0, .ref 2), (1, .int a1)] [.int v11] (zH s9) _
    refine am_wh 1 (pc1 := 19) (lv1 := [(0, .ref 2), (1, .int a1)]) (st1 := [.int v11]) rfl ?_
    refine am_wr rfl rfl rfl ?_
    exact ⟨_, _, rfl, rfl, h10⟩
