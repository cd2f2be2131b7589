set_option maxRecDepth 100000 in
theorem vc_131_0 (xs : Option (List Int32)) (d : Nat) (s : zS) (a0 : Int32) (Q : Int32 → zS → Prop) (h : (a0.toInt = 10 → (Q 1 s)) ∧ (¬ a0.toInt = 10 → ((a0.toInt < 32 → (Q 0 s)) ∧ (¬ a0.toInt < 32 → ((126 < a0.toInt → (Q 0 s)) ∧ (¬ 126 < a0.toInt → (Q 1 s))))))) : zWi xs d 131 0 [(0, .int a0)] s Q := by
  unfold zWi
  refine am_wh 2 (pc1 := 3) (lv1 := [(0, .int a0)]) (st1 := [.int 10, .int a0]) rfl ?_
  obtain ⟨h2, h3⟩ := h
  by_cases c1 : a0.toInt = 10
  · refine am_wb2 rfl true (zt_eq (zq_a _) (by decide) (zr_t _) ⟨by decide, by decide⟩ c1) rfl ?_
    have h4 := h2 c1
    refine am_wh 2 (pc1 := 23) (lv1 := [(0, .int a0)]) (st1 := [.int 1]) rfl ?_
    refine am_wr rfl rfl rfl ?_
    exact ⟨_, _, rfl, rfl, h4⟩
  · refine am_wb2 rfl false (zn_eq (zq_a _) (by decide) (zr_t _) ⟨by decide, by decide⟩ c1) rfl ?_
    have h5 := h3 c1
    refine am_wh 2 (pc1 := 9) (lv1 := [(0, .int a0)]) (st1 := [.int 32, .int a0]) rfl ?_
    obtain ⟨h7, h8⟩ := h5
    by_cases c6 : a0.toInt < 32
    · refine am_wb2 rfl true (zt_lt (zq_a _) (by decide) (zr_t _) ⟨by decide, by decide⟩ c6) rfl ?_
      have h9 := h7 c6
      refine am_wh 1 (pc1 := 23) (lv1 := [(0, .int a0)]) (st1 := [.int 0]) rfl ?_
      refine am_wr rfl rfl rfl ?_
      exact ⟨_, _, rfl, rfl, h9⟩
    · refine am_wb2 rfl false (zn_lt (zq_a _) (by decide) (zr_t _) ⟨by decide, by decide⟩ c6) rfl ?_
      have h10 := h8 c6
      refine am_wh 2 (pc1 := 15) (lv1 := [(0, .int a0)]) (st1 := [.int 126, .int a0]) rfl ?_
      obtain ⟨h12, h13⟩ := h10
      by_cases c11 : 126 < a0.toInt
      · refine am_wb2 rfl true (zt_gt (zq_a _) (by decide) (zr_t _) ⟨by decide, by decide⟩ c11) rfl ?_
        have h14 := h12 c11
        refine am_wh 1 (pc1 := 23) (lv1 := [(0, .int a0)]) (st1 := [.int 0]) rfl ?_
        refine am_wr rfl rfl rfl ?_
        exact ⟨_, _, rfl, rfl, h14⟩
      · refine am_wb2 rfl false (zn_gt (zq_a _) (by decide) (zr_t _) ⟨by decide, by decide⟩ c11) rfl ?_
        have h15 := h13 c11
        refine am_wh 2 (pc1 := 23) (lv1 := [(0, .int a0)]) (st1 := [.int 1]) rfl ?_
        refine am_wr rfl rfl rfl ?_
        exact ⟨_, _, rfl, rfl, h15⟩
set_option maxRecDepth 100000 in
theorem vc_132_0 (xs : Option (List Int32)) (d : Nat) (s : zS) (a1 : Int32) (a2 : Int32) (a3 : Int64) (Q : Int32 → zS → Prop) (h : (a1.toInt < 0 → (zWi xs (d + 1) 132 40 [(0, .ref 32), (1, .int a1), (2, .int a2), (3, .long a3), (5, .int 0), (6, .int 0), (7, .int 56)] s Q)) ∧ (¬ a1.toInt < 0 → (((s.1 21).toInt < a1.toInt → (zWi xs (d + 1) 132 40 [(0, .ref 32), (1, .int a1), (2, .int a2), (3, .long a3), (5, .int 0), (6, .int 0), (7, .int 56)] s Q)) ∧ (¬ (s.1 21).toInt < a1.toInt → ((a2.toInt < 0 → (zWi xs (d + 1) 132 40 [(0, .ref 32), (1, .int a1), (2, .int a2), (3, .long a3), (5, .int 0), (6, .int 0), (7, .int 56)] s Q)) ∧ (¬ a2.toInt < 0 → (zR ((s.1 21).toInt - a1.toInt) ∧ (((s.1 21).toInt - a1.toInt) < a2.toInt → (zWi xs (d + 1) 132 40 [(0, .ref 32), (1, .int a1), (2, .int a2), (3, .long a3), (5, .int 0), (6, .int 0), (7, .int 56)] s Q)) ∧ (¬ ((s.1 21).toInt - a1.toInt) < a2.toInt → (zWi xs (d + 1) 132 40 [(0, .ref 32), (1, .int a1), (2, .int a2), (3, .long a3), (5, .int 0), (6, .int 1), (7, .int 56)] s Q))))))))) : zWi xs (d + 1) 132 0 [(0, .ref 32), (1, .int a1), (2, .int a2), (3, .long a3)] s Q := by
  unfold zWi
  refine am_wh 3 (pc1 := 4) (lv1 := [(5, .int 0), (0, .ref 32), (1, .int a1), (2, .int a2), (3, .long a3)]) (st1 := [.int a1]) rfl ?_
  obtain ⟨h2, h3⟩ := h
  by_cases c1 : a1.toInt < 0
  · refine am_wb1 rfl true (zt_lt (zq_a _) (by decide) (zr_t _) ⟨by decide, by decide⟩ c1) rfl ?_
    have h4 := h2 c1
    refine am_wh 4 (pc1 := 40) (lv1 := [(7, .int 56), (6, .int 0), (5, .int 0), (0, .ref 32), (1, .int a1), (2, .int a2), (3, .long a3)]) (st1 := []) rfl ?_
    exact am_wm h4 ⟨rfl, rfl, rfl, rfl, rfl, rfl, rfl, trivial⟩
  · refine am_wb1 rfl false (zn_lt (zq_a _) (by decide) (zr_t _) ⟨by decide, by decide⟩ c1) rfl ?_
    have h5 := h3 c1
    refine am_wh 3 (pc1 := 12) (lv1 := [(5, .int 0), (0, .ref 32), (1, .int a1), (2, .int a2), (3, .long a3)]) (st1 := [.int (s.1 21), .int a1]) rfl ?_
    obtain ⟨h7, h8⟩ := h5
    by_cases c6 : (s.1 21).toInt < a1.toInt
    · refine am_wb2 rfl true (zt_gt (zq_a _) (zq_a _) (zr_t _) (zr_t _) c6) rfl ?_
      have h9 := h7 c6
      refine am_wh 4 (pc1 := 40) (lv1 := [(7, .int 56), (6, .int 0), (5, .int 0), (0, .ref 32), (1, .int a1), (2, .int a2), (3, .long a3)]) (st1 := []) rfl ?_
      exact am_wm h9 ⟨rfl, rfl, rfl, rfl, rfl, rfl, rfl, trivial⟩
    · refine am_wb2 rfl false (zn_gt (zq_a _) (zq_a _) (zr_t _) (zr_t _) c6) rfl ?_
      have h10 := h8 c6
      refine am_wh 1 (pc1 := 16) (lv1 := [(5, .int 0), (0, .ref 32), (1, .int a1), (2, .int a2), (3, .long a3)]) (st1 := [.int a2]) rfl ?_
      obtain ⟨h12, h13⟩ := h10
      by_cases c11 : a2.toInt < 0
      · refine am_wb1 rfl true (zt_lt (zq_a _) (by decide) (zr_t _) ⟨by decide, by decide⟩ c11) rfl ?_
        have h14 := h12 c11
        refine am_wh 4 (pc1 := 40) (lv1 := [(7, .int 56), (6, .int 0), (5, .int 0), (0, .ref 32), (1, .int a1), (2, .int a2), (3, .long a3)]) (st1 := []) rfl ?_
        exact am_wm h14 ⟨rfl, rfl, rfl, rfl, rfl, rfl, rfl, trivial⟩
      · refine am_wb1 rfl false (zn_lt (zq_a _) (by decide) (zr_t _) ⟨by decide, by decide⟩ c11) rfl ?_
        have h15 := h13 c11
        refine am_wh 5 (pc1 := 26) (lv1 := [(5, .int 0), (0, .ref 32), (1, .int a1), (2, .int a2), (3, .long a3)]) (st1 := [.int ((s.1 21) - a1), .int a2]) rfl ?_
        obtain ⟨o16, h17⟩ := h15
        obtain ⟨h19, h20⟩ := h17
        by_cases c18 : ((s.1 21).toInt - a1.toInt) < a2.toInt
        · refine am_wb2 rfl true (zt_gt (zq_a _) (zq_sub (zq_a _) (zq_a _)) (zr_t _) o16 c18) rfl ?_
          have h21 := h19 c18
          refine am_wh 4 (pc1 := 40) (lv1 := [(7, .int 56), (6, .int 0), (5, .int 0), (0, .ref 32), (1, .int a1), (2, .int a2), (3, .long a3)]) (st1 := []) rfl ?_
          exact am_wm h21 ⟨rfl, rfl, rfl, rfl, rfl, rfl, rfl, trivial⟩
        · refine am_wb2 rfl false (zn_gt (zq_a _) (zq_sub (zq_a _) (zq_a _)) (zr_t _) o16 c18) rfl ?_
          have h22 := h20 c18
          refine am_wh 5 (pc1 := 40) (lv1 := [(7, .int 56), (6, .int 1), (5, .int 0), (0, .ref 32), (1, .int a1), (2, .int a2), (3, .long a3)]) (st1 := []) rfl ?_
          exact am_wm h22 ⟨rfl, rfl, rfl, rfl, rfl, rfl, rfl, trivial⟩
set_option maxRecDepth 100000 in
theorem vc_132_40 (xs : Option (List Int32)) (d : Nat) (s : zS) (a1 : Int32) (a2 : Int32) (a3 : Int64) (a5 : Int32) (a6 : Int32) (a7 : Int32) (Q : Int32 → zS → Prop) (h : (a7.toInt < 0 → ((a6.toInt = 0 → (Q (-1) s)) ∧ (¬ a6.toInt = 0 → (zR (((s.1 21).toInt - a2.toInt) + a5.toInt) ∧ (200 < (((s.1 21).toInt - a2.toInt) + a5.toInt) → (Q (-2) s)) ∧ (¬ 200 < (((s.1 21).toInt - a2.toInt) + a5.toInt) → (zWv xs d 133 0 [(0, .ref 32), (1, .int a1), (2, .int a2), (3, .int a5), (4, .long a3)] s (fun s17 => Q (s17.1 21) s17))))))) ∧ (¬ a7.toInt < 0 → ((a6.toInt = 0 → ((((Int64.toInt32 (((Int64.toUInt64 a3) >>> ((Int32.toInt64 a7).toUInt64 &&& Int64.toUInt64 63)).toInt64)) &&& 255).toInt = 0 → (zWi xs (d + 1) 132 40 [(0, .ref 32), (1, .int a1), (2, .int a2), (3, .long a3), (5, .int a5), (6, .int 0), (7, .int (a7 + (-8)))] s Q)) ∧ (¬ ((Int64.toInt32 (((Int64.toUInt64 a3) >>> ((Int32.toInt64 a7).toUInt64 &&& Int64.toUInt64 63)).toInt64)) &&& 255).toInt = 0 → (zWi xs (d + 1) 132 40 [(0, .ref 32), (1, .int a1), (2, .int a2), (3, .long a3), (5, .int (a5 + 1)), (6, .int 0), (7, .int (a7 + (-8)))] s Q)))) ∧ (¬ a6.toInt = 0 → ((((Int64.toInt32 (((Int64.toUInt64 a3) >>> ((Int32.toInt64 a7).toUInt64 &&& Int64.toUInt64 63)).toInt64)) &&& 255).toInt = 0 → (zWi xs (d + 1) 132 40 [(0, .ref 32), (1, .int a1), (2, .int a2), (3, .long a3), (5, .int a5), (6, .int 1), (7, .int (a7 + (-8)))] s Q)) ∧ (¬ ((Int64.toInt32 (((Int64.toUInt64 a3) >>> ((Int32.toInt64 a7).toUInt64 &&& Int64.toUInt64 63)).toInt64)) &&& 255).toInt = 0 → (zWi xs d 131 0 [(0, .int ((Int64.toInt32 (((Int64.toUInt64 a3) >>> ((Int32.toInt64 a7).toUInt64 &&& Int64.toUInt64 63)).toInt64)) &&& 255))] s (fun v37 s35 => (v37.toInt = 0 → (zWi xs (d + 1) 132 40 [(0, .ref 32), (1, .int a1), (2, .int a2), (3, .long a3), (5, .int (a5 + 1)), (6, .int 0), (7, .int (a7 + (-8)))] s35 Q)) ∧ (¬ v37.toInt = 0 → (zWi xs (d + 1) 132 40 [(0, .ref 32), (1, .int a1), (2, .int a2), (3, .long a3), (5, .int (a5 + 1)), (6, .int 1), (7, .int (a7 + (-8)))] s35 Q)))))))))) : zWi xs (d + 1) 132 40 [(0, .ref 32), (1, .int a1), (2, .int a2), (3, .long a3), (5, .int a5), (6, .int a6), (7, .int a7)] s Q := by
  unfold zWi
  refine am_wh 1 (pc1 := 42) (lv1 := [(0, .ref 32), (1, .int a1), (2, .int a2), (3, .long a3), (5, .int a5), (6, .int a6), (7, .int a7)]) (st1 := [.int a7]) rfl ?_
  obtain ⟨h2, h3⟩ := h
  by_cases c1 : a7.toInt < 0
  · refine am_wb1 rfl true (zt_lt (zq_a _) (by decide) (zr_t _) ⟨by decide, by decide⟩ c1) rfl ?_
    have h4 := h2 c1
    refine am_wh 1 (pc1 := 105) (lv1 := [(0, .ref 32), (1, .int a1), (2, .int a2), (3, .long a3), (5, .int a5), (6, .int a6), (7, .int a7)]) (st1 := [.int a6]) rfl ?_
    obtain ⟨h6, h7⟩ := h4
    by_cases c5 : a6.toInt = 0
    · refine am_wb1 rfl true (zt_eq (zq_a _) (by decide) (zr_t _) ⟨by decide, by decide⟩ c5) rfl ?_
      have h8 := h6 c5
      refine am_wh 1 (pc1 := 125) (lv1 := [(0, .ref 32), (1, .int a1), (2, .int a2), (3, .long a3), (5, .int a5), (6, .int a6), (7, .int a7)]) (st1 := [.int a6]) rfl ?_
      refine am_wb1 rfl true (zt_eq (zq_a _) (by decide) (zr_t _) ⟨by decide, by decide⟩ c5) rfl ?_
      refine am_wh 1 (pc1 := 134) (lv1 := [(0, .ref 32), (1, .int a1), (2, .int a2), (3, .long a3), (5, .int a5), (6, .int a6), (7, .int a7)]) (st1 := [.int (-1)]) rfl ?_
      refine am_wr rfl rfl rfl ?_
      exact ⟨_, _, rfl, rfl, h8⟩
    · refine am_wb1 rfl false (zn_eq (zq_a _) (by decide) (zr_t _) ⟨by decide, by decide⟩ c5) rfl ?_
      have h9 := h7 c5
      refine am_wh 7 (pc1 := 120) (lv1 := [(0, .ref 32), (1, .int a1), (2, .int a2), (3, .long a3), (5, .int a5), (6, .int a6), (7, .int a7)]) (st1 := [.int 200, .int (((s.1 21) - a2) + a5)]) rfl ?_
      obtain ⟨o10, h11⟩ := h9
      obtain ⟨h13, h14⟩ := h11
      by_cases c12 : 200 < (((s.1 21).toInt - a2.toInt) + a5.toInt)
      · refine am_wb2 rfl false (zn_le (zq_add (zq_sub (zq_a _) (zq_a _)) (zq_a _)) (by decide) o10 ⟨by decide, by decide⟩ c12) rfl ?_
        have h15 := h13 c12
        refine am_wh 1 (pc1 := 125) (lv1 := [(0, .ref 32), (1, .int a1), (2, .int a2), (3, .long a3), (5, .int a5), (6, .int a6), (7, .int a7)]) (st1 := [.int a6]) rfl ?_
        refine am_wb1 rfl false (zn_eq (zq_a _) (by decide) (zr_t _) ⟨by decide, by decide⟩ c5) rfl ?_
        refine am_wh 2 (pc1 := 134) (lv1 := [(0, .ref 32), (1, .int a1), (2, .int a2), (3, .long a3), (5, .int a5), (6, .int a6), (7, .int a7)]) (st1 := [.int (-2)]) rfl ?_
        refine am_wr rfl rfl rfl ?_
        exact ⟨_, _, rfl, rfl, h15⟩
      · refine am_wb2 rfl true (zt_le (zq_add (zq_sub (zq_a _) (zq_a _)) (zq_a _)) (by decide) o10 ⟨by decide, by decide⟩ c12) rfl ?_
        have h16 := h14 c12
        refine am_wh 5 (pc1 := 141) (lv1 := [(0, .ref 32), (1, .int a1), (2, .int a2), (3, .long a3), (5, .int a5), (6, .int a6), (7, .int a7)]) (st1 := [.long a3, .int a5, .int a2, .int a1, .ref 32]) rfl ?_
        refine am_wc rfl rfl rfl ?_
        refine am_ww h16 ?_
        rintro _ _ ⟨s17, rfl, rfl, h18⟩
        show am_W _ _ 132 144 [(0, .ref 32), (1, .int a1), (2, .int a2), (3, .long a3), (5, .int a5), (6, .int a6), (7, .int a7)] [] (zH s17) _
        refine am_wh 2 (pc1 := 148) (lv1 := [(0, .ref 32), (1, .int a1), (2, .int a2), (3, .long a3), (5, .int a5), (6, .int a6), (7, .int a7)]) (st1 := [.int (s17.1 21)]) rfl ?_
        refine am_wr rfl rfl rfl ?_
        exact ⟨_, _, rfl, rfl, h18⟩
  · refine am_wb1 rfl false (zn_lt (zq_a _) (by decide) (zr_t _) ⟨by decide, by decide⟩ c1) rfl ?_
    have h19 := h3 c1
    refine am_wh 8 (pc1 := 58) (lv1 := [(8, .int ((Int64.toInt32 (((Int64.toUInt64 a3) >>> ((Int32.toInt64 a7).toUInt64 &&& Int64.toUInt64 63)).toInt64)) &&& 255)), (0, .ref 32), (1, .int a1), (2, .int a2), (3, .long a3), (5, .int a5), (6, .int a6), (7, .int a7)]) (st1 := [.int a6]) rfl ?_
    obtain ⟨h21, h22⟩ := h19
    by_cases c20 : a6.toInt = 0
    · refine am_wb1 rfl true (zt_eq (zq_a _) (by decide) (zr_t _) ⟨by decide, by decide⟩ c20) rfl ?_
      have h23 := h21 c20
      refine am_wh 3 (pc1 := 83) (lv1 := [(6, .int 0), (8, .int ((Int64.toInt32 (((Int64.toUInt64 a3) >>> ((Int32.toInt64 a7).toUInt64 &&& Int64.toUInt64 63)).toInt64)) &&& 255)), (0, .ref 32), (1, .int a1), (2, .int a2), (3, .long a3), (5, .int a5), (7, .int a7)]) (st1 := [.int ((Int64.toInt32 (((Int64.toUInt64 a3) >>> ((Int32.toInt64 a7).toUInt64 &&& Int64.toUInt64 63)).toInt64)) &&& 255)]) rfl ?_
      obtain ⟨h25, h26⟩ := h23
      by_cases c24 : ((Int64.toInt32 (((Int64.toUInt64 a3) >>> ((Int32.toInt64 a7).toUInt64 &&& Int64.toUInt64 63)).toInt64)) &&& 255).toInt = 0
      · refine am_wb1 rfl true (zt_eq (zq_a _) (by decide) (zr_t _) ⟨by decide, by decide⟩ c24) rfl ?_
        have h27 := h25 c24
        refine am_wh 4 (pc1 := 40) (lv1 := [(7, .int (a7 + (-8))), (5, .int a5), (6, .int 0), (8, .int ((Int64.toInt32 (((Int64.toUInt64 a3) >>> ((Int32.toInt64 a7).toUInt64 &&& Int64.toUInt64 63)).toInt64)) &&& 255)), (0, .ref 32), (1, .int a1), (2, .int a2), (3, .long a3)]) (st1 := []) rfl ?_
        exact am_wm h27 ⟨rfl, rfl, rfl, rfl, rfl, rfl, rfl, trivial⟩
      · refine am_wb1 rfl false (zn_eq (zq_a _) (by decide) (zr_t _) ⟨by decide, by decide⟩ c24) rfl ?_
        have h28 := h26 c24
        refine am_wh 7 (pc1 := 40) (lv1 := [(7, .int (a7 + (-8))), (5, .int (a5 + 1)), (6, .int 0), (8, .int ((Int64.toInt32 (((Int64.toUInt64 a3) >>> ((Int32.toInt64 a7).toUInt64 &&& Int64.toUInt64 63)).toInt64)) &&& 255)), (0, .ref 32), (1, .int a1), (2, .int a2), (3, .long a3)]) (st1 := []) rfl ?_
        exact am_wm h28 ⟨rfl, rfl, rfl, rfl, rfl, rfl, rfl, trivial⟩
    · refine am_wb1 rfl false (zn_eq (zq_a _) (by decide) (zr_t _) ⟨by decide, by decide⟩ c20) rfl ?_
      have h29 := h22 c20
      refine am_wh 1 (pc1 := 63) (lv1 := [(8, .int ((Int64.toInt32 (((Int64.toUInt64 a3) >>> ((Int32.toInt64 a7).toUInt64 &&& Int64.toUInt64 63)).toInt64)) &&& 255)), (0, .ref 32), (1, .int a1), (2, .int a2), (3, .long a3), (5, .int a5), (6, .int a6), (7, .int a7)]) (st1 := [.int ((Int64.toInt32 (((Int64.toUInt64 a3) >>> ((Int32.toInt64 a7).toUInt64 &&& Int64.toUInt64 63)).toInt64)) &&& 255)]) rfl ?_
      obtain ⟨h31, h32⟩ := h29
      by_cases c30 : ((Int64.toInt32 (((Int64.toUInt64 a3) >>> ((Int32.toInt64 a7).toUInt64 &&& Int64.toUInt64 63)).toInt64)) &&& 255).toInt = 0
      · refine am_wb1 rfl true (zt_eq (zq_a _) (by decide) (zr_t _) ⟨by decide, by decide⟩ c30) rfl ?_
        have h33 := h31 c30
        refine am_wh 4 (pc1 := 83) (lv1 := [(6, .int 1), (8, .int ((Int64.toInt32 (((Int64.toUInt64 a3) >>> ((Int32.toInt64 a7).toUInt64 &&& Int64.toUInt64 63)).toInt64)) &&& 255)), (0, .ref 32), (1, .int a1), (2, .int a2), (3, .long a3), (5, .int a5), (7, .int a7)]) (st1 := [.int ((Int64.toInt32 (((Int64.toUInt64 a3) >>> ((Int32.toInt64 a7).toUInt64 &&& Int64.toUInt64 63)).toInt64)) &&& 255)]) rfl ?_
        refine am_wb1 rfl true (zt_eq (zq_a _) (by decide) (zr_t _) ⟨by decide, by decide⟩ c30) rfl ?_
        refine am_wh 4 (pc1 := 40) (lv1 := [(7, .int (a7 + (-8))), (5, .int a5), (6, .int 1), (8, .int ((Int64.toInt32 (((Int64.toUInt64 a3) >>> ((Int32.toInt64 a7).toUInt64 &&& Int64.toUInt64 63)).toInt64)) &&& 255)), (0, .ref 32), (1, .int a1), (2, .int a2), (3, .long a3)]) (st1 := []) rfl ?_
        exact am_wm h33 ⟨rfl, rfl, rfl, rfl, rfl, rfl, rfl, trivial⟩
      · refine am_wb1 rfl false (zn_eq (zq_a _) (by decide) (zr_t _) ⟨by decide, by decide⟩ c30) rfl ?_
        have h34 := h32 c30
        refine am_wh 1 (pc1 := 68) (lv1 := [(8, .int ((Int64.toInt32 (((Int64.toUInt64 a3) >>> ((Int32.toInt64 a7).toUInt64 &&& Int64.toUInt64 63)).toInt64)) &&& 255)), (0, .ref 32), (1, .int a1), (2, .int a2), (3, .long a3), (5, .int a5), (6, .int a6), (7, .int a7)]) (st1 := [.int ((Int64.toInt32 (((Int64.toUInt64 a3) >>> ((Int32.toInt64 a7).toUInt64 &&& Int64.toUInt64 63)).toInt64)) &&& 255)]) rfl ?_
        refine am_wc rfl rfl rfl ?_
        refine am_ww h34 ?_
        rintro _ _ ⟨v37, s35, rfl, rfl, h36⟩
        show am_W _ _ 132 71 [(8, .int ((Int64.toInt32 (((Int64.toUInt64 a3) >>> ((Int32.toInt64 a7).toUInt64 &&& Int64.toUInt64 63)).toInt64)) &&& 255)), (0, .ref 32), (1, .int a1), (2, .int a2), (3, .long a3), (5, .int a5), (6, .int a6), (7, .int a7)] [.int v37] (zH s35) _
        obtain ⟨h39, h40⟩ := h36
        by_cases c38 : v37.toInt = 0
        · refine am_wb1 rfl true (zt_eq (zq_a _) (by decide) (zr_t _) ⟨by decide, by decide⟩ c38) rfl ?_
          have h41 := h39 c38
          refine am_wh 3 (pc1 := 83) (lv1 := [(6, .int 0), (8, .int ((Int64.toInt32 (((Int64.toUInt64 a3) >>> ((Int32.toInt64 a7).toUInt64 &&& Int64.toUInt64 63)).toInt64)) &&& 255)), (0, .ref 32), (1, .int a1), (2, .int a2), (3, .long a3), (5, .int a5), (7, .int a7)]) (st1 := [.int ((Int64.toInt32 (((Int64.toUInt64 a3) >>> ((Int32.toInt64 a7).toUInt64 &&& Int64.toUInt64 63)).toInt64)) &&& 255)]) rfl ?_
          refine am_wb1 rfl false (zn_eq (zq_a _) (by decide) (zr_t _) ⟨by decide, by decide⟩ c30) rfl ?_
          refine am_wh 7 (pc1 := 40) (lv1 := [(7, .int (a7 + (-8))), (5, .int (a5 + 1)), (6, .int 0), (8, .int ((Int64.toInt32 (((Int64.toUInt64 a3) >>> ((Int32.toInt64 a7).toUInt64 &&& Int64.toUInt64 63)).toInt64)) &&& 255)), (0, .ref 32), (1, .int a1), (2, .int a2), (3, .long a3)]) (st1 := []) rfl ?_
          exact am_wm h41 ⟨rfl, rfl, rfl, rfl, rfl, rfl, rfl, trivial⟩
        · refine am_wb1 rfl false (zn_eq (zq_a _) (by decide) (zr_t _) ⟨by decide, by decide⟩ c38) rfl ?_
          have h42 := h40 c38
          refine am_wh 4 (pc1 := 83) (lv1 := [(6, .int 1), (8, .int ((Int64.toInt32 (((Int64.toUInt64 a3) >>> ((Int32.toInt64 a7).toUInt64 &&& Int64.toUInt64 63)).toInt64)) &&& 255)), (0, .ref 32), (1, .int a1), (2, .int a2), (3, .long a3), (5, .int a5), (7, .int a7)]) (st1 := [.int ((Int64.toInt32 (((Int64.toUInt64 a3) >>> ((Int32.toInt64 a7).toUInt64 &&& Int64.toUInt64 63)).toInt64)) &&& 255)]) rfl ?_
          refine am_wb1 rfl false (zn_eq (zq_a _) (by decide) (zr_t _) ⟨by decide, by decide⟩ c30) rfl ?_
          refine am_wh 7 (pc1 := 40) (lv1 := [(7, .int (a7 + (-8))), (5, .int (a5 + 1)), (6, .int 1), (8, .int ((Int64.toInt32 (((Int64.toUInt64 a3) >>> ((Int32.toInt64 a7).toUInt64 &&& Int64.toUInt64 63)).toInt64)) &&& 255)), (0, .ref 32), (1, .int a1), (2, .int a2), (3, .long a3)]) (st1 := []) rfl ?_
          exact am_wm h42 ⟨rfl, rfl, rfl, rfl, rfl, rfl, rfl, trivial⟩
set_option maxRecDepth 100000 in
theorem vc_133_0 (xs : Option (List Int32)) (d : Nat) (s : zS) (a1 : Int32) (a2 : Int32) (a3 : Int32) (a4 : Int64) (Q : zS → Prop) (h : zWv xs d 133 5 [(0, .ref 32), (1, .int a1), (2, .int a2), (3, .int a3), (4, .long a4), (6, .int (a1 + a2))] s Q) : zWv xs d 133 0 [(0, .ref 32), (1, .int a1), (2, .int a2), (3, .int a3), (4, .long a4)] s Q := by
  unfold zWv
  refine am_wh 4 (pc1 := 5) (lv1 := [(6, .int (a1 + a2)), (0, .ref 32), (1, .int a1), (2, .int a2), (3, .int a3), (4, .long a4)]) (st1 := []) rfl ?_
  exact am_wm h ⟨rfl, rfl, rfl, rfl, rfl, rfl, trivial⟩
set_option maxRecDepth 100000 in
theorem vc_133_5 (xs : Option (List Int32)) (d : Nat) (s : zS) (a1 : Int32) (a2 : Int32) (a3 : Int32) (a4 : Int64) (a6 : Int32) (Q : zS → Prop) (h : (a6.toInt < (s.1 21).toInt → (zX (s.2 31) a6.toInt ∧ zX (s.2 32) a6.toInt ∧ zWv xs d 133 5 [(0, .ref 32), (1, .int a1), (2, .int a2), (3, .int a3), (4, .long a4), (6, .int (a6 + 1))] (za s 32 (zu (s.2 32) a6.toInt (zg (s.2 31) a6.toInt))) Q)) ∧ (¬ a6.toInt < (s.1 21).toInt → (zWv xs d 133 39 [(0, .ref 32), (1, .int a1), (2, .int a2), (3, .int a3), (4, .long a4), (6, .int (a1 + a2))] s Q))) : zWv xs d 133 5 [(0, .ref 32), (1, .int a1), (2, .int a2), (3, .int a3), (4, .long a4), (6, .int a6)] s Q := by
  unfold zWv
  refine am_wh 3 (pc1 := 11) (lv1 := [(0, .ref 32), (1, .int a1), (2, .int a2), (3, .int a3), (4, .long a4), (6, .int a6)]) (st1 := [.int (s.1 21), .int a6]) rfl ?_
  obtain ⟨h2, h3⟩ := h
  by_cases c1 : a6.toInt < (s.1 21).toInt
  · refine am_wb2 rfl false (zn_ge (zq_a _) (zq_a _) (zr_t _) (zr_t _) c1) rfl ?_
    have h4 := h2 c1
    refine am_wh 6 (pc1 := 26) (lv1 := [(0, .ref 32), (1, .int a1), (2, .int a2), (3, .int a3), (4, .long a4), (6, .int a6)]) (st1 := [.int a6, .ref 33, .int a6, .ref 34]) rfl ?_
    obtain ⟨o5, h6⟩ := h4
    refine zw_li (l := (s.2 31)) (i := a6.toInt) rfl rfl (zq_a _) o5 ?_
    obtain ⟨o7, h8⟩ := h6
    refine zw_si (l := (s.2 32)) (i := a6.toInt) rfl rfl (zq_a _) o7 (zh_32 _ _) ?_
    refine am_wh 2 (pc1 := 5) (lv1 := [(6, .int (a6 + 1)), (0, .ref 32), (1, .int a1), (2, .int a2), (3, .int a3), (4, .long a4)]) (st1 := []) rfl ?_
    exact am_wm h8 ⟨rfl, rfl, rfl, rfl, rfl, rfl, trivial⟩
  · refine am_wb2 rfl true (zt_ge (zq_a _) (zq_a _) (zr_t _) (zr_t _) c1) rfl ?_
    have h9 := h3 c1
    refine am_wh 4 (pc1 := 39) (lv1 := [(6, .int (a1 + a2)), (0, .ref 32), (1, .int a1), (2, .int a2), (3, .int a3), (4, .long a4)]) (st1 := []) rfl ?_
    exact am_wm h9 ⟨rfl, rfl, rfl, rfl, rfl, rfl, trivial⟩
set_option maxRecDepth 100000 in
theorem vc_133_39 (xs : Option (List Int32)) (d : Nat) (s : zS) (a1 : Int32) (a2 : Int32) (a3 : Int32) (a4 : Int64) (a6 : Int32) (Q : zS → Prop) (h : (a6.toInt < (s.1 21).toInt → (zX (s.2 32) a6.toInt ∧ zX (s.2 31) ((a6.toInt - a2.toInt) + a3.toInt) ∧ zWv xs d 133 39 [(0, .ref 32), (1, .int a1), (2, .int a2), (3, .int a3), (4, .long a4), (6, .int (a6 + 1))] (za s 31 (zu (s.2 31) ((a6.toInt - a2.toInt) + a3.toInt) (zg (s.2 32) a6.toInt))) Q)) ∧ (¬ a6.toInt < (s.1 21).toInt → (zWv xs d 133 91 [(0, .ref 32), (4, .long a4), (6, .int a1), (7, .int 56)] (zf s 21 (((s.1 21) - a2) + a3)) Q))) : zWv xs d 133 39 [(0, .ref 32), (1, .int a1), (2, .int a2), (3, .int a3), (4, .long a4), (6, .int a6)] s Q := by
  unfold zWv
  refine am_wh 3 (pc1 := 45) (lv1 := [(0, .ref 32), (1, .int a1), (2, .int a2), (3, .int a3), (4, .long a4), (6, .int a6)]) (st1 := [.int (s.1 21), .int a6]) rfl ?_
  obtain ⟨h2, h3⟩ := h
  by_cases c1 : a6.toInt < (s.1 21).toInt
  · refine am_wb2 rfl false (zn_ge (zq_a _) (zq_a _) (zr_t _) (zr_t _) c1) rfl ?_
    have h4 := h2 c1
    refine am_wh 10 (pc1 := 64) (lv1 := [(0, .ref 32), (1, .int a1), (2, .int a2), (3, .int a3), (4, .long a4), (6, .int a6)]) (st1 := [.int a6, .ref 34, .int ((a6 - a2) + a3), .ref 33]) rfl ?_
    obtain ⟨o5, h6⟩ := h4
    refine zw_li (l := (s.2 32)) (i := a6.toInt) rfl rfl (zq_a _) o5 ?_
    obtain ⟨o7, h8⟩ := h6
    refine zw_si (l := (s.2 31)) (i := ((a6.toInt - a2.toInt) + a3.toInt)) rfl rfl (zq_add (zq_sub (zq_a _) (zq_a _)) (zq_a _)) o7 (zh_31 _ _) ?_
    refine am_wh 2 (pc1 := 39) (lv1 := [(6, .int (a6 + 1)), (0, .ref 32), (1, .int a1), (2, .int a2), (3, .int a3), (4, .long a4)]) (st1 := []) rfl ?_
    exact am_wm h8 ⟨rfl, rfl, rfl, rfl, rfl, rfl, trivial⟩
  · refine am_wb2 rfl true (zt_ge (zq_a _) (zq_a _) (zr_t _) (zr_t _) c1) rfl ?_
    have h9 := h3 c1
    refine am_wh 7 (pc1 := 81) (lv1 := [(0, .ref 32), (1, .int a1), (2, .int a2), (3, .int a3), (4, .long a4), (6, .int a6)]) (st1 := [.int (((s.1 21) - a2) + a3), .ref 32]) rfl ?_
    refine am_w0 (z := (84, [(0, .ref 32), (1, .int a1), (2, .int a2), (3, .int a3), (4, .long a4), (6, .int a6)], [], zH (zf s 21 (((s.1 21) - a2) + a3)))) rfl rfl (zp_21 ) ?_
    refine am_wh 4 (pc1 := 91) (lv1 := [(7, .int 56), (6, .int a1), (0, .ref 32), (1, .int a1), (2, .int a2), (3, .int a3), (4, .long a4)]) (st1 := []) rfl ?_
    exact am_wm h9 ⟨rfl, rfl, rfl, rfl, trivial⟩
set_option maxRecDepth 100000 in
theorem vc_133_91 (xs : Option (List Int32)) (d : Nat) (s : zS) (a4 : Int64) (a6 : Int32) (a7 : Int32) (Q : zS → Prop) (h : (a7.toInt < 0 → (Q (zf s 22 1))) ∧ (¬ a7.toInt < 0 → ((((Int64.toInt32 (((Int64.toUInt64 a4) >>> ((Int32.toInt64 a7).toUInt64 &&& Int64.toUInt64 63)).toInt64)) &&& 255).toInt = 0 → (zWv xs d 133 91 [(0, .ref 32), (4, .long a4), (6, .int a6), (7, .int (a7 + (-8)))] s Q)) ∧ (¬ ((Int64.toInt32 (((Int64.toUInt64 a4) >>> ((Int32.toInt64 a7).toUInt64 &&& Int64.toUInt64 63)).toInt64)) &&& 255).toInt = 0 → (zX (s.2 31) a6.toInt ∧ zWv xs d 133 91 [(0, .ref 32), (4, .long a4), (6, .int (a6 + 1)), (7, .int (a7 + (-8)))] (za s 31 (zu (s.2 31) a6.toInt ((Int64.toInt32 (((Int64.toUInt64 a4) >>> ((Int32.toInt64 a7).toUInt64 &&& Int64.toUInt64 63)).toInt64)) &&& 255))) Q))))) : zWv xs d 133 91 [(0, .ref 32), (4, .long a4), (6, .int a6), (7, .int a7)] s Q := by
  unfold zWv
  refine am_wh 1 (pc1 := 93) (lv1 := [(0, .ref 32), (4, .long a4), (6, .int a6), (7, .int a7)]) (st1 := [.int a7]) rfl ?_
  obtain ⟨h2, h3⟩ := h
  by_cases c1 : a7.toInt < 0
  · refine am_wb1 rfl true (zt_lt (zq_a _) (by decide) (zr_t _) ⟨by decide, by decide⟩ c1) rfl ?_
    have h4 := h2 c1
    refine am_wh 2 (pc1 := 133) (lv1 := [(0, .ref 32), (4, .long a4), (6, .int a6), (7, .int a7)]) (st1 := [.int 1, .ref 32]) rfl ?_
    refine am_w0 (z := (136, [(0, .ref 32), (4, .long a4), (6, .int a6), (7, .int a7)], [], zH (zf s 22 1))) rfl rfl (zp_22 (v := 1) (by decide)) ?_
    refine am_wr rfl rfl rfl ?_
    exact ⟨_, rfl, rfl, h4⟩
  · refine am_wb1 rfl false (zn_lt (zq_a _) (by decide) (zr_t _) ⟨by decide, by decide⟩ c1) rfl ?_
    have h5 := h3 c1
    refine am_wh 8 (pc1 := 110) (lv1 := [(8, .int ((Int64.toInt32 (((Int64.toUInt64 a4) >>> ((Int32.toInt64 a7).toUInt64 &&& Int64.toUInt64 63)).toInt64)) &&& 255)), (0, .ref 32), (4, .long a4), (6, .int a6), (7, .int a7)]) (st1 := [.int ((Int64.toInt32 (((Int64.toUInt64 a4) >>> ((Int32.toInt64 a7).toUInt64 &&& Int64.toUInt64 63)).toInt64)) &&& 255)]) rfl ?_
    obtain ⟨h7, h8⟩ := h5
    by_cases c6 : ((Int64.toInt32 (((Int64.toUInt64 a4) >>> ((Int32.toInt64 a7).toUInt64 &&& Int64.toUInt64 63)).toInt64)) &&& 255).toInt = 0
    · refine am_wb1 rfl true (zt_eq (zq_a _) (by decide) (zr_t _) ⟨by decide, by decide⟩ c6) rfl ?_
      have h9 := h7 c6
      refine am_wh 2 (pc1 := 91) (lv1 := [(7, .int (a7 + (-8))), (8, .int ((Int64.toInt32 (((Int64.toUInt64 a4) >>> ((Int32.toInt64 a7).toUInt64 &&& Int64.toUInt64 63)).toInt64)) &&& 255)), (0, .ref 32), (4, .long a4), (6, .int a6)]) (st1 := []) rfl ?_
      exact am_wm h9 ⟨rfl, rfl, rfl, rfl, trivial⟩
    · refine am_wb1 rfl false (zn_eq (zq_a _) (by decide) (zr_t _) ⟨by decide, by decide⟩ c6) rfl ?_
      have h10 := h8 c6
      refine am_wh 4 (pc1 := 121) (lv1 := [(8, .int ((Int64.toInt32 (((Int64.toUInt64 a4) >>> ((Int32.toInt64 a7).toUInt64 &&& Int64.toUInt64 63)).toInt64)) &&& 255)), (0, .ref 32), (4, .long a4), (6, .int a6), (7, .int a7)]) (st1 := [.int ((Int64.toInt32 (((Int64.toUInt64 a4) >>> ((Int32.toInt64 a7).toUInt64 &&& Int64.toUInt64 63)).toInt64)) &&& 255), .int a6, .ref 33]) rfl ?_
      obtain ⟨o11, h12⟩ := h10
      refine zw_si (l := (s.2 31)) (i := a6.toInt) rfl rfl (zq_a _) o11 (zh_31 _ _) ?_
      refine am_wh 3 (pc1 := 91) (lv1 := [(7, .int (a7 + (-8))), (6, .int (a6 + 1)), (8, .int ((Int64.toInt32 (((Int64.toUInt64 a4) >>> ((Int32.toInt64 a7).toUInt64 &&& Int64.toUInt64 63)).toInt64)) &&& 255)), (0, .ref 32), (4, .long a4)]) (st1 := []) rfl ?_
      exact am_wm h12 ⟨rfl, rfl, rfl, rfl, trivial⟩
set_option maxRecDepth 100000 in
theorem vc_134_0 (xs : Option (List Int32)) (d : Nat) (s : zS)  (Q : Int32 → zS → Prop) (h : Q (s.1 21) s) : zWi xs d 134 0 [(0, .ref 32)] s Q := by
  unfold zWi
  refine am_wh 2 (pc1 := 4) (lv1 := [(0, .ref 32)]) (st1 := [.int (s.1 21)]) rfl ?_
  refine am_wr rfl rfl rfl ?_
  exact ⟨_, _, rfl, rfl, h⟩
set_option maxRecDepth 100000 in
theorem vc_135_0 (xs : Option (List Int32)) (d : Nat) (s : zS) (a1 : Int32) (Q : Int32 → zS → Prop) (h : (a1.toInt < 0 → (Q (-1) s)) ∧ (¬ a1.toInt < 0 → ((a1.toInt < (s.1 21).toInt → (zX (s.2 31) a1.toInt ∧ Q (zg (s.2 31) a1.toInt) s)) ∧ (¬ a1.toInt < (s.1 21).toInt → (Q (-1) s))))) : zWi xs d 135 0 [(0, .ref 32), (1, .int a1)] s Q := by
  unfold zWi
  refine am_wh 1 (pc1 := 1) (lv1 := [(0, .ref 32), (1, .int a1)]) (st1 := [.int a1]) rfl ?_
  obtain ⟨h2, h3⟩ := h
  by_cases c1 : a1.toInt < 0
  · refine am_wb1 rfl true (zt_lt (zq_a _) (by decide) (zr_t _) ⟨by decide, by decide⟩ c1) rfl ?_
    have h4 := h2 c1
    refine am_wh 1 (pc1 := 22) (lv1 := [(0, .ref 32), (1, .int a1)]) (st1 := [.int (-1)]) rfl ?_
    refine am_wr rfl rfl rfl ?_
    exact ⟨_, _, rfl, rfl, h4⟩
  · refine am_wb1 rfl false (zn_lt (zq_a _) (by decide) (zr_t _) ⟨by decide, by decide⟩ c1) rfl ?_
    have h5 := h3 c1
    refine am_wh 3 (pc1 := 9) (lv1 := [(0, .ref 32), (1, .int a1)]) (st1 := [.int (s.1 21), .int a1]) rfl ?_
    obtain ⟨h7, h8⟩ := h5
    by_cases c6 : a1.toInt < (s.1 21).toInt
    · refine am_wb2 rfl false (zn_ge (zq_a _) (zq_a _) (zr_t _) (zr_t _) c6) rfl ?_
      have h9 := h7 c6
      refine am_wh 3 (pc1 := 17) (lv1 := [(0, .ref 32), (1, .int a1)]) (st1 := [.int a1, .ref 33]) rfl ?_
      obtain ⟨o10, h11⟩ := h9
      refine zw_li (l := (s.2 31)) (i := a1.toInt) rfl rfl (zq_a _) o10 ?_
      refine am_wh 1 (pc1 := 22) (lv1 := [(0, .ref 32), (1, .int a1)]) (st1 := [.int (zg (s.2 31) a1.toInt)]) rfl ?_
      refine am_wr rfl rfl rfl ?_
      exact ⟨_, _, rfl, rfl, h11⟩
    · refine am_wb2 rfl true (zt_ge (zq_a _) (zq_a _) (zr_t _) (zr_t _) c6) rfl ?_
      have h12 := h8 c6
      refine am_wh 1 (pc1 := 22) (lv1 := [(0, .ref 32), (1, .int a1)]) (st1 := [.int (-1)]) rfl ?_
      refine am_wr rfl rfl rfl ?_
      exact ⟨_, _, rfl, rfl, h12⟩
set_option maxRecDepth 100000 in
theorem vc_136_0 (xs : Option (List Int32)) (d : Nat) (s : zS)  (Q : zS → Prop) (h : ((s.1 22).toInt = 0 → (Q s)) ∧ (¬ (s.1 22).toInt = 0 → (zWv xs d 141 0 [(0, .ref 32)] (zf s 22 0) (fun s6 => zWv xs d 153 0 [(0, .ref 32)] s6 (fun s8 => ((s8.1 28).toInt = 0 → (zWv xs d 163 0 [(0, .ref 32)] s8 (fun s14 => zWv xs d 169 0 [(0, .ref 32)] s14 (fun s16 => zWv xs d 176 0 [(0, .ref 32)] s16 (fun s18 => Q s18))))) ∧ (¬ (s8.1 28).toInt = 0 → (Q s8))))))) : zWv xs (d + 1) 136 0 [(0, .ref 32)] s Q := by
  unfold zWv
  refine am_wh 2 (pc1 := 4) (lv1 := [(0, .ref 32)]) (st1 := [.int (s.1 22)]) rfl ?_
  obtain ⟨h2, h3⟩ := h
  by_cases c1 : (s.1 22).toInt = 0
  · refine am_wb1 rfl true (zt_eq (zq_a _) (by decide) (zr_t _) ⟨by decide, by decide⟩ c1) rfl ?_
    have h4 := h2 c1
    refine am_wr rfl rfl rfl ?_
    exact ⟨_, rfl, rfl, h4⟩
  · refine am_wb1 rfl false (zn_eq (zq_a _) (by decide) (zr_t _) ⟨by decide, by decide⟩ c1) rfl ?_
    have h5 := h3 c1
    refine am_wh 2 (pc1 := 9) (lv1 := [(0, .ref 32)]) (st1 := [.int 0, .ref 32]) rfl ?_
    refine am_w0 (z := (12, [(0, .ref 32)], [], zH (zf s 22 0))) rfl rfl (zp_22 (v := 0) (by decide)) ?_
    refine am_wh 1 (pc1 := 13) (lv1 := [(0, .ref 32)]) (st1 := [.ref 32]) rfl ?_
    refine am_wc rfl rfl rfl ?_
    refine am_ww h5 ?_
    rintro _ _ ⟨s6, rfl, rfl, h7⟩
    show am_W _ _ 136 16 [(0, .ref 32)] [] (zH s6) _
    refine am_wh 1 (pc1 := 17) (lv1 := [(0, .ref 32)]) (st1 := [.ref 32]) rfl ?_
    refine am_wc rfl rfl rfl ?_
    refine am_ww h7 ?_
    rintro _ _ ⟨s8, rfl, rfl, h9⟩
    show am_W _ _ 136 20 [(0, .ref 32)] [] (zH s8) _
    refine am_wh 2 (pc1 := 24) (lv1 := [(0, .ref 32)]) (st1 := [.int (s8.1 28)]) rfl ?_
    obtain ⟨h11, h12⟩ := h9
    by_cases c10 : (s8.1 28).toInt = 0
    · refine am_wb1 rfl false (zn_ne (zq_a _) (by decide) (zr_t _) ⟨by decide, by decide⟩ c10) rfl ?_
      have h13 := h11 c10
      refine am_wh 1 (pc1 := 28) (lv1 := [(0, .ref 32)]) (st1 := [.ref 32]) rfl ?_
      refine am_wc rfl rfl rfl ?_
      refine am_ww h13 ?_
      rintro _ _ ⟨s14, rfl, rfl, h15⟩
      show am_W _ _ 136 31 [(0, .ref 32)] [] (zH s14) _
      refine am_wh 1 (pc1 := 32) (lv1 := [(0, .ref 32)]) (st1 := [.ref 32]) rfl ?_
      refine am_wc rfl rfl rfl ?_
      refine am_ww h15 ?_
      rintro _ _ ⟨s16, rfl, rfl, h17⟩
      show am_W _ _ 136 35 [(0, .ref 32)] [] (zH s16) _
      refine am_wh 1 (pc1 := 36) (lv1 := [(0, .ref 32)]) (st1 := [.ref 32]) rfl ?_
      refine am_wc rfl rfl rfl ?_
      refine am_ww h17 ?_
      rintro _ _ ⟨s18, rfl, rfl, h19⟩
      show am_W _ _ 136 39 [(0, .ref 32)] [] (zH s18) _
      refine am_wr rfl rfl rfl ?_
      exact ⟨_, rfl, rfl, h19⟩
    · refine am_wb1 rfl true (zt_ne (zq_a _) (by decide) (zr_t _) ⟨by decide, by decide⟩ c10) rfl ?_
      have h20 := h12 c10
      refine am_wr rfl rfl rfl ?_
      exact ⟨_, rfl, rfl, h20⟩
set_option maxRecDepth 100000 in
theorem vc_137_0 (xs : Option (List Int32)) (d : Nat) (s : zS) (a0 : Int32) (Q : Int32 → zS → Prop) (h : (a0.toInt < 48 → (Q 0 s)) ∧ (¬ a0.toInt < 48 → ((57 < a0.toInt → (Q 0 s)) ∧ (¬ 57 < a0.toInt → (Q 1 s))))) : zWi xs d 137 0 [(0, .int a0)] s Q := by
  unfold zWi
  refine am_wh 2 (pc1 := 3) (lv1 := [(0, .int a0)]) (st1 := [.int 48, .int a0]) rfl ?_
  obtain ⟨h2, h3⟩ := h
  by_cases c1 : a0.toInt < 48
  · refine am_wb2 rfl true (zt_lt (zq_a _) (by decide) (zr_t _) ⟨by decide, by decide⟩ c1) rfl ?_
    have h4 := h2 c1
    refine am_wh 1 (pc1 := 17) (lv1 := [(0, .int a0)]) (st1 := [.int 0]) rfl ?_
    refine am_wr rfl rfl rfl ?_
    exact ⟨_, _, rfl, rfl, h4⟩
  · refine am_wb2 rfl false (zn_lt (zq_a _) (by decide) (zr_t _) ⟨by decide, by decide⟩ c1) rfl ?_
    have h5 := h3 c1
    refine am_wh 2 (pc1 := 9) (lv1 := [(0, .int a0)]) (st1 := [.int 57, .int a0]) rfl ?_
    obtain ⟨h7, h8⟩ := h5
    by_cases c6 : 57 < a0.toInt
    · refine am_wb2 rfl true (zt_gt (zq_a _) (by decide) (zr_t _) ⟨by decide, by decide⟩ c6) rfl ?_
      have h9 := h7 c6
      refine am_wh 1 (pc1 := 17) (lv1 := [(0, .int a0)]) (st1 := [.int 0]) rfl ?_
      refine am_wr rfl rfl rfl ?_
      exact ⟨_, _, rfl, rfl, h9⟩
    · refine am_wb2 rfl false (zn_gt (zq_a _) (by decide) (zr_t _) ⟨by decide, by decide⟩ c6) rfl ?_
      have h10 := h8 c6
      refine am_wh 2 (pc1 := 17) (lv1 := [(0, .int a0)]) (st1 := [.int 1]) rfl ?_
      refine am_wr rfl rfl rfl ?_
      exact ⟨_, _, rfl, rfl, h10⟩
set_option maxRecDepth 100000 in
theorem vc_138_0 (xs : Option (List Int32)) (d : Nat) (s : zS) (a0 : Int32) (Q : Int32 → zS → Prop) (h : (a0.toInt < 97 → ((a0.toInt < 65 → ((a0.toInt = 95 → (Q 1 s)) ∧ (¬ a0.toInt = 95 → (Q 0 s)))) ∧ (¬ a0.toInt < 65 → ((90 < a0.toInt → ((a0.toInt = 95 → (Q 1 s)) ∧ (¬ a0.toInt = 95 → (Q 0 s)))) ∧ (¬ 90 < a0.toInt → (Q 1 s)))))) ∧ (¬ a0.toInt < 97 → ((122 < a0.toInt → ((a0.toInt < 65 → ((a0.toInt = 95 → (Q 1 s)) ∧ (¬ a0.toInt = 95 → (Q 0 s)))) ∧ (¬ a0.toInt < 65 → ((90 < a0.toInt → ((a0.toInt = 95 → (Q 1 s)) ∧ (¬ a0.toInt = 95 → (Q 0 s)))) ∧ (¬ 90 < a0.toInt → (Q 1 s)))))) ∧ (¬ 122 < a0.toInt → (Q 1 s))))) : zWi xs d 138 0 [(0, .int a0)] s Q := by
  unfold zWi
  refine am_wh 2 (pc1 := 3) (lv1 := [(0, .int a0)]) (st1 := [.int 97, .int a0]) rfl ?_
  obtain ⟨h2, h3⟩ := h
  by_cases c1 : a0.toInt < 97
  · refine am_wb2 rfl true (zt_lt (zq_a _) (by decide) (zr_t _) ⟨by decide, by decide⟩ c1) rfl ?_
    have h4 := h2 c1
    refine am_wh 2 (pc1 := 15) (lv1 := [(0, .int a0)]) (st1 := [.int 65, .int a0]) rfl ?_
    obtain ⟨h6, h7⟩ := h4
    by_cases c5 : a0.toInt < 65
    · refine am_wb2 rfl true (zt_lt (zq_a _) (by decide) (zr_t _) ⟨by decide, by decide⟩ c5) rfl ?_
      have h8 := h6 c5
      refine am_wh 2 (pc1 := 27) (lv1 := [(0, .int a0)]) (st1 := [.int 95, .int a0]) rfl ?_
      obtain ⟨h10, h11⟩ := h8
      by_cases c9 : a0.toInt = 95
      · refine am_wb2 rfl false (zn_ne (zq_a _) (by decide) (zr_t _) ⟨by decide, by decide⟩ c9) rfl ?_
        have h12 := h10 c9
        refine am_wh 2 (pc1 := 35) (lv1 := [(0, .int a0)]) (st1 := [.int 1]) rfl ?_
        refine am_wr rfl rfl rfl ?_
        exact ⟨_, _, rfl, rfl, h12⟩
      · refine am_wb2 rfl true (zt_ne (zq_a _) (by decide) (zr_t _) ⟨by decide, by decide⟩ c9) rfl ?_
        have h13 := h11 c9
        refine am_wh 1 (pc1 := 35) (lv1 := [(0, .int a0)]) (st1 := [.int 0]) rfl ?_
        refine am_wr rfl rfl rfl ?_
        exact ⟨_, _, rfl, rfl, h13⟩
    · refine am_wb2 rfl false (zn_lt (zq_a _) (by decide) (zr_t _) ⟨by decide, by decide⟩ c5) rfl ?_
      have h14 := h7 c5
      refine am_wh 2 (pc1 := 21) (lv1 := [(0, .int a0)]) (st1 := [.int 90, .int a0]) rfl ?_
      obtain ⟨h16, h17⟩ := h14
      by_cases c15 : 90 < a0.toInt
      · refine am_wb2 rfl false (zn_le (zq_a _) (by decide) (zr_t _) ⟨by decide, by decide⟩ c15) rfl ?_
        have h18 := h16 c15
        refine am_wh 2 (pc1 := 27) (lv1 := [(0, .int a0)]) (st1 := [.int 95, .int a0]) rfl ?_
        obtain ⟨h20, h21⟩ := h18
        by_cases c19 : a0.toInt = 95
        · refine am_wb2 rfl false (zn_ne (zq_a _) (by decide) (zr_t _) ⟨by decide, by decide⟩ c19) rfl ?_
          have h22 := h20 c19
          refine am_wh 2 (pc1 := 35) (lv1 := [(0, .int a0)]) (st1 := [.int 1]) rfl ?_
          refine am_wr rfl rfl rfl ?_
          exact ⟨_, _, rfl, rfl, h22⟩
        · refine am_wb2 rfl true (zt_ne (zq_a _) (by decide) (zr_t _) ⟨by decide, by decide⟩ c19) rfl ?_
          have h23 := h21 c19
          refine am_wh 1 (pc1 := 35) (lv1 := [(0, .int a0)]) (st1 := [.int 0]) rfl ?_
          refine am_wr rfl rfl rfl ?_
          exact ⟨_, _, rfl, rfl, h23⟩
      · refine am_wb2 rfl true (zt_le (zq_a _) (by decide) (zr_t _) ⟨by decide, by decide⟩ c15) rfl ?_
        have h24 := h17 c15
        refine am_wh 2 (pc1 := 35) (lv1 := [(0, .int a0)]) (st1 := [.int 1]) rfl ?_
        refine am_wr rfl rfl rfl ?_
        exact ⟨_, _, rfl, rfl, h24⟩
  · refine am_wb2 rfl false (zn_lt (zq_a _) (by decide) (zr_t _) ⟨by decide, by decide⟩ c1) rfl ?_
    have h25 := h3 c1
    refine am_wh 2 (pc1 := 9) (lv1 := [(0, .int a0)]) (st1 := [.int 122, .int a0]) rfl ?_
    obtain ⟨h27, h28⟩ := h25
    by_cases c26 : 122 < a0.toInt
    · refine am_wb2 rfl false (zn_le (zq_a _) (by decide) (zr_t _) ⟨by decide, by decide⟩ c26) rfl ?_
      have h29 := h27 c26
      refine am_wh 2 (pc1 := 15) (lv1 := [(0, .int a0)]) (st1 := [.int 65, .int a0]) rfl ?_
      obtain ⟨h31, h32⟩ := h29
      by_cases c30 : a0.toInt < 65
      · refine am_wb2 rfl true (zt_lt (zq_a _) (by decide) (zr_t _) ⟨by decide, by decide⟩ c30) rfl ?_
        have h33 := h31 c30
        refine am_wh 2 (pc1 := 27) (lv1 := [(0, .int a0)]) (st1 := [.int 95, .int a0]) rfl ?_
        obtain ⟨h35, h36⟩ := h33
        by_cases c34 : a0.toInt = 95
        · refine am_wb2 rfl false (zn_ne (zq_a _) (by decide) (zr_t _) ⟨by decide, by decide⟩ c34) rfl ?_
          have h37 := h35 c34
          refine am_wh 2 (pc1 := 35) (lv1 := [(0, .int a0)]) (st1 := [.int 1]) rfl ?_
          refine am_wr rfl rfl rfl ?_
          exact ⟨_, _, rfl, rfl, h37⟩
        · refine am_wb2 rfl true (zt_ne (zq_a _) (by decide) (zr_t _) ⟨by decide, by decide⟩ c34) rfl ?_
          have h38 := h36 c34
          refine am_wh 1 (pc1 := 35) (lv1 := [(0, .int a0)]) (st1 := [.int 0]) rfl ?_
          refine am_wr rfl rfl rfl ?_
          exact ⟨_, _, rfl, rfl, h38⟩
      · refine am_wb2 rfl false (zn_lt (zq_a _) (by decide) (zr_t _) ⟨by decide, by decide⟩ c30) rfl ?_
        have h39 := h32 c30
        refine am_wh 2 (pc1 := 21) (lv1 := [(0, .int a0)]) (st1 := [.int 90, .int a0]) rfl ?_
        obtain ⟨h41, h42⟩ := h39
        by_cases c40 : 90 < a0.toInt
        · refine am_wb2 rfl false (zn_le (zq_a _) (by decide) (zr_t _) ⟨by decide, by decide⟩ c40) rfl ?_
          have h43 := h41 c40
          refine am_wh 2 (pc1 := 27) (lv1 := [(0, .int a0)]) (st1 := [.int 95, .int a0]) rfl ?_
          obtain ⟨h45, h46⟩ := h43
          by_cases c44 : a0.toInt = 95
          · refine am_wb2 rfl false (zn_ne (zq_a _) (by decide) (zr_t _) ⟨by decide, by decide⟩ c44) rfl ?_
            have h47 := h45 c44
            refine am_wh 2 (pc1 := 35) (lv1 := [(0, .int a0)]) (st1 := [.int 1]) rfl ?_
            refine am_wr rfl rfl rfl ?_
            exact ⟨_, _, rfl, rfl, h47⟩
          · refine am_wb2 rfl true (zt_ne (zq_a _) (by decide) (zr_t _) ⟨by decide, by decide⟩ c44) rfl ?_
            have h48 := h46 c44
            refine am_wh 1 (pc1 := 35) (lv1 := [(0, .int a0)]) (st1 := [.int 0]) rfl ?_
            refine am_wr rfl rfl rfl ?_
            exact ⟨_, _, rfl, rfl, h48⟩
        · refine am_wb2 rfl true (zt_le (zq_a _) (by decide) (zr_t _) ⟨by decide, by decide⟩ c40) rfl ?_
          have h49 := h42 c40
          refine am_wh 2 (pc1 := 35) (lv1 := [(0, .int a0)]) (st1 := [.int 1]) rfl ?_
          refine am_wr rfl rfl rfl ?_
          exact ⟨_, _, rfl, rfl, h49⟩
    · refine am_wb2 rfl true (zt_le (zq_a _) (by decide) (zr_t _) ⟨by decide, by decide⟩ c26) rfl ?_
      have h50 := h28 c26
      refine am_wh 2 (pc1 := 35) (lv1 := [(0, .int a0)]) (st1 := [.int 1]) rfl ?_
      refine am_wr rfl rfl rfl ?_
      exact ⟨_, _, rfl, rfl, h50⟩
set_option maxRecDepth 100000 in
theorem vc_139_0 (xs : Option (List Int32)) (d : Nat) (s : zS) (a0 : Int64) (Q : Int32 → zS → Prop) (h : ((lg_cmp a0 427020088179).toInt = 0 → (Q 1 s)) ∧ (¬ (lg_cmp a0 427020088179).toInt = 0 → (((lg_cmp a0 6579558).toInt = 0 → (Q 2 s)) ∧ (¬ (lg_cmp a0 6579558).toInt = 0 → (((lg_cmp a0 6579564).toInt = 0 → (Q 3 s)) ∧ (¬ (lg_cmp a0 6579564).toInt = 0 → (((lg_cmp a0 1701606245).toInt = 0 → (Q 4 s)) ∧ (¬ (lg_cmp a0 1701606245).toInt = 0 → (((lg_cmp a0 6713202).toInt = 0 → (Q 5 s)) ∧ (¬ (lg_cmp a0 6713202).toInt = 0 → (((lg_cmp a0 113715422847340).toInt = 0 → (Q 6 s)) ∧ (¬ (lg_cmp a0 113715422847340).toInt = 0 → (((lg_cmp a0 26982).toInt = 0 → (Q 7 s)) ∧ (¬ (lg_cmp a0 26982).toInt = 0 → (((lg_cmp a0 115918758703732).toInt = 0 → (Q 8 s)) ∧ (¬ (lg_cmp a0 115918758703732).toInt = 0 → (((lg_cmp a0 26990).toInt = 0 → (Q 9 s)) ∧ (¬ (lg_cmp a0 26990).toInt = 0 → (((lg_cmp a0 119165702792289).toInt = 0 → (Q 10 s)) ∧ (¬ (lg_cmp a0 119165702792289).toInt = 0 → (((lg_cmp a0 7957700478591263084).toInt = 0 → (Q 11 s)) ∧ (¬ (lg_cmp a0 7957700478591263084).toInt = 0 → (((lg_cmp a0 1885434739).toInt = 0 → (Q 12 s)) ∧ (¬ (lg_cmp a0 1885434739).toInt = 0 → (((lg_cmp a0 125780071117422).toInt = 0 → (Q 13 s)) ∧ (¬ (lg_cmp a0 125780071117422).toInt = 0 → (((lg_cmp a0 512852847717).toInt = 0 → (Q 14 s)) ∧ (¬ (lg_cmp a0 512852847717).toInt = 0 → (Q 0 s))))))))))))))))))))))))))))) : zWi xs d 139 0 [(0, .long a0)] s Q := by
  unfold zWi
  refine am_wh 3 (pc1 := 5) (lv1 := [(0, .long a0)]) (st1 := [.int (lg_cmp a0 427020088179)]) rfl ?_
  obtain ⟨h2, h3⟩ := h
  by_cases c1 : (lg_cmp a0 427020088179).toInt = 0
  · refine am_wb1 rfl false (zn_ne (zq_a _) (by decide) (zr_t _) ⟨by decide, by decide⟩ c1) rfl ?_
    have h4 := h2 c1
    refine am_wh 2 (pc1 := 178) (lv1 := [(0, .long a0)]) (st1 := [.int 1]) rfl ?_
    refine am_wr rfl rfl rfl ?_
    exact ⟨_, _, rfl, rfl, h4⟩
  · refine am_wb1 rfl true (zt_ne (zq_a _) (by decide) (zr_t _) ⟨by decide, by decide⟩ c1) rfl ?_
    have h5 := h3 c1
    refine am_wh 3 (pc1 := 17) (lv1 := [(0, .long a0)]) (st1 := [.int (lg_cmp a0 6579558)]) rfl ?_
    obtain ⟨h7, h8⟩ := h5
    by_cases c6 : (lg_cmp a0 6579558).toInt = 0
    · refine am_wb1 rfl false (zn_ne (zq_a _) (by decide) (zr_t _) ⟨by decide, by decide⟩ c6) rfl ?_
      have h9 := h7 c6
      refine am_wh 2 (pc1 := 178) (lv1 := [(0, .long a0)]) (st1 := [.int 2]) rfl ?_
      refine am_wr rfl rfl rfl ?_
      exact ⟨_, _, rfl, rfl, h9⟩
    · refine am_wb1 rfl true (zt_ne (zq_a _) (by decide) (zr_t _) ⟨by decide, by decide⟩ c6) rfl ?_
      have h10 := h8 c6
      refine am_wh 3 (pc1 := 29) (lv1 := [(0, .long a0)]) (st1 := [.int (lg_cmp a0 6579564)]) rfl ?_
      obtain ⟨h12, h13⟩ := h10
      by_cases c11 : (lg_cmp a0 6579564).toInt = 0
      · refine am_wb1 rfl false (zn_ne (zq_a _) (by decide) (zr_t _) ⟨by decide, by decide⟩ c11) rfl ?_
        have h14 := h12 c11
        refine am_wh 2 (pc1 := 178) (lv1 := [(0, .long a0)]) (st1 := [.int 3]) rfl ?_
        refine am_wr rfl rfl rfl ?_
        exact ⟨_, _, rfl, rfl, h14⟩
      · refine am_wb1 rfl true (zt_ne (zq_a _) (by decide) (zr_t _) ⟨by decide, by decide⟩ c11) rfl ?_
        have h15 := h13 c11
        refine am_wh 3 (pc1 := 41) (lv1 := [(0, .long a0)]) (st1 := [.int (lg_cmp a0 1701606245)]) rfl ?_
        obtain ⟨h17, h18⟩ := h15
        by_cases c16 : (lg_cmp a0 1701606245).toInt = 0
        · refine am_wb1 rfl false (zn_ne (zq_a _) (by decide) (zr_t _) ⟨by decide, by decide⟩ c16) rfl ?_
          have h19 := h17 c16
          refine am_wh 2 (pc1 := 178) (lv1 := [(0, .long a0)]) (st1 := [.int 4]) rfl ?_
          refine am_wr rfl rfl rfl ?_
          exact ⟨_, _, rfl, rfl, h19⟩
        · refine am_wb1 rfl true (zt_ne (zq_a _) (by decide) (zr_t _) ⟨by decide, by decide⟩ c16) rfl ?_
          have h20 := h18 c16
          refine am_wh 3 (pc1 := 53) (lv1 := [(0, .long a0)]) (st1 := [.int (lg_cmp a0 6713202)]) rfl ?_
          obtain ⟨h22, h23⟩ := h20
          by_cases c21 : (lg_cmp a0 6713202).toInt = 0
          · refine am_wb1 rfl false (zn_ne (zq_a _) (by decide) (zr_t _) ⟨by decide, by decide⟩ c21) rfl ?_
            have h24 := h22 c21
            refine am_wh 2 (pc1 := 178) (lv1 := [(0, .long a0)]) (st1 := [.int 5]) rfl ?_
            refine am_wr rfl rfl rfl ?_
            exact ⟨_, _, rfl, rfl, h24⟩
          · refine am_wb1 rfl true (zt_ne (zq_a _) (by decide) (zr_t _) ⟨by decide, by decide⟩ c21) rfl ?_
            have h25 := h23 c21
            refine am_wh 3 (pc1 := 65) (lv1 := [(0, .long a0)]) (st1 := [.int (lg_cmp a0 113715422847340)]) rfl ?_
            obtain ⟨h27, h28⟩ := h25
            by_cases c26 : (lg_cmp a0 113715422847340).toInt = 0
            · refine am_wb1 rfl false (zn_ne (zq_a _) (by decide) (zr_t _) ⟨by decide, by decide⟩ c26) rfl ?_
              have h29 := h27 c26
              refine am_wh 2 (pc1 := 178) (lv1 := [(0, .long a0)]) (st1 := [.int 6]) rfl ?_
              refine am_wr rfl rfl rfl ?_
              exact ⟨_, _, rfl, rfl, h29⟩
            · refine am_wb1 rfl true (zt_ne (zq_a _) (by decide) (zr_t _) ⟨by decide, by decide⟩ c26) rfl ?_
              have h30 := h28 c26
              refine am_wh 3 (pc1 := 78) (lv1 := [(0, .long a0)]) (st1 := [.int (lg_cmp a0 26982)]) rfl ?_
              obtain ⟨h32, h33⟩ := h30
              by_cases c31 : (lg_cmp a0 26982).toInt = 0
              · refine am_wb1 rfl false (zn_ne (zq_a _) (by decide) (zr_t _) ⟨by decide, by decide⟩ c31) rfl ?_
                have h34 := h32 c31
                refine am_wh 2 (pc1 := 178) (lv1 := [(0, .long a0)]) (st1 := [.int 7]) rfl ?_
                refine am_wr rfl rfl rfl ?_
                exact ⟨_, _, rfl, rfl, h34⟩
              · refine am_wb1 rfl true (zt_ne (zq_a _) (by decide) (zr_t _) ⟨by decide, by decide⟩ c31) rfl ?_
                have h35 := h33 c31
                refine am_wh 3 (pc1 := 91) (lv1 := [(0, .long a0)]) (st1 := [.int (lg_cmp a0 115918758703732)]) rfl ?_
                obtain ⟨h37, h38⟩ := h35
                by_cases c36 : (lg_cmp a0 115918758703732).toInt = 0
                · refine am_wb1 rfl false (zn_ne (zq_a _) (by decide) (zr_t _) ⟨by decide, by decide⟩ c36) rfl ?_
                  have h39 := h37 c36
                  refine am_wh 2 (pc1 := 178) (lv1 := [(0, .long a0)]) (st1 := [.int 8]) rfl ?_
                  refine am_wr rfl rfl rfl ?_
                  exact ⟨_, _, rfl, rfl, h39⟩
                · refine am_wb1 rfl true (zt_ne (zq_a _) (by decide) (zr_t _) ⟨by decide, by decide⟩ c36) rfl ?_
                  have h40 := h38 c36
                  refine am_wh 3 (pc1 := 104) (lv1 := [(0, .long a0)]) (st1 := [.int (lg_cmp a0 26990)]) rfl ?_
                  obtain ⟨h42, h43⟩ := h40
                  by_cases c41 : (lg_cmp a0 26990).toInt = 0
                  · refine am_wb1 rfl false (zn_ne (zq_a _) (by decide) (zr_t _) ⟨by decide, by decide⟩ c41) rfl ?_
                    have h44 := h42 c41
                    refine am_wh 2 (pc1 := 178) (lv1 := [(0, .long a0)]) (st1 := [.int 9]) rfl ?_
                    refine am_wr rfl rfl rfl ?_
                    exact ⟨_, _, rfl, rfl, h44⟩
                  · refine am_wb1 rfl true (zt_ne (zq_a _) (by decide) (zr_t _) ⟨by decide, by decide⟩ c41) rfl ?_
                    have h45 := h43 c41
                    refine am_wh 3 (pc1 := 117) (lv1 := [(0, .long a0)]) (st1 := [.int (lg_cmp a0 119165702792289)]) rfl ?_
                    obtain ⟨h47, h48⟩ := h45
                    by_cases c46 : (lg_cmp a0 119165702792289).toInt = 0
                    · refine am_wb1 rfl false (zn_ne (zq_a _) (by decide) (zr_t _) ⟨by decide, by decide⟩ c46) rfl ?_
                      have h49 := h47 c46
                      refine am_wh 2 (pc1 := 178) (lv1 := [(0, .long a0)]) (st1 := [.int 10]) rfl ?_
                      refine am_wr rfl rfl rfl ?_
                      exact ⟨_, _, rfl, rfl, h49⟩
                    · refine am_wb1 rfl true (zt_ne (zq_a _) (by decide) (zr_t _) ⟨by decide, by decide⟩ c46) rfl ?_
                      have h50 := h48 c46
                      refine am_wh 3 (pc1 := 130) (lv1 := [(0, .long a0)]) (st1 := [.int (lg_cmp a0 7957700478591263084)]) rfl ?_
                      obtain ⟨h52, h53⟩ := h50
                      by_cases c51 : (lg_cmp a0 7957700478591263084).toInt = 0
                      · refine am_wb1 rfl false (zn_ne (zq_a _) (by decide) (zr_t _) ⟨by decide, by decide⟩ c51) rfl ?_
                        have h54 := h52 c51
                        refine am_wh 2 (pc1 := 178) (lv1 := [(0, .long a0)]) (st1 := [.int 11]) rfl ?_
                        refine am_wr rfl rfl rfl ?_
                        exact ⟨_, _, rfl, rfl, h54⟩
                      · refine am_wb1 rfl true (zt_ne (zq_a _) (by decide) (zr_t _) ⟨by decide, by decide⟩ c51) rfl ?_
                        have h55 := h53 c51
                        refine am_wh 3 (pc1 := 143) (lv1 := [(0, .long a0)]) (st1 := [.int (lg_cmp a0 1885434739)]) rfl ?_
                        obtain ⟨h57, h58⟩ := h55
                        by_cases c56 : (lg_cmp a0 1885434739).toInt = 0
                        · refine am_wb1 rfl false (zn_ne (zq_a _) (by decide) (zr_t _) ⟨by decide, by decide⟩ c56) rfl ?_
                          have h59 := h57 c56
                          refine am_wh 2 (pc1 := 178) (lv1 := [(0, .long a0)]) (st1 := [.int 12]) rfl ?_
                          refine am_wr rfl rfl rfl ?_
                          exact ⟨_, _, rfl, rfl, h59⟩
                        · refine am_wb1 rfl true (zt_ne (zq_a _) (by decide) (zr_t _) ⟨by decide, by decide⟩ c56) rfl ?_
                          have h60 := h58 c56
                          refine am_wh 3 (pc1 := 156) (lv1 := [(0, .long a0)]) (st1 := [.int (lg_cmp a0 125780071117422)]) rfl ?_
                          obtain ⟨h62, h63⟩ := h60
                          by_cases c61 : (lg_cmp a0 125780071117422).toInt = 0
                          · refine am_wb1 rfl false (zn_ne (zq_a _) (by decide) (zr_t _) ⟨by decide, by decide⟩ c61) rfl ?_
                            have h64 := h62 c61
                            refine am_wh 2 (pc1 := 178) (lv1 := [(0, .long a0)]) (st1 := [.int 13]) rfl ?_
                            refine am_wr rfl rfl rfl ?_
                            exact ⟨_, _, rfl, rfl, h64⟩
                          · refine am_wb1 rfl true (zt_ne (zq_a _) (by decide) (zr_t _) ⟨by decide, by decide⟩ c61) rfl ?_
                            have h65 := h63 c61
                            refine am_wh 3 (pc1 := 169) (lv1 := [(0, .long a0)]) (st1 := [.int (lg_cmp a0 512852847717)]) rfl ?_
                            obtain ⟨h67, h68⟩ := h65
                            by_cases c66 : (lg_cmp a0 512852847717).toInt = 0
                            · refine am_wb1 rfl false (zn_ne (zq_a _) (by decide) (zr_t _) ⟨by decide, by decide⟩ c66) rfl ?_
                              have h69 := h67 c66
                              refine am_wh 2 (pc1 := 178) (lv1 := [(0, .long a0)]) (st1 := [.int 14]) rfl ?_
                              refine am_wr rfl rfl rfl ?_
                              exact ⟨_, _, rfl, rfl, h69⟩
                            · refine am_wb1 rfl true (zt_ne (zq_a _) (by decide) (zr_t _) ⟨by decide, by decide⟩ c66) rfl ?_
                              have h70 := h68 c66
                              refine am_wh 1 (pc1 := 178) (lv1 := [(0, .long a0)]) (st1 := [.int 0]) rfl ?_
                              refine am_wr rfl rfl rfl ?_
                              exact ⟨_, _, rfl, rfl, h70⟩
set_option maxRecDepth 100000 in
theorem vc_140_0 (xs : Option (List Int32)) (d : Nat) (s : zS) (a1 : Int32) (a2 : Int32) (a3 : Int32) (a4 : Int32) (Q : zS → Prop) (h : zX (s.2 34) (s.1 23).toInt ∧ zX (s.2 37) (s.1 23).toInt ∧ zX (s.2 35) (s.1 23).toInt ∧ zX (s.2 36) (s.1 23).toInt ∧ zX (s.2 38) (s.1 23).toInt ∧ Q (zf (za (za (za (za (za s 34 (zu (s.2 34) (s.1 23).toInt a1)) 37 (zu (s.2 37) (s.1 23).toInt a2)) 35 (zu (s.2 35) (s.1 23).toInt a3)) 36 (zu (s.2 36) (s.1 23).toInt a4)) 38 (zu (s.2 38) (s.1 23).toInt 0)) 23 ((s.1 23) + 1))) : zWv xs d 140 0 [(0, .ref 32), (1, .int a1), (2, .int a2), (3, .int a3), (4, .int a4)] s Q := by
  unfold zWv
  refine am_wh 5 (pc1 := 9) (lv1 := [(0, .ref 32), (1, .int a1), (2, .int a2), (3, .int a3), (4, .int a4)]) (st1 := [.int a1, .int (s.1 23), .ref 36]) rfl ?_
  obtain ⟨o1, h2⟩ := h
  refine zw_si (l := (s.2 34)) (i := (s.1 23).toInt) rfl rfl (zq_a _) o1 (zh_34 _ _) ?_
  refine am_wh 5 (pc1 := 19) (lv1 := [(0, .ref 32), (1, .int a1), (2, .int a2), (3, .int a3), (4, .int a4)]) (st1 := [.int a2, .int (s.1 23), .ref 39]) rfl ?_
  obtain ⟨o3, h4⟩ := h2
  refine zw_si (l := (s.2 37)) (i := (s.1 23).toInt) rfl rfl (zq_a _) o3 (zh_37 _ _) ?_
  refine am_wh 5 (pc1 := 29) (lv1 := [(0, .ref 32), (1, .int a1), (2, .int a2), (3, .int a3), (4, .int a4)]) (st1 := [.int a3, .int (s.1 23), .ref 37]) rfl ?_
  obtain ⟨o5, h6⟩ := h4
  refine zw_si (l := (s.2 35)) (i := (s.1 23).toInt) rfl rfl (zq_a _) o5 (zh_35 _ _) ?_
  refine am_wh 5 (pc1 := 40) (lv1 := [(0, .ref 32), (1, .int a1), (2, .int a2), (3, .int a3), (4, .int a4)]) (st1 := [.int a4, .int (s.1 23), .ref 38]) rfl ?_
  obtain ⟨o7, h8⟩ := h6
  refine zw_si (l := (s.2 36)) (i := (s.1 23).toInt) rfl rfl (zq_a _) o7 (zh_36 _ _) ?_
  refine am_wh 5 (pc1 := 50) (lv1 := [(0, .ref 32), (1, .int a1), (2, .int a2), (3, .int a3), (4, .int a4)]) (st1 := [.int 0, .int (s.1 23), .ref 40]) rfl ?_
  obtain ⟨o9, h10⟩ := h8
  refine zw_si (l := (s.2 38)) (i := (s.1 23).toInt) rfl rfl (zq_a _) o9 (zh_38 _ _) ?_
  refine am_wh 5 (pc1 := 58) (lv1 := [(0, .ref 32), (1, .int a1), (2, .int a2), (3, .int a3), (4, .int a4)]) (st1 := [.int ((s.1 23) + 1), .ref 32]) rfl ?_
  refine am_w0 (z := (61, [(0, .ref 32), (1, .int a1), (2, .int a2), (3, .int a3), (4, .int a4)], [], zH (zf (za (za (za (za (za s 34 (zu (s.2 34) (s.1 23).toInt a1)) 37 (zu (s.2 37) (s.1 23).toInt a2)) 35 (zu (s.2 35) (s.1 23).toInt a3)) 36 (zu (s.2 36) (s.1 23).toInt a4)) 38 (zu (s.2 38) (s.1 23).toInt 0)) 23 ((s.1 23) + 1)))) rfl rfl (zp_23 ) ?_
  refine am_wr rfl rfl rfl ?_
  exact ⟨_, rfl, rfl, h10⟩
set_option maxRecDepth 100000 in
theorem vc_141_0 (xs : Option (List Int32)) (d : Nat) (s : zS)  (Q : zS → Prop) (h : zX (s.2 39) 0 ∧ zWv xs (d + 1) 141 24 [(0, .ref 32), (1, .int 1), (2, .int 0), (3, .int 0), (4, .int 0), (5, .int 0)] (za (zf s 23 0) 39 (zu (s.2 39) 0 0)) Q) : zWv xs (d + 1) 141 0 [(0, .ref 32)] s Q := by
  unfold zWv
  refine am_wh 2 (pc1 := 2) (lv1 := [(0, .ref 32)]) (st1 := [.int 0, .ref 32]) rfl ?_
  refine am_w0 (z := (5, [(0, .ref 32)], [], zH (zf s 23 0))) rfl rfl (zp_23 ) ?_
  refine am_wh 6 (pc1 := 13) (lv1 := [(1, .int 1), (0, .ref 32)]) (st1 := [.int 0, .int 0, .ref 41]) rfl ?_
  obtain ⟨o1, h2⟩ := h
  refine zw_si (l := (s.2 39)) (i := 0) rfl rfl (by decide) o1 (zh_39 _ _) ?_
  refine am_wh 8 (pc1 := 24) (lv1 := [(5, .int 0), (4, .int 0), (3, .int 0), (2, .int 0), (1, .int 1), (0, .ref 32)]) (st1 := []) rfl ?_
  exact am_wm h2 ⟨rfl, rfl, rfl, rfl, rfl, rfl, trivial⟩
set_option maxRecDepth 100000 in
theorem vc_141_24 (xs : Option (List Int32)) (d : Nat) (s : zS) (a1 : Int32) (a2 : Int32) (a3 : Int32) (a4 : Int32) (a5 : Int32) (Q : zS → Prop) (h : (a5.toInt < (s.1 21).toInt → (zX (s.2 31) a5.toInt ∧ ((zg (s.2 31) a5.toInt).toInt = 35 → (zWv xs (d + 1) 141 55 [(0, .ref 32), (1, .int a1), (2, .int a2), (3, .int a3), (4, .int a4), (7, .int (a5 + 1))] s Q)) ∧ (¬ (zg (s.2 31) a5.toInt).toInt = 35 → (((zg (s.2 31) a5.toInt).toInt = 10 → ((a2.toInt = 0 → (zWv xs d 142 0 [(0, .ref 32), (1, .int a4)] s (fun s20 => zWv xs (d + 1) 141 24 [(0, .ref 32), (1, .int a1), (2, .int a2), (3, .int (a5 + 1)), (4, .int 0), (5, .int (a5 + 1))] s20 Q))) ∧ (¬ a2.toInt = 0 → (zWv xs (d + 1) 141 24 [(0, .ref 32), (1, .int a1), (2, .int a2), (3, .int a3), (4, .int a4), (5, .int (a5 + 1))] s Q)))) ∧ (¬ (zg (s.2 31) a5.toInt).toInt = 10 → (((zg (s.2 31) a5.toInt).toInt = 32 → (zWv xs (d + 1) 141 24 [(0, .ref 32), (1, .int a1), (2, .int a2), (3, .int a3), (4, .int a4), (5, .int (a5 + 1))] s Q)) ∧ (¬ (zg (s.2 31) a5.toInt).toInt = 32 → ((a4.toInt = 0 → (zWi xs d 143 0 [(0, .ref 32), (1, .int a1), (2, .int a3), (3, .int a5)] s (fun v35 s33 => zWi xs d 144 0 [(0, .ref 32), (1, .int a5)] s33 (fun v38 s36 => zX (s36.2 37) ((s36.1 23).toInt - 1) ∧ zX (s36.2 34) ((s36.1 23).toInt - 1) ∧ ((zg (s36.2 34) ((s36.1 23).toInt - 1)).toInt = 3 → (((zg (s36.2 37) ((s36.1 23).toInt - 1)).toInt = 40 → (zWv xs (d + 1) 141 24 [(0, .ref 32), (1, .int v35), (2, .int (a2 + 1)), (3, .int a3), (4, .int 1), (5, .int v38)] s36 Q)) ∧ (¬ (zg (s36.2 37) ((s36.1 23).toInt - 1)).toInt = 40 → (((zg (s36.2 37) ((s36.1 23).toInt - 1)).toInt = 91 → (zWv xs (d + 1) 141 24 [(0, .ref 32), (1, .int v35), (2, .int (a2 + 1)), (3, .int a3), (4, .int 1), (5, .int v38)] s36 Q)) ∧ (¬ (zg (s36.2 37) ((s36.1 23).toInt - 1)).toInt = 91 → (((zg (s36.2 37) ((s36.1 23).toInt - 1)).toInt = 41 → ((0 < a2.toInt → (zWv xs (d + 1) 141 24 [(0, .ref 32), (1, .int v35), (2, .int (a2 - 1)), (3, .int a3), (4, .int 1), (5, .int v38)] s36 Q)) ∧ (¬ 0 < a2.toInt → (zWv xs (d + 1) 141 24 [(0, .ref 32), (1, .int v35), (2, .int a2), (3, .int a3), (4, .int 1), (5, .int v38)] s36 Q)))) ∧ (¬ (zg (s36.2 37) ((s36.1 23).toInt - 1)).toInt = 41 → (((zg (s36.2 37) ((s36.1 23).toInt - 1)).toInt = 93 → ((0 < a2.toInt → (zWv xs (d + 1) 141 24 [(0, .ref 32), (1, .int v35), (2, .int (a2 - 1)), (3, .int a3), (4, .int 1), (5, .int v38)] s36 Q)) ∧ (¬ 0 < a2.toInt → (zWv xs (d + 1) 141 24 [(0, .ref 32), (1, .int v35), (2, .int a2), (3, .int a3), (4, .int 1), (5, .int v38)] s36 Q)))) ∧ (¬ (zg (s36.2 37) ((s36.1 23).toInt - 1)).toInt = 93 → (zWv xs (d + 1) 141 24 [(0, .ref 32), (1, .int v35), (2, .int a2), (3, .int a3), (4, .int 1), (5, .int v38)] s36 Q)))))))))) ∧ (¬ (zg (s36.2 34) ((s36.1 23).toInt - 1)).toInt = 3 → (zWv xs (d + 1) 141 24 [(0, .ref 32), (1, .int v35), (2, .int a2), (3, .int a3), (4, .int 1), (5, .int v38)] s36 Q)))))) ∧ (¬ a4.toInt = 0 → (zWi xs d 144 0 [(0, .ref 32), (1, .int a5)] s (fun v81 s79 => zX (s79.2 37) ((s79.1 23).toInt - 1) ∧ zX (s79.2 34) ((s79.1 23).toInt - 1) ∧ ((zg (s79.2 34) ((s79.1 23).toInt - 1)).toInt = 3 → (((zg (s79.2 37) ((s79.1 23).toInt - 1)).toInt = 40 → (zWv xs (d + 1) 141 24 [(0, .ref 32), (1, .int a1), (2, .int (a2 + 1)), (3, .int a3), (4, .int a4), (5, .int v81)] s79 Q)) ∧ (¬ (zg (s79.2 37) ((s79.1 23).toInt - 1)).toInt = 40 → (((zg (s79.2 37) ((s79.1 23).toInt - 1)).toInt = 91 → (zWv xs (d + 1) 141 24 [(0, .ref 32), (1, .int a1), (2, .int (a2 + 1)), (3, .int a3), (4, .int a4), (5, .int v81)] s79 Q)) ∧ (¬ (zg (s79.2 37) ((s79.1 23).toInt - 1)).toInt = 91 → (((zg (s79.2 37) ((s79.1 23).toInt - 1)).toInt = 41 → ((0 < a2.toInt → (zWv xs (d + 1) 141 24 [(0, .ref 32), (1, .int a1), (2, .int (a2 - 1)), (3, .int a3), (4, .int a4), (5, .int v81)] s79 Q)) ∧ (¬ 0 < a2.toInt → (zWv xs (d + 1) 141 24 [(0, .ref 32), (1, .int a1), (2, .int a2), (3, .int a3), (4, .int a4), (5, .int v81)] s79 Q)))) ∧ (¬ (zg (s79.2 37) ((s79.1 23).toInt - 1)).toInt = 41 → (((zg (s79.2 37) ((s79.1 23).toInt - 1)).toInt = 93 → ((0 < a2.toInt → (zWv xs (d + 1) 141 24 [(0, .ref 32), (1, .int a1), (2, .int (a2 - 1)), (3, .int a3), (4, .int a4), (5, .int v81)] s79 Q)) ∧ (¬ 0 < a2.toInt → (zWv xs (d + 1) 141 24 [(0, .ref 32), (1, .int a1), (2, .int a2), (3, .int a3), (4, .int a4), (5, .int v81)] s79 Q)))) ∧ (¬ (zg (s79.2 37) ((s79.1 23).toInt - 1)).toInt = 93 → (zWv xs (d + 1) 141 24 [(0, .ref 32), (1, .int a1), (2, .int a2), (3, .int a3), (4, .int a4), (5, .int v81)] s79 Q)))))))))) ∧ (¬ (zg (s79.2 34) ((s79.1 23).toInt - 1)).toInt = 3 → (zWv xs (d + 1) 141 24 [(0, .ref 32), (1, .int a1), (2, .int a2), (3, .int a3), (4, .int a4), (5, .int v81)] s79 Q))))))))))))) ∧ (¬ a5.toInt < (s.1 21).toInt → (zWv xs d 142 0 [(0, .ref 32), (1, .int a4)] s (fun s122 => zWv xs (d + 1) 141 247 [(0, .ref 32), (1, .int a1), (6, .int 1)] s122 Q)))) : zWv xs (d + 1) 141 24 [(0, .ref 32), (1, .int a1), (2, .int a2), (3, .int a3), (4, .int a4), (5, .int a5)] s Q := by
  unfold zWv
  refine am_wh 3 (pc1 := 30) (lv1 := [(0, .ref 32), (1, .int a1), (2, .int a2), (3, .int a3), (4, .int a4), (5, .int a5)]) (st1 := [.int (s.1 21), .int a5]) rfl ?_
  obtain ⟨h2, h3⟩ := h
  by_cases c1 : a5.toInt < (s.1 21).toInt
  · refine am_wb2 rfl false (zn_ge (zq_a _) (zq_a _) (zr_t _) (zr_t _) c1) rfl ?_
    have h4 := h2 c1
    refine am_wh 3 (pc1 := 39) (lv1 := [(0, .ref 32), (1, .int a1), (2, .int a2), (3, .int a3), (4, .int a4), (5, .int a5)]) (st1 := [.int a5, .ref 33]) rfl ?_
    obtain ⟨o5, h6⟩ := h4
    refine zw_li (l := (s.2 31)) (i := a5.toInt) rfl rfl (zq_a _) o5 ?_
    refine am_wh 7 (pc1 := 52) (lv1 := [(7, .int (a5 + 1)), (6, .int (zg (s.2 31) a5.toInt)), (0, .ref 32), (1, .int a1), (2, .int a2), (3, .int a3), (4, .int a4), (5, .int a5)]) (st1 := [.int 35, .int (zg (s.2 31) a5.toInt)]) rfl ?_
    obtain ⟨h8, h9⟩ := h6
    by_cases c7 : (zg (s.2 31) a5.toInt).toInt = 35
    · refine am_wb2 rfl false (zn_ne (zq_a _) (by decide) (zr_t _) ⟨by decide, by decide⟩ c7) rfl ?_
      have h10 := h8 c7
      exact am_wm h10 ⟨rfl, rfl, rfl, rfl, rfl, rfl, trivial⟩
    · refine am_wb2 rfl true (zt_ne (zq_a _) (by decide) (zr_t _) ⟨by decide, by decide⟩ c7) rfl ?_
      have h11 := h9 c7
      refine am_wh 2 (pc1 := 86) (lv1 := [(7, .int (a5 + 1)), (6, .int (zg (s.2 31) a5.toInt)), (0, .ref 32), (1, .int a1), (2, .int a2), (3, .int a3), (4, .int a4), (5, .int a5)]) (st1 := [.int 10, .int (zg (s.2 31) a5.toInt)]) rfl ?_
      obtain ⟨h13, h14⟩ := h11
      by_cases c12 : (zg (s.2 31) a5.toInt).toInt = 10
      · refine am_wb2 rfl false (zn_ne (zq_a _) (by decide) (zr_t _) ⟨by decide, by decide⟩ c12) rfl ?_
        have h15 := h13 c12
        refine am_wh 1 (pc1 := 90) (lv1 := [(7, .int (a5 + 1)), (6, .int (zg (s.2 31) a5.toInt)), (0, .ref 32), (1, .int a1), (2, .int a2), (3, .int a3), (4, .int a4), (5, .int a5)]) (st1 := [.int a2]) rfl ?_
        obtain ⟨h17, h18⟩ := h15
        by_cases c16 : a2.toInt = 0
        · refine am_wb1 rfl false (zn_ne (zq_a _) (by decide) (zr_t _) ⟨by decide, by decide⟩ c16) rfl ?_
          have h19 := h17 c16
          refine am_wh 2 (pc1 := 96) (lv1 := [(7, .int (a5 + 1)), (6, .int (zg (s.2 31) a5.toInt)), (0, .ref 32), (1, .int a1), (2, .int a2), (3, .int a3), (4, .int a4), (5, .int a5)]) (st1 := [.int a4, .ref 32]) rfl ?_
          refine am_wc rfl rfl rfl ?_
          refine am_ww h19 ?_
          rintro _ _ ⟨s20, rfl, rfl, h21⟩
          show am_W _ _ 141 99 [(7, .int (a5 + 1)), (6, .int (zg (s.2 31) a5.toInt)), (0, .ref 32), (1, .int a1), (2, .int a2), (3, .int a3), (4, .int a4), (5, .int a5)] [] (zH s20) _
          refine am_wh 8 (pc1 := 24) (lv1 := [(5, .int (a5 + 1)), (3, .int (a5 + 1)), (4, .int 0), (7, .int (a5 + 1)), (6, .int (zg (s.2 31) a5.toInt)), (0, .ref 32), (1, .int a1), (2, .int a2)]) (st1 := []) rfl ?_
          exact am_wm h21 ⟨rfl, rfl, rfl, rfl, rfl, rfl, trivial⟩
        · refine am_wb1 rfl true (zt_ne (zq_a _) (by decide) (zr_t _) ⟨by decide, by decide⟩ c16) rfl ?_
          have h22 := h18 c16
          refine am_wh 3 (pc1 := 24) (lv1 := [(5, .int (a5 + 1)), (7, .int (a5 + 1)), (6, .int (zg (s.2 31) a5.toInt)), (0, .ref 32), (1, .int a1), (2, .int a2), (3, .int a3), (4, .int a4)]) (st1 := []) rfl ?_
          exact am_wm h22 ⟨rfl, rfl, rfl, rfl, rfl, rfl, trivial⟩
      · refine am_wb2 rfl true (zt_ne (zq_a _) (by decide) (zr_t _) ⟨by decide, by decide⟩ c12) rfl ?_
        have h23 := h14 c12
        refine am_wh 2 (pc1 := 112) (lv1 := [(7, .int (a5 + 1)), (6, .int (zg (s.2 31) a5.toInt)), (0, .ref 32), (1, .int a1), (2, .int a2), (3, .int a3), (4, .int a4), (5, .int a5)]) (st1 := [.int 32, .int (zg (s.2 31) a5.toInt)]) rfl ?_
        obtain ⟨h25, h26⟩ := h23
        by_cases c24 : (zg (s.2 31) a5.toInt).toInt = 32
        · refine am_wb2 rfl true (zt_eq (zq_a _) (by decide) (zr_t _) ⟨by decide, by decide⟩ c24) rfl ?_
          have h27 := h25 c24
          refine am_wh 3 (pc1 := 24) (lv1 := [(5, .int (a5 + 1)), (7, .int (a5 + 1)), (6, .int (zg (s.2 31) a5.toInt)), (0, .ref 32), (1, .int a1), (2, .int a2), (3, .int a3), (4, .int a4)]) (st1 := []) rfl ?_
          exact am_wm h27 ⟨rfl, rfl, rfl, rfl, rfl, rfl, trivial⟩
        · refine am_wb2 rfl false (zn_eq (zq_a _) (by decide) (zr_t _) ⟨by decide, by decide⟩ c24) rfl ?_
          have h28 := h26 c24
          refine am_wh 1 (pc1 := 117) (lv1 := [(7, .int (a5 + 1)), (6, .int (zg (s.2 31) a5.toInt)), (0, .ref 32), (1, .int a1), (2, .int a2), (3, .int a3), (4, .int a4), (5, .int a5)]) (st1 := [.int a4]) rfl ?_
          obtain ⟨h30, h31⟩ := h28
          by_cases c29 : a4.toInt = 0
          · refine am_wb1 rfl false (zn_ne (zq_a _) (by decide) (zr_t _) ⟨by decide, by decide⟩ c29) rfl ?_
            have h32 := h30 c29
            refine am_wh 4 (pc1 := 125) (lv1 := [(7, .int (a5 + 1)), (6, .int (zg (s.2 31) a5.toInt)), (0, .ref 32), (1, .int a1), (2, .int a2), (3, .int a3), (4, .int a4), (5, .int a5)]) (st1 := [.int a5, .int a3, .int a1, .ref 32]) rfl ?_
            refine am_wc rfl rfl rfl ?_
            refine am_ww h32 ?_
            rintro _ _ ⟨v35, s33, rfl, rfl, h34⟩
            show am_W _ _ 141 128 [(7, .int (a5 + 1)), (6, .int (zg (s.2 31) a5.toInt)), (0, .ref 32), (1, .int a1), (2, .int a2), (3, .int a3), (4, .int a4), (5, .int a5)] [.int v35] (zH s33) _
            refine am_wh 5 (pc1 := 135) (lv1 := [(4, .int 1), (1, .int v35), (7, .int (a5 + 1)), (6, .int (zg (s.2 31) a5.toInt)), (0, .ref 32), (2, .int a2), (3, .int a3), (5, .int a5)]) (st1 := [.int a5, .ref 32]) rfl ?_
            refine am_wc rfl rfl rfl ?_
            refine am_ww h34 ?_
            rintro _ _ ⟨v38, s36, rfl, rfl, h37⟩
            show am_W _ _ 141 138 [(4, .int 1), (1, .int v35), (7, .int (a5 + 1)), (6, .int (zg (s.2 31) a5.toInt)), (0, .ref 32), (2, .int a2), (3, .int a3), (5, .int a5)] [.int v38] (zH s36) _
            refine am_wh 7 (pc1 := 150) (lv1 := [(7, .int v38), (4, .int 1), (1, .int v35), (6, .int (zg (s.2 31) a5.toInt)), (0, .ref 32), (2, .int a2), (3, .int a3), (5, .int a5)]) (st1 := [.int ((s36.1 23) - 1), .ref 39]) rfl ?_
            obtain ⟨o39, h40⟩ := h37
            refine zw_li (l := (s36.2 37)) (i := ((s36.1 23).toInt - 1)) rfl rfl (zq_sub (zq_a _) (by decide)) o39 ?_
            refine am_wh 7 (pc1 := 163) (lv1 := [(8, .int (zg (s36.2 37) ((s36.1 23).toInt - 1))), (7, .int v38), (4, .int 1), (1, .int v35), (6, .int (zg (s.2 31) a5.toInt)), (0, .ref 32), (2, .int a2), (3, .int a3), (5, .int a5)]) (st1 := [.int ((s36.1 23) - 1), .ref 36]) rfl ?_
            obtain ⟨o41, h42⟩ := h40
            refine zw_li (l := (s36.2 34)) (i := ((s36.1 23).toInt - 1)) rfl rfl (zq_sub (zq_a _) (by decide)) o41 ?_
            refine am_wh 1 (pc1 := 165) (lv1 := [(8, .int (zg (s36.2 37) ((s36.1 23).toInt - 1))), (7, .int v38), (4, .int 1), (1, .int v35), (6, .int (zg (s.2 31) a5.toInt)), (0, .ref 32), (2, .int a2), (3, .int a3), (5, .int a5)]) (st1 := [.int 3, .int (zg (s36.2 34) ((s36.1 23).toInt - 1))]) rfl ?_
            obtain ⟨h44, h45⟩ := h42
            by_cases c43 : (zg (s36.2 34) ((s36.1 23).toInt - 1)).toInt = 3
            · refine am_wb2 rfl false (zn_ne (zq_a _) (by decide) (zr_t _) ⟨by decide, by decide⟩ c43) rfl ?_
              have h46 := h44 c43
              refine am_wh 7 (pc1 := 184) (lv1 := [(9, .int 1), (8, .int (zg (s36.2 37) ((s36.1 23).toInt - 1))), (7, .int v38), (4, .int 1), (1, .int v35), (6, .int (zg (s.2 31) a5.toInt)), (0, .ref 32), (2, .int a2), (3, .int a3), (5, .int a5)]) (st1 := [.int 40, .int (zg (s36.2 37) ((s36.1 23).toInt - 1))]) rfl ?_
              obtain ⟨h48, h49⟩ := h46
              by_cases c47 : (zg (s36.2 37) ((s36.1 23).toInt - 1)).toInt = 40
              · refine am_wb2 rfl true (zt_eq (zq_a _) (by decide) (zr_t _) ⟨by decide, by decide⟩ c47) rfl ?_
                have h50 := h48 c47
                refine am_wh 8 (pc1 := 24) (lv1 := [(5, .int v38), (2, .int (a2 + 1)), (9, .int 1), (8, .int (zg (s36.2 37) ((s36.1 23).toInt - 1))), (7, .int v38), (4, .int 1), (1, .int v35), (6, .int (zg (s.2 31) a5.toInt)), (0, .ref 32), (3, .int a3)]) (st1 := []) rfl ?_
                exact am_wm h50 ⟨rfl, rfl, rfl, rfl, rfl, rfl, trivial⟩
              · refine am_wb2 rfl false (zn_eq (zq_a _) (by decide) (zr_t _) ⟨by decide, by decide⟩ c47) rfl ?_
                have h51 := h49 c47
                refine am_wh 2 (pc1 := 191) (lv1 := [(9, .int 1), (8, .int (zg (s36.2 37) ((s36.1 23).toInt - 1))), (7, .int v38), (4, .int 1), (1, .int v35), (6, .int (zg (s.2 31) a5.toInt)), (0, .ref 32), (2, .int a2), (3, .int a3), (5, .int a5)]) (st1 := [.int 91, .int (zg (s36.2 37) ((s36.1 23).toInt - 1))]) rfl ?_
                obtain ⟨h53, h54⟩ := h51
                by_cases c52 : (zg (s36.2 37) ((s36.1 23).toInt - 1)).toInt = 91
                · refine am_wb2 rfl false (zn_ne (zq_a _) (by decide) (zr_t _) ⟨by decide, by decide⟩ c52) rfl ?_
                  have h55 := h53 c52
                  refine am_wh 8 (pc1 := 24) (lv1 := [(5, .int v38), (2, .int (a2 + 1)), (9, .int 1), (8, .int (zg (s36.2 37) ((s36.1 23).toInt - 1))), (7, .int v38), (4, .int 1), (1, .int v35), (6, .int (zg (s.2 31) a5.toInt)), (0, .ref 32), (3, .int a3)]) (st1 := []) rfl ?_
                  exact am_wm h55 ⟨rfl, rfl, rfl, rfl, rfl, rfl, trivial⟩
                · refine am_wb2 rfl true (zt_ne (zq_a _) (by decide) (zr_t _) ⟨by decide, by decide⟩ c52) rfl ?_
                  have h56 := h54 c52
                  refine am_wh 4 (pc1 := 209) (lv1 := [(9, .int 1), (8, .int (zg (s36.2 37) ((s36.1 23).toInt - 1))), (7, .int v38), (4, .int 1), (1, .int v35), (6, .int (zg (s.2 31) a5.toInt)), (0, .ref 32), (2, .int a2), (3, .int a3), (5, .int a5)]) (st1 := [.int 41, .int (zg (s36.2 37) ((s36.1 23).toInt - 1))]) rfl ?_
                  obtain ⟨h58, h59⟩ := h56
                  by_cases c57 : (zg (s36.2 37) ((s36.1 23).toInt - 1)).toInt = 41
                  · refine am_wb2 rfl true (zt_eq (zq_a _) (by decide) (zr_t _) ⟨by decide, by decide⟩ c57) rfl ?_
                    have h60 := h58 c57
                    refine am_wh 1 (pc1 := 220) (lv1 := [(9, .int 1), (8, .int (zg (s36.2 37) ((s36.1 23).toInt - 1))), (7, .int v38), (4, .int 1), (1, .int v35), (6, .int (zg (s.2 31) a5.toInt)), (0, .ref 32), (2, .int a2), (3, .int a3), (5, .int a5)]) (st1 := [.int a2]) rfl ?_
                    obtain ⟨h62, h63⟩ := h60
                    by_cases c61 : 0 < a2.toInt
                    · refine am_wb1 rfl false (zn_le (zq_a _) (by decide) (zr_t _) ⟨by decide, by decide⟩ c61) rfl ?_
                      have h64 := h62 c61
                      refine am_wh 8 (pc1 := 24) (lv1 := [(5, .int v38), (2, .int (a2 - 1)), (9, .int 1), (8, .int (zg (s36.2 37) ((s36.1 23).toInt - 1))), (7, .int v38), (4, .int 1), (1, .int v35), (6, .int (zg (s.2 31) a5.toInt)), (0, .ref 32), (3, .int a3)]) (st1 := []) rfl ?_
                      exact am_wm h64 ⟨rfl, rfl, rfl, rfl, rfl, rfl, trivial⟩
                    · refine am_wb1 rfl true (zt_le (zq_a _) (by decide) (zr_t _) ⟨by decide, by decide⟩ c61) rfl ?_
                      have h65 := h63 c61
                      refine am_wh 5 (pc1 := 24) (lv1 := [(5, .int v38), (2, .int a2), (9, .int 1), (8, .int (zg (s36.2 37) ((s36.1 23).toInt - 1))), (7, .int v38), (4, .int 1), (1, .int v35), (6, .int (zg (s.2 31) a5.toInt)), (0, .ref 32), (3, .int a3)]) (st1 := []) rfl ?_
                      exact am_wm h65 ⟨rfl, rfl, rfl, rfl, rfl, rfl, trivial⟩
                  · refine am_wb2 rfl false (zn_eq (zq_a _) (by decide) (zr_t _) ⟨by decide, by decide⟩ c57) rfl ?_
                    have h66 := h59 c57
                    refine am_wh 2 (pc1 := 216) (lv1 := [(9, .int 1), (8, .int (zg (s36.2 37) ((s36.1 23).toInt - 1))), (7, .int v38), (4, .int 1), (1, .int v35), (6, .int (zg (s.2 31) a5.toInt)), (0, .ref 32), (2, .int a2), (3, .int a3), (5, .int a5)]) (st1 := [.int 93, .int (zg (s36.2 37) ((s36.1 23).toInt - 1))]) rfl ?_
                    obtain ⟨h68, h69⟩ := h66
                    by_cases c67 : (zg (s36.2 37) ((s36.1 23).toInt - 1)).toInt = 93
                    · refine am_wb2 rfl false (zn_ne (zq_a _) (by decide) (zr_t _) ⟨by decide, by decide⟩ c67) rfl ?_
                      have h70 := h68 c67
                      refine am_wh 1 (pc1 := 220) (lv1 := [(9, .int 1), (8, .int (zg (s36.2 37) ((s36.1 23).toInt - 1))), (7, .int v38), (4, .int 1), (1, .int v35), (6, .int (zg (s.2 31) a5.toInt)), (0, .ref 32), (2, .int a2), (3, .int a3), (5, .int a5)]) (st1 := [.int a2]) rfl ?_
                      obtain ⟨h72, h73⟩ := h70
                      by_cases c71 : 0 < a2.toInt
                      · refine am_wb1 rfl false (zn_le (zq_a _) (by decide) (zr_t _) ⟨by decide, by decide⟩ c71) rfl ?_
                        have h74 := h72 c71
                        refine am_wh 8 (pc1 := 24) (lv1 := [(5, .int v38), (2, .int (a2 - 1)), (9, .int 1), (8, .int (zg (s36.2 37) ((s36.1 23).toInt - 1))), (7, .int v38), (4, .int 1), (1, .int v35), (6, .int (zg (s.2 31) a5.toInt)), (0, .ref 32), (3, .int a3)]) (st1 := []) rfl ?_
                        exact am_wm h74 ⟨rfl, rfl, rfl, rfl, rfl, rfl, trivial⟩
                      · refine am_wb1 rfl true (zt_le (zq_a _) (by decide) (zr_t _) ⟨by decide, by decide⟩ c71) rfl ?_
                        have h75 := h73 c71
                        refine am_wh 5 (pc1 := 24) (lv1 := [(5, .int v38), (2, .int a2), (9, .int 1), (8, .int (zg (s36.2 37) ((s36.1 23).toInt - 1))), (7, .int v38), (4, .int 1), (1, .int v35), (6, .int (zg (s.2 31) a5.toInt)), (0, .ref 32), (3, .int a3)]) (st1 := []) rfl ?_
                        exact am_wm h75 ⟨rfl, rfl, rfl, rfl, rfl, rfl, trivial⟩
                    · refine am_wb2 rfl true (zt_ne (zq_a _) (by decide) (zr_t _) ⟨by decide, by decide⟩ c67) rfl ?_
                      have h76 := h69 c67
                      refine am_wh 5 (pc1 := 24) (lv1 := [(5, .int v38), (2, .int a2), (9, .int 1), (8, .int (zg (s36.2 37) ((s36.1 23).toInt - 1))), (7, .int v38), (4, .int 1), (1, .int v35), (6, .int (zg (s.2 31) a5.toInt)), (0, .ref 32), (3, .int a3)]) (st1 := []) rfl ?_
                      exact am_wm h76 ⟨rfl, rfl, rfl, rfl, rfl, rfl, trivial⟩
            · refine am_wb2 rfl true (zt_ne (zq_a _) (by decide) (zr_t _) ⟨by decide, by decide⟩ c43) rfl ?_
              have h77 := h45 c43
              refine am_wh 11 (pc1 := 24) (lv1 := [(5, .int v38), (2, .int a2), (9, .int 0), (8, .int (zg (s36.2 37) ((s36.1 23).toInt - 1))), (7, .int v38), (4, .int 1), (1, .int v35), (6, .int (zg (s.2 31) a5.toInt)), (0, .ref 32), (3, .int a3)]) (st1 := []) rfl ?_
              exact am_wm h77 ⟨rfl, rfl, rfl, rfl, rfl, rfl, trivial⟩
          · refine am_wb1 rfl true (zt_ne (zq_a _) (by decide) (zr_t _) ⟨by decide, by decide⟩ c29) rfl ?_
            have h78 := h31 c29
            refine am_wh 2 (pc1 := 135) (lv1 := [(7, .int (a5 + 1)), (6, .int (zg (s.2 31) a5.toInt)), (0, .ref 32), (1, .int a1), (2, .int a2), (3, .int a3), (4, .int a4), (5, .int a5)]) (st1 := [.int a5, .ref 32]) rfl ?_
            refine am_wc rfl rfl rfl ?_
            refine am_ww h78 ?_
            rintro _ _ ⟨v81, s79, rfl, rfl, h80⟩
            show am_W _ _ 141 138 [(7, .int (a5 + 1)), (6, .int (zg (s.2 31) a5.toInt)), (0, .ref 32), (1, .int a1), (2, .int a2), (3, .int a3), (4, .int a4), (5, .int a5)] [.int v81] (zH s79) _
            refine am_wh 7 (pc1 := 150) (lv1 := [(7, .int v81), (6, .int (zg (s.2 31) a5.toInt)), (0, .ref 32), (1, .int a1), (2, .int a2), (3, .int a3), (4, .int a4), (5, .int a5)]) (st1 := [.int ((s79.1 23) - 1), .ref 39]) rfl ?_
            obtain ⟨o82, h83⟩ := h80
            refine zw_li (l := (s79.2 37)) (i := ((s79.1 23).toInt - 1)) rfl rfl (zq_sub (zq_a _) (by decide)) o82 ?_
            refine am_wh 7 (pc1 := 163) (lv1 := [(8, .int (zg (s79.2 37) ((s79.1 23).toInt - 1))), (7, .int v81), (6, .int (zg (s.2 31) a5.toInt)), (0, .ref 32), (1, .int a1), (2, .int a2), (3, .int a3), (4, .int a4), (5, .int a5)]) (st1 := [.int ((s79.1 23) - 1), .ref 36]) rfl ?_
            obtain ⟨o84, h85⟩ := h83
            refine zw_li (l := (s79.2 34)) (i := ((s79.1 23).toInt - 1)) rfl rfl (zq_sub (zq_a _) (by decide)) o84 ?_
            refine am_wh 1 (pc1 := 165) (lv1 := [(8, .int (zg (s79.2 37) ((s79.1 23).toInt - 1))), (7, .int v81), (6, .int (zg (s.2 31) a5.toInt)), (0, .ref 32), (1, .int a1), (2, .int a2), (3, .int a3), (4, .int a4), (5, .int a5)]) (st1 := [.int 3, .int (zg (s79.2 34) ((s79.1 23).toInt - 1))]) rfl ?_
            obtain ⟨h87, h88⟩ := h85
            by_cases c86 : (zg (s79.2 34) ((s79.1 23).toInt - 1)).toInt = 3
            · refine am_wb2 rfl false (zn_ne (zq_a _) (by decide) (zr_t _) ⟨by decide, by decide⟩ c86) rfl ?_
              have h89 := h87 c86
              refine am_wh 7 (pc1 := 184) (lv1 := [(9, .int 1), (8, .int (zg (s79.2 37) ((s79.1 23).toInt - 1))), (7, .int v81), (6, .int (zg (s.2 31) a5.toInt)), (0, .ref 32), (1, .int a1), (2, .int a2), (3, .int a3), (4, .int a4), (5, .int a5)]) (st1 := [.int 40, .int (zg (s79.2 37) ((s79.1 23).toInt - 1))]) rfl ?_
              obtain ⟨h91, h92⟩ := h89
              by_cases c90 : (zg (s79.2 37) ((s79.1 23).toInt - 1)).toInt = 40
              · refine am_wb2 rfl true (zt_eq (zq_a _) (by decide) (zr_t _) ⟨by decide, by decide⟩ c90) rfl ?_
                have h93 := h91 c90
                refine am_wh 8 (pc1 := 24) (lv1 := [(5, .int v81), (2, .int (a2 + 1)), (9, .int 1), (8, .int (zg (s79.2 37) ((s79.1 23).toInt - 1))), (7, .int v81), (6, .int (zg (s.2 31) a5.toInt)), (0, .ref 32), (1, .int a1), (3, .int a3), (4, .int a4)]) (st1 := []) rfl ?_
                exact am_wm h93 ⟨rfl, rfl, rfl, rfl, rfl, rfl, trivial⟩
              · refine am_wb2 rfl false (zn_eq (zq_a _) (by decide) (zr_t _) ⟨by decide, by decide⟩ c90) rfl ?_
                have h94 := h92 c90
                refine am_wh 2 (pc1 := 191) (lv1 := [(9, .int 1), (8, .int (zg (s79.2 37) ((s79.1 23).toInt - 1))), (7, .int v81), (6, .int (zg (s.2 31) a5.toInt)), (0, .ref 32), (1, .int a1), (2, .int a2), (3, .int a3), (4, .int a4), (5, .int a5)]) (st1 := [.int 91, .int (zg (s79.2 37) ((s79.1 23).toInt - 1))]) rfl ?_
                obtain ⟨h96, h97⟩ := h94
                by_cases c95 : (zg (s79.2 37) ((s79.1 23).toInt - 1)).toInt = 91
                · refine am_wb2 rfl false (zn_ne (zq_a _) (by decide) (zr_t _) ⟨by decide, by decide⟩ c95) rfl ?_
                  have h98 := h96 c95
                  refine am_wh 8 (pc1 := 24) (lv1 := [(5, .int v81), (2, .int (a2 + 1)), (9, .int 1), (8, .int (zg (s79.2 37) ((s79.1 23).toInt - 1))), (7, .int v81), (6, .int (zg (s.2 31) a5.toInt)), (0, .ref 32), (1, .int a1), (3, .int a3), (4, .int a4)]) (st1 := []) rfl ?_
                  exact am_wm h98 ⟨rfl, rfl, rfl, rfl, rfl, rfl, trivial⟩
                · refine am_wb2 rfl true (zt_ne (zq_a _) (by decide) (zr_t _) ⟨by decide, by decide⟩ c95) rfl ?_
                  have h99 := h97 c95
                  refine am_wh 4 (pc1 := 209) (lv1 := [(9, .int 1), (8, .int (zg (s79.2 37) ((s79.1 23).toInt - 1))), (7, .int v81), (6, .int (zg (s.2 31) a5.toInt)), (0, .ref 32), (1, .int a1), (2, .int a2), (3, .int a3), (4, .int a4), (5, .int a5)]) (st1 := [.int 41, .int (zg (s79.2 37) ((s79.1 23).toInt - 1))]) rfl ?_
                  obtain ⟨h101, h102⟩ := h99
                  by_cases c100 : (zg (s79.2 37) ((s79.1 23).toInt - 1)).toInt = 41
                  · refine am_wb2 rfl true (zt_eq (zq_a _) (by decide) (zr_t _) ⟨by decide, by decide⟩ c100) rfl ?_
                    have h103 := h101 c100
                    refine am_wh 1 (pc1 := 220) (lv1 := [(9, .int 1), (8, .int (zg (s79.2 37) ((s79.1 23).toInt - 1))), (7, .int v81), (6, .int (zg (s.2 31) a5.toInt)), (0, .ref 32), (1, .int a1), (2, .int a2), (3, .int a3), (4, .int a4), (5, .int a5)]) (st1 := [.int a2]) rfl ?_
                    obtain ⟨h105, h106⟩ := h103
                    by_cases c104 : 0 < a2.toInt
                    · refine am_wb1 rfl false (zn_le (zq_a _) (by decide) (zr_t _) ⟨by decide, by decide⟩ c104) rfl ?_
                      have h107 := h105 c104
                      refine am_wh 8 (pc1 := 24) (lv1 := [(5, .int v81), (2, .int (a2 - 1)), (9, .int 1), (8, .int (zg (s79.2 37) ((s79.1 23).toInt - 1))), (7, .int v81), (6, .int (zg (s.2 31) a5.toInt)), (0, .ref 32), (1, .int a1), (3, .int a3), (4, .int a4)]) (st1 := []) rfl ?_
                      exact am_wm h107 ⟨rfl, rfl, rfl, rfl, rfl, rfl, trivial⟩
                    · refine am_wb1 rfl true (zt_le (zq_a _) (by decide) (zr_t _) ⟨by decide, by decide⟩ c104) rfl ?_
                      have h108 := h106 c104
                      refine am_wh 5 (pc1 := 24) (lv1 := [(5, .int v81), (2, .int a2), (9, .int 1), (8, .int (zg (s79.2 37) ((s79.1 23).toInt - 1))), (7, .int v81), (6, .int (zg (s.2 31) a5.toInt)), (0, .ref 32), (1, .int a1), (3, .int a3), (4, .int a4)]) (st1 := []) rfl ?_
                      exact am_wm h108 ⟨rfl, rfl, rfl, rfl, rfl, rfl, trivial⟩
                  · refine am_wb2 rfl false (zn_eq (zq_a _) (by decide) (zr_t _) ⟨by decide, by decide⟩ c100) rfl ?_
                    have h109 := h102 c100
                    refine am_wh 2 (pc1 := 216) (lv1 := [(9, .int 1), (8, .int (zg (s79.2 37) ((s79.1 23).toInt - 1))), (7, .int v81), (6, .int (zg (s.2 31) a5.toInt)), (0, .ref 32), (1, .int a1), (2, .int a2), (3, .int a3), (4, .int a4), (5, .int a5)]) (st1 := [.int 93, .int (zg (s79.2 37) ((s79.1 23).toInt - 1))]) rfl ?_
                    obtain ⟨h111, h112⟩ := h109
                    by_cases c110 : (zg (s79.2 37) ((s79.1 23).toInt - 1)).toInt = 93
                    · refine am_wb2 rfl false (zn_ne (zq_a _) (by decide) (zr_t _) ⟨by decide, by decide⟩ c110) rfl ?_
                      have h113 := h111 c110
                      refine am_wh 1 (pc1 := 220) (lv1 := [(9, .int 1), (8, .int (zg (s79.2 37) ((s79.1 23).toInt - 1))), (7, .int v81), (6, .int (zg (s.2 31) a5.toInt)), (0, .ref 32), (1, .int a1), (2, .int a2), (3, .int a3), (4, .int a4), (5, .int a5)]) (st1 := [.int a2]) rfl ?_
                      obtain ⟨h115, h116⟩ := h113
                      by_cases c114 : 0 < a2.toInt
                      · refine am_wb1 rfl false (zn_le (zq_a _) (by decide) (zr_t _) ⟨by decide, by decide⟩ c114) rfl ?_
                        have h117 := h115 c114
                        refine am_wh 8 (pc1 := 24) (lv1 := [(5, .int v81), (2, .int (a2 - 1)), (9, .int 1), (8, .int (zg (s79.2 37) ((s79.1 23).toInt - 1))), (7, .int v81), (6, .int (zg (s.2 31) a5.toInt)), (0, .ref 32), (1, .int a1), (3, .int a3), (4, .int a4)]) (st1 := []) rfl ?_
                        exact am_wm h117 ⟨rfl, rfl, rfl, rfl, rfl, rfl, trivial⟩
                      · refine am_wb1 rfl true (zt_le (zq_a _) (by decide) (zr_t _) ⟨by decide, by decide⟩ c114) rfl ?_
                        have h118 := h116 c114
                        refine am_wh 5 (pc1 := 24) (lv1 := [(5, .int v81), (2, .int a2), (9, .int 1), (8, .int (zg (s79.2 37) ((s79.1 23).toInt - 1))), (7, .int v81), (6, .int (zg (s.2 31) a5.toInt)), (0, .ref 32), (1, .int a1), (3, .int a3), (4, .int a4)]) (st1 := []) rfl ?_
                        exact am_wm h118 ⟨rfl, rfl, rfl, rfl, rfl, rfl, trivial⟩
                    · refine am_wb2 rfl true (zt_ne (zq_a _) (by decide) (zr_t _) ⟨by decide, by decide⟩ c110) rfl ?_
                      have h119 := h112 c110
                      refine am_wh 5 (pc1 := 24) (lv1 := [(5, .int v81), (2, .int a2), (9, .int 1), (8, .int (zg (s79.2 37) ((s79.1 23).toInt - 1))), (7, .int v81), (6, .int (zg (s.2 31) a5.toInt)), (0, .ref 32), (1, .int a1), (3, .int a3), (4, .int a4)]) (st1 := []) rfl ?_
                      exact am_wm h119 ⟨rfl, rfl, rfl, rfl, rfl, rfl, trivial⟩
            · refine am_wb2 rfl true (zt_ne (zq_a _) (by decide) (zr_t _) ⟨by decide, by decide⟩ c86) rfl ?_
              have h120 := h88 c86
              refine am_wh 11 (pc1 := 24) (lv1 := [(5, .int v81), (2, .int a2), (9, .int 0), (8, .int (zg (s79.2 37) ((s79.1 23).toInt - 1))), (7, .int v81), (6, .int (zg (s.2 31) a5.toInt)), (0, .ref 32), (1, .int a1), (3, .int a3), (4, .int a4)]) (st1 := []) rfl ?_
              exact am_wm h120 ⟨rfl, rfl, rfl, rfl, rfl, rfl, trivial⟩
  · refine am_wb2 rfl true (zt_ge (zq_a _) (zq_a _) (zr_t _) (zr_t _) c1) rfl ?_
    have h121 := h3 c1
    refine am_wh 2 (pc1 := 241) (lv1 := [(0, .ref 32), (1, .int a1), (2, .int a2), (3, .int a3), (4, .int a4), (5, .int a5)]) (st1 := [.int a4, .ref 32]) rfl ?_
    refine am_wc rfl rfl rfl ?_
    refine am_ww h121 ?_
    rintro _ _ ⟨s122, rfl, rfl, h123⟩
    show am_W _ _ 141 244 [(0, .ref 32), (1, .int a1), (2, .int a2), (3, .int a3), (4, .int a4), (5, .int a5)] [] (zH s122) _
    refine am_wh 2 (pc1 := 247) (lv1 := [(6, .int 1), (0, .ref 32), (1, .int a1), (2, .int a2), (3, .int a3), (4, .int a4), (5, .int a5)]) (st1 := []) rfl ?_
    exact am_wm h123 ⟨rfl, rfl, rfl, trivial⟩
set_option maxRecDepth 100000 in
theorem vc_141_55 (xs : Option (List Int32)) (d : Nat) (s : zS) (a1 : Int32) (a2 : Int32) (a3 : Int32) (a4 : Int32) (a7 : Int32) (Q : zS → Prop) (h : (a7.toInt < (s.1 21).toInt → (zX (s.2 31) a7.toInt ∧ ((zg (s.2 31) a7.toInt).toInt = 10 → (zWv xs (d + 1) 141 24 [(0, .ref 32), (1, .int a1), (2, .int a2), (3, .int a3), (4, .int a4), (5, .int a7)] s Q)) ∧ (¬ (zg (s.2 31) a7.toInt).toInt = 10 → (zWv xs (d + 1) 141 55 [(0, .ref 32), (1, .int a1), (2, .int a2), (3, .int a3), (4, .int a4), (7, .int (a7 + 1))] s Q)))) ∧ (¬ a7.toInt < (s.1 21).toInt → (zWv xs (d + 1) 141 24 [(0, .ref 32), (1, .int a1), (2, .int a2), (3, .int a3), (4, .int a4), (5, .int a7)] s Q))) : zWv xs (d + 1) 141 55 [(0, .ref 32), (1, .int a1), (2, .int a2), (3, .int a3), (4, .int a4), (7, .int a7)] s Q := by
  unfold zWv
  refine am_wh 3 (pc1 := 61) (lv1 := [(0, .ref 32), (1, .int a1), (2, .int a2), (3, .int a3), (4, .int a4), (7, .int a7)]) (st1 := [.int (s.1 21), .int a7]) rfl ?_
  obtain ⟨h2, h3⟩ := h
  by_cases c1 : a7.toInt < (s.1 21).toInt
  · refine am_wb2 rfl false (zn_ge (zq_a _) (zq_a _) (zr_t _) (zr_t _) c1) rfl ?_
    have h4 := h2 c1
    refine am_wh 3 (pc1 := 70) (lv1 := [(0, .ref 32), (1, .int a1), (2, .int a2), (3, .int a3), (4, .int a4), (7, .int a7)]) (st1 := [.int a7, .ref 33]) rfl ?_
    obtain ⟨o5, h6⟩ := h4
    refine zw_li (l := (s.2 31)) (i := a7.toInt) rfl rfl (zq_a _) o5 ?_
    refine am_wh 1 (pc1 := 73) (lv1 := [(0, .ref 32), (1, .int a1), (2, .int a2), (3, .int a3), (4, .int a4), (7, .int a7)]) (st1 := [.int 10, .int (zg (s.2 31) a7.toInt)]) rfl ?_
    obtain ⟨h8, h9⟩ := h6
    by_cases c7 : (zg (s.2 31) a7.toInt).toInt = 10
    · refine am_wb2 rfl true (zt_eq (zq_a _) (by decide) (zr_t _) ⟨by decide, by decide⟩ c7) rfl ?_
      have h10 := h8 c7
      refine am_wh 3 (pc1 := 24) (lv1 := [(5, .int a7), (0, .ref 32), (1, .int a1), (2, .int a2), (3, .int a3), (4, .int a4), (7, .int a7)]) (st1 := []) rfl ?_
      exact am_wm h10 ⟨rfl, rfl, rfl, rfl, rfl, rfl, trivial⟩
    · refine am_wb2 rfl false (zn_eq (zq_a _) (by decide) (zr_t _) ⟨by decide, by decide⟩ c7) rfl ?_
      have h11 := h9 c7
      refine am_wh 2 (pc1 := 55) (lv1 := [(7, .int (a7 + 1)), (0, .ref 32), (1, .int a1), (2, .int a2), (3, .int a3), (4, .int a4)]) (st1 := []) rfl ?_
      exact am_wm h11 ⟨rfl, rfl, rfl, rfl, rfl, rfl, trivial⟩
  · refine am_wb2 rfl true (zt_ge (zq_a _) (zq_a _) (zr_t _) (zr_t _) c1) rfl ?_
    have h12 := h3 c1
    refine am_wh 3 (pc1 := 24) (lv1 := [(5, .int a7), (0, .ref 32), (1, .int a1), (2, .int a2), (3, .int a3), (4, .int a4), (7, .int a7)]) (st1 := []) rfl ?_
    exact am_wm h12 ⟨rfl, rfl, rfl, rfl, rfl, rfl, trivial⟩
set_option maxRecDepth 100000 in
theorem vc_141_247 (xs : Option (List Int32)) (d : Nat) (s : zS) (a1 : Int32) (a6 : Int32) (Q : zS → Prop) (h : (a6.toInt < a1.toInt → (zWv xs d 140 0 [(0, .ref 32), (1, .int 6), (2, .int 0), (3, .int (s.1 21)), (4, .int (s.1 21))] s (fun s5 => zWv xs (d + 1) 141 247 [(0, .ref 32), (1, .int a1), (6, .int (a6 + 1))] s5 Q))) ∧ (¬ a6.toInt < a1.toInt → (zWv xs d 140 0 [(0, .ref 32), (1, .int 7), (2, .int 0), (3, .int (s.1 21)), (4, .int (s.1 21))] s (fun s8 => Q s8)))) : zWv xs (d + 1) 141 247 [(0, .ref 32), (1, .int a1), (6, .int a6)] s Q := by
  unfold zWv
  refine am_wh 2 (pc1 := 250) (lv1 := [(0, .ref 32), (1, .int a1), (6, .int a6)]) (st1 := [.int a1, .int a6]) rfl ?_
  obtain ⟨h2, h3⟩ := h
  by_cases c1 : a6.toInt < a1.toInt
  · refine am_wb2 rfl false (zn_ge (zq_a _) (zq_a _) (zr_t _) (zr_t _) c1) rfl ?_
    have h4 := h2 c1
    refine am_wh 7 (pc1 := 265) (lv1 := [(0, .ref 32), (1, .int a1), (6, .int a6)]) (st1 := [.int (s.1 21), .int (s.1 21), .int 0, .int 6, .ref 32]) rfl ?_
    refine am_wc rfl rfl rfl ?_
    refine am_ww h4 ?_
    rintro _ _ ⟨s5, rfl, rfl, h6⟩
    show am_W _ _ 141 268 [(0, .ref 32), (1, .int a1), (6, .int a6)] [] (zH s5) _
    refine am_wh 2 (pc1 := 247) (lv1 := [(6, .int (a6 + 1)), (0, .ref 32), (1, .int a1)]) (st1 := []) rfl ?_
    exact am_wm h6 ⟨rfl, rfl, rfl, trivial⟩
  · refine am_wb2 rfl true (zt_ge (zq_a _) (zq_a _) (zr_t _) (zr_t _) c1) rfl ?_
    have h7 := h3 c1
    refine am_wh 7 (pc1 := 286) (lv1 := [(0, .ref 32), (1, .int a1), (6, .int a6)]) (st1 := [.int (s.1 21), .int (s.1 21), .int 0, .int 7, .ref 32]) rfl ?_
    refine am_wc rfl rfl rfl ?_
    refine am_ww h7 ?_
    rintro _ _ ⟨s8, rfl, rfl, h9⟩
    show am_W _ _ 141 289 [(0, .ref 32), (1, .int a1), (6, .int a6)] [] (zH s8) _
    refine am_wr rfl rfl rfl ?_
    exact ⟨_, rfl, rfl, h9⟩
set_option maxRecDepth 100000 in
theorem vc_142_0 (xs : Option (List Int32)) (d : Nat) (s : zS) (a1 : Int32) (Q : zS → Prop) (h : (a1.toInt = 0 → (Q s)) ∧ (¬ a1.toInt = 0 → (zX (s.2 36) ((s.1 23).toInt - 1) ∧ zWv xs d 140 0 [(0, .ref 32), (1, .int 4), (2, .int 0), (3, .int (zg (s.2 36) ((s.1 23).toInt - 1))), (4, .int (zg (s.2 36) ((s.1 23).toInt - 1)))] s (fun s8 => Q s8)))) : zWv xs (d + 1) 142 0 [(0, .ref 32), (1, .int a1)] s Q := by
  unfold zWv
  refine am_wh 1 (pc1 := 1) (lv1 := [(0, .ref 32), (1, .int a1)]) (st1 := [.int a1]) rfl ?_
  obtain ⟨h2, h3⟩ := h
  by_cases c1 : a1.toInt = 0
  · refine am_wb1 rfl true (zt_eq (zq_a _) (by decide) (zr_t _) ⟨by decide, by decide⟩ c1) rfl ?_
    have h4 := h2 c1
    refine am_wr rfl rfl rfl ?_
    exact ⟨_, rfl, rfl, h4⟩
  · refine am_wb1 rfl false (zn_eq (zq_a _) (by decide) (zr_t _) ⟨by decide, by decide⟩ c1) rfl ?_
    have h5 := h3 c1
    refine am_wh 6 (pc1 := 14) (lv1 := [(0, .ref 32), (1, .int a1)]) (st1 := [.int ((s.1 23) - 1), .ref 38]) rfl ?_
    obtain ⟨o6, h7⟩ := h5
    refine zw_li (l := (s.2 36)) (i := ((s.1 23).toInt - 1)) rfl rfl (zq_sub (zq_a _) (by decide)) o6 ?_
    refine am_wh 6 (pc1 := 21) (lv1 := [(2, .int (zg (s.2 36) ((s.1 23).toInt - 1))), (0, .ref 32), (1, .int a1)]) (st1 := [.int (zg (s.2 36) ((s.1 23).toInt - 1)), .int (zg (s.2 36) ((s.1 23).toInt - 1)), .int 0, .int 4, .ref 32]) rfl ?_
    refine am_wc rfl rfl rfl ?_
    refine am_ww h7 ?_
    rintro _ _ ⟨s8, rfl, rfl, h9⟩
    show am_W _ _ 142 24 [(2, .int (zg (s.2 36) ((s.1 23).toInt - 1))), (0, .ref 32), (1, .int a1)] [] (zH s8) _
    refine am_wr rfl rfl rfl ?_
    exact ⟨_, rfl, rfl, h9⟩
set_option maxRecDepth 100000 in
theorem vc_143_0 (xs : Option (List Int32)) (d : Nat) (s : zS) (a1 : Int32) (a2 : Int32) (a3 : Int32) (Q : Int32 → zS → Prop) (h : zX (s.2 39) (a1.toInt - 1) ∧ zR (a3.toInt - a2.toInt) ∧ ((zg (s.2 39) (a1.toInt - 1)).toInt < (a3.toInt - a2.toInt) → (zX (s.2 39) a1.toInt ∧ zWv xs d 140 0 [(0, .ref 32), (1, .int 5), (2, .int 0), (3, .int a3), (4, .int a3)] (za s 39 (zu (s.2 39) a1.toInt (a3 - a2))) (fun s11 => Q (a1 + 1) s11))) ∧ (¬ (zg (s.2 39) (a1.toInt - 1)).toInt < (a3.toInt - a2.toInt) → (zWi xs (d + 1) 143 44 [(0, .ref 32), (3, .int a3), (4, .int (a3 - a2)), (5, .int a1)] s Q))) : zWi xs (d + 1) 143 0 [(0, .ref 32), (1, .int a1), (2, .int a2), (3, .int a3)] s Q := by
  unfold zWi
  refine am_wh 12 (pc1 := 18) (lv1 := [(5, .int a1), (4, .int (a3 - a2)), (0, .ref 32), (1, .int a1), (2, .int a2), (3, .int a3)]) (st1 := [.int (a1 - 1), .ref 41, .int (a3 - a2)]) rfl ?_
  obtain ⟨o1, h2⟩ := h
  refine zw_li (l := (s.2 39)) (i := (a1.toInt - 1)) rfl rfl (zq_sub (zq_a _) (by decide)) o1 ?_
  obtain ⟨o3, h4⟩ := h2
  obtain ⟨h6, h7⟩ := h4
  by_cases c5 : (zg (s.2 39) (a1.toInt - 1)).toInt < (a3.toInt - a2.toInt)
  · refine am_wb2 rfl false (zn_le (zq_sub (zq_a _) (zq_a _)) (zq_a _) o3 (zr_t _) c5) rfl ?_
    have h8 := h6 c5
    refine am_wh 4 (pc1 := 30) (lv1 := [(5, .int a1), (4, .int (a3 - a2)), (0, .ref 32), (1, .int a1), (2, .int a2), (3, .int a3)]) (st1 := [.int (a3 - a2), .int a1, .ref 41]) rfl ?_
    obtain ⟨o9, h10⟩ := h8
    refine zw_si (l := (s.2 39)) (i := a1.toInt) rfl rfl (zq_a _) o9 (zh_39 _ _) ?_
    refine am_wh 5 (pc1 := 36) (lv1 := [(5, .int a1), (4, .int (a3 - a2)), (0, .ref 32), (1, .int a1), (2, .int a2), (3, .int a3)]) (st1 := [.int a3, .int a3, .int 0, .int 5, .ref 32]) rfl ?_
    refine am_wc rfl rfl rfl ?_
    refine am_ww h10 ?_
    rintro _ _ ⟨s11, rfl, rfl, h12⟩
    show am_W _ _ 143 39 [(5, .int a1), (4, .int (a3 - a2)), (0, .ref 32), (1, .int a1), (2, .int a2), (3, .int a3)] [] (zH s11) _
    refine am_wh 3 (pc1 := 43) (lv1 := [(5, .int a1), (4, .int (a3 - a2)), (0, .ref 32), (1, .int a1), (2, .int a2), (3, .int a3)]) (st1 := [.int (a1 + 1)]) rfl ?_
    refine am_wr rfl rfl rfl ?_
    exact ⟨_, _, rfl, rfl, h12⟩
  · refine am_wb2 rfl true (zt_le (zq_sub (zq_a _) (zq_a _)) (zq_a _) o3 (zr_t _) c5) rfl ?_
    have h13 := h7 c5
    exact am_wm h13 ⟨rfl, rfl, rfl, rfl, trivial⟩
set_option maxRecDepth 100000 in
theorem vc_143_44 (xs : Option (List Int32)) (d : Nat) (s : zS) (a3 : Int32) (a4 : Int32) (a5 : Int32) (Q : Int32 → zS → Prop) (h : zX (s.2 39) (a5.toInt - 1) ∧ (a4.toInt < (zg (s.2 39) (a5.toInt - 1)).toInt → (zWv xs d 140 0 [(0, .ref 32), (1, .int 6), (2, .int 0), (3, .int a3), (4, .int a3)] s (fun s7 => zWi xs (d + 1) 143 44 [(0, .ref 32), (3, .int a3), (4, .int a4), (5, .int (a5 + (-1)))] s7 Q))) ∧ (¬ a4.toInt < (zg (s.2 39) (a5.toInt - 1)).toInt → ((a4.toInt = (zg (s.2 39) (a5.toInt - 1)).toInt → (Q a5 s)) ∧ (¬ a4.toInt = (zg (s.2 39) (a5.toInt - 1)).toInt → (zWv xs d 140 0 [(0, .ref 32), (1, .int 8), (2, .int 0), (3, .int a3), (4, .int a3)] s (fun s15 => Q a5 s15)))))) : zWi xs (d + 1) 143 44 [(0, .ref 32), (3, .int a3), (4, .int a4), (5, .int a5)] s Q := by
  unfold zWi
  refine am_wh 6 (pc1 := 54) (lv1 := [(0, .ref 32), (3, .int a3), (4, .int a4), (5, .int a5)]) (st1 := [.int (a5 - 1), .ref 41, .int a4]) rfl ?_
  obtain ⟨o1, h2⟩ := h
  refine zw_li (l := (s.2 39)) (i := (a5.toInt - 1)) rfl rfl (zq_sub (zq_a _) (by decide)) o1 ?_
  obtain ⟨h4, h5⟩ := h2
  by_cases c3 : a4.toInt < (zg (s.2 39) (a5.toInt - 1)).toInt
  · refine am_wb2 rfl false (zn_ge (zq_a _) (zq_a _) (zr_t _) (zr_t _) c3) rfl ?_
    have h6 := h4 c3
    refine am_wh 5 (pc1 := 64) (lv1 := [(0, .ref 32), (3, .int a3), (4, .int a4), (5, .int a5)]) (st1 := [.int a3, .int a3, .int 0, .int 6, .ref 32]) rfl ?_
    refine am_wc rfl rfl rfl ?_
    refine am_ww h6 ?_
    rintro _ _ ⟨s7, rfl, rfl, h8⟩
    show am_W _ _ 143 67 [(0, .ref 32), (3, .int a3), (4, .int a4), (5, .int a5)] [] (zH s7) _
    refine am_wh 2 (pc1 := 44) (lv1 := [(5, .int (a5 + (-1))), (0, .ref 32), (3, .int a3), (4, .int a4)]) (st1 := []) rfl ?_
    exact am_wm h8 ⟨rfl, rfl, rfl, rfl, trivial⟩
  · refine am_wb2 rfl true (zt_ge (zq_a _) (zq_a _) (zr_t _) (zr_t _) c3) rfl ?_
    have h9 := h5 c3
    refine am_wh 6 (pc1 := 83) (lv1 := [(0, .ref 32), (3, .int a3), (4, .int a4), (5, .int a5)]) (st1 := [.int (a5 - 1), .ref 41, .int a4]) rfl ?_
    refine zw_li (l := (s.2 39)) (i := (a5.toInt - 1)) rfl rfl (zq_sub (zq_a _) (by decide)) o1 ?_
    obtain ⟨h11, h12⟩ := h9
    by_cases c10 : a4.toInt = (zg (s.2 39) (a5.toInt - 1)).toInt
    · refine am_wb2 rfl true (zt_eq (zq_a _) (zq_a _) (zr_t _) (zr_t _) c10) rfl ?_
      have h13 := h11 c10
      refine am_wh 1 (pc1 := 98) (lv1 := [(0, .ref 32), (3, .int a3), (4, .int a4), (5, .int a5)]) (st1 := [.int a5]) rfl ?_
      refine am_wr rfl rfl rfl ?_
      exact ⟨_, _, rfl, rfl, h13⟩
    · refine am_wb2 rfl false (zn_eq (zq_a _) (zq_a _) (zr_t _) (zr_t _) c10) rfl ?_
      have h14 := h12 c10
      refine am_wh 5 (pc1 := 93) (lv1 := [(0, .ref 32), (3, .int a3), (4, .int a4), (5, .int a5)]) (st1 := [.int a3, .int a3, .int 0, .int 8, .ref 32]) rfl ?_
      refine am_wc rfl rfl rfl ?_
      refine am_ww h14 ?_
      rintro _ _ ⟨s15, rfl, rfl, h16⟩
      show am_W _ _ 143 96 [(0, .ref 32), (3, .int a3), (4, .int a4), (5, .int a5)] [] (zH s15) _
      refine am_wh 1 (pc1 := 98) (lv1 := [(0, .ref 32), (3, .int a3), (4, .int a4), (5, .int a5)]) (st1 := [.int a5]) rfl ?_
      refine am_wr rfl rfl rfl ?_
      exact ⟨_, _, rfl, rfl, h16⟩
set_option maxRecDepth 100000 in
theorem vc_144_0 (xs : Option (List Int32)) (d : Nat) (s : zS) (a1 : Int32) (Q : Int32 → zS → Prop) (h : zX (s.2 31) a1.toInt ∧ zWi xs d 138 0 [(0, .int (zg (s.2 31) a1.toInt))] s (fun v5 s3 => (v5.toInt = 0 → (zWi xs d 137 0 [(0, .int (zg (s.2 31) a1.toInt))] s3 (fun v12 s10 => (v12.toInt = 0 → (((zg (s.2 31) a1.toInt).toInt = 58 → (zR (a1.toInt + 1) ∧ ((a1.toInt + 1) < (s10.1 21).toInt → (zX (s10.2 31) (a1.toInt + 1) ∧ ((zg (s10.2 31) (a1.toInt + 1)).toInt = 61 → (zWv xs d 140 0 [(0, .ref 32), (1, .int 3), (2, .int 1), (3, .int a1), (4, .int ((a1 + 1) + 1))] s10 (fun s33 => Q ((a1 + 1) + 1) s33))) ∧ (¬ (zg (s10.2 31) (a1.toInt + 1)).toInt = 61 → (((zg (s.2 31) a1.toInt).toInt = 40 → (zWv xs d 140 0 [(0, .ref 32), (1, .int 3), (2, .int (zg (s.2 31) a1.toInt)), (3, .int a1), (4, .int (a1 + 1))] s10 (fun s40 => Q (a1 + 1) s40))) ∧ (¬ (zg (s.2 31) a1.toInt).toInt = 40 → (((zg (s.2 31) a1.toInt).toInt = 41 → (zWv xs d 140 0 [(0, .ref 32), (1, .int 3), (2, .int (zg (s.2 31) a1.toInt)), (3, .int a1), (4, .int (a1 + 1))] s10 (fun s47 => Q (a1 + 1) s47))) ∧ (¬ (zg (s.2 31) a1.toInt).toInt = 41 → (((zg (s.2 31) a1.toInt).toInt = 91 → (zWv xs d 140 0 [(0, .ref 32), (1, .int 3), (2, .int (zg (s.2 31) a1.toInt)), (3, .int a1), (4, .int (a1 + 1))] s10 (fun s54 => Q (a1 + 1) s54))) ∧ (¬ (zg (s.2 31) a1.toInt).toInt = 91 → (((zg (s.2 31) a1.toInt).toInt = 93 → (zWv xs d 140 0 [(0, .ref 32), (1, .int 3), (2, .int (zg (s.2 31) a1.toInt)), (3, .int a1), (4, .int (a1 + 1))] s10 (fun s61 => Q (a1 + 1) s61))) ∧ (¬ (zg (s.2 31) a1.toInt).toInt = 93 → (((zg (s.2 31) a1.toInt).toInt = 44 → (zWv xs d 140 0 [(0, .ref 32), (1, .int 3), (2, .int (zg (s.2 31) a1.toInt)), (3, .int a1), (4, .int (a1 + 1))] s10 (fun s68 => Q (a1 + 1) s68))) ∧ (¬ (zg (s.2 31) a1.toInt).toInt = 44 → (zWv xs d 140 0 [(0, .ref 32), (1, .int 3), (2, .int (zg (s.2 31) a1.toInt)), (3, .int a1), (4, .int (a1 + 1))] s10 (fun s71 => Q (a1 + 1) s71))))))))))))))) ∧ (¬ (a1.toInt + 1) < (s10.1 21).toInt → (((zg (s.2 31) a1.toInt).toInt = 40 → (zWv xs d 140 0 [(0, .ref 32), (1, .int 3), (2, .int (zg (s.2 31) a1.toInt)), (3, .int a1), (4, .int (a1 + 1))] s10 (fun s78 => Q (a1 + 1) s78))) ∧ (¬ (zg (s.2 31) a1.toInt).toInt = 40 → (((zg (s.2 31) a1.toInt).toInt = 41 → (zWv xs d 140 0 [(0, .ref 32), (1, .int 3), (2, .int (zg (s.2 31) a1.toInt)), (3, .int a1), (4, .int (a1 + 1))] s10 (fun s85 => Q (a1 + 1) s85))) ∧ (¬ (zg (s.2 31) a1.toInt).toInt = 41 → (((zg (s.2 31) a1.toInt).toInt = 91 → (zWv xs d 140 0 [(0, .ref 32), (1, .int 3), (2, .int (zg (s.2 31) a1.toInt)), (3, .int a1), (4, .int (a1 + 1))] s10 (fun s92 => Q (a1 + 1) s92))) ∧ (¬ (zg (s.2 31) a1.toInt).toInt = 91 → (((zg (s.2 31) a1.toInt).toInt = 93 → (zWv xs d 140 0 [(0, .ref 32), (1, .int 3), (2, .int (zg (s.2 31) a1.toInt)), (3, .int a1), (4, .int (a1 + 1))] s10 (fun s99 => Q (a1 + 1) s99))) ∧ (¬ (zg (s.2 31) a1.toInt).toInt = 93 → (((zg (s.2 31) a1.toInt).toInt = 44 → (zWv xs d 140 0 [(0, .ref 32), (1, .int 3), (2, .int (zg (s.2 31) a1.toInt)), (3, .int a1), (4, .int (a1 + 1))] s10 (fun s106 => Q (a1 + 1) s106))) ∧ (¬ (zg (s.2 31) a1.toInt).toInt = 44 → (zWv xs d 140 0 [(0, .ref 32), (1, .int 3), (2, .int (zg (s.2 31) a1.toInt)), (3, .int a1), (4, .int (a1 + 1))] s10 (fun s109 => Q (a1 + 1) s109))))))))))))))) ∧ (¬ (zg (s.2 31) a1.toInt).toInt = 58 → (((zg (s.2 31) a1.toInt).toInt = 40 → (zWv xs d 140 0 [(0, .ref 32), (1, .int 3), (2, .int (zg (s.2 31) a1.toInt)), (3, .int a1), (4, .int (a1 + 1))] s10 (fun s116 => Q (a1 + 1) s116))) ∧ (¬ (zg (s.2 31) a1.toInt).toInt = 40 → (((zg (s.2 31) a1.toInt).toInt = 41 → (zWv xs d 140 0 [(0, .ref 32), (1, .int 3), (2, .int (zg (s.2 31) a1.toInt)), (3, .int a1), (4, .int (a1 + 1))] s10 (fun s123 => Q (a1 + 1) s123))) ∧ (¬ (zg (s.2 31) a1.toInt).toInt = 41 → (((zg (s.2 31) a1.toInt).toInt = 91 → (zWv xs d 140 0 [(0, .ref 32), (1, .int 3), (2, .int (zg (s.2 31) a1.toInt)), (3, .int a1), (4, .int (a1 + 1))] s10 (fun s130 => Q (a1 + 1) s130))) ∧ (¬ (zg (s.2 31) a1.toInt).toInt = 91 → (((zg (s.2 31) a1.toInt).toInt = 93 → (zWv xs d 140 0 [(0, .ref 32), (1, .int 3), (2, .int (zg (s.2 31) a1.toInt)), (3, .int a1), (4, .int (a1 + 1))] s10 (fun s137 => Q (a1 + 1) s137))) ∧ (¬ (zg (s.2 31) a1.toInt).toInt = 93 → (((zg (s.2 31) a1.toInt).toInt = 44 → (zWv xs d 140 0 [(0, .ref 32), (1, .int 3), (2, .int (zg (s.2 31) a1.toInt)), (3, .int a1), (4, .int (a1 + 1))] s10 (fun s144 => Q (a1 + 1) s144))) ∧ (¬ (zg (s.2 31) a1.toInt).toInt = 44 → (((zg (s.2 31) a1.toInt).toInt = 61 → (zWv xs d 140 0 [(0, .ref 32), (1, .int 3), (2, .int (zg (s.2 31) a1.toInt)), (3, .int a1), (4, .int (a1 + 1))] s10 (fun s151 => Q (a1 + 1) s151))) ∧ (¬ (zg (s.2 31) a1.toInt).toInt = 61 → (((zg (s.2 31) a1.toInt).toInt = 43 → (zWv xs d 140 0 [(0, .ref 32), (1, .int 3), (2, .int (zg (s.2 31) a1.toInt)), (3, .int a1), (4, .int (a1 + 1))] s10 (fun s158 => Q (a1 + 1) s158))) ∧ (¬ (zg (s.2 31) a1.toInt).toInt = 43 → (zWv xs d 140 0 [(0, .ref 32), (1, .int 8), (2, .int (zg (s.2 31) a1.toInt)), (3, .int a1), (4, .int (a1 + 1))] s10 (fun s161 => Q (a1 + 1) s161))))))))))))))))))) ∧ (¬ v12.toInt = 0 → (zWi xs (d + 1) 144 123 [(0, .ref 32), (1, .int a1), (3, .int (a1 + 1))] s10 Q))))) ∧ (¬ v5.toInt = 0 → (zWi xs (d + 1) 144 22 [(0, .ref 32), (1, .int a1), (3, .int (a1 + 1)), (4, .long (Int32.toInt64 (zg (s.2 31) a1.toInt)))] s3 Q)))) : zWi xs (d + 1) 144 0 [(0, .ref 32), (1, .int a1)] s Q := by
  unfold zWi
  refine am_wh 3 (pc1 := 5) (lv1 := [(0, .ref 32), (1, .int a1)]) (st1 := [.int a1, .ref 33]) rfl ?_
  obtain ⟨o1, h2⟩ := h
  refine zw_li (l := (s.2 31)) (i := a1.toInt) rfl rfl (zq_a _) o1 ?_
  refine am_wh 6 (pc1 := 12) (lv1 := [(3, .int (a1 + 1)), (2, .int (zg (s.2 31) a1.toInt)), (0, .ref 32), (1, .int a1)]) (st1 := [.int (zg (s.2 31) a1.toInt)]) rfl ?_
  refine am_wc rfl rfl rfl ?_
  refine am_ww h2 ?_
  rintro _ _ ⟨v5, s3, rfl, rfl, h4⟩
  show am_W _ _ 144 15 [(3, .int (a1 + 1)), (2, .int (zg (s.2 31) a1.toInt)), (0, .ref 32), (1, .int a1)] [.int v5] (zH s3) _
  obtain ⟨h7, h8⟩ := h4
  by_cases c6 : v5.toInt = 0
  · refine am_wb1 rfl true (zt_eq (zq_a _) (by decide) (zr_t _) ⟨by decide, by decide⟩ c6) rfl ?_
    have h9 := h7 c6
    refine am_wh 1 (pc1 := 117) (lv1 := [(3, .int (a1 + 1)), (2, .int (zg (s.2 31) a1.toInt)), (0, .ref 32), (1, .int a1)]) (st1 := [.int (zg (s.2 31) a1.toInt)]) rfl ?_
    refine am_wc rfl rfl rfl ?_
    refine am_ww h9 ?_
    rintro _ _ ⟨v12, s10, rfl, rfl, h11⟩
    show am_W _ _ 144 120 [(3, .int (a1 + 1)), (2, .int (zg (s.2 31) a1.toInt)), (0, .ref 32), (1, .int a1)] [.int v12] (zH s10) _
    obtain ⟨h14, h15⟩ := h11
    by_cases c13 : v12.toInt = 0
    · refine am_wb1 rfl true (zt_eq (zq_a _) (by decide) (zr_t _) ⟨by decide, by decide⟩ c13) rfl ?_
      have h16 := h14 c13
      refine am_wh 2 (pc1 := 163) (lv1 := [(3, .int (a1 + 1)), (2, .int (zg (s.2 31) a1.toInt)), (0, .ref 32), (1, .int a1)]) (st1 := [.int 58, .int (zg (s.2 31) a1.toInt)]) rfl ?_
      obtain ⟨h18, h19⟩ := h16
      by_cases c17 : (zg (s.2 31) a1.toInt).toInt = 58
      · refine am_wb2 rfl false (zn_ne (zq_a _) (by decide) (zr_t _) ⟨by decide, by decide⟩ c17) rfl ?_
        have h20 := h18 c17
        refine am_wh 3 (pc1 := 171) (lv1 := [(3, .int (a1 + 1)), (2, .int (zg (s.2 31) a1.toInt)), (0, .ref 32), (1, .int a1)]) (st1 := [.int (s10.1 21), .int (a1 + 1)]) rfl ?_
        obtain ⟨o21, h22⟩ := h20
        obtain ⟨h24, h25⟩ := h22
        by_cases c23 : (a1.toInt + 1) < (s10.1 21).toInt
        · refine am_wb2 rfl false (zn_ge (zq_add (zq_a _) (by decide)) (zq_a _) o21 (zr_t _) c23) rfl ?_
          have h26 := h24 c23
          refine am_wh 3 (pc1 := 179) (lv1 := [(3, .int (a1 + 1)), (2, .int (zg (s.2 31) a1.toInt)), (0, .ref 32), (1, .int a1)]) (st1 := [.int (a1 + 1), .ref 33]) rfl ?_
          obtain ⟨o27, h28⟩ := h26
          refine zw_li (l := (s10.2 31)) (i := (a1.toInt + 1)) rfl rfl (zq_add (zq_a _) (by decide)) o27 ?_
          refine am_wh 1 (pc1 := 182) (lv1 := [(3, .int (a1 + 1)), (2, .int (zg (s.2 31) a1.toInt)), (0, .ref 32), (1, .int a1)]) (st1 := [.int 61, .int (zg (s10.2 31) (a1.toInt + 1))]) rfl ?_
          obtain ⟨h30, h31⟩ := h28
          by_cases c29 : (zg (s10.2 31) (a1.toInt + 1)).toInt = 61
          · refine am_wb2 rfl false (zn_ne (zq_a _) (by decide) (zr_t _) ⟨by decide, by decide⟩ c29) rfl ?_
            have h32 := h30 c29
            refine am_wh 6 (pc1 := 193) (lv1 := [(3, .int ((a1 + 1) + 1)), (2, .int (zg (s.2 31) a1.toInt)), (0, .ref 32), (1, .int a1)]) (st1 := [.int ((a1 + 1) + 1), .int a1, .int 1, .int 3, .ref 32]) rfl ?_
            refine am_wc rfl rfl rfl ?_
            refine am_ww h32 ?_
            rintro _ _ ⟨s33, rfl, rfl, h34⟩
            show am_W _ _ 144 196 [(3, .int ((a1 + 1) + 1)), (2, .int (zg (s.2 31) a1.toInt)), (0, .ref 32), (1, .int a1)] [] (zH s33) _
            refine am_wh 2 (pc1 := 273) (lv1 := [(3, .int ((a1 + 1) + 1)), (2, .int (zg (s.2 31) a1.toInt)), (0, .ref 32), (1, .int a1)]) (st1 := [.int ((a1 + 1) + 1)]) rfl ?_
            refine am_wr rfl rfl rfl ?_
            exact ⟨_, _, rfl, rfl, h34⟩
          · refine am_wb2 rfl true (zt_ne (zq_a _) (by decide) (zr_t _) ⟨by decide, by decide⟩ c29) rfl ?_
            have h35 := h31 c29
            refine am_wh 2 (pc1 := 202) (lv1 := [(3, .int (a1 + 1)), (2, .int (zg (s.2 31) a1.toInt)), (0, .ref 32), (1, .int a1)]) (st1 := [.int 40, .int (zg (s.2 31) a1.toInt)]) rfl ?_
            obtain ⟨h37, h38⟩ := h35
            by_cases c36 : (zg (s.2 31) a1.toInt).toInt = 40
            · refine am_wb2 rfl true (zt_eq (zq_a _) (by decide) (zr_t _) ⟨by decide, by decide⟩ c36) rfl ?_
              have h39 := h37 c36
              refine am_wh 11 (pc1 := 269) (lv1 := [(4, .int 1), (3, .int (a1 + 1)), (2, .int (zg (s.2 31) a1.toInt)), (0, .ref 32), (1, .int a1)]) (st1 := [.int (a1 + 1), .int a1, .int (zg (s.2 31) a1.toInt), .int 3, .ref 32]) rfl ?_
              refine am_wc rfl rfl rfl ?_
              refine am_ww h39 ?_
              rintro _ _ ⟨s40, rfl, rfl, h41⟩
              show am_W _ _ 144 272 [(4, .int 1), (3, .int (a1 + 1)), (2, .int (zg (s.2 31) a1.toInt)), (0, .ref 32), (1, .int a1)] [] (zH s40) _
              refine am_wh 1 (pc1 := 273) (lv1 := [(4, .int 1), (3, .int (a1 + 1)), (2, .int (zg (s.2 31) a1.toInt)), (0, .ref 32), (1, .int a1)]) (st1 := [.int (a1 + 1)]) rfl ?_
              refine am_wr rfl rfl rfl ?_
              exact ⟨_, _, rfl, rfl, h41⟩
            · refine am_wb2 rfl false (zn_eq (zq_a _) (by decide) (zr_t _) ⟨by decide, by decide⟩ c36) rfl ?_
              have h42 := h38 c36
              refine am_wh 2 (pc1 := 208) (lv1 := [(3, .int (a1 + 1)), (2, .int (zg (s.2 31) a1.toInt)), (0, .ref 32), (1, .int a1)]) (st1 := [.int 41, .int (zg (s.2 31) a1.toInt)]) rfl ?_
              obtain ⟨h44, h45⟩ := h42
              by_cases c43 : (zg (s.2 31) a1.toInt).toInt = 41
              · refine am_wb2 rfl true (zt_eq (zq_a _) (by decide) (zr_t _) ⟨by decide, by decide⟩ c43) rfl ?_
                have h46 := h44 c43
                refine am_wh 11 (pc1 := 269) (lv1 := [(4, .int 1), (3, .int (a1 + 1)), (2, .int (zg (s.2 31) a1.toInt)), (0, .ref 32), (1, .int a1)]) (st1 := [.int (a1 + 1), .int a1, .int (zg (s.2 31) a1.toInt), .int 3, .ref 32]) rfl ?_
                refine am_wc rfl rfl rfl ?_
                refine am_ww h46 ?_
                rintro _ _ ⟨s47, rfl, rfl, h48⟩
                show am_W _ _ 144 272 [(4, .int 1), (3, .int (a1 + 1)), (2, .int (zg (s.2 31) a1.toInt)), (0, .ref 32), (1, .int a1)] [] (zH s47) _
                refine am_wh 1 (pc1 := 273) (lv1 := [(4, .int 1), (3, .int (a1 + 1)), (2, .int (zg (s.2 31) a1.toInt)), (0, .ref 32), (1, .int a1)]) (st1 := [.int (a1 + 1)]) rfl ?_
                refine am_wr rfl rfl rfl ?_
                exact ⟨_, _, rfl, rfl, h48⟩
              · refine am_wb2 rfl false (zn_eq (zq_a _) (by decide) (zr_t _) ⟨by decide, by decide⟩ c43) rfl ?_
                have h49 := h45 c43
                refine am_wh 2 (pc1 := 214) (lv1 := [(3, .int (a1 + 1)), (2, .int (zg (s.2 31) a1.toInt)), (0, .ref 32), (1, .int a1)]) (st1 := [.int 91, .int (zg (s.2 31) a1.toInt)]) rfl ?_
                obtain ⟨h51, h52⟩ := h49
                by_cases c50 : (zg (s.2 31) a1.toInt).toInt = 91
                · refine am_wb2 rfl true (zt_eq (zq_a _) (by decide) (zr_t _) ⟨by decide, by decide⟩ c50) rfl ?_
                  have h53 := h51 c50
                  refine am_wh 11 (pc1 := 269) (lv1 := [(4, .int 1), (3, .int (a1 + 1)), (2, .int (zg (s.2 31) a1.toInt)), (0, .ref 32), (1, .int a1)]) (st1 := [.int (a1 + 1), .int a1, .int (zg (s.2 31) a1.toInt), .int 3, .ref 32]) rfl ?_
                  refine am_wc rfl rfl rfl ?_
                  refine am_ww h53 ?_
                  rintro _ _ ⟨s54, rfl, rfl, h55⟩
                  show am_W _ _ 144 272 [(4, .int 1), (3, .int (a1 + 1)), (2, .int (zg (s.2 31) a1.toInt)), (0, .ref 32), (1, .int a1)] [] (zH s54) _
                  refine am_wh 1 (pc1 := 273) (lv1 := [(4, .int 1), (3, .int (a1 + 1)), (2, .int (zg (s.2 31) a1.toInt)), (0, .ref 32), (1, .int a1)]) (st1 := [.int (a1 + 1)]) rfl ?_
                  refine am_wr rfl rfl rfl ?_
                  exact ⟨_, _, rfl, rfl, h55⟩
                · refine am_wb2 rfl false (zn_eq (zq_a _) (by decide) (zr_t _) ⟨by decide, by decide⟩ c50) rfl ?_
                  have h56 := h52 c50
                  refine am_wh 2 (pc1 := 220) (lv1 := [(3, .int (a1 + 1)), (2, .int (zg (s.2 31) a1.toInt)), (0, .ref 32), (1, .int a1)]) (st1 := [.int 93, .int (zg (s.2 31) a1.toInt)]) rfl ?_
                  obtain ⟨h58, h59⟩ := h56
                  by_cases c57 : (zg (s.2 31) a1.toInt).toInt = 93
                  · refine am_wb2 rfl true (zt_eq (zq_a _) (by decide) (zr_t _) ⟨by decide, by decide⟩ c57) rfl ?_
                    have h60 := h58 c57
                    refine am_wh 11 (pc1 := 269) (lv1 := [(4, .int 1), (3, .int (a1 + 1)), (2, .int (zg (s.2 31) a1.toInt)), (0, .ref 32), (1, .int a1)]) (st1 := [.int (a1 + 1), .int a1, .int (zg (s.2 31) a1.toInt), .int 3, .ref 32]) rfl ?_
                    refine am_wc rfl rfl rfl ?_
                    refine am_ww h60 ?_
                    rintro _ _ ⟨s61, rfl, rfl, h62⟩
                    show am_W _ _ 144 272 [(4, .int 1), (3, .int (a1 + 1)), (2, .int (zg (s.2 31) a1.toInt)), (0, .ref 32), (1, .int a1)] [] (zH s61) _
                    refine am_wh 1 (pc1 := 273) (lv1 := [(4, .int 1), (3, .int (a1 + 1)), (2, .int (zg (s.2 31) a1.toInt)), (0, .ref 32), (1, .int a1)]) (st1 := [.int (a1 + 1)]) rfl ?_
                    refine am_wr rfl rfl rfl ?_
                    exact ⟨_, _, rfl, rfl, h62⟩
                  · refine am_wb2 rfl false (zn_eq (zq_a _) (by decide) (zr_t _) ⟨by decide, by decide⟩ c57) rfl ?_
                    have h63 := h59 c57
                    refine am_wh 2 (pc1 := 226) (lv1 := [(3, .int (a1 + 1)), (2, .int (zg (s.2 31) a1.toInt)), (0, .ref 32), (1, .int a1)]) (st1 := [.int 44, .int (zg (s.2 31) a1.toInt)]) rfl ?_
                    obtain ⟨h65, h66⟩ := h63
                    by_cases c64 : (zg (s.2 31) a1.toInt).toInt = 44
                    · refine am_wb2 rfl true (zt_eq (zq_a _) (by decide) (zr_t _) ⟨by decide, by decide⟩ c64) rfl ?_
                      have h67 := h65 c64
                      refine am_wh 11 (pc1 := 269) (lv1 := [(4, .int 1), (3, .int (a1 + 1)), (2, .int (zg (s.2 31) a1.toInt)), (0, .ref 32), (1, .int a1)]) (st1 := [.int (a1 + 1), .int a1, .int (zg (s.2 31) a1.toInt), .int 3, .ref 32]) rfl ?_
                      refine am_wc rfl rfl rfl ?_
                      refine am_ww h67 ?_
                      rintro _ _ ⟨s68, rfl, rfl, h69⟩
                      show am_W _ _ 144 272 [(4, .int 1), (3, .int (a1 + 1)), (2, .int (zg (s.2 31) a1.toInt)), (0, .ref 32), (1, .int a1)] [] (zH s68) _
                      refine am_wh 1 (pc1 := 273) (lv1 := [(4, .int 1), (3, .int (a1 + 1)), (2, .int (zg (s.2 31) a1.toInt)), (0, .ref 32), (1, .int a1)]) (st1 := [.int (a1 + 1)]) rfl ?_
                      refine am_wr rfl rfl rfl ?_
                      exact ⟨_, _, rfl, rfl, h69⟩
                    · refine am_wb2 rfl false (zn_eq (zq_a _) (by decide) (zr_t _) ⟨by decide, by decide⟩ c64) rfl ?_
                      have h70 := h66 c64
                      refine am_wh 2 (pc1 := 232) (lv1 := [(3, .int (a1 + 1)), (2, .int (zg (s.2 31) a1.toInt)), (0, .ref 32), (1, .int a1)]) (st1 := [.int 58, .int (zg (s.2 31) a1.toInt)]) rfl ?_
                      refine am_wb2 rfl true (zt_eq (zq_a _) (by decide) (zr_t _) ⟨by decide, by decide⟩ c17) rfl ?_
                      refine am_wh 11 (pc1 := 269) (lv1 := [(4, .int 1), (3, .int (a1 + 1)), (2, .int (zg (s.2 31) a1.toInt)), (0, .ref 32), (1, .int a1)]) (st1 := [.int (a1 + 1), .int a1, .int (zg (s.2 31) a1.toInt), .int 3, .ref 32]) rfl ?_
                      refine am_wc rfl rfl rfl ?_
                      refine am_ww h70 ?_
                      rintro _ _ ⟨s71, rfl, rfl, h72⟩
                      show am_W _ _ 144 272 [(4, .int 1), (3, .int (a1 + 1)), (2, .int (zg (s.2 31) a1.toInt)), (0, .ref 32), (1, .int a1)] [] (zH s71) _
                      refine am_wh 1 (pc1 := 273) (lv1 := [(4, .int 1), (3, .int (a1 + 1)), (2, .int (zg (s.2 31) a1.toInt)), (0, .ref 32), (1, .int a1)]) (st1 := [.int (a1 + 1)]) rfl ?_
                      refine am_wr rfl rfl rfl ?_
                      exact ⟨_, _, rfl, rfl, h72⟩
        · refine am_wb2 rfl true (zt_ge (zq_add (zq_a _) (by decide)) (zq_a _) o21 (zr_t _) c23) rfl ?_
          have h73 := h25 c23
          refine am_wh 2 (pc1 := 202) (lv1 := [(3, .int (a1 + 1)), (2, .int (zg (s.2 31) a1.toInt)), (0, .ref 32), (1, .int a1)]) (st1 := [.int 40, .int (zg (s.2 31) a1.toInt)]) rfl ?_
          obtain ⟨h75, h76⟩ := h73
          by_cases c74 : (zg (s.2 31) a1.toInt).toInt = 40
          · refine am_wb2 rfl true (zt_eq (zq_a _) (by decide) (zr_t _) ⟨by decide, by decide⟩ c74) rfl ?_
            have h77 := h75 c74
            refine am_wh 11 (pc1 := 269) (lv1 := [(4, .int 1), (3, .int (a1 + 1)), (2, .int (zg (s.2 31) a1.toInt)), (0, .ref 32), (1, .int a1)]) (st1 := [.int (a1 + 1), .int a1, .int (zg (s.2 31) a1.toInt), .int 3, .ref 32]) rfl ?_
            refine am_wc rfl rfl rfl ?_
            refine am_ww h77 ?_
            rintro _ _ ⟨s78, rfl, rfl, h79⟩
            show am_W _ _ 144 272 [(4, .int 1), (3, .int (a1 + 1)), (2, .int (zg (s.2 31) a1.toInt)), (0, .ref 32), (1, .int a1)] [] (zH s78) _
            refine am_wh 1 (pc1 := 273) (lv1 := [(4, .int 1), (3, .int (a1 + 1)), (2, .int (zg (s.2 31) a1.toInt)), (0, .ref 32), (1, .int a1)]) (st1 := [.int (a1 + 1)]) rfl ?_
            refine am_wr rfl rfl rfl ?_
            exact ⟨_, _, rfl, rfl, h79⟩
          · refine am_wb2 rfl false (zn_eq (zq_a _) (by decide) (zr_t _) ⟨by decide, by decide⟩ c74) rfl ?_
            have h80 := h76 c74
            refine am_wh 2 (pc1 := 208) (lv1 := [(3, .int (a1 + 1)), (2, .int (zg (s.2 31) a1.toInt)), (0, .ref 32), (1, .int a1)]) (st1 := [.int 41, .int (zg (s.2 31) a1.toInt)]) rfl ?_
            obtain ⟨h82, h83⟩ := h80
            by_cases c81 : (zg (s.2 31) a1.toInt).toInt = 41
            · refine am_wb2 rfl true (zt_eq (zq_a _) (by decide) (zr_t _) ⟨by decide, by decide⟩ c81) rfl ?_
              have h84 := h82 c81
              refine am_wh 11 (pc1 := 269) (lv1 := [(4, .int 1), (3, .int (a1 + 1)), (2, .int (zg (s.2 31) a1.toInt)), (0, .ref 32), (1, .int a1)]) (st1 := [.int (a1 + 1), .int a1, .int (zg (s.2 31) a1.toInt), .int 3, .ref 32]) rfl ?_
              refine am_wc rfl rfl rfl ?_
              refine am_ww h84 ?_
              rintro _ _ ⟨s85, rfl, rfl, h86⟩
              show am_W _ _ 144 272 [(4, .int 1), (3, .int (a1 + 1)), (2, .int (zg (s.2 31) a1.toInt)), (0, .ref 32), (1, .int a1)] [] (zH s85) _
              refine am_wh 1 (pc1 := 273) (lv1 := [(4, .int 1), (3, .int (a1 + 1)), (2, .int (zg (s.2 31) a1.toInt)), (0, .ref 32), (1, .int a1)]) (st1 := [.int (a1 + 1)]) rfl ?_
              refine am_wr rfl rfl rfl ?_
              exact ⟨_, _, rfl, rfl, h86⟩
            · refine am_wb2 rfl false (zn_eq (zq_a _) (by decide) (zr_t _) ⟨by decide, by decide⟩ c81) rfl ?_
              have h87 := h83 c81
              refine am_wh 2 (pc1 := 214) (lv1 := [(3, .int (a1 + 1)), (2, .int (zg (s.2 31) a1.toInt)), (0, .ref 32), (1, .int a1)]) (st1 := [.int 91, .int (zg (s.2 31) a1.toInt)]) rfl ?_
              obtain ⟨h89, h90⟩ := h87
              by_cases c88 : (zg (s.2 31) a1.toInt).toInt = 91
              · refine am_wb2 rfl true (zt_eq (zq_a _) (by decide) (zr_t _) ⟨by decide, by decide⟩ c88) rfl ?_
                have h91 := h89 c88
                refine am_wh 11 (pc1 := 269) (lv1 := [(4, .int 1), (3, .int (a1 + 1)), (2, .int (zg (s.2 31) a1.toInt)), (0, .ref 32), (1, .int a1)]) (st1 := [.int (a1 + 1), .int a1, .int (zg (s.2 31) a1.toInt), .int 3, .ref 32]) rfl ?_
                refine am_wc rfl rfl rfl ?_
                refine am_ww h91 ?_
                rintro _ _ ⟨s92, rfl, rfl, h93⟩
                show am_W _ _ 144 272 [(4, .int 1), (3, .int (a1 + 1)), (2, .int (zg (s.2 31) a1.toInt)), (0, .ref 32), (1, .int a1)] [] (zH s92) _
                refine am_wh 1 (pc1 := 273) (lv1 := [(4, .int 1), (3, .int (a1 + 1)), (2, .int (zg (s.2 31) a1.toInt)), (0, .ref 32), (1, .int a1)]) (st1 := [.int (a1 + 1)]) rfl ?_
                refine am_wr rfl rfl rfl ?_
                exact ⟨_, _, rfl, rfl, h93⟩
              · refine am_wb2 rfl false (zn_eq (zq_a _) (by decide) (zr_t _) ⟨by decide, by decide⟩ c88) rfl ?_
                have h94 := h90 c88
                refine am_wh 2 (pc1 := 220) (lv1 := [(3, .int (a1 + 1)), (2, .int (zg (s.2 31) a1.toInt)), (0, .ref 32), (1, .int a1)]) (st1 := [.int 93, .int (zg (s.2 31) a1.toInt)]) rfl ?_
                obtain ⟨h96, h97⟩ := h94
                by_cases c95 : (zg (s.2 31) a1.toInt).toInt = 93
                · refine am_wb2 rfl true (zt_eq (zq_a _) (by decide) (zr_t _) ⟨by decide, by decide⟩ c95) rfl ?_
                  have h98 := h96 c95
                  refine am_wh 11 (pc1 := 269) (lv1 := [(4, .int 1), (3, .int (a1 + 1)), (2, .int (zg (s.2 31) a1.toInt)), (0, .ref 32), (1, .int a1)]) (st1 := [.int (a1 + 1), .int a1, .int (zg (s.2 31) a1.toInt), .int 3, .ref 32]) rfl ?_
                  refine am_wc rfl rfl rfl ?_
                  refine am_ww h98 ?_
                  rintro _ _ ⟨s99, rfl, rfl, h100⟩
                  show am_W _ _ 144 272 [(4, .int 1), (3, .int (a1 + 1)), (2, .int (zg (s.2 31) a1.toInt)), (0, .ref 32), (1, .int a1)] [] (zH s99) _
                  refine am_wh 1 (pc1 := 273) (lv1 := [(4, .int 1), (3, .int (a1 + 1)), (2, .int (zg (s.2 31) a1.toInt)), (0, .ref 32), (1, .int a1)]) (st1 := [.int (a1 + 1)]) rfl ?_
                  refine am_wr rfl rfl rfl ?_
                  exact ⟨_, _, rfl, rfl, h100⟩
                · refine am_wb2 rfl false (zn_eq (zq_a _) (by decide) (zr_t _) ⟨by decide, by decide⟩ c95) rfl ?_
                  have h101 := h97 c95
                  refine am_wh 2 (pc1 := 226) (lv1 := [(3, .int (a1 + 1)), (2, .int (zg (s.2 31) a1.toInt)), (0, .ref 32), (1, .int a1)]) (st1 := [.int 44, .int (zg (s.2 31) a1.toInt)]) rfl ?_
                  obtain ⟨h103, h104⟩ := h101
                  by_cases c102 : (zg (s.2 31) a1.toInt).toInt = 44
                  · refine am_wb2 rfl true (zt_eq (zq_a _) (by decide) (zr_t _) ⟨by decide, by decide⟩ c102) rfl ?_
                    have h105 := h103 c102
                    refine am_wh 11 (pc1 := 269) (lv1 := [(4, .int 1), (3, .int (a1 + 1)), (2, .int (zg (s.2 31) a1.toInt)), (0, .ref 32), (1, .int a1)]) (st1 := [.int (a1 + 1), .int a1, .int (zg (s.2 31) a1.toInt), .int 3, .ref 32]) rfl ?_
                    refine am_wc rfl rfl rfl ?_
                    refine am_ww h105 ?_
                    rintro _ _ ⟨s106, rfl, rfl, h107⟩
                    show am_W _ _ 144 272 [(4, .int 1), (3, .int (a1 + 1)), (2, .int (zg (s.2 31) a1.toInt)), (0, .ref 32), (1, .int a1)] [] (zH s106) _
                    refine am_wh 1 (pc1 := 273) (lv1 := [(4, .int 1), (3, .int (a1 + 1)), (2, .int (zg (s.2 31) a1.toInt)), (0, .ref 32), (1, .int a1)]) (st1 := [.int (a1 + 1)]) rfl ?_
                    refine am_wr rfl rfl rfl ?_
                    exact ⟨_, _, rfl, rfl, h107⟩
                  · refine am_wb2 rfl false (zn_eq (zq_a _) (by decide) (zr_t _) ⟨by decide, by decide⟩ c102) rfl ?_
                    have h108 := h104 c102
                    refine am_wh 2 (pc1 := 232) (lv1 := [(3, .int (a1 + 1)), (2, .int (zg (s.2 31) a1.toInt)), (0, .ref 32), (1, .int a1)]) (st1 := [.int 58, .int (zg (s.2 31) a1.toInt)]) rfl ?_
                    refine am_wb2 rfl true (zt_eq (zq_a _) (by decide) (zr_t _) ⟨by decide, by decide⟩ c17) rfl ?_
                    refine am_wh 11 (pc1 := 269) (lv1 := [(4, .int 1), (3, .int (a1 + 1)), (2, .int (zg (s.2 31) a1.toInt)), (0, .ref 32), (1, .int a1)]) (st1 := [.int (a1 + 1), .int a1, .int (zg (s.2 31) a1.toInt), .int 3, .ref 32]) rfl ?_
                    refine am_wc rfl rfl rfl ?_
                    refine am_ww h108 ?_
                    rintro _ _ ⟨s109, rfl, rfl, h110⟩
                    show am_W _ _ 144 272 [(4, .int 1), (3, .int (a1 + 1)), (2, .int (zg (s.2 31) a1.toInt)), (0, .ref 32), (1, .int a1)] [] (zH s109) _
                    refine am_wh 1 (pc1 := 273) (lv1 := [(4, .int 1), (3, .int (a1 + 1)), (2, .int (zg (s.2 31) a1.toInt)), (0, .ref 32), (1, .int a1)]) (st1 := [.int (a1 + 1)]) rfl ?_
                    refine am_wr rfl rfl rfl ?_
                    exact ⟨_, _, rfl, rfl, h110⟩
      · refine am_wb2 rfl true (zt_ne (zq_a _) (by decide) (zr_t _) ⟨by decide, by decide⟩ c17) rfl ?_
        have h111 := h19 c17
        refine am_wh 2 (pc1 := 202) (lv1 := [(3, .int (a1 + 1)), (2, .int (zg (s.2 31) a1.toInt)), (0, .ref 32), (1, .int a1)]) (st1 := [.int 40, .int (zg (s.2 31) a1.toInt)]) rfl ?_
        obtain ⟨h113, h114⟩ := h111
        by_cases c112 : (zg (s.2 31) a1.toInt).toInt = 40
        · refine am_wb2 rfl true (zt_eq (zq_a _) (by decide) (zr_t _) ⟨by decide, by decide⟩ c112) rfl ?_
          have h115 := h113 c112
          refine am_wh 11 (pc1 := 269) (lv1 := [(4, .int 1), (3, .int (a1 + 1)), (2, .int (zg (s.2 31) a1.toInt)), (0, .ref 32), (1, .int a1)]) (st1 := [.int (a1 + 1), .int a1, .int (zg (s.2 31) a1.toInt), .int 3, .ref 32]) rfl ?_
          refine am_wc rfl rfl rfl ?_
          refine am_ww h115 ?_
          rintro _ _ ⟨s116, rfl, rfl, h117⟩
          show am_W _ _ 144 272 [(4, .int 1), (3, .int (a1 + 1)), (2, .int (zg (s.2 31) a1.toInt)), (0, .ref 32), (1, .int a1)] [] (zH s116) _
          refine am_wh 1 (pc1 := 273) (lv1 := [(4, .int 1), (3, .int (a1 + 1)), (2, .int (zg (s.2 31) a1.toInt)), (0, .ref 32), (1, .int a1)]) (st1 := [.int (a1 + 1)]) rfl ?_
          refine am_wr rfl rfl rfl ?_
          exact ⟨_, _, rfl, rfl, h117⟩
        · refine am_wb2 rfl false (zn_eq (zq_a _) (by decide) (zr_t _) ⟨by decide, by decide⟩ c112) rfl ?_
          have h118 := h114 c112
          refine am_wh 2 (pc1 := 208) (lv1 := [(3, .int (a1 + 1)), (2, .int (zg (s.2 31) a1.toInt)), (0, .ref 32), (1, .int a1)]) (st1 := [.int 41, .int (zg (s.2 31) a1.toInt)]) rfl ?_
          obtain ⟨h120, h121⟩ := h118
          by_cases c119 : (zg (s.2 31) a1.toInt).toInt = 41
          · refine am_wb2 rfl true (zt_eq (zq_a _) (by decide) (zr_t _) ⟨by decide, by decide⟩ c119) rfl ?_
            have h122 := h120 c119
            refine am_wh 11 (pc1 := 269) (lv1 := [(4, .int 1), (3, .int (a1 + 1)), (2, .int (zg (s.2 31) a1.toInt)), (0, .ref 32), (1, .int a1)]) (st1 := [.int (a1 + 1), .int a1, .int (zg (s.2 31) a1.toInt), .int 3, .ref 32]) rfl ?_
            refine am_wc rfl rfl rfl ?_
            refine am_ww h122 ?_
            rintro _ _ ⟨s123, rfl, rfl, h124⟩
            show am_W _ _ 144 272 [(4, .int 1), (3, .int (a1 + 1)), (2, .int (zg (s.2 31) a1.toInt)), (0, .ref 32), (1, .int a1)] [] (zH s123) _
            refine am_wh 1 (pc1 := 273) (lv1 := [(4, .int 1), (3, .int (a1 + 1)), (2, .int (zg (s.2 31) a1.toInt)), (0, .ref 32), (1, .int a1)]) (st1 := [.int (a1 + 1)]) rfl ?_
            refine am_wr rfl rfl rfl ?_
            exact ⟨_, _, rfl, rfl, h124⟩
          · refine am_wb2 rfl false (zn_eq (zq_a _) (by decide) (zr_t _) ⟨by decide, by decide⟩ c119) rfl ?_
            have h125 := h121 c119
            refine am_wh 2 (pc1 := 214) (lv1 := [(3, .int (a1 + 1)), (2, .int (zg (s.2 31) a1.toInt)), (0, .ref 32), (1, .int a1)]) (st1 := [.int 91, .int (zg (s.2 31) a1.toInt)]) rfl ?_
            obtain ⟨h127, h128⟩ := h125
            by_cases c126 : (zg (s.2 31) a1.toInt).toInt = 91
            · refine am_wb2 rfl true (zt_eq (zq_a _) (by decide) (zr_t _) ⟨by decide, by decide⟩ c126) rfl ?_
              have h129 := h127 c126
              refine am_wh 11 (pc1 := 269) (lv1 := [(4, .int 1), (3, .int (a1 + 1)), (2, .int (zg (s.2 31) a1.toInt)), (0, .ref 32), (1, .int a1)]) (st1 := [.int (a1 + 1), .int a1, .int (zg (s.2 31) a1.toInt), .int 3, .ref 32]) rfl ?_
              refine am_wc rfl rfl rfl ?_
              refine am_ww h129 ?_
              rintro _ _ ⟨s130, rfl, rfl, h131⟩
              show am_W _ _ 144 272 [(4, .int 1), (3, .int (a1 + 1)), (2, .int (zg (s.2 31) a1.toInt)), (0, .ref 32), (1, .int a1)] [] (zH s130) _
              refine am_wh 1 (pc1 := 273) (lv1 := [(4, .int 1), (3, .int (a1 + 1)), (2, .int (zg (s.2 31) a1.toInt)), (0, .ref 32), (1, .int a1)]) (st1 := [.int (a1 + 1)]) rfl ?_
              refine am_wr rfl rfl rfl ?_
              exact ⟨_, _, rfl, rfl, h131⟩
            · refine am_wb2 rfl false (zn_eq (zq_a _) (by decide) (zr_t _) ⟨by decide, by decide⟩ c126) rfl ?_
              have h132 := h128 c126
              refine am_wh 2 (pc1 := 220) (lv1 := [(3, .int (a1 + 1)), (2, .int (zg (s.2 31) a1.toInt)), (0, .ref 32), (1, .int a1)]) (st1 := [.int 93, .int (zg (s.2 31) a1.toInt)]) rfl ?_
              obtain ⟨h134, h135⟩ := h132
              by_cases c133 : (zg (s.2 31) a1.toInt).toInt = 93
              · refine am_wb2 rfl true (zt_eq (zq_a _) (by decide) (zr_t _) ⟨by decide, by decide⟩ c133) rfl ?_
                have h136 := h134 c133
                refine am_wh 11 (pc1 := 269) (lv1 := [(4, .int 1), (3, .int (a1 + 1)), (2, .int (zg (s.2 31) a1.toInt)), (0, .ref 32), (1, .int a1)]) (st1 := [.int (a1 + 1), .int a1, .int (zg (s.2 31) a1.toInt), .int 3, .ref 32]) rfl ?_
                refine am_wc rfl rfl rfl ?_
                refine am_ww h136 ?_
                rintro _ _ ⟨s137, rfl, rfl, h138⟩
                show am_W _ _ 144 272 [(4, .int 1), (3, .int (a1 + 1)), (2, .int (zg (s.2 31) a1.toInt)), (0, .ref 32), (1, .int a1)] [] (zH s137) _
                refine am_wh 1 (pc1 := 273) (lv1 := [(4, .int 1), (3, .int (a1 + 1)), (2, .int (zg (s.2 31) a1.toInt)), (0, .ref 32), (1, .int a1)]) (st1 := [.int (a1 + 1)]) rfl ?_
                refine am_wr rfl rfl rfl ?_
                exact ⟨_, _, rfl, rfl, h138⟩
              · refine am_wb2 rfl false (zn_eq (zq_a _) (by decide) (zr_t _) ⟨by decide, by decide⟩ c133) rfl ?_
                have h139 := h135 c133
                refine am_wh 2 (pc1 := 226) (lv1 := [(3, .int (a1 + 1)), (2, .int (zg (s.2 31) a1.toInt)), (0, .ref 32), (1, .int a1)]) (st1 := [.int 44, .int (zg (s.2 31) a1.toInt)]) rfl ?_
                obtain ⟨h141, h142⟩ := h139
                by_cases c140 : (zg (s.2 31) a1.toInt).toInt = 44
                · refine am_wb2 rfl true (zt_eq (zq_a _) (by decide) (zr_t _) ⟨by decide, by decide⟩ c140) rfl ?_
                  have h143 := h141 c140
                  refine am_wh 11 (pc1 := 269) (lv1 := [(4, .int 1), (3, .int (a1 + 1)), (2, .int (zg (s.2 31) a1.toInt)), (0, .ref 32), (1, .int a1)]) (st1 := [.int (a1 + 1), .int a1, .int (zg (s.2 31) a1.toInt), .int 3, .ref 32]) rfl ?_
                  refine am_wc rfl rfl rfl ?_
                  refine am_ww h143 ?_
                  rintro _ _ ⟨s144, rfl, rfl, h145⟩
                  show am_W _ _ 144 272 [(4, .int 1), (3, .int (a1 + 1)), (2, .int (zg (s.2 31) a1.toInt)), (0, .ref 32), (1, .int a1)] [] (zH s144) _
                  refine am_wh 1 (pc1 := 273) (lv1 := [(4, .int 1), (3, .int (a1 + 1)), (2, .int (zg (s.2 31) a1.toInt)), (0, .ref 32), (1, .int a1)]) (st1 := [.int (a1 + 1)]) rfl ?_
                  refine am_wr rfl rfl rfl ?_
                  exact ⟨_, _, rfl, rfl, h145⟩
                · refine am_wb2 rfl false (zn_eq (zq_a _) (by decide) (zr_t _) ⟨by decide, by decide⟩ c140) rfl ?_
                  have h146 := h142 c140
                  refine am_wh 2 (pc1 := 232) (lv1 := [(3, .int (a1 + 1)), (2, .int (zg (s.2 31) a1.toInt)), (0, .ref 32), (1, .int a1)]) (st1 := [.int 58, .int (zg (s.2 31) a1.toInt)]) rfl ?_
                  refine am_wb2 rfl false (zn_eq (zq_a _) (by decide) (zr_t _) ⟨by decide, by decide⟩ c17) rfl ?_
                  refine am_wh 2 (pc1 := 238) (lv1 := [(3, .int (a1 + 1)), (2, .int (zg (s.2 31) a1.toInt)), (0, .ref 32), (1, .int a1)]) (st1 := [.int 61, .int (zg (s.2 31) a1.toInt)]) rfl ?_
                  obtain ⟨h148, h149⟩ := h146
                  by_cases c147 : (zg (s.2 31) a1.toInt).toInt = 61
                  · refine am_wb2 rfl true (zt_eq (zq_a _) (by decide) (zr_t _) ⟨by decide, by decide⟩ c147) rfl ?_
                    have h150 := h148 c147
                    refine am_wh 11 (pc1 := 269) (lv1 := [(4, .int 1), (3, .int (a1 + 1)), (2, .int (zg (s.2 31) a1.toInt)), (0, .ref 32), (1, .int a1)]) (st1 := [.int (a1 + 1), .int a1, .int (zg (s.2 31) a1.toInt), .int 3, .ref 32]) rfl ?_
                    refine am_wc rfl rfl rfl ?_
                    refine am_ww h150 ?_
                    rintro _ _ ⟨s151, rfl, rfl, h152⟩
                    show am_W _ _ 144 272 [(4, .int 1), (3, .int (a1 + 1)), (2, .int (zg (s.2 31) a1.toInt)), (0, .ref 32), (1, .int a1)] [] (zH s151) _
                    refine am_wh 1 (pc1 := 273) (lv1 := [(4, .int 1), (3, .int (a1 + 1)), (2, .int (zg (s.2 31) a1.toInt)), (0, .ref 32), (1, .int a1)]) (st1 := [.int (a1 + 1)]) rfl ?_
                    refine am_wr rfl rfl rfl ?_
                    exact ⟨_, _, rfl, rfl, h152⟩
                  · refine am_wb2 rfl false (zn_eq (zq_a _) (by decide) (zr_t _) ⟨by decide, by decide⟩ c147) rfl ?_
                    have h153 := h149 c147
                    refine am_wh 2 (pc1 := 244) (lv1 := [(3, .int (a1 + 1)), (2, .int (zg (s.2 31) a1.toInt)), (0, .ref 32), (1, .int a1)]) (st1 := [.int 43, .int (zg (s.2 31) a1.toInt)]) rfl ?_
                    obtain ⟨h155, h156⟩ := h153
                    by_cases c154 : (zg (s.2 31) a1.toInt).toInt = 43
                    · refine am_wb2 rfl false (zn_ne (zq_a _) (by decide) (zr_t _) ⟨by decide, by decide⟩ c154) rfl ?_
                      have h157 := h155 c154
                      refine am_wh 11 (pc1 := 269) (lv1 := [(4, .int 1), (3, .int (a1 + 1)), (2, .int (zg (s.2 31) a1.toInt)), (0, .ref 32), (1, .int a1)]) (st1 := [.int (a1 + 1), .int a1, .int (zg (s.2 31) a1.toInt), .int 3, .ref 32]) rfl ?_
                      refine am_wc rfl rfl rfl ?_
                      refine am_ww h157 ?_
                      rintro _ _ ⟨s158, rfl, rfl, h159⟩
                      show am_W _ _ 144 272 [(4, .int 1), (3, .int (a1 + 1)), (2, .int (zg (s.2 31) a1.toInt)), (0, .ref 32), (1, .int a1)] [] (zH s158) _
                      refine am_wh 1 (pc1 := 273) (lv1 := [(4, .int 1), (3, .int (a1 + 1)), (2, .int (zg (s.2 31) a1.toInt)), (0, .ref 32), (1, .int a1)]) (st1 := [.int (a1 + 1)]) rfl ?_
                      refine am_wr rfl rfl rfl ?_
                      exact ⟨_, _, rfl, rfl, h159⟩
                    · refine am_wb2 rfl true (zt_ne (zq_a _) (by decide) (zr_t _) ⟨by decide, by decide⟩ c154) rfl ?_
                      have h160 := h156 c154
                      refine am_wh 9 (pc1 := 269) (lv1 := [(4, .int 0), (3, .int (a1 + 1)), (2, .int (zg (s.2 31) a1.toInt)), (0, .ref 32), (1, .int a1)]) (st1 := [.int (a1 + 1), .int a1, .int (zg (s.2 31) a1.toInt), .int 8, .ref 32]) rfl ?_
                      refine am_wc rfl rfl rfl ?_
                      refine am_ww h160 ?_
                      rintro _ _ ⟨s161, rfl, rfl, h162⟩
                      show am_W _ _ 144 272 [(4, .int 0), (3, .int (a1 + 1)), (2, .int (zg (s.2 31) a1.toInt)), (0, .ref 32), (1, .int a1)] [] (zH s161) _
                      refine am_wh 1 (pc1 := 273) (lv1 := [(4, .int 0), (3, .int (a1 + 1)), (2, .int (zg (s.2 31) a1.toInt)), (0, .ref 32), (1, .int a1)]) (st1 := [.int (a1 + 1)]) rfl ?_
                      refine am_wr rfl rfl rfl ?_
                      exact ⟨_, _, rfl, rfl, h162⟩
    · refine am_wb1 rfl false (zn_eq (zq_a _) (by decide) (zr_t _) ⟨by decide, by decide⟩ c13) rfl ?_
      have h163 := h15 c13
      exact am_wm h163 ⟨rfl, rfl, rfl, trivial⟩
  · refine am_wb1 rfl false (zn_eq (zq_a _) (by decide) (zr_t _) ⟨by decide, by decide⟩ c6) rfl ?_
    have h164 := h8 c6
    refine am_wh 3 (pc1 := 22) (lv1 := [(4, .long (Int32.toInt64 (zg (s.2 31) a1.toInt))), (3, .int (a1 + 1)), (2, .int (zg (s.2 31) a1.toInt)), (0, .ref 32), (1, .int a1)]) (st1 := []) rfl ?_
    exact am_wm h164 ⟨rfl, rfl, rfl, rfl, trivial⟩
set_option maxRecDepth 100000 in
theorem vc_144_22 (xs : Option (List Int32)) (d : Nat) (s : zS) (a1 : Int32) (a3 : Int32) (a4 : Int64) (Q : Int32 → zS → Prop) (h : (a3.toInt < (s.1 21).toInt → (zX (s.2 31) a3.toInt ∧ zWi xs d 138 0 [(0, .int (zg (s.2 31) a3.toInt))] s (fun v9 s7 => (v9.toInt = 0 → (zX (s7.2 31) a3.toInt ∧ zWi xs d 137 0 [(0, .int (zg (s7.2 31) a3.toInt))] s7 (fun v18 s16 => (v18.toInt = 0 → (zR (a3.toInt - a1.toInt) ∧ (8 < (a3.toInt - a1.toInt) → (zWv xs d 140 0 [(0, .ref 32), (1, .int 0), (2, .int 0), (3, .int a1), (4, .int a3)] s16 (fun s29 => Q a3 s29))) ∧ (¬ 8 < (a3.toInt - a1.toInt) → (zWi xs d 139 0 [(0, .long a4)] s16 (fun v34 s32 => (0 < v34.toInt → (zWv xs d 140 0 [(0, .ref 32), (1, .int 2), (2, .int v34), (3, .int a1), (4, .int a3)] s32 (fun s39 => Q a3 s39))) ∧ (¬ 0 < v34.toInt → (zWv xs d 140 0 [(0, .ref 32), (1, .int 0), (2, .int v34), (3, .int a1), (4, .int a3)] s32 (fun s42 => Q a3 s42)))))))) ∧ (¬ v18.toInt = 0 → (zX (s16.2 31) a3.toInt ∧ zWi xs (d + 1) 144 22 [(0, .ref 32), (1, .int a1), (3, .int (a3 + 1)), (4, .long ((a4 * 256) + (Int32.toInt64 (zg (s16.2 31) a3.toInt))))] s16 Q))))) ∧ (¬ v9.toInt = 0 → (zX (s7.2 31) a3.toInt ∧ zWi xs (d + 1) 144 22 [(0, .ref 32), (1, .int a1), (3, .int (a3 + 1)), (4, .long ((a4 * 256) + (Int32.toInt64 (zg (s7.2 31) a3.toInt))))] s7 Q))))) ∧ (¬ a3.toInt < (s.1 21).toInt → (zR (a3.toInt - a1.toInt) ∧ (8 < (a3.toInt - a1.toInt) → (zWv xs d 140 0 [(0, .ref 32), (1, .int 0), (2, .int 0), (3, .int a1), (4, .int a3)] s (fun s57 => Q a3 s57))) ∧ (¬ 8 < (a3.toInt - a1.toInt) → (zWi xs d 139 0 [(0, .long a4)] s (fun v62 s60 => (0 < v62.toInt → (zWv xs d 140 0 [(0, .ref 32), (1, .int 2), (2, .int v62), (3, .int a1), (4, .int a3)] s60 (fun s67 => Q a3 s67))) ∧ (¬ 0 < v62.toInt → (zWv xs d 140 0 [(0, .ref 32), (1, .int 0), (2, .int v62), (3, .int a1), (4, .int a3)] s60 (fun s70 => Q a3 s70))))))))) : zWi xs (d + 1) 144 22 [(0, .ref 32), (1, .int a1), (3, .int a3), (4, .long a4)] s Q := by
  unfold zWi
  refine am_wh 3 (pc1 := 27) (lv1 := [(0, .ref 32), (1, .int a1), (3, .int a3), (4, .long a4)]) (st1 := [.int (s.1 21), .int a3]) rfl ?_
  obtain ⟨h2, h3⟩ := h
  by_cases c1 : a3.toInt < (s.1 21).toInt
  · refine am_wb2 rfl false (zn_ge (zq_a _) (zq_a _) (zr_t _) (zr_t _) c1) rfl ?_
    have h4 := h2 c1
    refine am_wh 3 (pc1 := 35) (lv1 := [(0, .ref 32), (1, .int a1), (3, .int a3), (4, .long a4)]) (st1 := [.int a3, .ref 33]) rfl ?_
    obtain ⟨o5, h6⟩ := h4
    refine zw_li (l := (s.2 31)) (i := a3.toInt) rfl rfl (zq_a _) o5 ?_
    refine am_wc rfl rfl rfl ?_
    refine am_ww h6 ?_
    rintro _ _ ⟨v9, s7, rfl, rfl, h8⟩
    show am_W _ _ 144 39 [(0, .ref 32), (1, .int a1), (3, .int a3), (4, .long a4)] [.int v9] (zH s7) _
    obtain ⟨h11, h12⟩ := h8
    by_cases c10 : v9.toInt = 0
    · refine am_wb1 rfl false (zn_ne (zq_a _) (by decide) (zr_t _) ⟨by decide, by decide⟩ c10) rfl ?_
      have h13 := h11 c10
      refine am_wh 3 (pc1 := 47) (lv1 := [(0, .ref 32), (1, .int a1), (3, .int a3), (4, .long a4)]) (st1 := [.int a3, .ref 33]) rfl ?_
      obtain ⟨o14, h15⟩ := h13
      refine zw_li (l := (s7.2 31)) (i := a3.toInt) rfl rfl (zq_a _) o14 ?_
      refine am_wc rfl rfl rfl ?_
      refine am_ww h15 ?_
      rintro _ _ ⟨v18, s16, rfl, rfl, h17⟩
      show am_W _ _ 144 51 [(0, .ref 32), (1, .int a1), (3, .int a3), (4, .long a4)] [.int v18] (zH s16) _
      obtain ⟨h20, h21⟩ := h17
      by_cases c19 : v18.toInt = 0
      · refine am_wb1 rfl true (zt_eq (zq_a _) (by decide) (zr_t _) ⟨by decide, by decide⟩ c19) rfl ?_
        have h22 := h20 c19
        refine am_wh 4 (pc1 := 81) (lv1 := [(0, .ref 32), (1, .int a1), (3, .int a3), (4, .long a4)]) (st1 := [.int 8, .int (a3 - a1)]) rfl ?_
        obtain ⟨o23, h24⟩ := h22
        obtain ⟨h26, h27⟩ := h24
        by_cases c25 : 8 < (a3.toInt - a1.toInt)
        · refine am_wb2 rfl false (zn_le (zq_sub (zq_a _) (zq_a _)) (by decide) o23 ⟨by decide, by decide⟩ c25) rfl ?_
          have h28 := h26 c25
          refine am_wh 10 (pc1 := 110) (lv1 := [(6, .int 0), (0, .ref 32), (1, .int a1), (3, .int a3), (4, .long a4)]) (st1 := [.int a3, .int a1, .int 0, .int 0, .ref 32]) rfl ?_
          refine am_wc rfl rfl rfl ?_
          refine am_ww h28 ?_
          rintro _ _ ⟨s29, rfl, rfl, h30⟩
          show am_W _ _ 144 113 [(6, .int 0), (0, .ref 32), (1, .int a1), (3, .int a3), (4, .long a4)] [] (zH s29) _
          refine am_wh 2 (pc1 := 273) (lv1 := [(6, .int 0), (0, .ref 32), (1, .int a1), (3, .int a3), (4, .long a4)]) (st1 := [.int a3]) rfl ?_
          refine am_wr rfl rfl rfl ?_
          exact ⟨_, _, rfl, rfl, h30⟩
        · refine am_wb2 rfl true (zt_le (zq_sub (zq_a _) (zq_a _)) (by decide) o23 ⟨by decide, by decide⟩ c25) rfl ?_
          have h31 := h27 c25
          refine am_wh 1 (pc1 := 90) (lv1 := [(0, .ref 32), (1, .int a1), (3, .int a3), (4, .long a4)]) (st1 := [.long a4]) rfl ?_
          refine am_wc rfl rfl rfl ?_
          refine am_ww h31 ?_
          rintro _ _ ⟨v34, s32, rfl, rfl, h33⟩
          show am_W _ _ 144 93 [(0, .ref 32), (1, .int a1), (3, .int a3), (4, .long a4)] [.int v34] (zH s32) _
          refine am_wh 3 (pc1 := 98) (lv1 := [(6, .int v34), (0, .ref 32), (1, .int a1), (3, .int a3), (4, .long a4)]) (st1 := [.int v34, .ref 32]) rfl ?_
          obtain ⟨h36, h37⟩ := h33
          by_cases c35 : 0 < v34.toInt
          · refine am_wb1 rfl false (zn_le (zq_a _) (by decide) (zr_t _) ⟨by decide, by decide⟩ c35) rfl ?_
            have h38 := h36 c35
            refine am_wh 5 (pc1 := 110) (lv1 := [(6, .int v34), (0, .ref 32), (1, .int a1), (3, .int a3), (4, .long a4)]) (st1 := [.int a3, .int a1, .int v34, .int 2, .ref 32]) rfl ?_
            refine am_wc rfl rfl rfl ?_
            refine am_ww h38 ?_
            rintro _ _ ⟨s39, rfl, rfl, h40⟩
            show am_W _ _ 144 113 [(6, .int v34), (0, .ref 32), (1, .int a1), (3, .int a3), (4, .long a4)] [] (zH s39) _
            refine am_wh 2 (pc1 := 273) (lv1 := [(6, .int v34), (0, .ref 32), (1, .int a1), (3, .int a3), (4, .long a4)]) (st1 := [.int a3]) rfl ?_
            refine am_wr rfl rfl rfl ?_
            exact ⟨_, _, rfl, rfl, h40⟩
          · refine am_wb1 rfl true (zt_le (zq_a _) (by decide) (zr_t _) ⟨by decide, by decide⟩ c35) rfl ?_
            have h41 := h37 c35
            refine am_wh 4 (pc1 := 110) (lv1 := [(6, .int v34), (0, .ref 32), (1, .int a1), (3, .int a3), (4, .long a4)]) (st1 := [.int a3, .int a1, .int v34, .int 0, .ref 32]) rfl ?_
            refine am_wc rfl rfl rfl ?_
            refine am_ww h41 ?_
            rintro _ _ ⟨s42, rfl, rfl, h43⟩
            show am_W _ _ 144 113 [(6, .int v34), (0, .ref 32), (1, .int a1), (3, .int a3), (4, .long a4)] [] (zH s42) _
            refine am_wh 2 (pc1 := 273) (lv1 := [(6, .int v34), (0, .ref 32), (1, .int a1), (3, .int a3), (4, .long a4)]) (st1 := [.int a3]) rfl ?_
            refine am_wr rfl rfl rfl ?_
            exact ⟨_, _, rfl, rfl, h43⟩
      · refine am_wb1 rfl false (zn_eq (zq_a _) (by decide) (zr_t _) ⟨by decide, by decide⟩ c19) rfl ?_
        have h44 := h21 c19
        refine am_wh 6 (pc1 := 65) (lv1 := [(0, .ref 32), (1, .int a1), (3, .int a3), (4, .long a4)]) (st1 := [.int a3, .ref 33, .long (a4 * 256)]) rfl ?_
        obtain ⟨o45, h46⟩ := h44
        refine zw_li (l := (s16.2 31)) (i := a3.toInt) rfl rfl (zq_a _) o45 ?_
        refine am_wh 5 (pc1 := 22) (lv1 := [(3, .int (a3 + 1)), (4, .long ((a4 * 256) + (Int32.toInt64 (zg (s16.2 31) a3.toInt)))), (0, .ref 32), (1, .int a1)]) (st1 := []) rfl ?_
        exact am_wm h46 ⟨rfl, rfl, rfl, rfl, trivial⟩
    · refine am_wb1 rfl true (zt_ne (zq_a _) (by decide) (zr_t _) ⟨by decide, by decide⟩ c10) rfl ?_
      have h47 := h12 c10
      refine am_wh 6 (pc1 := 65) (lv1 := [(0, .ref 32), (1, .int a1), (3, .int a3), (4, .long a4)]) (st1 := [.int a3, .ref 33, .long (a4 * 256)]) rfl ?_
      obtain ⟨o48, h49⟩ := h47
      refine zw_li (l := (s7.2 31)) (i := a3.toInt) rfl rfl (zq_a _) o48 ?_
      refine am_wh 5 (pc1 := 22) (lv1 := [(3, .int (a3 + 1)), (4, .long ((a4 * 256) + (Int32.toInt64 (zg (s7.2 31) a3.toInt)))), (0, .ref 32), (1, .int a1)]) (st1 := []) rfl ?_
      exact am_wm h49 ⟨rfl, rfl, rfl, rfl, trivial⟩
  · refine am_wb2 rfl true (zt_ge (zq_a _) (zq_a _) (zr_t _) (zr_t _) c1) rfl ?_
    have h50 := h3 c1
    refine am_wh 4 (pc1 := 81) (lv1 := [(0, .ref 32), (1, .int a1), (3, .int a3), (4, .long a4)]) (st1 := [.int 8, .int (a3 - a1)]) rfl ?_
    obtain ⟨o51, h52⟩ := h50
    obtain ⟨h54, h55⟩ := h52
    by_cases c53 : 8 < (a3.toInt - a1.toInt)
    · refine am_wb2 rfl false (zn_le (zq_sub (zq_a _) (zq_a _)) (by decide) o51 ⟨by decide, by decide⟩ c53) rfl ?_
      have h56 := h54 c53
      refine am_wh 10 (pc1 := 110) (lv1 := [(6, .int 0), (0, .ref 32), (1, .int a1), (3, .int a3), (4, .long a4)]) (st1 := [.int a3, .int a1, .int 0, .int 0, .ref 32]) rfl ?_
      refine am_wc rfl rfl rfl ?_
      refine am_ww h56 ?_
      rintro _ _ ⟨s57, rfl, rfl, h58⟩
      show am_W _ _ 144 113 [(6, .int 0), (0, .ref 32), (1, .int a1), (3, .int a3), (4, .long a4)] [] (zH s57) _
      refine am_wh 2 (pc1 := 273) (lv1 := [(6, .int 0), (0, .ref 32), (1, .int a1), (3, .int a3), (4, .long a4)]) (st1 := [.int a3]) rfl ?_
      refine am_wr rfl rfl rfl ?_
      exact ⟨_, _, rfl, rfl, h58⟩
    · refine am_wb2 rfl true (zt_le (zq_sub (zq_a _) (zq_a _)) (by decide) o51 ⟨by decide, by decide⟩ c53) rfl ?_
      have h59 := h55 c53
      refine am_wh 1 (pc1 := 90) (lv1 := [(0, .ref 32), (1, .int a1), (3, .int a3), (4, .long a4)]) (st1 := [.long a4]) rfl ?_
      refine am_wc rfl rfl rfl ?_
      refine am_ww h59 ?_
      rintro _ _ ⟨v62, s60, rfl, rfl, h61⟩
      show am_W _ _ 144 93 [(0, .ref 32), (1, .int a1), (3, .int a3), (4, .long a4)] [.int v62] (zH s60) _
      refine am_wh 3 (pc1 := 98) (lv1 := [(6, .int v62), (0, .ref 32), (1, .int a1), (3, .int a3), (4, .long a4)]) (st1 := [.int v62, .ref 32]) rfl ?_
      obtain ⟨h64, h65⟩ := h61
      by_cases c63 : 0 < v62.toInt
      · refine am_wb1 rfl false (zn_le (zq_a _) (by decide) (zr_t _) ⟨by decide, by decide⟩ c63) rfl ?_
        have h66 := h64 c63
        refine am_wh 5 (pc1 := 110) (lv1 := [(6, .int v62), (0, .ref 32), (1, .int a1), (3, .int a3), (4, .long a4)]) (st1 := [.int a3, .int a1, .int v62, .int 2, .ref 32]) rfl ?_
        refine am_wc rfl rfl rfl ?_
        refine am_ww h66 ?_
        rintro _ _ ⟨s67, rfl, rfl, h68⟩
        show am_W _ _ 144 113 [(6, .int v62), (0, .ref 32), (1, .int a1), (3, .int a3), (4, .long a4)] [] (zH s67) _
        refine am_wh 2 (pc1 := 273) (lv1 := [(6, .int v62), (0, .ref 32), (1, .int a1), (3, .int a3), (4, .long a4)]) (st1 := [.int a3]) rfl ?_
        refine am_wr rfl rfl rfl ?_
        exact ⟨_, _, rfl, rfl, h68⟩
      · refine am_wb1 rfl true (zt_le (zq_a _) (by decide) (zr_t _) ⟨by decide, by decide⟩ c63) rfl ?_
        have h69 := h65 c63
        refine am_wh 4 (pc1 := 110) (lv1 := [(6, .int v62), (0, .ref 32), (1, .int a1), (3, .int a3), (4, .long a4)]) (st1 := [.int a3, .int a1, .int v62, .int 0, .ref 32]) rfl ?_
        refine am_wc rfl rfl rfl ?_
        refine am_ww h69 ?_
        rintro _ _ ⟨s70, rfl, rfl, h71⟩
        show am_W _ _ 144 113 [(6, .int v62), (0, .ref 32), (1, .int a1), (3, .int a3), (4, .long a4)] [] (zH s70) _
        refine am_wh 2 (pc1 := 273) (lv1 := [(6, .int v62), (0, .ref 32), (1, .int a1), (3, .int a3), (4, .long a4)]) (st1 := [.int a3]) rfl ?_
        refine am_wr rfl rfl rfl ?_
        exact ⟨_, _, rfl, rfl, h71⟩
set_option maxRecDepth 100000 in
theorem vc_144_123 (xs : Option (List Int32)) (d : Nat) (s : zS) (a1 : Int32) (a3 : Int32) (Q : Int32 → zS → Prop) (h : (a3.toInt < (s.1 21).toInt → (zX (s.2 31) a3.toInt ∧ zWi xs d 137 0 [(0, .int (zg (s.2 31) a3.toInt))] s (fun v9 s7 => (v9.toInt = 0 → (zWv xs d 140 0 [(0, .ref 32), (1, .int 1), (2, .int 0), (3, .int a1), (4, .int a3)] s7 (fun s14 => Q a3 s14))) ∧ (¬ v9.toInt = 0 → (zWi xs (d + 1) 144 123 [(0, .ref 32), (1, .int a1), (3, .int (a3 + 1))] s7 Q))))) ∧ (¬ a3.toInt < (s.1 21).toInt → (zWv xs d 140 0 [(0, .ref 32), (1, .int 1), (2, .int 0), (3, .int a1), (4, .int a3)] s (fun s18 => Q a3 s18)))) : zWi xs (d + 1) 144 123 [(0, .ref 32), (1, .int a1), (3, .int a3)] s Q := by
  unfold zWi
  refine am_wh 3 (pc1 := 128) (lv1 := [(0, .ref 32), (1, .int a1), (3, .int a3)]) (st1 := [.int (s.1 21), .int a3]) rfl ?_
  obtain ⟨h2, h3⟩ := h
  by_cases c1 : a3.toInt < (s.1 21).toInt
  · refine am_wb2 rfl false (zn_ge (zq_a _) (zq_a _) (zr_t _) (zr_t _) c1) rfl ?_
    have h4 := h2 c1
    refine am_wh 3 (pc1 := 136) (lv1 := [(0, .ref 32), (1, .int a1), (3, .int a3)]) (st1 := [.int a3, .ref 33]) rfl ?_
    obtain ⟨o5, h6⟩ := h4
    refine zw_li (l := (s.2 31)) (i := a3.toInt) rfl rfl (zq_a _) o5 ?_
    refine am_wc rfl rfl rfl ?_
    refine am_ww h6 ?_
    rintro _ _ ⟨v9, s7, rfl, rfl, h8⟩
    show am_W _ _ 144 140 [(0, .ref 32), (1, .int a1), (3, .int a3)] [.int v9] (zH s7) _
    obtain ⟨h11, h12⟩ := h8
    by_cases c10 : v9.toInt = 0
    · refine am_wb1 rfl true (zt_eq (zq_a _) (by decide) (zr_t _) ⟨by decide, by decide⟩ c10) rfl ?_
      have h13 := h11 c10
      refine am_wh 5 (pc1 := 154) (lv1 := [(0, .ref 32), (1, .int a1), (3, .int a3)]) (st1 := [.int a3, .int a1, .int 0, .int 1, .ref 32]) rfl ?_
      refine am_wc rfl rfl rfl ?_
      refine am_ww h13 ?_
      rintro _ _ ⟨s14, rfl, rfl, h15⟩
      show am_W _ _ 144 157 [(0, .ref 32), (1, .int a1), (3, .int a3)] [] (zH s14) _
      refine am_wh 2 (pc1 := 273) (lv1 := [(0, .ref 32), (1, .int a1), (3, .int a3)]) (st1 := [.int a3]) rfl ?_
      refine am_wr rfl rfl rfl ?_
      exact ⟨_, _, rfl, rfl, h15⟩
    · refine am_wb1 rfl false (zn_eq (zq_a _) (by decide) (zr_t _) ⟨by decide, by decide⟩ c10) rfl ?_
      have h16 := h12 c10
      refine am_wh 2 (pc1 := 123) (lv1 := [(3, .int (a3 + 1)), (0, .ref 32), (1, .int a1)]) (st1 := []) rfl ?_
      exact am_wm h16 ⟨rfl, rfl, rfl, trivial⟩
  · refine am_wb2 rfl true (zt_ge (zq_a _) (zq_a _) (zr_t _) (zr_t _) c1) rfl ?_
    have h17 := h3 c1
    refine am_wh 5 (pc1 := 154) (lv1 := [(0, .ref 32), (1, .int a1), (3, .int a3)]) (st1 := [.int a3, .int a1, .int 0, .int 1, .ref 32]) rfl ?_
    refine am_wc rfl rfl rfl ?_
    refine am_ww h17 ?_
    rintro _ _ ⟨s18, rfl, rfl, h19⟩
    show am_W _ _ 144 157 [(0, .ref 32), (1, .int a1), (3, .int a3)] [] (zH s18) _
    refine am_wh 2 (pc1 := 273) (lv1 := [(0, .ref 32), (1, .int a1), (3, .int a3)]) (st1 := [.int a3]) rfl ?_
    refine am_wr rfl rfl rfl ?_
    exact ⟨_, _, rfl, rfl, h19⟩
set_option maxRecDepth 100000 in
theorem vc_145_0 (xs : Option (List Int32)) (d : Nat) (s : zS) (a1 : Int32) (a2 : Int32) (Q : zS → Prop) (h : zX (s.2 40) (s.1 26).toInt ∧ zX (s.2 41) (s.1 26).toInt ∧ Q (zf (za (za s 40 (zu (s.2 40) (s.1 26).toInt a1)) 41 (zu (s.2 41) (s.1 26).toInt a2)) 26 ((s.1 26) + 1))) : zWv xs d 145 0 [(0, .ref 32), (1, .int a1), (2, .int a2)] s Q := by
  unfold zWv
  refine am_wh 5 (pc1 := 9) (lv1 := [(0, .ref 32), (1, .int a1), (2, .int a2)]) (st1 := [.int a1, .int (s.1 26), .ref 42]) rfl ?_
  obtain ⟨o1, h2⟩ := h
  refine zw_si (l := (s.2 40)) (i := (s.1 26).toInt) rfl rfl (zq_a _) o1 (zh_40 _ _) ?_
  refine am_wh 5 (pc1 := 19) (lv1 := [(0, .ref 32), (1, .int a1), (2, .int a2)]) (st1 := [.int a2, .int (s.1 26), .ref 43]) rfl ?_
  obtain ⟨o3, h4⟩ := h2
  refine zw_si (l := (s.2 41)) (i := (s.1 26).toInt) rfl rfl (zq_a _) o3 (zh_41 _ _) ?_
  refine am_wh 5 (pc1 := 27) (lv1 := [(0, .ref 32), (1, .int a1), (2, .int a2)]) (st1 := [.int ((s.1 26) + 1), .ref 32]) rfl ?_
  refine am_w0 (z := (30, [(0, .ref 32), (1, .int a1), (2, .int a2)], [], zH (zf (za (za s 40 (zu (s.2 40) (s.1 26).toInt a1)) 41 (zu (s.2 41) (s.1 26).toInt a2)) 26 ((s.1 26) + 1)))) rfl rfl (zp_26 ) ?_
  refine am_wr rfl rfl rfl ?_
  exact ⟨_, rfl, rfl, h4⟩
set_option maxRecDepth 100000 in
theorem vc_146_0 (xs : Option (List Int32)) (d : Nat) (s : zS) (a1 : Int32) (a2 : Int32) (Q : zS → Prop) (h : zWv xs d 145 0 [(0, .ref 32), (1, .int 16), (2, .int ((256 * a1) + a2))] s (fun s1 => Q s1)) : zWv xs (d + 1) 146 0 [(0, .ref 32), (1, .int a1), (2, .int a2)] s Q := by
  unfold zWv
  refine am_wh 7 (pc1 := 10) (lv1 := [(0, .ref 32), (1, .int a1), (2, .int a2)]) (st1 := [.int ((256 * a1) + a2), .int 16, .ref 32]) rfl ?_
  refine am_wc rfl rfl rfl ?_
  refine am_ww h ?_
  rintro _ _ ⟨s1, rfl, rfl, h2⟩
  show am_W _ _ 146 13 [(0, .ref 32), (1, .int a1), (2, .int a2)] [] (zH s1) _
  refine am_wr rfl rfl rfl ?_
  exact ⟨_, rfl, rfl, h2⟩
set_option maxRecDepth 100000 in
theorem vc_147_0 (xs : Option (List Int32)) (d : Nat) (s : zS) (a1 : Int32) (a2 : Int32) (Q : Int32 → zS → Prop) (h : zX (s.2 34) (s.1 24).toInt ∧ ((zg (s.2 34) (s.1 24).toInt).toInt = a1.toInt → (zX (s.2 37) (s.1 24).toInt ∧ ((zg (s.2 37) (s.1 24).toInt).toInt = a2.toInt → (Q 1 s)) ∧ (¬ (zg (s.2 37) (s.1 24).toInt).toInt = a2.toInt → (Q 0 s)))) ∧ (¬ (zg (s.2 34) (s.1 24).toInt).toInt = a1.toInt → (Q 0 s))) : zWi xs d 147 0 [(0, .ref 32), (1, .int a1), (2, .int a2)] s Q := by
  unfold zWi
  refine am_wh 4 (pc1 := 8) (lv1 := [(0, .ref 32), (1, .int a1), (2, .int a2)]) (st1 := [.int (s.1 24), .ref 36]) rfl ?_
  obtain ⟨o1, h2⟩ := h
  refine zw_li (l := (s.2 34)) (i := (s.1 24).toInt) rfl rfl (zq_a _) o1 ?_
  refine am_wh 1 (pc1 := 10) (lv1 := [(0, .ref 32), (1, .int a1), (2, .int a2)]) (st1 := [.int a1, .int (zg (s.2 34) (s.1 24).toInt)]) rfl ?_
  obtain ⟨h4, h5⟩ := h2
  by_cases c3 : (zg (s.2 34) (s.1 24).toInt).toInt = a1.toInt
  · refine am_wb2 rfl false (zn_ne (zq_a _) (zq_a _) (zr_t _) (zr_t _) c3) rfl ?_
    have h6 := h4 c3
    refine am_wh 4 (pc1 := 21) (lv1 := [(0, .ref 32), (1, .int a1), (2, .int a2)]) (st1 := [.int (s.1 24), .ref 39]) rfl ?_
    obtain ⟨o7, h8⟩ := h6
    refine zw_li (l := (s.2 37)) (i := (s.1 24).toInt) rfl rfl (zq_a _) o7 ?_
    refine am_wh 1 (pc1 := 23) (lv1 := [(0, .ref 32), (1, .int a1), (2, .int a2)]) (st1 := [.int a2, .int (zg (s.2 37) (s.1 24).toInt)]) rfl ?_
    obtain ⟨h10, h11⟩ := h8
    by_cases c9 : (zg (s.2 37) (s.1 24).toInt).toInt = a2.toInt
    · refine am_wb2 rfl false (zn_ne (zq_a _) (zq_a _) (zr_t _) (zr_t _) c9) rfl ?_
      have h12 := h10 c9
      refine am_wh 2 (pc1 := 31) (lv1 := [(0, .ref 32), (1, .int a1), (2, .int a2)]) (st1 := [.int 1]) rfl ?_
      refine am_wr rfl rfl rfl ?_
      exact ⟨_, _, rfl, rfl, h12⟩
    · refine am_wb2 rfl true (zt_ne (zq_a _) (zq_a _) (zr_t _) (zr_t _) c9) rfl ?_
      have h13 := h11 c9
      refine am_wh 1 (pc1 := 31) (lv1 := [(0, .ref 32), (1, .int a1), (2, .int a2)]) (st1 := [.int 0]) rfl ?_
      refine am_wr rfl rfl rfl ?_
      exact ⟨_, _, rfl, rfl, h13⟩
  · refine am_wb2 rfl true (zt_ne (zq_a _) (zq_a _) (zr_t _) (zr_t _) c3) rfl ?_
    have h14 := h5 c3
    refine am_wh 1 (pc1 := 31) (lv1 := [(0, .ref 32), (1, .int a1), (2, .int a2)]) (st1 := [.int 0]) rfl ?_
    refine am_wr rfl rfl rfl ?_
    exact ⟨_, _, rfl, rfl, h14⟩
set_option maxRecDepth 100000 in
theorem vc_148_0 (xs : Option (List Int32)) (d : Nat) (s : zS) (a1 : Int32) (Q : zS → Prop) (h : Q (zf (zf s 28 a1) 29 (s.1 24))) : zWv xs d 148 0 [(0, .ref 32), (1, .int a1)] s Q := by
  unfold zWv
  refine am_wh 2 (pc1 := 2) (lv1 := [(0, .ref 32), (1, .int a1)]) (st1 := [.int a1, .ref 32]) rfl ?_
  refine am_w0 (z := (5, [(0, .ref 32), (1, .int a1)], [], zH (zf s 28 a1))) rfl rfl (zp_28 ) ?_
  refine am_wh 3 (pc1 := 10) (lv1 := [(0, .ref 32), (1, .int a1)]) (st1 := [.int (s.1 24), .ref 32]) rfl ?_
  refine am_w0 (z := (13, [(0, .ref 32), (1, .int a1)], [], zH (zf (zf s 28 a1) 29 (s.1 24)))) rfl rfl (zp_29 ) ?_
  refine am_wr rfl rfl rfl ?_
  exact ⟨_, rfl, rfl, h⟩
set_option maxRecDepth 100000 in
theorem vc_149_0 (xs : Option (List Int32)) (d : Nat) (s : zS)  (Q : zS → Prop) (h : zX (s.2 34) (s.1 24).toInt ∧ ((zg (s.2 34) (s.1 24).toInt).toInt < 4 → (zX (s.2 36) (s.1 24).toInt ∧ Q (zf (zf s 27 (zg (s.2 36) (s.1 24).toInt)) 24 ((s.1 24) + 1)))) ∧ (¬ (zg (s.2 34) (s.1 24).toInt).toInt < 4 → (Q (zf s 24 ((s.1 24) + 1))))) : zWv xs d 149 0 [(0, .ref 32)] s Q := by
  unfold zWv
  refine am_wh 4 (pc1 := 8) (lv1 := [(0, .ref 32)]) (st1 := [.int (s.1 24), .ref 36]) rfl ?_
  obtain ⟨o1, h2⟩ := h
  refine zw_li (l := (s.2 34)) (i := (s.1 24).toInt) rfl rfl (zq_a _) o1 ?_
  refine am_wh 1 (pc1 := 10) (lv1 := [(0, .ref 32)]) (st1 := [.int 4, .int (zg (s.2 34) (s.1 24).toInt)]) rfl ?_
  obtain ⟨h4, h5⟩ := h2
  by_cases c3 : (zg (s.2 34) (s.1 24).toInt).toInt < 4
  · refine am_wb2 rfl false (zn_ge (zq_a _) (by decide) (zr_t _) ⟨by decide, by decide⟩ c3) rfl ?_
    have h6 := h4 c3
    refine am_wh 5 (pc1 := 22) (lv1 := [(0, .ref 32)]) (st1 := [.int (s.1 24), .ref 38, .ref 32]) rfl ?_
    obtain ⟨o7, h8⟩ := h6
    refine zw_li (l := (s.2 36)) (i := (s.1 24).toInt) rfl rfl (zq_a _) o7 ?_
    refine am_w0 (z := (26, [(0, .ref 32)], [], zH (zf s 27 (zg (s.2 36) (s.1 24).toInt)))) rfl rfl (zp_27 ) ?_
    refine am_wh 5 (pc1 := 33) (lv1 := [(0, .ref 32)]) (st1 := [.int ((s.1 24) + 1), .ref 32]) rfl ?_
    refine am_w0 (z := (36, [(0, .ref 32)], [], zH (zf (zf s 27 (zg (s.2 36) (s.1 24).toInt)) 24 ((s.1 24) + 1)))) rfl rfl (zp_24 ) ?_
    refine am_wr rfl rfl rfl ?_
    exact ⟨_, rfl, rfl, h8⟩
  · refine am_wb2 rfl true (zt_ge (zq_a _) (by decide) (zr_t _) ⟨by decide, by decide⟩ c3) rfl ?_
    have h9 := h5 c3
    refine am_wh 5 (pc1 := 33) (lv1 := [(0, .ref 32)]) (st1 := [.int ((s.1 24) + 1), .ref 32]) rfl ?_
    refine am_w0 (z := (36, [(0, .ref 32)], [], zH (zf s 24 ((s.1 24) + 1)))) rfl rfl (zp_24 ) ?_
    refine am_wr rfl rfl rfl ?_
    exact ⟨_, rfl, rfl, h9⟩
set_option maxRecDepth 100000 in
theorem vc_150_0 (xs : Option (List Int32)) (d : Nat) (s : zS) (a1 : Int32) (Q : zS → Prop) (h : zX (s.2 42) (s.1 30).toInt ∧ zX (s.2 43) (s.1 30).toInt ∧ Q (zf (za (za s 42 (zu (s.2 42) (s.1 30).toInt a1)) 43 (zu (s.2 43) (s.1 30).toInt (s.1 27))) 30 ((s.1 30) + 1))) : zWv xs d 150 0 [(0, .ref 32), (1, .int a1)] s Q := by
  unfold zWv
  refine am_wh 5 (pc1 := 9) (lv1 := [(0, .ref 32), (1, .int a1)]) (st1 := [.int a1, .int (s.1 30), .ref 44]) rfl ?_
  obtain ⟨o1, h2⟩ := h
  refine zw_si (l := (s.2 42)) (i := (s.1 30).toInt) rfl rfl (zq_a _) o1 (zh_42 _ _) ?_
  refine am_wh 6 (pc1 := 22) (lv1 := [(0, .ref 32), (1, .int a1)]) (st1 := [.int (s.1 27), .int (s.1 30), .ref 45]) rfl ?_
  obtain ⟨o3, h4⟩ := h2
  refine zw_si (l := (s.2 43)) (i := (s.1 30).toInt) rfl rfl (zq_a _) o3 (zh_43 _ _) ?_
  refine am_wh 5 (pc1 := 30) (lv1 := [(0, .ref 32), (1, .int a1)]) (st1 := [.int ((s.1 30) + 1), .ref 32]) rfl ?_
  refine am_w0 (z := (33, [(0, .ref 32), (1, .int a1)], [], zH (zf (za (za s 42 (zu (s.2 42) (s.1 30).toInt a1)) 43 (zu (s.2 43) (s.1 30).toInt (s.1 27))) 30 ((s.1 30) + 1)))) rfl rfl (zp_30 ) ?_
  refine am_wr rfl rfl rfl ?_
  exact ⟨_, rfl, rfl, h4⟩
set_option maxRecDepth 100000 in
theorem vc_151_0 (xs : Option (List Int32)) (d : Nat) (s : zS) (a1 : Int32) (a2 : Int32) (Q : Int32 → zS → Prop) (h : zX (s.2 44) (s.1 31).toInt ∧ zX (s.2 45) (s.1 31).toInt ∧ zX (s.2 46) (s.1 31).toInt ∧ zX (s.2 47) (s.1 31).toInt ∧ zX (s.2 48) (s.1 31).toInt ∧ zX (s.2 49) (s.1 31).toInt ∧ zX (s.2 50) (s.1 31).toInt ∧ Q (((s.1 31) + 1) - 1) (zf (za (za (za (za (za (za (za s 44 (zu (s.2 44) (s.1 31).toInt a1)) 45 (zu (s.2 45) (s.1 31).toInt a2)) 46 (zu (s.2 46) (s.1 31).toInt (a2 + 1))) 47 (zu (s.2 47) (s.1 31).toInt (a2 + 1))) 48 (zu (s.2 48) (s.1 31).toInt (-1))) 49 (zu (s.2 49) (s.1 31).toInt (-1))) 50 (zu (s.2 50) (s.1 31).toInt (-1))) 31 ((s.1 31) + 1))) : zWi xs d 151 0 [(0, .ref 32), (1, .int a1), (2, .int a2)] s Q := by
  unfold zWi
  refine am_wh 5 (pc1 := 9) (lv1 := [(0, .ref 32), (1, .int a1), (2, .int a2)]) (st1 := [.int a1, .int (s.1 31), .ref 46]) rfl ?_
  obtain ⟨o1, h2⟩ := h
  refine zw_si (l := (s.2 44)) (i := (s.1 31).toInt) rfl rfl (zq_a _) o1 (zh_44 _ _) ?_
  refine am_wh 5 (pc1 := 19) (lv1 := [(0, .ref 32), (1, .int a1), (2, .int a2)]) (st1 := [.int a2, .int (s.1 31), .ref 47]) rfl ?_
  obtain ⟨o3, h4⟩ := h2
  refine zw_si (l := (s.2 45)) (i := (s.1 31).toInt) rfl rfl (zq_a _) o3 (zh_45 _ _) ?_
  refine am_wh 7 (pc1 := 31) (lv1 := [(0, .ref 32), (1, .int a1), (2, .int a2)]) (st1 := [.int (a2 + 1), .int (s.1 31), .ref 48]) rfl ?_
  obtain ⟨o5, h6⟩ := h4
  refine zw_si (l := (s.2 46)) (i := (s.1 31).toInt) rfl rfl (zq_a _) o5 (zh_46 _ _) ?_
  refine am_wh 7 (pc1 := 43) (lv1 := [(0, .ref 32), (1, .int a1), (2, .int a2)]) (st1 := [.int (a2 + 1), .int (s.1 31), .ref 49]) rfl ?_
  obtain ⟨o7, h8⟩ := h6
  refine zw_si (l := (s.2 47)) (i := (s.1 31).toInt) rfl rfl (zq_a _) o7 (zh_47 _ _) ?_
  refine am_wh 5 (pc1 := 53) (lv1 := [(0, .ref 32), (1, .int a1), (2, .int a2)]) (st1 := [.int (-1), .int (s.1 31), .ref 50]) rfl ?_
  obtain ⟨o9, h10⟩ := h8
  refine zw_si (l := (s.2 48)) (i := (s.1 31).toInt) rfl rfl (zq_a _) o9 (zh_48 _ _) ?_
  refine am_wh 5 (pc1 := 63) (lv1 := [(0, .ref 32), (1, .int a1), (2, .int a2)]) (st1 := [.int (-1), .int (s.1 31), .ref 51]) rfl ?_
  obtain ⟨o11, h12⟩ := h10
  refine zw_si (l := (s.2 49)) (i := (s.1 31).toInt) rfl rfl (zq_a _) o11 (zh_49 _ _) ?_
  refine am_wh 5 (pc1 := 73) (lv1 := [(0, .ref 32), (1, .int a1), (2, .int a2)]) (st1 := [.int (-1), .int (s.1 31), .ref 52]) rfl ?_
  obtain ⟨o13, h14⟩ := h12
  refine zw_si (l := (s.2 50)) (i := (s.1 31).toInt) rfl rfl (zq_a _) o13 (zh_50 _ _) ?_
  refine am_wh 5 (pc1 := 81) (lv1 := [(0, .ref 32), (1, .int a1), (2, .int a2)]) (st1 := [.int ((s.1 31) + 1), .ref 32]) rfl ?_
  refine am_w0 (z := (84, [(0, .ref 32), (1, .int a1), (2, .int a2)], [], zH (zf (za (za (za (za (za (za (za s 44 (zu (s.2 44) (s.1 31).toInt a1)) 45 (zu (s.2 45) (s.1 31).toInt a2)) 46 (zu (s.2 46) (s.1 31).toInt (a2 + 1))) 47 (zu (s.2 47) (s.1 31).toInt (a2 + 1))) 48 (zu (s.2 48) (s.1 31).toInt (-1))) 49 (zu (s.2 49) (s.1 31).toInt (-1))) 50 (zu (s.2 50) (s.1 31).toInt (-1))) 31 ((s.1 31) + 1)))) rfl rfl (zp_31 ) ?_
  refine am_wh 4 (pc1 := 90) (lv1 := [(0, .ref 32), (1, .int a1), (2, .int a2)]) (st1 := [.int (((s.1 31) + 1) - 1)]) rfl ?_
  refine am_wr rfl rfl rfl ?_
  exact ⟨_, _, rfl, rfl, h14⟩
set_option maxRecDepth 100000 in
theorem vc_152_0 (xs : Option (List Int32)) (d : Nat) (s : zS)  (Q : Int32 → zS → Prop) (h : ((s.1 25).toInt = 10 → (zWv xs d 148 0 [(0, .ref 32), (1, .int 21)] s (fun s5 => Q 0 s5))) ∧ (¬ (s.1 25).toInt = 10 → (zWv xs d 149 0 [(0, .ref 32)] (zf s 25 ((s.1 25) + 1)) (fun s8 => Q 1 s8)))) : zWi xs (d + 1) 152 0 [(0, .ref 32)] s Q := by
  unfold zWi
  refine am_wh 3 (pc1 := 6) (lv1 := [(0, .ref 32)]) (st1 := [.int 10, .int (s.1 25)]) rfl ?_
  obtain ⟨h2, h3⟩ := h
  by_cases c1 : (s.1 25).toInt = 10
  · refine am_wb2 rfl false (zn_ne (zq_a _) (by decide) (zr_t _) ⟨by decide, by decide⟩ c1) rfl ?_
    have h4 := h2 c1
    refine am_wh 2 (pc1 := 12) (lv1 := [(0, .ref 32)]) (st1 := [.int 21, .ref 32]) rfl ?_
    refine am_wc rfl rfl rfl ?_
    refine am_ww h4 ?_
    rintro _ _ ⟨s5, rfl, rfl, h6⟩
    show am_W _ _ 152 15 [(0, .ref 32)] [] (zH s5) _
    refine am_wh 1 (pc1 := 16) (lv1 := [(0, .ref 32)]) (st1 := [.int 0]) rfl ?_
    refine am_wr rfl rfl rfl ?_
    exact ⟨_, _, rfl, rfl, h6⟩
  · refine am_wb2 rfl true (zt_ne (zq_a _) (by decide) (zr_t _) ⟨by decide, by decide⟩ c1) rfl ?_
    have h7 := h3 c1
    refine am_wh 5 (pc1 := 24) (lv1 := [(0, .ref 32)]) (st1 := [.int ((s.1 25) + 1), .ref 32]) rfl ?_
    refine am_w0 (z := (27, [(0, .ref 32)], [], zH (zf s 25 ((s.1 25) + 1)))) rfl rfl (zp_25 ) ?_
    refine am_wh 1 (pc1 := 28) (lv1 := [(0, .ref 32)]) (st1 := [.ref 32]) rfl ?_
    refine am_wc rfl rfl rfl ?_
    refine am_ww h7 ?_
    rintro _ _ ⟨s8, rfl, rfl, h9⟩
    show am_W _ _ 152 31 [(0, .ref 32)] [] (zH s8) _
    refine am_wh 1 (pc1 := 32) (lv1 := [(0, .ref 32)]) (st1 := [.int 1]) rfl ?_
    refine am_wr rfl rfl rfl ?_
    exact ⟨_, _, rfl, rfl, h9⟩
set_option maxRecDepth 100000 in
theorem vc_153_0 (xs : Option (List Int32)) (d : Nat) (s : zS)  (Q : zS → Prop) (h : zWi xs d 151 0 [(0, .ref 32), (1, .int 0), (2, .int (-1))] (zf (zf (zf (zf (zf (zf (zf s 24 0) 25 0) 26 0) 28 0) 30 0) 31 0) 27 0) (fun v3 s1 => zX (s1.2 47) v3.toInt ∧ zWv xs d 145 0 [(0, .ref 32), (1, .int 1), (2, .int 0)] (za s1 47 (zu (s1.2 47) v3.toInt (s1.1 23))) (fun s6 => zWv xs (d + 1) 153 58 [(0, .ref 32)] s6 Q))) : zWv xs (d + 1) 153 0 [(0, .ref 32)] s Q := by
  unfold zWv
  refine am_wh 2 (pc1 := 2) (lv1 := [(0, .ref 32)]) (st1 := [.int 0, .ref 32]) rfl ?_
  refine am_w0 (z := (5, [(0, .ref 32)], [], zH (zf s 24 0))) rfl rfl (zp_24 ) ?_
  refine am_wh 2 (pc1 := 7) (lv1 := [(0, .ref 32)]) (st1 := [.int 0, .ref 32]) rfl ?_
  refine am_w0 (z := (10, [(0, .ref 32)], [], zH (zf (zf s 24 0) 25 0))) rfl rfl (zp_25 ) ?_
  refine am_wh 2 (pc1 := 12) (lv1 := [(0, .ref 32)]) (st1 := [.int 0, .ref 32]) rfl ?_
  refine am_w0 (z := (15, [(0, .ref 32)], [], zH (zf (zf (zf s 24 0) 25 0) 26 0))) rfl rfl (zp_26 ) ?_
  refine am_wh 2 (pc1 := 17) (lv1 := [(0, .ref 32)]) (st1 := [.int 0, .ref 32]) rfl ?_
  refine am_w0 (z := (20, [(0, .ref 32)], [], zH (zf (zf (zf (zf s 24 0) 25 0) 26 0) 28 0))) rfl rfl (zp_28 ) ?_
  refine am_wh 2 (pc1 := 22) (lv1 := [(0, .ref 32)]) (st1 := [.int 0, .ref 32]) rfl ?_
  refine am_w0 (z := (25, [(0, .ref 32)], [], zH (zf (zf (zf (zf (zf s 24 0) 25 0) 26 0) 28 0) 30 0))) rfl rfl (zp_30 ) ?_
  refine am_wh 2 (pc1 := 27) (lv1 := [(0, .ref 32)]) (st1 := [.int 0, .ref 32]) rfl ?_
  refine am_w0 (z := (30, [(0, .ref 32)], [], zH (zf (zf (zf (zf (zf (zf s 24 0) 25 0) 26 0) 28 0) 30 0) 31 0))) rfl rfl (zp_31 ) ?_
  refine am_wh 2 (pc1 := 32) (lv1 := [(0, .ref 32)]) (st1 := [.int 0, .ref 32]) rfl ?_
  refine am_w0 (z := (35, [(0, .ref 32)], [], zH (zf (zf (zf (zf (zf (zf (zf s 24 0) 25 0) 26 0) 28 0) 30 0) 31 0) 27 0))) rfl rfl (zp_27 ) ?_
  refine am_wh 3 (pc1 := 38) (lv1 := [(0, .ref 32)]) (st1 := [.int (-1), .int 0, .ref 32]) rfl ?_
  refine am_wc rfl rfl rfl ?_
  refine am_ww h ?_
  rintro _ _ ⟨v3, s1, rfl, rfl, h2⟩
  show am_W _ _ 153 41 [(0, .ref 32)] [.int v3] (zH s1) _
  refine am_wh 6 (pc1 := 51) (lv1 := [(1, .int v3), (0, .ref 32)]) (st1 := [.int (s1.1 23), .int v3, .ref 49]) rfl ?_
  obtain ⟨o4, h5⟩ := h2
  refine zw_si (l := (s1.2 47)) (i := v3.toInt) rfl rfl (zq_a _) o4 (zh_47 _ _) ?_
  refine am_wh 3 (pc1 := 55) (lv1 := [(1, .int v3), (0, .ref 32)]) (st1 := [.int 0, .int 1, .ref 32]) rfl ?_
  refine am_wc rfl rfl rfl ?_
  refine am_ww h5 ?_
  rintro _ _ ⟨s6, rfl, rfl, h7⟩
  show am_W _ _ 153 58 [(1, .int v3), (0, .ref 32)] [] (zH s6) _
  exact am_wm h7 ⟨rfl, trivial⟩
set_option maxRecDepth 100000 in
theorem vc_153_58 (xs : Option (List Int32)) (d : Nat) (s : zS)  (Q : zS → Prop) (h : (0 < (s.1 26).toInt → (((s.1 28).toInt = 0 → (zX (s.2 40) ((s.1 26).toInt - 1) ∧ zX (s.2 41) ((s.1 26).toInt - 1) ∧ zWv xs d 154 0 [(0, .ref 32), (1, .int (zg (s.2 40) ((s.1 26).toInt - 1))), (2, .int (zg (s.2 41) ((s.1 26).toInt - 1)))] (zf s 26 ((s.1 26) - 1)) (fun s13 => zWv xs (d + 1) 153 58 [(0, .ref 32)] s13 Q))) ∧ (¬ (s.1 28).toInt = 0 → (Q s)))) ∧ (¬ 0 < (s.1 26).toInt → (Q s))) : zWv xs (d + 1) 153 58 [(0, .ref 32)] s Q := by
  unfold zWv
  refine am_wh 2 (pc1 := 62) (lv1 := [(0, .ref 32)]) (st1 := [.int (s.1 26)]) rfl ?_
  obtain ⟨h2, h3⟩ := h
  by_cases c1 : 0 < (s.1 26).toInt
  · refine am_wb1 rfl false (zn_le (zq_a _) (by decide) (zr_t _) ⟨by decide, by decide⟩ c1) rfl ?_
    have h4 := h2 c1
    refine am_wh 2 (pc1 := 69) (lv1 := [(0, .ref 32)]) (st1 := [.int (s.1 28)]) rfl ?_
    obtain ⟨h6, h7⟩ := h4
    by_cases c5 : (s.1 28).toInt = 0
    · refine am_wb1 rfl false (zn_ne (zq_a _) (by decide) (zr_t _) ⟨by decide, by decide⟩ c5) rfl ?_
      have h8 := h6 c5
      refine am_wh 5 (pc1 := 79) (lv1 := [(0, .ref 32)]) (st1 := [.int ((s.1 26) - 1), .ref 32]) rfl ?_
      refine am_w0 (z := (82, [(0, .ref 32)], [], zH (zf s 26 ((s.1 26) - 1)))) rfl rfl (zp_26 ) ?_
      refine am_wh 5 (pc1 := 91) (lv1 := [(0, .ref 32)]) (st1 := [.int ((s.1 26) - 1), .ref 42, .ref 32]) rfl ?_
      obtain ⟨o9, h10⟩ := h8
      refine zw_li (l := (s.2 40)) (i := ((s.1 26).toInt - 1)) rfl rfl (zq_sub (zq_a _) (by decide)) o9 ?_
      refine am_wh 4 (pc1 := 100) (lv1 := [(0, .ref 32)]) (st1 := [.int ((s.1 26) - 1), .ref 43, .int (zg (s.2 40) ((s.1 26).toInt - 1)), .ref 32]) rfl ?_
      obtain ⟨o11, h12⟩ := h10
      refine zw_li (l := (s.2 41)) (i := ((s.1 26).toInt - 1)) rfl rfl (zq_sub (zq_a _) (by decide)) o11 ?_
      refine am_wc rfl rfl rfl ?_
      refine am_ww h12 ?_
      rintro _ _ ⟨s13, rfl, rfl, h14⟩
      show am_W _ _ 153 104 [(0, .ref 32)] [] (zH s13) _
      refine am_wh 1 (pc1 := 58) (lv1 := [(0, .ref 32)]) (st1 := []) rfl ?_
      exact am_wm h14 ⟨rfl, trivial⟩
    · refine am_wb1 rfl true (zt_ne (zq_a _) (by decide) (zr_t _) ⟨by decide, by decide⟩ c5) rfl ?_
      have h15 := h7 c5
      refine am_wr rfl rfl rfl ?_
      exact ⟨_, rfl, rfl, h15⟩
  · refine am_wb1 rfl true (zt_le (zq_a _) (by decide) (zr_t _) ⟨by decide, by decide⟩ c1) rfl ?_
    have h16 := h3 c1
    refine am_wr rfl rfl rfl ?_
    exact ⟨_, rfl, rfl, h16⟩
set_option maxRecDepth 100000 in
theorem vc_154_0 (xs : Option (List Int32)) (d : Nat) (s : zS) (a1 : Int32) (a2 : Int32) (Q : zS → Prop) (h : (a1.toInt = 1 → (zX (s.2 34) (s.1 24).toInt ∧ ((zg (s.2 34) (s.1 24).toInt).toInt = 7 → (Q s)) ∧ (¬ (zg (s.2 34) (s.1 24).toInt).toInt = 7 → (zWv xs d 145 0 [(0, .ref 32), (1, .int 1), (2, .int 0)] s (fun s12 => zWv xs d 145 0 [(0, .ref 32), (1, .int 2), (2, .int 0)] s12 (fun s14 => Q s14)))))) ∧ (¬ a1.toInt = 1 → ((a1.toInt = 2 → (zX (s.2 35) (s.1 24).toInt ∧ zWv xs d 145 0 [(0, .ref 32), (1, .int 3), (2, .int (zg (s.2 35) (s.1 24).toInt))] s (fun s23 => zWv xs d 155 0 [(0, .ref 32)] s23 (fun s25 => Q s25)))) ∧ (¬ a1.toInt = 2 → ((a1.toInt = 3 → (zWv xs d 150 0 [(0, .ref 32), (1, .int a2)] s (fun s32 => Q s32))) ∧ (¬ a1.toInt = 3 → ((a1.toInt = 6 → (zWv xs d 150 0 [(0, .ref 32), (1, .int a2)] s (fun s39 => Q s39))) ∧ (¬ a1.toInt = 6 → ((a1.toInt = 4 → (zWv xs d 156 0 [(0, .ref 32)] s (fun s46 => Q s46))) ∧ (¬ a1.toInt = 4 → ((a1.toInt = 5 → (zWv xs d 158 0 [(0, .ref 32)] s (fun s53 => Q s53))) ∧ (¬ a1.toInt = 5 → ((a1.toInt = 8 → (zWv xs d 159 0 [(0, .ref 32)] s (fun s60 => Q s60))) ∧ (¬ a1.toInt = 8 → ((a1.toInt = 7 → (zWv xs d 150 0 [(0, .ref 32), (1, .int a2)] s (fun s67 => zWi xs d 147 0 [(0, .ref 32), (1, .int 3), (2, .int 43)] s67 (fun v71 s69 => (v71.toInt = 0 → (Q s69)) ∧ (¬ v71.toInt = 0 → (zWv xs d 149 0 [(0, .ref 32)] s69 (fun s77 => zWv xs d 145 0 [(0, .ref 32), (1, .int 7), (2, .int a2)] s77 (fun s79 => zWv xs d 145 0 [(0, .ref 32), (1, .int 8), (2, .int 0)] s79 (fun s81 => Q s81))))))))) ∧ (¬ a1.toInt = 7 → ((a1.toInt = 9 → (zWv xs d 160 0 [(0, .ref 32), (1, .int a2)] s (fun s88 => Q s88))) ∧ (¬ a1.toInt = 9 → ((14 < a1.toInt → ((a1.toInt = 16 → (zWi xs d 147 0 [(0, .ref 32), (1, .int (a2 / 256)), (2, .int (a2 - a2 / 256 * 256))] s (fun v101 s99 => (v101.toInt = 0 → (zWv xs d 148 0 [(0, .ref 32), (1, .int 20)] s99 (fun s106 => Q s106))) ∧ (¬ v101.toInt = 0 → (zWv xs d 149 0 [(0, .ref 32)] s99 (fun s109 => Q s109)))))) ∧ (¬ a1.toInt = 16 → ((a1.toInt = 17 → (zX (s.2 34) (s.1 24).toInt ∧ ((zg (s.2 34) (s.1 24).toInt).toInt = 0 → (zX (s.2 38) (s.1 24).toInt ∧ zWv xs d 149 0 [(0, .ref 32)] (za s 38 (zu (s.2 38) (s.1 24).toInt a2)) (fun s124 => Q s124))) ∧ (¬ (zg (s.2 34) (s.1 24).toInt).toInt = 0 → (zWv xs d 148 0 [(0, .ref 32), (1, .int 20)] s (fun s127 => Q s127))))) ∧ (¬ a1.toInt = 17 → (zWv xs d 162 0 [(0, .ref 32), (1, .int a1), (2, .int a2)] s (fun s130 => Q s130))))))) ∧ (¬ 14 < a1.toInt → (zWv xs d 161 0 [(0, .ref 32), (1, .int a1), (2, .int a2)] s (fun s133 => Q s133)))))))))))))))))))))) : zWv xs (d + 1) 154 0 [(0, .ref 32), (1, .int a1), (2, .int a2)] s Q := by
  unfold zWv
  refine am_wh 2 (pc1 := 2) (lv1 := [(0, .ref 32), (1, .int a1), (2, .int a2)]) (st1 := [.int 1, .int a1]) rfl ?_
  obtain ⟨h2, h3⟩ := h
  by_cases c1 : a1.toInt = 1
  · refine am_wb2 rfl false (zn_ne (zq_a _) (by decide) (zr_t _) ⟨by decide, by decide⟩ c1) rfl ?_
    have h4 := h2 c1
    refine am_wh 4 (pc1 := 13) (lv1 := [(0, .ref 32), (1, .int a1), (2, .int a2)]) (st1 := [.int (s.1 24), .ref 36]) rfl ?_
    obtain ⟨o5, h6⟩ := h4
    refine zw_li (l := (s.2 34)) (i := (s.1 24).toInt) rfl rfl (zq_a _) o5 ?_
    refine am_wh 1 (pc1 := 16) (lv1 := [(0, .ref 32), (1, .int a1), (2, .int a2)]) (st1 := [.int 7, .int (zg (s.2 34) (s.1 24).toInt)]) rfl ?_
    obtain ⟨h8, h9⟩ := h6
    by_cases c7 : (zg (s.2 34) (s.1 24).toInt).toInt = 7
    · refine am_wb2 rfl true (zt_eq (zq_a _) (by decide) (zr_t _) ⟨by decide, by decide⟩ c7) rfl ?_
      have h10 := h8 c7
      refine am_wr rfl rfl rfl ?_
      exact ⟨_, rfl, rfl, h10⟩
    · refine am_wb2 rfl false (zn_eq (zq_a _) (by decide) (zr_t _) ⟨by decide, by decide⟩ c7) rfl ?_
      have h11 := h9 c7
      refine am_wh 3 (pc1 := 22) (lv1 := [(0, .ref 32), (1, .int a1), (2, .int a2)]) (st1 := [.int 0, .int 1, .ref 32]) rfl ?_
      refine am_wc rfl rfl rfl ?_
      refine am_ww h11 ?_
      rintro _ _ ⟨s12, rfl, rfl, h13⟩
      show am_W _ _ 154 25 [(0, .ref 32), (1, .int a1), (2, .int a2)] [] (zH s12) _
      refine am_wh 3 (pc1 := 28) (lv1 := [(0, .ref 32), (1, .int a1), (2, .int a2)]) (st1 := [.int 0, .int 2, .ref 32]) rfl ?_
      refine am_wc rfl rfl rfl ?_
      refine am_ww h13 ?_
      rintro _ _ ⟨s14, rfl, rfl, h15⟩
      show am_W _ _ 154 31 [(0, .ref 32), (1, .int a1), (2, .int a2)] [] (zH s14) _
      refine am_wh 1 (pc1 := 276) (lv1 := [(0, .ref 32), (1, .int a1), (2, .int a2)]) (st1 := []) rfl ?_
      refine am_wr rfl rfl rfl ?_
      exact ⟨_, rfl, rfl, h15⟩
  · refine am_wb2 rfl true (zt_ne (zq_a _) (by decide) (zr_t _) ⟨by decide, by decide⟩ c1) rfl ?_
    have h16 := h3 c1
    refine am_wh 2 (pc1 := 36) (lv1 := [(0, .ref 32), (1, .int a1), (2, .int a2)]) (st1 := [.int 2, .int a1]) rfl ?_
    obtain ⟨h18, h19⟩ := h16
    by_cases c17 : a1.toInt = 2
    · refine am_wb2 rfl false (zn_ne (zq_a _) (by decide) (zr_t _) ⟨by decide, by decide⟩ c17) rfl ?_
      have h20 := h18 c17
      refine am_wh 6 (pc1 := 49) (lv1 := [(0, .ref 32), (1, .int a1), (2, .int a2)]) (st1 := [.int (s.1 24), .ref 37, .int 3, .ref 32]) rfl ?_
      obtain ⟨o21, h22⟩ := h20
      refine zw_li (l := (s.2 35)) (i := (s.1 24).toInt) rfl rfl (zq_a _) o21 ?_
      refine am_wc rfl rfl rfl ?_
      refine am_ww h22 ?_
      rintro _ _ ⟨s23, rfl, rfl, h24⟩
      show am_W _ _ 154 53 [(0, .ref 32), (1, .int a1), (2, .int a2)] [] (zH s23) _
      refine am_wh 1 (pc1 := 54) (lv1 := [(0, .ref 32), (1, .int a1), (2, .int a2)]) (st1 := [.ref 32]) rfl ?_
      refine am_wc rfl rfl rfl ?_
      refine am_ww h24 ?_
      rintro _ _ ⟨s25, rfl, rfl, h26⟩
      show am_W _ _ 154 57 [(0, .ref 32), (1, .int a1), (2, .int a2)] [] (zH s25) _
      refine am_wh 1 (pc1 := 276) (lv1 := [(0, .ref 32), (1, .int a1), (2, .int a2)]) (st1 := []) rfl ?_
      refine am_wr rfl rfl rfl ?_
      exact ⟨_, rfl, rfl, h26⟩
    · refine am_wb2 rfl true (zt_ne (zq_a _) (by decide) (zr_t _) ⟨by decide, by decide⟩ c17) rfl ?_
      have h27 := h19 c17
      refine am_wh 2 (pc1 := 62) (lv1 := [(0, .ref 32), (1, .int a1), (2, .int a2)]) (st1 := [.int 3, .int a1]) rfl ?_
      obtain ⟨h29, h30⟩ := h27
      by_cases c28 : a1.toInt = 3
      · refine am_wb2 rfl true (zt_eq (zq_a _) (by decide) (zr_t _) ⟨by decide, by decide⟩ c28) rfl ?_
        have h31 := h29 c28
        refine am_wh 2 (pc1 := 73) (lv1 := [(0, .ref 32), (1, .int a1), (2, .int a2)]) (st1 := [.int a2, .ref 32]) rfl ?_
        refine am_wc rfl rfl rfl ?_
        refine am_ww h31 ?_
        rintro _ _ ⟨s32, rfl, rfl, h33⟩
        show am_W _ _ 154 76 [(0, .ref 32), (1, .int a1), (2, .int a2)] [] (zH s32) _
        refine am_wh 1 (pc1 := 276) (lv1 := [(0, .ref 32), (1, .int a1), (2, .int a2)]) (st1 := []) rfl ?_
        refine am_wr rfl rfl rfl ?_
        exact ⟨_, rfl, rfl, h33⟩
      · refine am_wb2 rfl false (zn_eq (zq_a _) (by decide) (zr_t _) ⟨by decide, by decide⟩ c28) rfl ?_
        have h34 := h30 c28
        refine am_wh 2 (pc1 := 68) (lv1 := [(0, .ref 32), (1, .int a1), (2, .int a2)]) (st1 := [.int 6, .int a1]) rfl ?_
        obtain ⟨h36, h37⟩ := h34
        by_cases c35 : a1.toInt = 6
        · refine am_wb2 rfl false (zn_ne (zq_a _) (by decide) (zr_t _) ⟨by decide, by decide⟩ c35) rfl ?_
          have h38 := h36 c35
          refine am_wh 2 (pc1 := 73) (lv1 := [(0, .ref 32), (1, .int a1), (2, .int a2)]) (st1 := [.int a2, .ref 32]) rfl ?_
          refine am_wc rfl rfl rfl ?_
          refine am_ww h38 ?_
          rintro _ _ ⟨s39, rfl, rfl, h40⟩
          show am_W _ _ 154 76 [(0, .ref 32), (1, .int a1), (2, .int a2)] [] (zH s39) _
          refine am_wh 1 (pc1 := 276) (lv1 := [(0, .ref 32), (1, .int a1), (2, .int a2)]) (st1 := []) rfl ?_
          refine am_wr rfl rfl rfl ?_
          exact ⟨_, rfl, rfl, h40⟩
        · refine am_wb2 rfl true (zt_ne (zq_a _) (by decide) (zr_t _) ⟨by decide, by decide⟩ c35) rfl ?_
          have h41 := h37 c35
          refine am_wh 2 (pc1 := 81) (lv1 := [(0, .ref 32), (1, .int a1), (2, .int a2)]) (st1 := [.int 4, .int a1]) rfl ?_
          obtain ⟨h43, h44⟩ := h41
          by_cases c42 : a1.toInt = 4
          · refine am_wb2 rfl false (zn_ne (zq_a _) (by decide) (zr_t _) ⟨by decide, by decide⟩ c42) rfl ?_
            have h45 := h43 c42
            refine am_wh 1 (pc1 := 85) (lv1 := [(0, .ref 32), (1, .int a1), (2, .int a2)]) (st1 := [.ref 32]) rfl ?_
            refine am_wc rfl rfl rfl ?_
            refine am_ww h45 ?_
            rintro _ _ ⟨s46, rfl, rfl, h47⟩
            show am_W _ _ 154 88 [(0, .ref 32), (1, .int a1), (2, .int a2)] [] (zH s46) _
            refine am_wh 1 (pc1 := 276) (lv1 := [(0, .ref 32), (1, .int a1), (2, .int a2)]) (st1 := []) rfl ?_
            refine am_wr rfl rfl rfl ?_
            exact ⟨_, rfl, rfl, h47⟩
          · refine am_wb2 rfl true (zt_ne (zq_a _) (by decide) (zr_t _) ⟨by decide, by decide⟩ c42) rfl ?_
            have h48 := h44 c42
            refine am_wh 2 (pc1 := 93) (lv1 := [(0, .ref 32), (1, .int a1), (2, .int a2)]) (st1 := [.int 5, .int a1]) rfl ?_
            obtain ⟨h50, h51⟩ := h48
            by_cases c49 : a1.toInt = 5
            · refine am_wb2 rfl false (zn_ne (zq_a _) (by decide) (zr_t _) ⟨by decide, by decide⟩ c49) rfl ?_
              have h52 := h50 c49
              refine am_wh 1 (pc1 := 97) (lv1 := [(0, .ref 32), (1, .int a1), (2, .int a2)]) (st1 := [.ref 32]) rfl ?_
              refine am_wc rfl rfl rfl ?_
              refine am_ww h52 ?_
              rintro _ _ ⟨s53, rfl, rfl, h54⟩
              show am_W _ _ 154 100 [(0, .ref 32), (1, .int a1), (2, .int a2)] [] (zH s53) _
              refine am_wh 1 (pc1 := 276) (lv1 := [(0, .ref 32), (1, .int a1), (2, .int a2)]) (st1 := []) rfl ?_
              refine am_wr rfl rfl rfl ?_
              exact ⟨_, rfl, rfl, h54⟩
            · refine am_wb2 rfl true (zt_ne (zq_a _) (by decide) (zr_t _) ⟨by decide, by decide⟩ c49) rfl ?_
              have h55 := h51 c49
              refine am_wh 2 (pc1 := 106) (lv1 := [(0, .ref 32), (1, .int a1), (2, .int a2)]) (st1 := [.int 8, .int a1]) rfl ?_
              obtain ⟨h57, h58⟩ := h55
              by_cases c56 : a1.toInt = 8
              · refine am_wb2 rfl false (zn_ne (zq_a _) (by decide) (zr_t _) ⟨by decide, by decide⟩ c56) rfl ?_
                have h59 := h57 c56
                refine am_wh 1 (pc1 := 110) (lv1 := [(0, .ref 32), (1, .int a1), (2, .int a2)]) (st1 := [.ref 32]) rfl ?_
                refine am_wc rfl rfl rfl ?_
                refine am_ww h59 ?_
                rintro _ _ ⟨s60, rfl, rfl, h61⟩
                show am_W _ _ 154 113 [(0, .ref 32), (1, .int a1), (2, .int a2)] [] (zH s60) _
                refine am_wh 1 (pc1 := 276) (lv1 := [(0, .ref 32), (1, .int a1), (2, .int a2)]) (st1 := []) rfl ?_
                refine am_wr rfl rfl rfl ?_
                exact ⟨_, rfl, rfl, h61⟩
              · refine am_wb2 rfl true (zt_ne (zq_a _) (by decide) (zr_t _) ⟨by decide, by decide⟩ c56) rfl ?_
                have h62 := h58 c56
                refine am_wh 2 (pc1 := 119) (lv1 := [(0, .ref 32), (1, .int a1), (2, .int a2)]) (st1 := [.int 7, .int a1]) rfl ?_
                obtain ⟨h64, h65⟩ := h62
                by_cases c63 : a1.toInt = 7
                · refine am_wb2 rfl false (zn_ne (zq_a _) (by decide) (zr_t _) ⟨by decide, by decide⟩ c63) rfl ?_
                  have h66 := h64 c63
                  refine am_wh 2 (pc1 := 124) (lv1 := [(0, .ref 32), (1, .int a1), (2, .int a2)]) (st1 := [.int a2, .ref 32]) rfl ?_
                  refine am_wc rfl rfl rfl ?_
                  refine am_ww h66 ?_
                  rintro _ _ ⟨s67, rfl, rfl, h68⟩
                  show am_W _ _ 154 127 [(0, .ref 32), (1, .int a1), (2, .int a2)] [] (zH s67) _
                  refine am_wh 3 (pc1 := 131) (lv1 := [(0, .ref 32), (1, .int a1), (2, .int a2)]) (st1 := [.int 43, .int 3, .ref 32]) rfl ?_
                  refine am_wc rfl rfl rfl ?_
                  refine am_ww h68 ?_
                  rintro _ _ ⟨v71, s69, rfl, rfl, h70⟩
                  show am_W _ _ 154 134 [(0, .ref 32), (1, .int a1), (2, .int a2)] [.int v71] (zH s69) _
                  obtain ⟨h73, h74⟩ := h70
                  by_cases c72 : v71.toInt = 0
                  · refine am_wb1 rfl true (zt_eq (zq_a _) (by decide) (zr_t _) ⟨by decide, by decide⟩ c72) rfl ?_
                    have h75 := h73 c72
                    refine am_wr rfl rfl rfl ?_
                    exact ⟨_, rfl, rfl, h75⟩
                  · refine am_wb1 rfl false (zn_eq (zq_a _) (by decide) (zr_t _) ⟨by decide, by decide⟩ c72) rfl ?_
                    have h76 := h74 c72
                    refine am_wh 1 (pc1 := 138) (lv1 := [(0, .ref 32), (1, .int a1), (2, .int a2)]) (st1 := [.ref 32]) rfl ?_
                    refine am_wc rfl rfl rfl ?_
                    refine am_ww h76 ?_
                    rintro _ _ ⟨s77, rfl, rfl, h78⟩
                    show am_W _ _ 154 141 [(0, .ref 32), (1, .int a1), (2, .int a2)] [] (zH s77) _
                    refine am_wh 3 (pc1 := 145) (lv1 := [(0, .ref 32), (1, .int a1), (2, .int a2)]) (st1 := [.int a2, .int 7, .ref 32]) rfl ?_
                    refine am_wc rfl rfl rfl ?_
                    refine am_ww h78 ?_
                    rintro _ _ ⟨s79, rfl, rfl, h80⟩
                    show am_W _ _ 154 148 [(0, .ref 32), (1, .int a1), (2, .int a2)] [] (zH s79) _
                    refine am_wh 3 (pc1 := 152) (lv1 := [(0, .ref 32), (1, .int a1), (2, .int a2)]) (st1 := [.int 0, .int 8, .ref 32]) rfl ?_
                    refine am_wc rfl rfl rfl ?_
                    refine am_ww h80 ?_
                    rintro _ _ ⟨s81, rfl, rfl, h82⟩
                    show am_W _ _ 154 155 [(0, .ref 32), (1, .int a1), (2, .int a2)] [] (zH s81) _
                    refine am_wh 1 (pc1 := 276) (lv1 := [(0, .ref 32), (1, .int a1), (2, .int a2)]) (st1 := []) rfl ?_
                    refine am_wr rfl rfl rfl ?_
                    exact ⟨_, rfl, rfl, h82⟩
                · refine am_wb2 rfl true (zt_ne (zq_a _) (by decide) (zr_t _) ⟨by decide, by decide⟩ c63) rfl ?_
                  have h83 := h65 c63
                  refine am_wh 2 (pc1 := 161) (lv1 := [(0, .ref 32), (1, .int a1), (2, .int a2)]) (st1 := [.int 9, .int a1]) rfl ?_
                  obtain ⟨h85, h86⟩ := h83
                  by_cases c84 : a1.toInt = 9
                  · refine am_wb2 rfl false (zn_ne (zq_a _) (by decide) (zr_t _) ⟨by decide, by decide⟩ c84) rfl ?_
                    have h87 := h85 c84
                    refine am_wh 2 (pc1 := 166) (lv1 := [(0, .ref 32), (1, .int a1), (2, .int a2)]) (st1 := [.int a2, .ref 32]) rfl ?_
                    refine am_wc rfl rfl rfl ?_
                    refine am_ww h87 ?_
                    rintro _ _ ⟨s88, rfl, rfl, h89⟩
                    show am_W _ _ 154 169 [(0, .ref 32), (1, .int a1), (2, .int a2)] [] (zH s88) _
                    refine am_wh 1 (pc1 := 276) (lv1 := [(0, .ref 32), (1, .int a1), (2, .int a2)]) (st1 := []) rfl ?_
                    refine am_wr rfl rfl rfl ?_
                    exact ⟨_, rfl, rfl, h89⟩
                  · refine am_wb2 rfl true (zt_ne (zq_a _) (by decide) (zr_t _) ⟨by decide, by decide⟩ c84) rfl ?_
                    have h90 := h86 c84
                    refine am_wh 2 (pc1 := 175) (lv1 := [(0, .ref 32), (1, .int a1), (2, .int a2)]) (st1 := [.int 14, .int a1]) rfl ?_
                    obtain ⟨h92, h93⟩ := h90
                    by_cases c91 : 14 < a1.toInt
                    · refine am_wb2 rfl true (zt_gt (zq_a _) (by decide) (zr_t _) ⟨by decide, by decide⟩ c91) rfl ?_
                      have h94 := h92 c91
                      refine am_wh 2 (pc1 := 190) (lv1 := [(0, .ref 32), (1, .int a1), (2, .int a2)]) (st1 := [.int 16, .int a1]) rfl ?_
                      obtain ⟨h96, h97⟩ := h94
                      by_cases c95 : a1.toInt = 16
                      · refine am_wb2 rfl false (zn_ne (zq_a _) (by decide) (zr_t _) ⟨by decide, by decide⟩ c95) rfl ?_
                        have h98 := h96 c95
                        refine am_wh 7 (pc1 := 204) (lv1 := [(0, .ref 32), (1, .int a1), (2, .int a2)]) (st1 := [.int (a2 - a2 / 256 * 256), .int (a2 / 256), .ref 32]) rfl ?_
                        refine am_wc rfl rfl rfl ?_
                        refine am_ww h98 ?_
                        rintro _ _ ⟨v101, s99, rfl, rfl, h100⟩
                        show am_W _ _ 154 207 [(0, .ref 32), (1, .int a1), (2, .int a2)] [.int v101] (zH s99) _
                        obtain ⟨h103, h104⟩ := h100
                        by_cases c102 : v101.toInt = 0
                        · refine am_wb1 rfl true (zt_eq (zq_a _) (by decide) (zr_t _) ⟨by decide, by decide⟩ c102) rfl ?_
                          have h105 := h103 c102
                          refine am_wh 2 (pc1 := 220) (lv1 := [(0, .ref 32), (1, .int a1), (2, .int a2)]) (st1 := [.int 20, .ref 32]) rfl ?_
                          refine am_wc rfl rfl rfl ?_
                          refine am_ww h105 ?_
                          rintro _ _ ⟨s106, rfl, rfl, h107⟩
                          show am_W _ _ 154 223 [(0, .ref 32), (1, .int a1), (2, .int a2)] [] (zH s106) _
                          refine am_wh 1 (pc1 := 276) (lv1 := [(0, .ref 32), (1, .int a1), (2, .int a2)]) (st1 := []) rfl ?_
                          refine am_wr rfl rfl rfl ?_
                          exact ⟨_, rfl, rfl, h107⟩
                        · refine am_wb1 rfl false (zn_eq (zq_a _) (by decide) (zr_t _) ⟨by decide, by decide⟩ c102) rfl ?_
                          have h108 := h104 c102
                          refine am_wh 1 (pc1 := 211) (lv1 := [(0, .ref 32), (1, .int a1), (2, .int a2)]) (st1 := [.ref 32]) rfl ?_
                          refine am_wc rfl rfl rfl ?_
                          refine am_ww h108 ?_
                          rintro _ _ ⟨s109, rfl, rfl, h110⟩
                          show am_W _ _ 154 214 [(0, .ref 32), (1, .int a1), (2, .int a2)] [] (zH s109) _
                          refine am_wh 1 (pc1 := 276) (lv1 := [(0, .ref 32), (1, .int a1), (2, .int a2)]) (st1 := []) rfl ?_
                          refine am_wr rfl rfl rfl ?_
                          exact ⟨_, rfl, rfl, h110⟩
                      · refine am_wb2 rfl true (zt_ne (zq_a _) (by decide) (zr_t _) ⟨by decide, by decide⟩ c95) rfl ?_
                        have h111 := h97 c95
                        refine am_wh 2 (pc1 := 229) (lv1 := [(0, .ref 32), (1, .int a1), (2, .int a2)]) (st1 := [.int 17, .int a1]) rfl ?_
                        obtain ⟨h113, h114⟩ := h111
                        by_cases c112 : a1.toInt = 17
                        · refine am_wb2 rfl false (zn_ne (zq_a _) (by decide) (zr_t _) ⟨by decide, by decide⟩ c112) rfl ?_
                          have h115 := h113 c112
                          refine am_wh 4 (pc1 := 240) (lv1 := [(0, .ref 32), (1, .int a1), (2, .int a2)]) (st1 := [.int (s.1 24), .ref 36]) rfl ?_
                          obtain ⟨o116, h117⟩ := h115
                          refine zw_li (l := (s.2 34)) (i := (s.1 24).toInt) rfl rfl (zq_a _) o116 ?_
                          obtain ⟨h119, h120⟩ := h117
                          by_cases c118 : (zg (s.2 34) (s.1 24).toInt).toInt = 0
                          · refine am_wb1 rfl false (zn_ne (zq_a _) (by decide) (zr_t _) ⟨by decide, by decide⟩ c118) rfl ?_
                            have h121 := h119 c118
                            refine am_wh 5 (pc1 := 253) (lv1 := [(0, .ref 32), (1, .int a1), (2, .int a2)]) (st1 := [.int a2, .int (s.1 24), .ref 40]) rfl ?_
                            obtain ⟨o122, h123⟩ := h121
                            refine zw_si (l := (s.2 38)) (i := (s.1 24).toInt) rfl rfl (zq_a _) o122 (zh_38 _ _) ?_
                            refine am_wh 1 (pc1 := 255) (lv1 := [(0, .ref 32), (1, .int a1), (2, .int a2)]) (st1 := [.ref 32]) rfl ?_
                            refine am_wc rfl rfl rfl ?_
                            refine am_ww h123 ?_
                            rintro _ _ ⟨s124, rfl, rfl, h125⟩
                            show am_W _ _ 154 258 [(0, .ref 32), (1, .int a1), (2, .int a2)] [] (zH s124) _
                            refine am_wh 1 (pc1 := 276) (lv1 := [(0, .ref 32), (1, .int a1), (2, .int a2)]) (st1 := []) rfl ?_
                            refine am_wr rfl rfl rfl ?_
                            exact ⟨_, rfl, rfl, h125⟩
                          · refine am_wb1 rfl true (zt_ne (zq_a _) (by decide) (zr_t _) ⟨by decide, by decide⟩ c118) rfl ?_
                            have h126 := h120 c118
                            refine am_wh 2 (pc1 := 264) (lv1 := [(0, .ref 32), (1, .int a1), (2, .int a2)]) (st1 := [.int 20, .ref 32]) rfl ?_
                            refine am_wc rfl rfl rfl ?_
                            refine am_ww h126 ?_
                            rintro _ _ ⟨s127, rfl, rfl, h128⟩
                            show am_W _ _ 154 267 [(0, .ref 32), (1, .int a1), (2, .int a2)] [] (zH s127) _
                            refine am_wh 1 (pc1 := 276) (lv1 := [(0, .ref 32), (1, .int a1), (2, .int a2)]) (st1 := []) rfl ?_
                            refine am_wr rfl rfl rfl ?_
                            exact ⟨_, rfl, rfl, h128⟩
                        · refine am_wb2 rfl true (zt_ne (zq_a _) (by decide) (zr_t _) ⟨by decide, by decide⟩ c112) rfl ?_
                          have h129 := h114 c112
                          refine am_wh 3 (pc1 := 273) (lv1 := [(0, .ref 32), (1, .int a1), (2, .int a2)]) (st1 := [.int a2, .int a1, .ref 32]) rfl ?_
                          refine am_wc rfl rfl rfl ?_
                          refine am_ww h129 ?_
                          rintro _ _ ⟨s130, rfl, rfl, h131⟩
                          show am_W _ _ 154 276 [(0, .ref 32), (1, .int a1), (2, .int a2)] [] (zH s130) _
                          refine am_wr rfl rfl rfl ?_
                          exact ⟨_, rfl, rfl, h131⟩
                    · refine am_wb2 rfl false (zn_gt (zq_a _) (by decide) (zr_t _) ⟨by decide, by decide⟩ c91) rfl ?_
                      have h132 := h93 c91
                      refine am_wh 3 (pc1 := 181) (lv1 := [(0, .ref 32), (1, .int a1), (2, .int a2)]) (st1 := [.int a2, .int a1, .ref 32]) rfl ?_
                      refine am_wc rfl rfl rfl ?_
                      refine am_ww h132 ?_
                      rintro _ _ ⟨s133, rfl, rfl, h134⟩
                      show am_W _ _ 154 184 [(0, .ref 32), (1, .int a1), (2, .int a2)] [] (zH s133) _
                      refine am_wh 1 (pc1 := 276) (lv1 := [(0, .ref 32), (1, .int a1), (2, .int a2)]) (st1 := []) rfl ?_
                      refine am_wr rfl rfl rfl ?_
                      exact ⟨_, rfl, rfl, h134⟩
set_option maxRecDepth 100000 in
theorem vc_155_0 (xs : Option (List Int32)) (d : Nat) (s : zS)  (Q : zS → Prop) (h : zX (s.2 34) (s.1 24).toInt ∧ ((zg (s.2 34) (s.1 24).toInt).toInt = 2 → (zX (s.2 37) (s.1 24).toInt ∧ ((zg (s.2 37) (s.1 24).toInt).toInt = 2 → (zWi xs d 151 0 [(0, .ref 32), (1, .int 1), (2, .int (s.1 24))] s (fun v15 s13 => zWv xs d 149 0 [(0, .ref 32)] s13 (fun s16 => zWv xs d 145 0 [(0, .ref 32), (1, .int 12), (2, .int v15)] s16 (fun s18 => zWv xs d 146 0 [(0, .ref 32), (1, .int 3), (2, .int 41)] s18 (fun s20 => zWv xs d 145 0 [(0, .ref 32), (1, .int 11), (2, .int 0)] s20 (fun s22 => zWv xs d 146 0 [(0, .ref 32), (1, .int 3), (2, .int 40)] s22 (fun s24 => zWv xs d 145 0 [(0, .ref 32), (1, .int 17), (2, .int 1)] s24 (fun s26 => zX (s26.2 46) v15.toInt ∧ Q (za s26 46 (zu (s26.2 46) v15.toInt ((s26.1 24) + 1)))))))))))) ∧ (¬ (zg (s.2 37) (s.1 24).toInt).toInt = 2 → (((zg (s.2 37) (s.1 24).toInt).toInt = 1 → (zWi xs d 151 0 [(0, .ref 32), (1, .int 2), (2, .int (s.1 24))] s (fun v37 s35 => zWv xs d 149 0 [(0, .ref 32)] s35 (fun s38 => zWv xs d 145 0 [(0, .ref 32), (1, .int 12), (2, .int v37)] s38 (fun s40 => zWv xs d 145 0 [(0, .ref 32), (1, .int 17), (2, .int 1)] s40 (fun s42 => zX (s42.2 46) v37.toInt ∧ Q (za s42 46 (zu (s42.2 46) v37.toInt ((s42.1 24) + 1))))))))) ∧ (¬ (zg (s.2 37) (s.1 24).toInt).toInt = 1 → (((zg (s.2 37) (s.1 24).toInt).toInt = 7 → (zWv xs d 149 0 [(0, .ref 32)] s (fun s51 => zWv xs d 145 0 [(0, .ref 32), (1, .int 19), (2, .int (zg (s.2 37) (s.1 24).toInt))] s51 (fun s53 => zWv xs d 145 0 [(0, .ref 32), (1, .int 12), (2, .int 0)] s53 (fun s55 => zWv xs d 145 0 [(0, .ref 32), (1, .int 5), (2, .int 0)] s55 (fun s57 => Q s57)))))) ∧ (¬ (zg (s.2 37) (s.1 24).toInt).toInt = 7 → (((zg (s.2 37) (s.1 24).toInt).toInt = 14 → (zWv xs d 149 0 [(0, .ref 32)] s (fun s64 => zWv xs d 145 0 [(0, .ref 32), (1, .int 19), (2, .int (zg (s.2 37) (s.1 24).toInt))] s64 (fun s66 => zWv xs d 145 0 [(0, .ref 32), (1, .int 12), (2, .int 0)] s66 (fun s68 => zWv xs d 145 0 [(0, .ref 32), (1, .int 5), (2, .int 0)] s68 (fun s70 => Q s70)))))) ∧ (¬ (zg (s.2 37) (s.1 24).toInt).toInt = 14 → (((zg (s.2 37) (s.1 24).toInt).toInt = 5 → (zWv xs d 149 0 [(0, .ref 32)] s (fun s77 => zWv xs d 145 0 [(0, .ref 32), (1, .int 12), (2, .int 0)] s77 (fun s79 => zWv xs d 145 0 [(0, .ref 32), (1, .int 5), (2, .int 0)] s79 (fun s81 => zWv xs d 146 0 [(0, .ref 32), (1, .int 2), (2, .int 9)] s81 (fun s83 => zWv xs d 145 0 [(0, .ref 32), (1, .int 17), (2, .int 1)] s83 (fun s85 => Q s85))))))) ∧ (¬ (zg (s.2 37) (s.1 24).toInt).toInt = 5 → (zWv xs d 146 0 [(0, .ref 32), (1, .int 4), (2, .int 0)] s (fun s88 => zWv xs d 145 0 [(0, .ref 32), (1, .int 4), (2, .int 0)] s88 (fun s90 => Q s90)))))))))))))) ∧ (¬ (zg (s.2 34) (s.1 24).toInt).toInt = 2 → (zWv xs d 146 0 [(0, .ref 32), (1, .int 4), (2, .int 0)] s (fun s93 => zWv xs d 145 0 [(0, .ref 32), (1, .int 4), (2, .int 0)] s93 (fun s95 => Q s95))))) : zWv xs (d + 1) 155 0 [(0, .ref 32)] s Q := by
  unfold zWv
  refine am_wh 4 (pc1 := 8) (lv1 := [(0, .ref 32)]) (st1 := [.int (s.1 24), .ref 36]) rfl ?_
  obtain ⟨o1, h2⟩ := h
  refine zw_li (l := (s.2 34)) (i := (s.1 24).toInt) rfl rfl (zq_a _) o1 ?_
  refine am_wh 1 (pc1 := 10) (lv1 := [(0, .ref 32)]) (st1 := [.int 2, .int (zg (s.2 34) (s.1 24).toInt)]) rfl ?_
  obtain ⟨h4, h5⟩ := h2
  by_cases c3 : (zg (s.2 34) (s.1 24).toInt).toInt = 2
  · refine am_wb2 rfl false (zn_ne (zq_a _) (by decide) (zr_t _) ⟨by decide, by decide⟩ c3) rfl ?_
    have h6 := h4 c3
    refine am_wh 4 (pc1 := 21) (lv1 := [(0, .ref 32)]) (st1 := [.int (s.1 24), .ref 39]) rfl ?_
    obtain ⟨o7, h8⟩ := h6
    refine zw_li (l := (s.2 37)) (i := (s.1 24).toInt) rfl rfl (zq_a _) o7 ?_
    refine am_wh 4 (pc1 := 29) (lv1 := [(1, .int (zg (s.2 37) (s.1 24).toInt)), (0, .ref 32)]) (st1 := [.int 2, .int (zg (s.2 37) (s.1 24).toInt)]) rfl ?_
    obtain ⟨h10, h11⟩ := h8
    by_cases c9 : (zg (s.2 37) (s.1 24).toInt).toInt = 2
    · refine am_wb2 rfl false (zn_ne (zq_a _) (by decide) (zr_t _) ⟨by decide, by decide⟩ c9) rfl ?_
      have h12 := h10 c9
      refine am_wh 4 (pc1 := 38) (lv1 := [(1, .int (zg (s.2 37) (s.1 24).toInt)), (0, .ref 32)]) (st1 := [.int (s.1 24), .int 1, .ref 32]) rfl ?_
      refine am_wc rfl rfl rfl ?_
      refine am_ww h12 ?_
      rintro _ _ ⟨v15, s13, rfl, rfl, h14⟩
      show am_W _ _ 155 41 [(1, .int (zg (s.2 37) (s.1 24).toInt)), (0, .ref 32)] [.int v15] (zH s13) _
      refine am_wh 2 (pc1 := 43) (lv1 := [(2, .int v15), (1, .int (zg (s.2 37) (s.1 24).toInt)), (0, .ref 32)]) (st1 := [.ref 32]) rfl ?_
      refine am_wc rfl rfl rfl ?_
      refine am_ww h14 ?_
      rintro _ _ ⟨s16, rfl, rfl, h17⟩
      show am_W _ _ 155 46 [(2, .int v15), (1, .int (zg (s.2 37) (s.1 24).toInt)), (0, .ref 32)] [] (zH s16) _
      refine am_wh 3 (pc1 := 50) (lv1 := [(2, .int v15), (1, .int (zg (s.2 37) (s.1 24).toInt)), (0, .ref 32)]) (st1 := [.int v15, .int 12, .ref 32]) rfl ?_
      refine am_wc rfl rfl rfl ?_
      refine am_ww h17 ?_
      rintro _ _ ⟨s18, rfl, rfl, h19⟩
      show am_W _ _ 155 53 [(2, .int v15), (1, .int (zg (s.2 37) (s.1 24).toInt)), (0, .ref 32)] [] (zH s18) _
      refine am_wh 3 (pc1 := 57) (lv1 := [(2, .int v15), (1, .int (zg (s.2 37) (s.1 24).toInt)), (0, .ref 32)]) (st1 := [.int 41, .int 3, .ref 32]) rfl ?_
      refine am_wc rfl rfl rfl ?_
      refine am_ww h19 ?_
      rintro _ _ ⟨s20, rfl, rfl, h21⟩
      show am_W _ _ 155 60 [(2, .int v15), (1, .int (zg (s.2 37) (s.1 24).toInt)), (0, .ref 32)] [] (zH s20) _
      refine am_wh 3 (pc1 := 64) (lv1 := [(2, .int v15), (1, .int (zg (s.2 37) (s.1 24).toInt)), (0, .ref 32)]) (st1 := [.int 0, .int 11, .ref 32]) rfl ?_
      refine am_wc rfl rfl rfl ?_
      refine am_ww h21 ?_
      rintro _ _ ⟨s22, rfl, rfl, h23⟩
      show am_W _ _ 155 67 [(2, .int v15), (1, .int (zg (s.2 37) (s.1 24).toInt)), (0, .ref 32)] [] (zH s22) _
      refine am_wh 3 (pc1 := 71) (lv1 := [(2, .int v15), (1, .int (zg (s.2 37) (s.1 24).toInt)), (0, .ref 32)]) (st1 := [.int 40, .int 3, .ref 32]) rfl ?_
      refine am_wc rfl rfl rfl ?_
      refine am_ww h23 ?_
      rintro _ _ ⟨s24, rfl, rfl, h25⟩
      show am_W _ _ 155 74 [(2, .int v15), (1, .int (zg (s.2 37) (s.1 24).toInt)), (0, .ref 32)] [] (zH s24) _
      refine am_wh 3 (pc1 := 78) (lv1 := [(2, .int v15), (1, .int (zg (s.2 37) (s.1 24).toInt)), (0, .ref 32)]) (st1 := [.int 1, .int 17, .ref 32]) rfl ?_
      refine am_wc rfl rfl rfl ?_
      refine am_ww h25 ?_
      rintro _ _ ⟨s26, rfl, rfl, h27⟩
      show am_W _ _ 155 81 [(2, .int v15), (1, .int (zg (s.2 37) (s.1 24).toInt)), (0, .ref 32)] [] (zH s26) _
      refine am_wh 7 (pc1 := 92) (lv1 := [(2, .int v15), (1, .int (zg (s.2 37) (s.1 24).toInt)), (0, .ref 32)]) (st1 := [.int ((s26.1 24) + 1), .int v15, .ref 48]) rfl ?_
      obtain ⟨o28, h29⟩ := h27
      refine zw_si (l := (s26.2 46)) (i := v15.toInt) rfl rfl (zq_a _) o28 (zh_46 _ _) ?_
      refine am_wh 1 (pc1 := 234) (lv1 := [(2, .int v15), (1, .int (zg (s.2 37) (s.1 24).toInt)), (0, .ref 32)]) (st1 := []) rfl ?_
      refine am_wr rfl rfl rfl ?_
      exact ⟨_, rfl, rfl, h29⟩
    · refine am_wb2 rfl true (zt_ne (zq_a _) (by decide) (zr_t _) ⟨by decide, by decide⟩ c9) rfl ?_
      have h30 := h11 c9
      refine am_wh 2 (pc1 := 98) (lv1 := [(1, .int (zg (s.2 37) (s.1 24).toInt)), (0, .ref 32)]) (st1 := [.int 1, .int (zg (s.2 37) (s.1 24).toInt)]) rfl ?_
      obtain ⟨h32, h33⟩ := h30
      by_cases c31 : (zg (s.2 37) (s.1 24).toInt).toInt = 1
      · refine am_wb2 rfl false (zn_ne (zq_a _) (by decide) (zr_t _) ⟨by decide, by decide⟩ c31) rfl ?_
        have h34 := h32 c31
        refine am_wh 4 (pc1 := 107) (lv1 := [(1, .int (zg (s.2 37) (s.1 24).toInt)), (0, .ref 32)]) (st1 := [.int (s.1 24), .int 2, .ref 32]) rfl ?_
        refine am_wc rfl rfl rfl ?_
        refine am_ww h34 ?_
        rintro _ _ ⟨v37, s35, rfl, rfl, h36⟩
        show am_W _ _ 155 110 [(1, .int (zg (s.2 37) (s.1 24).toInt)), (0, .ref 32)] [.int v37] (zH s35) _
        refine am_wh 2 (pc1 := 112) (lv1 := [(2, .int v37), (1, .int (zg (s.2 37) (s.1 24).toInt)), (0, .ref 32)]) (st1 := [.ref 32]) rfl ?_
        refine am_wc rfl rfl rfl ?_
        refine am_ww h36 ?_
        rintro _ _ ⟨s38, rfl, rfl, h39⟩
        show am_W _ _ 155 115 [(2, .int v37), (1, .int (zg (s.2 37) (s.1 24).toInt)), (0, .ref 32)] [] (zH s38) _
        refine am_wh 3 (pc1 := 119) (lv1 := [(2, .int v37), (1, .int (zg (s.2 37) (s.1 24).toInt)), (0, .ref 32)]) (st1 := [.int v37, .int 12, .ref 32]) rfl ?_
        refine am_wc rfl rfl rfl ?_
        refine am_ww h39 ?_
        rintro _ _ ⟨s40, rfl, rfl, h41⟩
        show am_W _ _ 155 122 [(2, .int v37), (1, .int (zg (s.2 37) (s.1 24).toInt)), (0, .ref 32)] [] (zH s40) _
        refine am_wh 3 (pc1 := 126) (lv1 := [(2, .int v37), (1, .int (zg (s.2 37) (s.1 24).toInt)), (0, .ref 32)]) (st1 := [.int 1, .int 17, .ref 32]) rfl ?_
        refine am_wc rfl rfl rfl ?_
        refine am_ww h41 ?_
        rintro _ _ ⟨s42, rfl, rfl, h43⟩
        show am_W _ _ 155 129 [(2, .int v37), (1, .int (zg (s.2 37) (s.1 24).toInt)), (0, .ref 32)] [] (zH s42) _
        refine am_wh 7 (pc1 := 140) (lv1 := [(2, .int v37), (1, .int (zg (s.2 37) (s.1 24).toInt)), (0, .ref 32)]) (st1 := [.int ((s42.1 24) + 1), .int v37, .ref 48]) rfl ?_
        obtain ⟨o44, h45⟩ := h43
        refine zw_si (l := (s42.2 46)) (i := v37.toInt) rfl rfl (zq_a _) o44 (zh_46 _ _) ?_
        refine am_wh 1 (pc1 := 234) (lv1 := [(2, .int v37), (1, .int (zg (s.2 37) (s.1 24).toInt)), (0, .ref 32)]) (st1 := []) rfl ?_
        refine am_wr rfl rfl rfl ?_
        exact ⟨_, rfl, rfl, h45⟩
      · refine am_wb2 rfl true (zt_ne (zq_a _) (by decide) (zr_t _) ⟨by decide, by decide⟩ c31) rfl ?_
        have h46 := h33 c31
        refine am_wh 2 (pc1 := 147) (lv1 := [(1, .int (zg (s.2 37) (s.1 24).toInt)), (0, .ref 32)]) (st1 := [.int 7, .int (zg (s.2 37) (s.1 24).toInt)]) rfl ?_
        obtain ⟨h48, h49⟩ := h46
        by_cases c47 : (zg (s.2 37) (s.1 24).toInt).toInt = 7
        · refine am_wb2 rfl true (zt_eq (zq_a _) (by decide) (zr_t _) ⟨by decide, by decide⟩ c47) rfl ?_
          have h50 := h48 c47
          refine am_wh 1 (pc1 := 157) (lv1 := [(1, .int (zg (s.2 37) (s.1 24).toInt)), (0, .ref 32)]) (st1 := [.ref 32]) rfl ?_
          refine am_wc rfl rfl rfl ?_
          refine am_ww h50 ?_
          rintro _ _ ⟨s51, rfl, rfl, h52⟩
          show am_W _ _ 155 160 [(1, .int (zg (s.2 37) (s.1 24).toInt)), (0, .ref 32)] [] (zH s51) _
          refine am_wh 3 (pc1 := 164) (lv1 := [(1, .int (zg (s.2 37) (s.1 24).toInt)), (0, .ref 32)]) (st1 := [.int (zg (s.2 37) (s.1 24).toInt), .int 19, .ref 32]) rfl ?_
          refine am_wc rfl rfl rfl ?_
          refine am_ww h52 ?_
          rintro _ _ ⟨s53, rfl, rfl, h54⟩
          show am_W _ _ 155 167 [(1, .int (zg (s.2 37) (s.1 24).toInt)), (0, .ref 32)] [] (zH s53) _
          refine am_wh 3 (pc1 := 171) (lv1 := [(1, .int (zg (s.2 37) (s.1 24).toInt)), (0, .ref 32)]) (st1 := [.int 0, .int 12, .ref 32]) rfl ?_
          refine am_wc rfl rfl rfl ?_
          refine am_ww h54 ?_
          rintro _ _ ⟨s55, rfl, rfl, h56⟩
          show am_W _ _ 155 174 [(1, .int (zg (s.2 37) (s.1 24).toInt)), (0, .ref 32)] [] (zH s55) _
          refine am_wh 3 (pc1 := 177) (lv1 := [(1, .int (zg (s.2 37) (s.1 24).toInt)), (0, .ref 32)]) (st1 := [.int 0, .int 5, .ref 32]) rfl ?_
          refine am_wc rfl rfl rfl ?_
          refine am_ww h56 ?_
          rintro _ _ ⟨s57, rfl, rfl, h58⟩
          show am_W _ _ 155 180 [(1, .int (zg (s.2 37) (s.1 24).toInt)), (0, .ref 32)] [] (zH s57) _
          refine am_wh 1 (pc1 := 234) (lv1 := [(1, .int (zg (s.2 37) (s.1 24).toInt)), (0, .ref 32)]) (st1 := []) rfl ?_
          refine am_wr rfl rfl rfl ?_
          exact ⟨_, rfl, rfl, h58⟩
        · refine am_wb2 rfl false (zn_eq (zq_a _) (by decide) (zr_t _) ⟨by decide, by decide⟩ c47) rfl ?_
          have h59 := h49 c47
          refine am_wh 2 (pc1 := 153) (lv1 := [(1, .int (zg (s.2 37) (s.1 24).toInt)), (0, .ref 32)]) (st1 := [.int 14, .int (zg (s.2 37) (s.1 24).toInt)]) rfl ?_
          obtain ⟨h61, h62⟩ := h59
          by_cases c60 : (zg (s.2 37) (s.1 24).toInt).toInt = 14
          · refine am_wb2 rfl false (zn_ne (zq_a _) (by decide) (zr_t _) ⟨by decide, by decide⟩ c60) rfl ?_
            have h63 := h61 c60
            refine am_wh 1 (pc1 := 157) (lv1 := [(1, .int (zg (s.2 37) (s.1 24).toInt)), (0, .ref 32)]) (st1 := [.ref 32]) rfl ?_
            refine am_wc rfl rfl rfl ?_
            refine am_ww h63 ?_
            rintro _ _ ⟨s64, rfl, rfl, h65⟩
            show am_W _ _ 155 160 [(1, .int (zg (s.2 37) (s.1 24).toInt)), (0, .ref 32)] [] (zH s64) _
            refine am_wh 3 (pc1 := 164) (lv1 := [(1, .int (zg (s.2 37) (s.1 24).toInt)), (0, .ref 32)]) (st1 := [.int (zg (s.2 37) (s.1 24).toInt), .int 19, .ref 32]) rfl ?_
            refine am_wc rfl rfl rfl ?_
            refine am_ww h65 ?_
            rintro _ _ ⟨s66, rfl, rfl, h67⟩
            show am_W _ _ 155 167 [(1, .int (zg (s.2 37) (s.1 24).toInt)), (0, .ref 32)] [] (zH s66) _
            refine am_wh 3 (pc1 := 171) (lv1 := [(1, .int (zg (s.2 37) (s.1 24).toInt)), (0, .ref 32)]) (st1 := [.int 0, .int 12, .ref 32]) rfl ?_
            refine am_wc rfl rfl rfl ?_
            refine am_ww h67 ?_
            rintro _ _ ⟨s68, rfl, rfl, h69⟩
            show am_W _ _ 155 174 [(1, .int (zg (s.2 37) (s.1 24).toInt)), (0, .ref 32)] [] (zH s68) _
            refine am_wh 3 (pc1 := 177) (lv1 := [(1, .int (zg (s.2 37) (s.1 24).toInt)), (0, .ref 32)]) (st1 := [.int 0, .int 5, .ref 32]) rfl ?_
            refine am_wc rfl rfl rfl ?_
            refine am_ww h69 ?_
            rintro _ _ ⟨s70, rfl, rfl, h71⟩
            show am_W _ _ 155 180 [(1, .int (zg (s.2 37) (s.1 24).toInt)), (0, .ref 32)] [] (zH s70) _
            refine am_wh 1 (pc1 := 234) (lv1 := [(1, .int (zg (s.2 37) (s.1 24).toInt)), (0, .ref 32)]) (st1 := []) rfl ?_
            refine am_wr rfl rfl rfl ?_
            exact ⟨_, rfl, rfl, h71⟩
          · refine am_wb2 rfl true (zt_ne (zq_a _) (by decide) (zr_t _) ⟨by decide, by decide⟩ c60) rfl ?_
            have h72 := h62 c60
            refine am_wh 2 (pc1 := 185) (lv1 := [(1, .int (zg (s.2 37) (s.1 24).toInt)), (0, .ref 32)]) (st1 := [.int 5, .int (zg (s.2 37) (s.1 24).toInt)]) rfl ?_
            obtain ⟨h74, h75⟩ := h72
            by_cases c73 : (zg (s.2 37) (s.1 24).toInt).toInt = 5
            · refine am_wb2 rfl false (zn_ne (zq_a _) (by decide) (zr_t _) ⟨by decide, by decide⟩ c73) rfl ?_
              have h76 := h74 c73
              refine am_wh 1 (pc1 := 189) (lv1 := [(1, .int (zg (s.2 37) (s.1 24).toInt)), (0, .ref 32)]) (st1 := [.ref 32]) rfl ?_
              refine am_wc rfl rfl rfl ?_
              refine am_ww h76 ?_
              rintro _ _ ⟨s77, rfl, rfl, h78⟩
              show am_W _ _ 155 192 [(1, .int (zg (s.2 37) (s.1 24).toInt)), (0, .ref 32)] [] (zH s77) _
              refine am_wh 3 (pc1 := 196) (lv1 := [(1, .int (zg (s.2 37) (s.1 24).toInt)), (0, .ref 32)]) (st1 := [.int 0, .int 12, .ref 32]) rfl ?_
              refine am_wc rfl rfl rfl ?_
              refine am_ww h78 ?_
              rintro _ _ ⟨s79, rfl, rfl, h80⟩
              show am_W _ _ 155 199 [(1, .int (zg (s.2 37) (s.1 24).toInt)), (0, .ref 32)] [] (zH s79) _
              refine am_wh 3 (pc1 := 202) (lv1 := [(1, .int (zg (s.2 37) (s.1 24).toInt)), (0, .ref 32)]) (st1 := [.int 0, .int 5, .ref 32]) rfl ?_
              refine am_wc rfl rfl rfl ?_
              refine am_ww h80 ?_
              rintro _ _ ⟨s81, rfl, rfl, h82⟩
              show am_W _ _ 155 205 [(1, .int (zg (s.2 37) (s.1 24).toInt)), (0, .ref 32)] [] (zH s81) _
              refine am_wh 3 (pc1 := 209) (lv1 := [(1, .int (zg (s.2 37) (s.1 24).toInt)), (0, .ref 32)]) (st1 := [.int 9, .int 2, .ref 32]) rfl ?_
              refine am_wc rfl rfl rfl ?_
              refine am_ww h82 ?_
              rintro _ _ ⟨s83, rfl, rfl, h84⟩
              show am_W _ _ 155 212 [(1, .int (zg (s.2 37) (s.1 24).toInt)), (0, .ref 32)] [] (zH s83) _
              refine am_wh 3 (pc1 := 216) (lv1 := [(1, .int (zg (s.2 37) (s.1 24).toInt)), (0, .ref 32)]) (st1 := [.int 1, .int 17, .ref 32]) rfl ?_
              refine am_wc rfl rfl rfl ?_
              refine am_ww h84 ?_
              rintro _ _ ⟨s85, rfl, rfl, h86⟩
              show am_W _ _ 155 219 [(1, .int (zg (s.2 37) (s.1 24).toInt)), (0, .ref 32)] [] (zH s85) _
              refine am_wh 1 (pc1 := 234) (lv1 := [(1, .int (zg (s.2 37) (s.1 24).toInt)), (0, .ref 32)]) (st1 := []) rfl ?_
              refine am_wr rfl rfl rfl ?_
              exact ⟨_, rfl, rfl, h86⟩
            · refine am_wb2 rfl true (zt_ne (zq_a _) (by decide) (zr_t _) ⟨by decide, by decide⟩ c73) rfl ?_
              have h87 := h75 c73
              refine am_wh 3 (pc1 := 225) (lv1 := [(1, .int (zg (s.2 37) (s.1 24).toInt)), (0, .ref 32)]) (st1 := [.int 0, .int 4, .ref 32]) rfl ?_
              refine am_wc rfl rfl rfl ?_
              refine am_ww h87 ?_
              rintro _ _ ⟨s88, rfl, rfl, h89⟩
              show am_W _ _ 155 228 [(1, .int (zg (s.2 37) (s.1 24).toInt)), (0, .ref 32)] [] (zH s88) _
              refine am_wh 3 (pc1 := 231) (lv1 := [(1, .int (zg (s.2 37) (s.1 24).toInt)), (0, .ref 32)]) (st1 := [.int 0, .int 4, .ref 32]) rfl ?_
              refine am_wc rfl rfl rfl ?_
              refine am_ww h89 ?_
              rintro _ _ ⟨s90, rfl, rfl, h91⟩
              show am_W _ _ 155 234 [(1, .int (zg (s.2 37) (s.1 24).toInt)), (0, .ref 32)] [] (zH s90) _
              refine am_wr rfl rfl rfl ?_
              exact ⟨_, rfl, rfl, h91⟩
  · refine am_wb2 rfl true (zt_ne (zq_a _) (by decide) (zr_t _) ⟨by decide, by decide⟩ c3) rfl ?_
    have h92 := h5 c3
    refine am_wh 20 (pc1 := 225) (lv1 := [(1, .int 0), (0, .ref 32)]) (st1 := [.int 0, .int 4, .ref 32]) rfl ?_
    refine am_wc rfl rfl rfl ?_
    refine am_ww h92 ?_
    rintro _ _ ⟨s93, rfl, rfl, h94⟩
    show am_W _ _ 155 228 [(1, .int 0), (0, .ref 32)] [] (zH s93) _
    refine am_wh 3 (pc1 := 231) (lv1 := [(1, .int 0), (0, .ref 32)]) (st1 := [.int 0, .int 4, .ref 32]) rfl ?_
    refine am_wc rfl rfl rfl ?_
    refine am_ww h94 ?_
    rintro _ _ ⟨s95, rfl, rfl, h96⟩
    show am_W _ _ 155 234 [(1, .int 0), (0, .ref 32)] [] (zH s95) _
    refine am_wr rfl rfl rfl ?_
    exact ⟨_, rfl, rfl, h96⟩
set_option maxRecDepth 100000 in
theorem vc_156_0 (xs : Option (List Int32)) (d : Nat) (s : zS)  (Q : zS → Prop) (h : zX (s.2 34) (s.1 24).toInt ∧ ((zg (s.2 34) (s.1 24).toInt).toInt = 2 → (zX (s.2 37) (s.1 24).toInt ∧ ((zg (s.2 37) (s.1 24).toInt).toInt = 12 → (zWv xs d 149 0 [(0, .ref 32)] s (fun s13 => Q s13))) ∧ (¬ (zg (s.2 37) (s.1 24).toInt).toInt = 12 → (((zg (s.2 37) (s.1 24).toInt).toInt = 6 → (zWv xs d 149 0 [(0, .ref 32)] s (fun s20 => zWv xs d 145 0 [(0, .ref 32), (1, .int 18), (2, .int 4)] s20 (fun s22 => zWv xs d 145 0 [(0, .ref 32), (1, .int 17), (2, .int 4)] s22 (fun s24 => Q s24))))) ∧ (¬ (zg (s.2 37) (s.1 24).toInt).toInt = 6 → (((zg (s.2 37) (s.1 24).toInt).toInt = 11 → (zWv xs d 149 0 [(0, .ref 32)] s (fun s31 => zWv xs d 145 0 [(0, .ref 32), (1, .int 18), (2, .int 5)] s31 (fun s33 => zWv xs d 145 0 [(0, .ref 32), (1, .int 17), (2, .int 5)] s33 (fun s35 => Q s35))))) ∧ (¬ (zg (s.2 37) (s.1 24).toInt).toInt = 11 → (((zg (s.2 37) (s.1 24).toInt).toInt = 3 → (zWv xs d 149 0 [(0, .ref 32)] s (fun s42 => zWv xs d 145 0 [(0, .ref 32), (1, .int 17), (2, .int 1)] s42 (fun s44 => Q s44)))) ∧ (¬ (zg (s.2 37) (s.1 24).toInt).toInt = 3 → (((zg (s.2 37) (s.1 24).toInt).toInt = 8 → (zWv xs d 149 0 [(0, .ref 32)] s (fun s51 => zWv xs d 145 0 [(0, .ref 32), (1, .int 17), (2, .int 1)] s51 (fun s53 => Q s53)))) ∧ (¬ (zg (s.2 37) (s.1 24).toInt).toInt = 8 → (((zg (s.2 37) (s.1 24).toInt).toInt = 13 → (zWv xs d 149 0 [(0, .ref 32)] s (fun s60 => zWi xs d 157 0 [(0, .ref 32)] s60 (fun v64 s62 => (v64.toInt = 0 → (Q s62)) ∧ (¬ v64.toInt = 0 → (zWv xs d 145 0 [(0, .ref 32), (1, .int 5), (2, .int 0)] s62 (fun s70 => Q s70))))))) ∧ (¬ (zg (s.2 37) (s.1 24).toInt).toInt = 13 → (((zg (s.2 34) (s.1 24).toInt).toInt = 0 → (zX (s.2 34) ((s.1 24).toInt + 1) ∧ ((zg (s.2 34) ((s.1 24).toInt + 1)).toInt = 3 → (zX (s.2 37) ((s.1 24).toInt + 1) ∧ ((zg (s.2 37) ((s.1 24).toInt + 1)).toInt = 61 → (zWv xs d 145 0 [(0, .ref 32), (1, .int 5), (2, .int 0)] s (fun s89 => zWv xs d 146 0 [(0, .ref 32), (1, .int 3), (2, .int 61)] s89 (fun s91 => zWv xs d 145 0 [(0, .ref 32), (1, .int 17), (2, .int 1)] s91 (fun s93 => Q s93))))) ∧ (¬ (zg (s.2 37) ((s.1 24).toInt + 1)).toInt = 61 → (zWv xs d 145 0 [(0, .ref 32), (1, .int 5), (2, .int 0)] s (fun s96 => Q s96))))) ∧ (¬ (zg (s.2 34) ((s.1 24).toInt + 1)).toInt = 3 → (zWv xs d 145 0 [(0, .ref 32), (1, .int 5), (2, .int 0)] s (fun s99 => Q s99))))) ∧ (¬ (zg (s.2 34) (s.1 24).toInt).toInt = 0 → (zWv xs d 145 0 [(0, .ref 32), (1, .int 5), (2, .int 0)] s (fun s102 => Q s102))))))))))))))))) ∧ (¬ (zg (s.2 34) (s.1 24).toInt).toInt = 2 → (((zg (s.2 34) (s.1 24).toInt).toInt = 0 → (zX (s.2 34) ((s.1 24).toInt + 1) ∧ ((zg (s.2 34) ((s.1 24).toInt + 1)).toInt = 3 → (zX (s.2 37) ((s.1 24).toInt + 1) ∧ ((zg (s.2 37) ((s.1 24).toInt + 1)).toInt = 61 → (zWv xs d 145 0 [(0, .ref 32), (1, .int 5), (2, .int 0)] s (fun s121 => zWv xs d 146 0 [(0, .ref 32), (1, .int 3), (2, .int 61)] s121 (fun s123 => zWv xs d 145 0 [(0, .ref 32), (1, .int 17), (2, .int 1)] s123 (fun s125 => Q s125))))) ∧ (¬ (zg (s.2 37) ((s.1 24).toInt + 1)).toInt = 61 → (zWv xs d 145 0 [(0, .ref 32), (1, .int 5), (2, .int 0)] s (fun s128 => Q s128))))) ∧ (¬ (zg (s.2 34) ((s.1 24).toInt + 1)).toInt = 3 → (zWv xs d 145 0 [(0, .ref 32), (1, .int 5), (2, .int 0)] s (fun s131 => Q s131))))) ∧ (¬ (zg (s.2 34) (s.1 24).toInt).toInt = 0 → (zWv xs d 145 0 [(0, .ref 32), (1, .int 5), (2, .int 0)] s (fun s134 => Q s134)))))) : zWv xs (d + 1) 156 0 [(0, .ref 32)] s Q := by
  unfold zWv
  refine am_wh 4 (pc1 := 8) (lv1 := [(0, .ref 32)]) (st1 := [.int (s.1 24), .ref 36]) rfl ?_
  obtain ⟨o1, h2⟩ := h
  refine zw_li (l := (s.2 34)) (i := (s.1 24).toInt) rfl rfl (zq_a _) o1 ?_
  refine am_wh 1 (pc1 := 10) (lv1 := [(0, .ref 32)]) (st1 := [.int 2, .int (zg (s.2 34) (s.1 24).toInt)]) rfl ?_
  obtain ⟨h4, h5⟩ := h2
  by_cases c3 : (zg (s.2 34) (s.1 24).toInt).toInt = 2
  · refine am_wb2 rfl false (zn_ne (zq_a _) (by decide) (zr_t _) ⟨by decide, by decide⟩ c3) rfl ?_
    have h6 := h4 c3
    refine am_wh 4 (pc1 := 21) (lv1 := [(0, .ref 32)]) (st1 := [.int (s.1 24), .ref 39]) rfl ?_
    obtain ⟨o7, h8⟩ := h6
    refine zw_li (l := (s.2 37)) (i := (s.1 24).toInt) rfl rfl (zq_a _) o7 ?_
    refine am_wh 4 (pc1 := 30) (lv1 := [(1, .int (zg (s.2 37) (s.1 24).toInt)), (0, .ref 32)]) (st1 := [.int 12, .int (zg (s.2 37) (s.1 24).toInt)]) rfl ?_
    obtain ⟨h10, h11⟩ := h8
    by_cases c9 : (zg (s.2 37) (s.1 24).toInt).toInt = 12
    · refine am_wb2 rfl false (zn_ne (zq_a _) (by decide) (zr_t _) ⟨by decide, by decide⟩ c9) rfl ?_
      have h12 := h10 c9
      refine am_wh 1 (pc1 := 34) (lv1 := [(1, .int (zg (s.2 37) (s.1 24).toInt)), (0, .ref 32)]) (st1 := [.ref 32]) rfl ?_
      refine am_wc rfl rfl rfl ?_
      refine am_ww h12 ?_
      rintro _ _ ⟨s13, rfl, rfl, h14⟩
      show am_W _ _ 156 37 [(1, .int (zg (s.2 37) (s.1 24).toInt)), (0, .ref 32)] [] (zH s13) _
      refine am_wh 1 (pc1 := 208) (lv1 := [(1, .int (zg (s.2 37) (s.1 24).toInt)), (0, .ref 32)]) (st1 := []) rfl ?_
      refine am_wr rfl rfl rfl ?_
      exact ⟨_, rfl, rfl, h14⟩
    · refine am_wb2 rfl true (zt_ne (zq_a _) (by decide) (zr_t _) ⟨by decide, by decide⟩ c9) rfl ?_
      have h15 := h11 c9
      refine am_wh 2 (pc1 := 43) (lv1 := [(1, .int (zg (s.2 37) (s.1 24).toInt)), (0, .ref 32)]) (st1 := [.int 6, .int (zg (s.2 37) (s.1 24).toInt)]) rfl ?_
      obtain ⟨h17, h18⟩ := h15
      by_cases c16 : (zg (s.2 37) (s.1 24).toInt).toInt = 6
      · refine am_wb2 rfl true (zt_eq (zq_a _) (by decide) (zr_t _) ⟨by decide, by decide⟩ c16) rfl ?_
        have h19 := h17 c16
        refine am_wh 2 (pc1 := 55) (lv1 := [(1, .int (zg (s.2 37) (s.1 24).toInt)), (0, .ref 32)]) (st1 := [.int 6, .int (zg (s.2 37) (s.1 24).toInt)]) rfl ?_
        refine am_wb2 rfl false (zn_ne (zq_a _) (by decide) (zr_t _) ⟨by decide, by decide⟩ c16) rfl ?_
        refine am_wh 4 (pc1 := 65) (lv1 := [(2, .int 4), (1, .int (zg (s.2 37) (s.1 24).toInt)), (0, .ref 32)]) (st1 := [.ref 32]) rfl ?_
        refine am_wc rfl rfl rfl ?_
        refine am_ww h19 ?_
        rintro _ _ ⟨s20, rfl, rfl, h21⟩
        show am_W _ _ 156 68 [(2, .int 4), (1, .int (zg (s.2 37) (s.1 24).toInt)), (0, .ref 32)] [] (zH s20) _
        refine am_wh 3 (pc1 := 72) (lv1 := [(2, .int 4), (1, .int (zg (s.2 37) (s.1 24).toInt)), (0, .ref 32)]) (st1 := [.int 4, .int 18, .ref 32]) rfl ?_
        refine am_wc rfl rfl rfl ?_
        refine am_ww h21 ?_
        rintro _ _ ⟨s22, rfl, rfl, h23⟩
        show am_W _ _ 156 75 [(2, .int 4), (1, .int (zg (s.2 37) (s.1 24).toInt)), (0, .ref 32)] [] (zH s22) _
        refine am_wh 3 (pc1 := 79) (lv1 := [(2, .int 4), (1, .int (zg (s.2 37) (s.1 24).toInt)), (0, .ref 32)]) (st1 := [.int 4, .int 17, .ref 32]) rfl ?_
        refine am_wc rfl rfl rfl ?_
        refine am_ww h23 ?_
        rintro _ _ ⟨s24, rfl, rfl, h25⟩
        show am_W _ _ 156 82 [(2, .int 4), (1, .int (zg (s.2 37) (s.1 24).toInt)), (0, .ref 32)] [] (zH s24) _
        refine am_wh 1 (pc1 := 208) (lv1 := [(2, .int 4), (1, .int (zg (s.2 37) (s.1 24).toInt)), (0, .ref 32)]) (st1 := []) rfl ?_
        refine am_wr rfl rfl rfl ?_
        exact ⟨_, rfl, rfl, h25⟩
      · refine am_wb2 rfl false (zn_eq (zq_a _) (by decide) (zr_t _) ⟨by decide, by decide⟩ c16) rfl ?_
        have h26 := h18 c16
        refine am_wh 2 (pc1 := 49) (lv1 := [(1, .int (zg (s.2 37) (s.1 24).toInt)), (0, .ref 32)]) (st1 := [.int 11, .int (zg (s.2 37) (s.1 24).toInt)]) rfl ?_
        obtain ⟨h28, h29⟩ := h26
        by_cases c27 : (zg (s.2 37) (s.1 24).toInt).toInt = 11
        · refine am_wb2 rfl false (zn_ne (zq_a _) (by decide) (zr_t _) ⟨by decide, by decide⟩ c27) rfl ?_
          have h30 := h28 c27
          refine am_wh 2 (pc1 := 55) (lv1 := [(1, .int (zg (s.2 37) (s.1 24).toInt)), (0, .ref 32)]) (st1 := [.int 6, .int (zg (s.2 37) (s.1 24).toInt)]) rfl ?_
          refine am_wb2 rfl true (zt_ne (zq_a _) (by decide) (zr_t _) ⟨by decide, by decide⟩ c16) rfl ?_
          refine am_wh 3 (pc1 := 65) (lv1 := [(2, .int 5), (1, .int (zg (s.2 37) (s.1 24).toInt)), (0, .ref 32)]) (st1 := [.ref 32]) rfl ?_
          refine am_wc rfl rfl rfl ?_
          refine am_ww h30 ?_
          rintro _ _ ⟨s31, rfl, rfl, h32⟩
          show am_W _ _ 156 68 [(2, .int 5), (1, .int (zg (s.2 37) (s.1 24).toInt)), (0, .ref 32)] [] (zH s31) _
          refine am_wh 3 (pc1 := 72) (lv1 := [(2, .int 5), (1, .int (zg (s.2 37) (s.1 24).toInt)), (0, .ref 32)]) (st1 := [.int 5, .int 18, .ref 32]) rfl ?_
          refine am_wc rfl rfl rfl ?_
          refine am_ww h32 ?_
          rintro _ _ ⟨s33, rfl, rfl, h34⟩
          show am_W _ _ 156 75 [(2, .int 5), (1, .int (zg (s.2 37) (s.1 24).toInt)), (0, .ref 32)] [] (zH s33) _
          refine am_wh 3 (pc1 := 79) (lv1 := [(2, .int 5), (1, .int (zg (s.2 37) (s.1 24).toInt)), (0, .ref 32)]) (st1 := [.int 5, .int 17, .ref 32]) rfl ?_
          refine am_wc rfl rfl rfl ?_
          refine am_ww h34 ?_
          rintro _ _ ⟨s35, rfl, rfl, h36⟩
          show am_W _ _ 156 82 [(2, .int 5), (1, .int (zg (s.2 37) (s.1 24).toInt)), (0, .ref 32)] [] (zH s35) _
          refine am_wh 1 (pc1 := 208) (lv1 := [(2, .int 5), (1, .int (zg (s.2 37) (s.1 24).toInt)), (0, .ref 32)]) (st1 := []) rfl ?_
          refine am_wr rfl rfl rfl ?_
          exact ⟨_, rfl, rfl, h36⟩
        · refine am_wb2 rfl true (zt_ne (zq_a _) (by decide) (zr_t _) ⟨by decide, by decide⟩ c27) rfl ?_
          have h37 := h29 c27
          refine am_wh 2 (pc1 := 87) (lv1 := [(1, .int (zg (s.2 37) (s.1 24).toInt)), (0, .ref 32)]) (st1 := [.int 3, .int (zg (s.2 37) (s.1 24).toInt)]) rfl ?_
          obtain ⟨h39, h40⟩ := h37
          by_cases c38 : (zg (s.2 37) (s.1 24).toInt).toInt = 3
          · refine am_wb2 rfl true (zt_eq (zq_a _) (by decide) (zr_t _) ⟨by decide, by decide⟩ c38) rfl ?_
            have h41 := h39 c38
            refine am_wh 1 (pc1 := 97) (lv1 := [(1, .int (zg (s.2 37) (s.1 24).toInt)), (0, .ref 32)]) (st1 := [.ref 32]) rfl ?_
            refine am_wc rfl rfl rfl ?_
            refine am_ww h41 ?_
            rintro _ _ ⟨s42, rfl, rfl, h43⟩
            show am_W _ _ 156 100 [(1, .int (zg (s.2 37) (s.1 24).toInt)), (0, .ref 32)] [] (zH s42) _
            refine am_wh 3 (pc1 := 104) (lv1 := [(1, .int (zg (s.2 37) (s.1 24).toInt)), (0, .ref 32)]) (st1 := [.int 1, .int 17, .ref 32]) rfl ?_
            refine am_wc rfl rfl rfl ?_
            refine am_ww h43 ?_
            rintro _ _ ⟨s44, rfl, rfl, h45⟩
            show am_W _ _ 156 107 [(1, .int (zg (s.2 37) (s.1 24).toInt)), (0, .ref 32)] [] (zH s44) _
            refine am_wh 1 (pc1 := 208) (lv1 := [(1, .int (zg (s.2 37) (s.1 24).toInt)), (0, .ref 32)]) (st1 := []) rfl ?_
            refine am_wr rfl rfl rfl ?_
            exact ⟨_, rfl, rfl, h45⟩
          · refine am_wb2 rfl false (zn_eq (zq_a _) (by decide) (zr_t _) ⟨by decide, by decide⟩ c38) rfl ?_
            have h46 := h40 c38
            refine am_wh 2 (pc1 := 93) (lv1 := [(1, .int (zg (s.2 37) (s.1 24).toInt)), (0, .ref 32)]) (st1 := [.int 8, .int (zg (s.2 37) (s.1 24).toInt)]) rfl ?_
            obtain ⟨h48, h49⟩ := h46
            by_cases c47 : (zg (s.2 37) (s.1 24).toInt).toInt = 8
            · refine am_wb2 rfl false (zn_ne (zq_a _) (by decide) (zr_t _) ⟨by decide, by decide⟩ c47) rfl ?_
              have h50 := h48 c47
              refine am_wh 1 (pc1 := 97) (lv1 := [(1, .int (zg (s.2 37) (s.1 24).toInt)), (0, .ref 32)]) (st1 := [.ref 32]) rfl ?_
              refine am_wc rfl rfl rfl ?_
              refine am_ww h50 ?_
              rintro _ _ ⟨s51, rfl, rfl, h52⟩
              show am_W _ _ 156 100 [(1, .int (zg (s.2 37) (s.1 24).toInt)), (0, .ref 32)] [] (zH s51) _
              refine am_wh 3 (pc1 := 104) (lv1 := [(1, .int (zg (s.2 37) (s.1 24).toInt)), (0, .ref 32)]) (st1 := [.int 1, .int 17, .ref 32]) rfl ?_
              refine am_wc rfl rfl rfl ?_
              refine am_ww h52 ?_
              rintro _ _ ⟨s53, rfl, rfl, h54⟩
              show am_W _ _ 156 107 [(1, .int (zg (s.2 37) (s.1 24).toInt)), (0, .ref 32)] [] (zH s53) _
              refine am_wh 1 (pc1 := 208) (lv1 := [(1, .int (zg (s.2 37) (s.1 24).toInt)), (0, .ref 32)]) (st1 := []) rfl ?_
              refine am_wr rfl rfl rfl ?_
              exact ⟨_, rfl, rfl, h54⟩
            · refine am_wb2 rfl true (zt_ne (zq_a _) (by decide) (zr_t _) ⟨by decide, by decide⟩ c47) rfl ?_
              have h55 := h49 c47
              refine am_wh 2 (pc1 := 113) (lv1 := [(1, .int (zg (s.2 37) (s.1 24).toInt)), (0, .ref 32)]) (st1 := [.int 13, .int (zg (s.2 37) (s.1 24).toInt)]) rfl ?_
              obtain ⟨h57, h58⟩ := h55
              by_cases c56 : (zg (s.2 37) (s.1 24).toInt).toInt = 13
              · refine am_wb2 rfl false (zn_ne (zq_a _) (by decide) (zr_t _) ⟨by decide, by decide⟩ c56) rfl ?_
                have h59 := h57 c56
                refine am_wh 1 (pc1 := 117) (lv1 := [(1, .int (zg (s.2 37) (s.1 24).toInt)), (0, .ref 32)]) (st1 := [.ref 32]) rfl ?_
                refine am_wc rfl rfl rfl ?_
                refine am_ww h59 ?_
                rintro _ _ ⟨s60, rfl, rfl, h61⟩
                show am_W _ _ 156 120 [(1, .int (zg (s.2 37) (s.1 24).toInt)), (0, .ref 32)] [] (zH s60) _
                refine am_wh 1 (pc1 := 121) (lv1 := [(1, .int (zg (s.2 37) (s.1 24).toInt)), (0, .ref 32)]) (st1 := [.ref 32]) rfl ?_
                refine am_wc rfl rfl rfl ?_
                refine am_ww h61 ?_
                rintro _ _ ⟨v64, s62, rfl, rfl, h63⟩
                show am_W _ _ 156 124 [(1, .int (zg (s.2 37) (s.1 24).toInt)), (0, .ref 32)] [.int v64] (zH s62) _
                obtain ⟨h66, h67⟩ := h63
                by_cases c65 : v64.toInt = 0
                · refine am_wb1 rfl true (zt_eq (zq_a _) (by decide) (zr_t _) ⟨by decide, by decide⟩ c65) rfl ?_
                  have h68 := h66 c65
                  refine am_wr rfl rfl rfl ?_
                  exact ⟨_, rfl, rfl, h68⟩
                · refine am_wb1 rfl false (zn_eq (zq_a _) (by decide) (zr_t _) ⟨by decide, by decide⟩ c65) rfl ?_
                  have h69 := h67 c65
                  refine am_wh 3 (pc1 := 130) (lv1 := [(1, .int (zg (s.2 37) (s.1 24).toInt)), (0, .ref 32)]) (st1 := [.int 0, .int 5, .ref 32]) rfl ?_
                  refine am_wc rfl rfl rfl ?_
                  refine am_ww h69 ?_
                  rintro _ _ ⟨s70, rfl, rfl, h71⟩
                  show am_W _ _ 156 133 [(1, .int (zg (s.2 37) (s.1 24).toInt)), (0, .ref 32)] [] (zH s70) _
                  refine am_wh 1 (pc1 := 208) (lv1 := [(1, .int (zg (s.2 37) (s.1 24).toInt)), (0, .ref 32)]) (st1 := []) rfl ?_
                  refine am_wr rfl rfl rfl ?_
                  exact ⟨_, rfl, rfl, h71⟩
              · refine am_wb2 rfl true (zt_ne (zq_a _) (by decide) (zr_t _) ⟨by decide, by decide⟩ c56) rfl ?_
                have h72 := h58 c56
                refine am_wh 4 (pc1 := 144) (lv1 := [(1, .int (zg (s.2 37) (s.1 24).toInt)), (0, .ref 32)]) (st1 := [.int (s.1 24), .ref 36]) rfl ?_
                refine zw_li (l := (s.2 34)) (i := (s.1 24).toInt) rfl rfl (zq_a _) o1 ?_
                obtain ⟨h74, h75⟩ := h72
                by_cases c73 : (zg (s.2 34) (s.1 24).toInt).toInt = 0
                · refine am_wb1 rfl false (zn_ne (zq_a _) (by decide) (zr_t _) ⟨by decide, by decide⟩ c73) rfl ?_
                  have h76 := h74 c73
                  refine am_wh 6 (pc1 := 158) (lv1 := [(1, .int (zg (s.2 37) (s.1 24).toInt)), (0, .ref 32)]) (st1 := [.int ((s.1 24) + 1), .ref 36]) rfl ?_
                  obtain ⟨o77, h78⟩ := h76
                  refine zw_li (l := (s.2 34)) (i := ((s.1 24).toInt + 1)) rfl rfl (zq_add (zq_a _) (by decide)) o77 ?_
                  refine am_wh 1 (pc1 := 160) (lv1 := [(1, .int (zg (s.2 37) (s.1 24).toInt)), (0, .ref 32)]) (st1 := [.int 3, .int (zg (s.2 34) ((s.1 24).toInt + 1))]) rfl ?_
                  obtain ⟨h80, h81⟩ := h78
                  by_cases c79 : (zg (s.2 34) ((s.1 24).toInt + 1)).toInt = 3
                  · refine am_wb2 rfl false (zn_ne (zq_a _) (by decide) (zr_t _) ⟨by decide, by decide⟩ c79) rfl ?_
                    have h82 := h80 c79
                    refine am_wh 6 (pc1 := 173) (lv1 := [(1, .int (zg (s.2 37) (s.1 24).toInt)), (0, .ref 32)]) (st1 := [.int ((s.1 24) + 1), .ref 39]) rfl ?_
                    obtain ⟨o83, h84⟩ := h82
                    refine zw_li (l := (s.2 37)) (i := ((s.1 24).toInt + 1)) rfl rfl (zq_add (zq_a _) (by decide)) o83 ?_
                    refine am_wh 1 (pc1 := 176) (lv1 := [(1, .int (zg (s.2 37) (s.1 24).toInt)), (0, .ref 32)]) (st1 := [.int 61, .int (zg (s.2 37) ((s.1 24).toInt + 1))]) rfl ?_
                    obtain ⟨h86, h87⟩ := h84
                    by_cases c85 : (zg (s.2 37) ((s.1 24).toInt + 1)).toInt = 61
                    · refine am_wb2 rfl false (zn_ne (zq_a _) (by decide) (zr_t _) ⟨by decide, by decide⟩ c85) rfl ?_
                      have h88 := h86 c85
                      refine am_wh 3 (pc1 := 182) (lv1 := [(1, .int (zg (s.2 37) (s.1 24).toInt)), (0, .ref 32)]) (st1 := [.int 0, .int 5, .ref 32]) rfl ?_
                      refine am_wc rfl rfl rfl ?_
                      refine am_ww h88 ?_
                      rintro _ _ ⟨s89, rfl, rfl, h90⟩
                      show am_W _ _ 156 185 [(1, .int (zg (s.2 37) (s.1 24).toInt)), (0, .ref 32)] [] (zH s89) _
                      refine am_wh 3 (pc1 := 189) (lv1 := [(1, .int (zg (s.2 37) (s.1 24).toInt)), (0, .ref 32)]) (st1 := [.int 61, .int 3, .ref 32]) rfl ?_
                      refine am_wc rfl rfl rfl ?_
                      refine am_ww h90 ?_
                      rintro _ _ ⟨s91, rfl, rfl, h92⟩
                      show am_W _ _ 156 192 [(1, .int (zg (s.2 37) (s.1 24).toInt)), (0, .ref 32)] [] (zH s91) _
                      refine am_wh 3 (pc1 := 196) (lv1 := [(1, .int (zg (s.2 37) (s.1 24).toInt)), (0, .ref 32)]) (st1 := [.int 1, .int 17, .ref 32]) rfl ?_
                      refine am_wc rfl rfl rfl ?_
                      refine am_ww h92 ?_
                      rintro _ _ ⟨s93, rfl, rfl, h94⟩
                      show am_W _ _ 156 199 [(1, .int (zg (s.2 37) (s.1 24).toInt)), (0, .ref 32)] [] (zH s93) _
                      refine am_wh 1 (pc1 := 208) (lv1 := [(1, .int (zg (s.2 37) (s.1 24).toInt)), (0, .ref 32)]) (st1 := []) rfl ?_
                      refine am_wr rfl rfl rfl ?_
                      exact ⟨_, rfl, rfl, h94⟩
                    · refine am_wb2 rfl true (zt_ne (zq_a _) (by decide) (zr_t _) ⟨by decide, by decide⟩ c85) rfl ?_
                      have h95 := h87 c85
                      refine am_wh 3 (pc1 := 205) (lv1 := [(1, .int (zg (s.2 37) (s.1 24).toInt)), (0, .ref 32)]) (st1 := [.int 0, .int 5, .ref 32]) rfl ?_
                      refine am_wc rfl rfl rfl ?_
                      refine am_ww h95 ?_
                      rintro _ _ ⟨s96, rfl, rfl, h97⟩
                      show am_W _ _ 156 208 [(1, .int (zg (s.2 37) (s.1 24).toInt)), (0, .ref 32)] [] (zH s96) _
                      refine am_wr rfl rfl rfl ?_
                      exact ⟨_, rfl, rfl, h97⟩
                  · refine am_wb2 rfl true (zt_ne (zq_a _) (by decide) (zr_t _) ⟨by decide, by decide⟩ c79) rfl ?_
                    have h98 := h81 c79
                    refine am_wh 3 (pc1 := 205) (lv1 := [(1, .int (zg (s.2 37) (s.1 24).toInt)), (0, .ref 32)]) (st1 := [.int 0, .int 5, .ref 32]) rfl ?_
                    refine am_wc rfl rfl rfl ?_
                    refine am_ww h98 ?_
                    rintro _ _ ⟨s99, rfl, rfl, h100⟩
                    show am_W _ _ 156 208 [(1, .int (zg (s.2 37) (s.1 24).toInt)), (0, .ref 32)] [] (zH s99) _
                    refine am_wr rfl rfl rfl ?_
                    exact ⟨_, rfl, rfl, h100⟩
                · refine am_wb1 rfl true (zt_ne (zq_a _) (by decide) (zr_t _) ⟨by decide, by decide⟩ c73) rfl ?_
                  have h101 := h75 c73
                  refine am_wh 3 (pc1 := 205) (lv1 := [(1, .int (zg (s.2 37) (s.1 24).toInt)), (0, .ref 32)]) (st1 := [.int 0, .int 5, .ref 32]) rfl ?_
                  refine am_wc rfl rfl rfl ?_
                  refine am_ww h101 ?_
                  rintro _ _ ⟨s102, rfl, rfl, h103⟩
                  show am_W _ _ 156 208 [(1, .int (zg (s.2 37) (s.1 24).toInt)), (0, .ref 32)] [] (zH s102) _
                  refine am_wr rfl rfl rfl ?_
                  exact ⟨_, rfl, rfl, h103⟩
  · refine am_wb2 rfl true (zt_ne (zq_a _) (by decide) (zr_t _) ⟨by decide, by decide⟩ c3) rfl ?_
    have h104 := h5 c3
    refine am_wh 24 (pc1 := 144) (lv1 := [(1, .int 0), (0, .ref 32)]) (st1 := [.int (s.1 24), .ref 36]) rfl ?_
    refine zw_li (l := (s.2 34)) (i := (s.1 24).toInt) rfl rfl (zq_a _) o1 ?_
    obtain ⟨h106, h107⟩ := h104
    by_cases c105 : (zg (s.2 34) (s.1 24).toInt).toInt = 0
    · refine am_wb1 rfl false (zn_ne (zq_a _) (by decide) (zr_t _) ⟨by decide, by decide⟩ c105) rfl ?_
      have h108 := h106 c105
      refine am_wh 6 (pc1 := 158) (lv1 := [(1, .int 0), (0, .ref 32)]) (st1 := [.int ((s.1 24) + 1), .ref 36]) rfl ?_
      obtain ⟨o109, h110⟩ := h108
      refine zw_li (l := (s.2 34)) (i := ((s.1 24).toInt + 1)) rfl rfl (zq_add (zq_a _) (by decide)) o109 ?_
      refine am_wh 1 (pc1 := 160) (lv1 := [(1, .int 0), (0, .ref 32)]) (st1 := [.int 3, .int (zg (s.2 34) ((s.1 24).toInt + 1))]) rfl ?_
      obtain ⟨h112, h113⟩ := h110
      by_cases c111 : (zg (s.2 34) ((s.1 24).toInt + 1)).toInt = 3
      · refine am_wb2 rfl false (zn_ne (zq_a _) (by decide) (zr_t _) ⟨by decide, by decide⟩ c111) rfl ?_
        have h114 := h112 c111
        refine am_wh 6 (pc1 := 173) (lv1 := [(1, .int 0), (0, .ref 32)]) (st1 := [.int ((s.1 24) + 1), .ref 39]) rfl ?_
        obtain ⟨o115, h116⟩ := h114
        refine zw_li (l := (s.2 37)) (i := ((s.1 24).toInt + 1)) rfl rfl (zq_add (zq_a _) (by decide)) o115 ?_
        refine am_wh 1 (pc1 := 176) (lv1 := [(1, .int 0), (0, .ref 32)]) (st1 := [.int 61, .int (zg (s.2 37) ((s.1 24).toInt + 1))]) rfl ?_
        obtain ⟨h118, h119⟩ := h116
        by_cases c117 : (zg (s.2 37) ((s.1 24).toInt + 1)).toInt = 61
        · refine am_wb2 rfl false (zn_ne (zq_a _) (by decide) (zr_t _) ⟨by decide, by decide⟩ c117) rfl ?_
          have h120 := h118 c117
          refine am_wh 3 (pc1 := 182) (lv1 := [(1, .int 0), (0, .ref 32)]) (st1 := [.int 0, .int 5, .ref 32]) rfl ?_
          refine am_wc rfl rfl rfl ?_
          refine am_ww h120 ?_
          rintro _ _ ⟨s121, rfl, rfl, h122⟩
          show am_W _ _ 156 185 [(1, .int 0), (0, .ref 32)] [] (zH s121) _
          refine am_wh 3 (pc1 := 189) (lv1 := [(1, .int 0), (0, .ref 32)]) (st1 := [.int 61, .int 3, .ref 32]) rfl ?_
          refine am_wc rfl rfl rfl ?_
          refine am_ww h122 ?_
          rintro _ _ ⟨s123, rfl, rfl, h124⟩
          show am_W _ _ 156 192 [(1, .int 0), (0, .ref 32)] [] (zH s123) _
          refine am_wh 3 (pc1 := 196) (lv1 := [(1, .int 0), (0, .ref 32)]) (st1 := [.int 1, .int 17, .ref 32]) rfl ?_
          refine am_wc rfl rfl rfl ?_
          refine am_ww h124 ?_
          rintro _ _ ⟨s125, rfl, rfl, h126⟩
          show am_W _ _ 156 199 [(1, .int 0), (0, .ref 32)] [] (zH s125) _
          refine am_wh 1 (pc1 := 208) (lv1 := [(1, .int 0), (0, .ref 32)]) (st1 := []) rfl ?_
          refine am_wr rfl rfl rfl ?_
          exact ⟨_, rfl, rfl, h126⟩
        · refine am_wb2 rfl true (zt_ne (zq_a _) (by decide) (zr_t _) ⟨by decide, by decide⟩ c117) rfl ?_
          have h127 := h119 c117
          refine am_wh 3 (pc1 := 205) (lv1 := [(1, .int 0), (0, .ref 32)]) (st1 := [.int 0, .int 5, .ref 32]) rfl ?_
          refine am_wc rfl rfl rfl ?_
          refine am_ww h127 ?_
          rintro _ _ ⟨s128, rfl, rfl, h129⟩
          show am_W _ _ 156 208 [(1, .int 0), (0, .ref 32)] [] (zH s128) _
          refine am_wr rfl rfl rfl ?_
          exact ⟨_, rfl, rfl, h129⟩
      · refine am_wb2 rfl true (zt_ne (zq_a _) (by decide) (zr_t _) ⟨by decide, by decide⟩ c111) rfl ?_
        have h130 := h113 c111
        refine am_wh 3 (pc1 := 205) (lv1 := [(1, .int 0), (0, .ref 32)]) (st1 := [.int 0, .int 5, .ref 32]) rfl ?_
        refine am_wc rfl rfl rfl ?_
        refine am_ww h130 ?_
        rintro _ _ ⟨s131, rfl, rfl, h132⟩
        show am_W _ _ 156 208 [(1, .int 0), (0, .ref 32)] [] (zH s131) _
        refine am_wr rfl rfl rfl ?_
        exact ⟨_, rfl, rfl, h132⟩
    · refine am_wb1 rfl true (zt_ne (zq_a _) (by decide) (zr_t _) ⟨by decide, by decide⟩ c105) rfl ?_
      have h133 := h107 c105
      refine am_wh 3 (pc1 := 205) (lv1 := [(1, .int 0), (0, .ref 32)]) (st1 := [.int 0, .int 5, .ref 32]) rfl ?_
      refine am_wc rfl rfl rfl ?_
      refine am_ww h133 ?_
      rintro _ _ ⟨s134, rfl, rfl, h135⟩
      show am_W _ _ 156 208 [(1, .int 0), (0, .ref 32)] [] (zH s134) _
      refine am_wr rfl rfl rfl ?_
      exact ⟨_, rfl, rfl, h135⟩
set_option maxRecDepth 100000 in
theorem vc_157_0 (xs : Option (List Int32)) (d : Nat) (s : zS)  (Q : Int32 → zS → Prop) (h : zX (s.2 34) (s.1 24).toInt ∧ ((zg (s.2 34) (s.1 24).toInt).toInt = 0 → (Q 1 s)) ∧ (¬ (zg (s.2 34) (s.1 24).toInt).toInt = 0 → (((zg (s.2 34) (s.1 24).toInt).toInt = 1 → (Q 1 s)) ∧ (¬ (zg (s.2 34) (s.1 24).toInt).toInt = 1 → (zWi xs d 147 0 [(0, .ref 32), (1, .int 3), (2, .int 40)] s (fun v15 s13 => (v15.toInt = 0 → (zWi xs d 147 0 [(0, .ref 32), (1, .int 3), (2, .int 91)] s13 (fun v22 s20 => (v22.toInt = 0 → (zWi xs d 147 0 [(0, .ref 32), (1, .int 2), (2, .int 10)] s20 (fun v29 s27 => (v29.toInt = 0 → (Q 0 s27)) ∧ (¬ v29.toInt = 0 → (Q 1 s27))))) ∧ (¬ v22.toInt = 0 → (Q 1 s20))))) ∧ (¬ v15.toInt = 0 → (Q 1 s13)))))))) : zWi xs (d + 1) 157 0 [(0, .ref 32)] s Q := by
  unfold zWi
  refine am_wh 4 (pc1 := 8) (lv1 := [(0, .ref 32)]) (st1 := [.int (s.1 24), .ref 36]) rfl ?_
  obtain ⟨o1, h2⟩ := h
  refine zw_li (l := (s.2 34)) (i := (s.1 24).toInt) rfl rfl (zq_a _) o1 ?_
  obtain ⟨h4, h5⟩ := h2
  by_cases c3 : (zg (s.2 34) (s.1 24).toInt).toInt = 0
  · refine am_wb1 rfl true (zt_eq (zq_a _) (by decide) (zr_t _) ⟨by decide, by decide⟩ c3) rfl ?_
    have h6 := h4 c3
    refine am_wh 2 (pc1 := 60) (lv1 := [(0, .ref 32)]) (st1 := [.int 1]) rfl ?_
    refine am_wr rfl rfl rfl ?_
    exact ⟨_, _, rfl, rfl, h6⟩
  · refine am_wb1 rfl false (zn_eq (zq_a _) (by decide) (zr_t _) ⟨by decide, by decide⟩ c3) rfl ?_
    have h7 := h5 c3
    refine am_wh 4 (pc1 := 20) (lv1 := [(0, .ref 32)]) (st1 := [.int (s.1 24), .ref 36]) rfl ?_
    refine zw_li (l := (s.2 34)) (i := (s.1 24).toInt) rfl rfl (zq_a _) o1 ?_
    refine am_wh 1 (pc1 := 22) (lv1 := [(0, .ref 32)]) (st1 := [.int 1, .int (zg (s.2 34) (s.1 24).toInt)]) rfl ?_
    obtain ⟨h9, h10⟩ := h7
    by_cases c8 : (zg (s.2 34) (s.1 24).toInt).toInt = 1
    · refine am_wb2 rfl true (zt_eq (zq_a _) (by decide) (zr_t _) ⟨by decide, by decide⟩ c8) rfl ?_
      have h11 := h9 c8
      refine am_wh 2 (pc1 := 60) (lv1 := [(0, .ref 32)]) (st1 := [.int 1]) rfl ?_
      refine am_wr rfl rfl rfl ?_
      exact ⟨_, _, rfl, rfl, h11⟩
    · refine am_wb2 rfl false (zn_eq (zq_a _) (by decide) (zr_t _) ⟨by decide, by decide⟩ c8) rfl ?_
      have h12 := h10 c8
      refine am_wh 3 (pc1 := 29) (lv1 := [(0, .ref 32)]) (st1 := [.int 40, .int 3, .ref 32]) rfl ?_
      refine am_wc rfl rfl rfl ?_
      refine am_ww h12 ?_
      rintro _ _ ⟨v15, s13, rfl, rfl, h14⟩
      show am_W _ _ 157 32 [(0, .ref 32)] [.int v15] (zH s13) _
      obtain ⟨h17, h18⟩ := h14
      by_cases c16 : v15.toInt = 0
      · refine am_wb1 rfl false (zn_ne (zq_a _) (by decide) (zr_t _) ⟨by decide, by decide⟩ c16) rfl ?_
        have h19 := h17 c16
        refine am_wh 3 (pc1 := 39) (lv1 := [(0, .ref 32)]) (st1 := [.int 91, .int 3, .ref 32]) rfl ?_
        refine am_wc rfl rfl rfl ?_
        refine am_ww h19 ?_
        rintro _ _ ⟨v22, s20, rfl, rfl, h21⟩
        show am_W _ _ 157 42 [(0, .ref 32)] [.int v22] (zH s20) _
        obtain ⟨h24, h25⟩ := h21
        by_cases c23 : v22.toInt = 0
        · refine am_wb1 rfl false (zn_ne (zq_a _) (by decide) (zr_t _) ⟨by decide, by decide⟩ c23) rfl ?_
          have h26 := h24 c23
          refine am_wh 3 (pc1 := 49) (lv1 := [(0, .ref 32)]) (st1 := [.int 10, .int 2, .ref 32]) rfl ?_
          refine am_wc rfl rfl rfl ?_
          refine am_ww h26 ?_
          rintro _ _ ⟨v29, s27, rfl, rfl, h28⟩
          show am_W _ _ 157 52 [(0, .ref 32)] [.int v29] (zH s27) _
          obtain ⟨h31, h32⟩ := h28
          by_cases c30 : v29.toInt = 0
          · refine am_wb1 rfl true (zt_eq (zq_a _) (by decide) (zr_t _) ⟨by decide, by decide⟩ c30) rfl ?_
            have h33 := h31 c30
            refine am_wh 1 (pc1 := 60) (lv1 := [(0, .ref 32)]) (st1 := [.int 0]) rfl ?_
            refine am_wr rfl rfl rfl ?_
            exact ⟨_, _, rfl, rfl, h33⟩
          · refine am_wb1 rfl false (zn_eq (zq_a _) (by decide) (zr_t _) ⟨by decide, by decide⟩ c30) rfl ?_
            have h34 := h32 c30
            refine am_wh 2 (pc1 := 60) (lv1 := [(0, .ref 32)]) (st1 := [.int 1]) rfl ?_
            refine am_wr rfl rfl rfl ?_
            exact ⟨_, _, rfl, rfl, h34⟩
        · refine am_wb1 rfl true (zt_ne (zq_a _) (by decide) (zr_t _) ⟨by decide, by decide⟩ c23) rfl ?_
          have h35 := h25 c23
          refine am_wh 2 (pc1 := 60) (lv1 := [(0, .ref 32)]) (st1 := [.int 1]) rfl ?_
          refine am_wr rfl rfl rfl ?_
          exact ⟨_, _, rfl, rfl, h35⟩
      · refine am_wb1 rfl true (zt_ne (zq_a _) (by decide) (zr_t _) ⟨by decide, by decide⟩ c16) rfl ?_
        have h36 := h18 c16
        refine am_wh 2 (pc1 := 60) (lv1 := [(0, .ref 32)]) (st1 := [.int 1]) rfl ?_
        refine am_wr rfl rfl rfl ?_
        exact ⟨_, _, rfl, rfl, h36⟩
set_option maxRecDepth 100000 in
theorem vc_158_0 (xs : Option (List Int32)) (d : Nat) (s : zS)  (Q : zS → Prop) (h : zX (s.2 35) (s.1 24).toInt ∧ zWv xs d 145 0 [(0, .ref 32), (1, .int 6), (2, .int (zg (s.2 35) (s.1 24).toInt))] s (fun s3 => zWi xs d 147 0 [(0, .ref 32), (1, .int 2), (2, .int 10)] s3 (fun v7 s5 => (v7.toInt = 0 → (zWv xs d 145 0 [(0, .ref 32), (1, .int 7), (2, .int (zg (s.2 35) (s.1 24).toInt))] s5 (fun s12 => zWv xs d 145 0 [(0, .ref 32), (1, .int 8), (2, .int 0)] s12 (fun s14 => Q s14)))) ∧ (¬ v7.toInt = 0 → (zWi xs d 152 0 [(0, .ref 32)] s5 (fun v19 s17 => (v19.toInt = 0 → (Q s17)) ∧ (¬ v19.toInt = 0 → (zWi xs d 151 0 [(0, .ref 32), (1, .int 3), (2, .int (s5.1 24))] s17 (fun v27 s25 => zWv xs d 145 0 [(0, .ref 32), (1, .int 15), (2, .int v27)] s25 (fun s28 => zWv xs d 145 0 [(0, .ref 32), (1, .int 5), (2, .int 0)] s28 (fun s30 => zWv xs d 146 0 [(0, .ref 32), (1, .int 3), (2, .int 58)] s30 (fun s32 => zWv xs d 145 0 [(0, .ref 32), (1, .int 11), (2, .int 0)] s32 (fun s34 => Q s34))))))))))))) : zWv xs (d + 1) 158 0 [(0, .ref 32)] s Q := by
  unfold zWv
  refine am_wh 4 (pc1 := 8) (lv1 := [(0, .ref 32)]) (st1 := [.int (s.1 24), .ref 37]) rfl ?_
  obtain ⟨o1, h2⟩ := h
  refine zw_li (l := (s.2 35)) (i := (s.1 24).toInt) rfl rfl (zq_a _) o1 ?_
  refine am_wh 4 (pc1 := 14) (lv1 := [(1, .int (zg (s.2 35) (s.1 24).toInt)), (0, .ref 32)]) (st1 := [.int (zg (s.2 35) (s.1 24).toInt), .int 6, .ref 32]) rfl ?_
  refine am_wc rfl rfl rfl ?_
  refine am_ww h2 ?_
  rintro _ _ ⟨s3, rfl, rfl, h4⟩
  show am_W _ _ 158 17 [(1, .int (zg (s.2 35) (s.1 24).toInt)), (0, .ref 32)] [] (zH s3) _
  refine am_wh 3 (pc1 := 21) (lv1 := [(1, .int (zg (s.2 35) (s.1 24).toInt)), (0, .ref 32)]) (st1 := [.int 10, .int 2, .ref 32]) rfl ?_
  refine am_wc rfl rfl rfl ?_
  refine am_ww h4 ?_
  rintro _ _ ⟨v7, s5, rfl, rfl, h6⟩
  show am_W _ _ 158 24 [(1, .int (zg (s.2 35) (s.1 24).toInt)), (0, .ref 32)] [.int v7] (zH s5) _
  obtain ⟨h9, h10⟩ := h6
  by_cases c8 : v7.toInt = 0
  · refine am_wb1 rfl true (zt_eq (zq_a _) (by decide) (zr_t _) ⟨by decide, by decide⟩ c8) rfl ?_
    have h11 := h9 c8
    refine am_wh 3 (pc1 := 80) (lv1 := [(1, .int (zg (s.2 35) (s.1 24).toInt)), (0, .ref 32)]) (st1 := [.int (zg (s.2 35) (s.1 24).toInt), .int 7, .ref 32]) rfl ?_
    refine am_wc rfl rfl rfl ?_
    refine am_ww h11 ?_
    rintro _ _ ⟨s12, rfl, rfl, h13⟩
    show am_W _ _ 158 83 [(1, .int (zg (s.2 35) (s.1 24).toInt)), (0, .ref 32)] [] (zH s12) _
    refine am_wh 3 (pc1 := 87) (lv1 := [(1, .int (zg (s.2 35) (s.1 24).toInt)), (0, .ref 32)]) (st1 := [.int 0, .int 8, .ref 32]) rfl ?_
    refine am_wc rfl rfl rfl ?_
    refine am_ww h13 ?_
    rintro _ _ ⟨s14, rfl, rfl, h15⟩
    show am_W _ _ 158 90 [(1, .int (zg (s.2 35) (s.1 24).toInt)), (0, .ref 32)] [] (zH s14) _
    refine am_wr rfl rfl rfl ?_
    exact ⟨_, rfl, rfl, h15⟩
  · refine am_wb1 rfl false (zn_eq (zq_a _) (by decide) (zr_t _) ⟨by decide, by decide⟩ c8) rfl ?_
    have h16 := h10 c8
    refine am_wh 4 (pc1 := 33) (lv1 := [(2, .int (s5.1 24)), (1, .int (zg (s.2 35) (s.1 24).toInt)), (0, .ref 32)]) (st1 := [.ref 32]) rfl ?_
    refine am_wc rfl rfl rfl ?_
    refine am_ww h16 ?_
    rintro _ _ ⟨v19, s17, rfl, rfl, h18⟩
    show am_W _ _ 158 36 [(2, .int (s5.1 24)), (1, .int (zg (s.2 35) (s.1 24).toInt)), (0, .ref 32)] [.int v19] (zH s17) _
    obtain ⟨h21, h22⟩ := h18
    by_cases c20 : v19.toInt = 0
    · refine am_wb1 rfl true (zt_eq (zq_a _) (by decide) (zr_t _) ⟨by decide, by decide⟩ c20) rfl ?_
      have h23 := h21 c20
      refine am_wh 1 (pc1 := 90) (lv1 := [(2, .int (s5.1 24)), (1, .int (zg (s.2 35) (s.1 24).toInt)), (0, .ref 32)]) (st1 := []) rfl ?_
      refine am_wr rfl rfl rfl ?_
      exact ⟨_, rfl, rfl, h23⟩
    · refine am_wb1 rfl false (zn_eq (zq_a _) (by decide) (zr_t _) ⟨by decide, by decide⟩ c20) rfl ?_
      have h24 := h22 c20
      refine am_wh 3 (pc1 := 42) (lv1 := [(2, .int (s5.1 24)), (1, .int (zg (s.2 35) (s.1 24).toInt)), (0, .ref 32)]) (st1 := [.int (s5.1 24), .int 3, .ref 32]) rfl ?_
      refine am_wc rfl rfl rfl ?_
      refine am_ww h24 ?_
      rintro _ _ ⟨v27, s25, rfl, rfl, h26⟩
      show am_W _ _ 158 45 [(2, .int (s5.1 24)), (1, .int (zg (s.2 35) (s.1 24).toInt)), (0, .ref 32)] [.int v27] (zH s25) _
      refine am_wh 4 (pc1 := 50) (lv1 := [(3, .int v27), (2, .int (s5.1 24)), (1, .int (zg (s.2 35) (s.1 24).toInt)), (0, .ref 32)]) (st1 := [.int v27, .int 15, .ref 32]) rfl ?_
      refine am_wc rfl rfl rfl ?_
      refine am_ww h26 ?_
      rintro _ _ ⟨s28, rfl, rfl, h29⟩
      show am_W _ _ 158 53 [(3, .int v27), (2, .int (s5.1 24)), (1, .int (zg (s.2 35) (s.1 24).toInt)), (0, .ref 32)] [] (zH s28) _
      refine am_wh 3 (pc1 := 56) (lv1 := [(3, .int v27), (2, .int (s5.1 24)), (1, .int (zg (s.2 35) (s.1 24).toInt)), (0, .ref 32)]) (st1 := [.int 0, .int 5, .ref 32]) rfl ?_
      refine am_wc rfl rfl rfl ?_
      refine am_ww h29 ?_
      rintro _ _ ⟨s30, rfl, rfl, h31⟩
      show am_W _ _ 158 59 [(3, .int v27), (2, .int (s5.1 24)), (1, .int (zg (s.2 35) (s.1 24).toInt)), (0, .ref 32)] [] (zH s30) _
      refine am_wh 3 (pc1 := 63) (lv1 := [(3, .int v27), (2, .int (s5.1 24)), (1, .int (zg (s.2 35) (s.1 24).toInt)), (0, .ref 32)]) (st1 := [.int 58, .int 3, .ref 32]) rfl ?_
      refine am_wc rfl rfl rfl ?_
      refine am_ww h31 ?_
      rintro _ _ ⟨s32, rfl, rfl, h33⟩
      show am_W _ _ 158 66 [(3, .int v27), (2, .int (s5.1 24)), (1, .int (zg (s.2 35) (s.1 24).toInt)), (0, .ref 32)] [] (zH s32) _
      refine am_wh 3 (pc1 := 70) (lv1 := [(3, .int v27), (2, .int (s5.1 24)), (1, .int (zg (s.2 35) (s.1 24).toInt)), (0, .ref 32)]) (st1 := [.int 0, .int 11, .ref 32]) rfl ?_
      refine am_wc rfl rfl rfl ?_
      refine am_ww h33 ?_
      rintro _ _ ⟨s34, rfl, rfl, h35⟩
      show am_W _ _ 158 73 [(3, .int v27), (2, .int (s5.1 24)), (1, .int (zg (s.2 35) (s.1 24).toInt)), (0, .ref 32)] [] (zH s34) _
      refine am_wh 1 (pc1 := 90) (lv1 := [(3, .int v27), (2, .int (s5.1 24)), (1, .int (zg (s.2 35) (s.1 24).toInt)), (0, .ref 32)]) (st1 := []) rfl ?_
      refine am_wr rfl rfl rfl ?_
      exact ⟨_, rfl, rfl, h35⟩
set_option maxRecDepth 100000 in
theorem vc_159_0 (xs : Option (List Int32)) (d : Nat) (s : zS)  (Q : zS → Prop) (h : zX (s.2 35) (s.1 24).toInt ∧ zX (s.2 34) (s.1 24).toInt ∧ ((zg (s.2 34) (s.1 24).toInt).toInt = 0 → (zWv xs d 149 0 [(0, .ref 32)] s (fun s9 => zWv xs d 145 0 [(0, .ref 32), (1, .int 9), (2, .int (zg (s.2 35) (s.1 24).toInt))] s9 (fun s11 => Q s11)))) ∧ (¬ (zg (s.2 34) (s.1 24).toInt).toInt = 0 → (((zg (s.2 34) (s.1 24).toInt).toInt = 1 → (zWv xs d 149 0 [(0, .ref 32)] s (fun s18 => zWv xs d 145 0 [(0, .ref 32), (1, .int 9), (2, .int (zg (s.2 35) (s.1 24).toInt))] s18 (fun s20 => Q s20)))) ∧ (¬ (zg (s.2 34) (s.1 24).toInt).toInt = 1 → (zWi xs d 147 0 [(0, .ref 32), (1, .int 3), (2, .int 40)] s (fun v25 s23 => (v25.toInt = 0 → (zWi xs d 147 0 [(0, .ref 32), (1, .int 3), (2, .int 91)] s23 (fun v32 s30 => (v32.toInt = 0 → (zWv xs d 148 0 [(0, .ref 32), (1, .int 20)] s30 (fun s37 => Q s37))) ∧ (¬ v32.toInt = 0 → (zWi xs d 152 0 [(0, .ref 32)] s30 (fun v42 s40 => (v42.toInt = 0 → (Q s40)) ∧ (¬ v42.toInt = 0 → (zWv xs d 145 0 [(0, .ref 32), (1, .int 9), (2, .int (zg (s.2 35) (s.1 24).toInt))] s40 (fun s48 => zWv xs d 145 0 [(0, .ref 32), (1, .int 21), (2, .int 93)] s48 (fun s50 => zWv xs d 145 0 [(0, .ref 32), (1, .int 20), (2, .int (s30.1 24))] s50 (fun s52 => zWv xs d 145 0 [(0, .ref 32), (1, .int 5), (2, .int 0)] s52 (fun s54 => Q s54)))))))))))) ∧ (¬ v25.toInt = 0 → (zWi xs d 152 0 [(0, .ref 32)] s23 (fun v59 s57 => (v59.toInt = 0 → (Q s57)) ∧ (¬ v59.toInt = 0 → (zWv xs d 145 0 [(0, .ref 32), (1, .int 9), (2, .int (zg (s.2 35) (s.1 24).toInt))] s57 (fun s65 => zWv xs d 145 0 [(0, .ref 32), (1, .int 21), (2, .int 41)] s65 (fun s67 => zWv xs d 145 0 [(0, .ref 32), (1, .int 5), (2, .int 0)] s67 (fun s69 => zX (s69.2 34) (s69.1 24).toInt ∧ ((zg (s69.2 34) (s69.1 24).toInt).toInt = 0 → (zX (s69.2 34) ((s69.1 24).toInt + 1) ∧ ((zg (s69.2 34) ((s69.1 24).toInt + 1)).toInt = 3 → (zX (s69.2 37) ((s69.1 24).toInt + 1) ∧ ((zg (s69.2 37) ((s69.1 24).toInt + 1)).toInt = 1 → (zWv xs d 146 0 [(0, .ref 32), (1, .int 3), (2, .int 1)] s69 (fun s89 => zWv xs d 145 0 [(0, .ref 32), (1, .int 17), (2, .int 3)] s89 (fun s91 => Q s91)))) ∧ (¬ (zg (s69.2 37) ((s69.1 24).toInt + 1)).toInt = 1 → (Q s69)))) ∧ (¬ (zg (s69.2 34) ((s69.1 24).toInt + 1)).toInt = 3 → (Q s69)))) ∧ (¬ (zg (s69.2 34) (s69.1 24).toInt).toInt = 0 → (Q s69)))))))))))))))) : zWv xs (d + 1) 159 0 [(0, .ref 32)] s Q := by
  unfold zWv
  refine am_wh 4 (pc1 := 8) (lv1 := [(0, .ref 32)]) (st1 := [.int (s.1 24), .ref 37]) rfl ?_
  obtain ⟨o1, h2⟩ := h
  refine zw_li (l := (s.2 35)) (i := (s.1 24).toInt) rfl rfl (zq_a _) o1 ?_
  refine am_wh 5 (pc1 := 18) (lv1 := [(1, .int (zg (s.2 35) (s.1 24).toInt)), (0, .ref 32)]) (st1 := [.int (s.1 24), .ref 36]) rfl ?_
  obtain ⟨o3, h4⟩ := h2
  refine zw_li (l := (s.2 34)) (i := (s.1 24).toInt) rfl rfl (zq_a _) o3 ?_
  obtain ⟨h6, h7⟩ := h4
  by_cases c5 : (zg (s.2 34) (s.1 24).toInt).toInt = 0
  · refine am_wb1 rfl true (zt_eq (zq_a _) (by decide) (zr_t _) ⟨by decide, by decide⟩ c5) rfl ?_
    have h8 := h6 c5
    refine am_wh 1 (pc1 := 36) (lv1 := [(1, .int (zg (s.2 35) (s.1 24).toInt)), (0, .ref 32)]) (st1 := [.ref 32]) rfl ?_
    refine am_wc rfl rfl rfl ?_
    refine am_ww h8 ?_
    rintro _ _ ⟨s9, rfl, rfl, h10⟩
    show am_W _ _ 159 39 [(1, .int (zg (s.2 35) (s.1 24).toInt)), (0, .ref 32)] [] (zH s9) _
    refine am_wh 3 (pc1 := 43) (lv1 := [(1, .int (zg (s.2 35) (s.1 24).toInt)), (0, .ref 32)]) (st1 := [.int (zg (s.2 35) (s.1 24).toInt), .int 9, .ref 32]) rfl ?_
    refine am_wc rfl rfl rfl ?_
    refine am_ww h10 ?_
    rintro _ _ ⟨s11, rfl, rfl, h12⟩
    show am_W _ _ 159 46 [(1, .int (zg (s.2 35) (s.1 24).toInt)), (0, .ref 32)] [] (zH s11) _
    refine am_wh 1 (pc1 := 204) (lv1 := [(1, .int (zg (s.2 35) (s.1 24).toInt)), (0, .ref 32)]) (st1 := []) rfl ?_
    refine am_wr rfl rfl rfl ?_
    exact ⟨_, rfl, rfl, h12⟩
  · refine am_wb1 rfl false (zn_eq (zq_a _) (by decide) (zr_t _) ⟨by decide, by decide⟩ c5) rfl ?_
    have h13 := h7 c5
    refine am_wh 4 (pc1 := 30) (lv1 := [(1, .int (zg (s.2 35) (s.1 24).toInt)), (0, .ref 32)]) (st1 := [.int (s.1 24), .ref 36]) rfl ?_
    refine zw_li (l := (s.2 34)) (i := (s.1 24).toInt) rfl rfl (zq_a _) o3 ?_
    refine am_wh 1 (pc1 := 32) (lv1 := [(1, .int (zg (s.2 35) (s.1 24).toInt)), (0, .ref 32)]) (st1 := [.int 1, .int (zg (s.2 34) (s.1 24).toInt)]) rfl ?_
    obtain ⟨h15, h16⟩ := h13
    by_cases c14 : (zg (s.2 34) (s.1 24).toInt).toInt = 1
    · refine am_wb2 rfl false (zn_ne (zq_a _) (by decide) (zr_t _) ⟨by decide, by decide⟩ c14) rfl ?_
      have h17 := h15 c14
      refine am_wh 1 (pc1 := 36) (lv1 := [(1, .int (zg (s.2 35) (s.1 24).toInt)), (0, .ref 32)]) (st1 := [.ref 32]) rfl ?_
      refine am_wc rfl rfl rfl ?_
      refine am_ww h17 ?_
      rintro _ _ ⟨s18, rfl, rfl, h19⟩
      show am_W _ _ 159 39 [(1, .int (zg (s.2 35) (s.1 24).toInt)), (0, .ref 32)] [] (zH s18) _
      refine am_wh 3 (pc1 := 43) (lv1 := [(1, .int (zg (s.2 35) (s.1 24).toInt)), (0, .ref 32)]) (st1 := [.int (zg (s.2 35) (s.1 24).toInt), .int 9, .ref 32]) rfl ?_
      refine am_wc rfl rfl rfl ?_
      refine am_ww h19 ?_
      rintro _ _ ⟨s20, rfl, rfl, h21⟩
      show am_W _ _ 159 46 [(1, .int (zg (s.2 35) (s.1 24).toInt)), (0, .ref 32)] [] (zH s20) _
      refine am_wh 1 (pc1 := 204) (lv1 := [(1, .int (zg (s.2 35) (s.1 24).toInt)), (0, .ref 32)]) (st1 := []) rfl ?_
      refine am_wr rfl rfl rfl ?_
      exact ⟨_, rfl, rfl, h21⟩
    · refine am_wb2 rfl true (zt_ne (zq_a _) (by decide) (zr_t _) ⟨by decide, by decide⟩ c14) rfl ?_
      have h22 := h16 c14
      refine am_wh 3 (pc1 := 53) (lv1 := [(1, .int (zg (s.2 35) (s.1 24).toInt)), (0, .ref 32)]) (st1 := [.int 40, .int 3, .ref 32]) rfl ?_
      refine am_wc rfl rfl rfl ?_
      refine am_ww h22 ?_
      rintro _ _ ⟨v25, s23, rfl, rfl, h24⟩
      show am_W _ _ 159 56 [(1, .int (zg (s.2 35) (s.1 24).toInt)), (0, .ref 32)] [.int v25] (zH s23) _
      obtain ⟨h27, h28⟩ := h24
      by_cases c26 : v25.toInt = 0
      · refine am_wb1 rfl true (zt_eq (zq_a _) (by decide) (zr_t _) ⟨by decide, by decide⟩ c26) rfl ?_
        have h29 := h27 c26
        refine am_wh 3 (pc1 := 149) (lv1 := [(1, .int (zg (s.2 35) (s.1 24).toInt)), (0, .ref 32)]) (st1 := [.int 91, .int 3, .ref 32]) rfl ?_
        refine am_wc rfl rfl rfl ?_
        refine am_ww h29 ?_
        rintro _ _ ⟨v32, s30, rfl, rfl, h31⟩
        show am_W _ _ 159 152 [(1, .int (zg (s.2 35) (s.1 24).toInt)), (0, .ref 32)] [.int v32] (zH s30) _
        obtain ⟨h34, h35⟩ := h31
        by_cases c33 : v32.toInt = 0
        · refine am_wb1 rfl true (zt_eq (zq_a _) (by decide) (zr_t _) ⟨by decide, by decide⟩ c33) rfl ?_
          have h36 := h34 c33
          refine am_wh 2 (pc1 := 201) (lv1 := [(1, .int (zg (s.2 35) (s.1 24).toInt)), (0, .ref 32)]) (st1 := [.int 20, .ref 32]) rfl ?_
          refine am_wc rfl rfl rfl ?_
          refine am_ww h36 ?_
          rintro _ _ ⟨s37, rfl, rfl, h38⟩
          show am_W _ _ 159 204 [(1, .int (zg (s.2 35) (s.1 24).toInt)), (0, .ref 32)] [] (zH s37) _
          refine am_wr rfl rfl rfl ?_
          exact ⟨_, rfl, rfl, h38⟩
        · refine am_wb1 rfl false (zn_eq (zq_a _) (by decide) (zr_t _) ⟨by decide, by decide⟩ c33) rfl ?_
          have h39 := h35 c33
          refine am_wh 4 (pc1 := 161) (lv1 := [(2, .int (s30.1 24)), (1, .int (zg (s.2 35) (s.1 24).toInt)), (0, .ref 32)]) (st1 := [.ref 32]) rfl ?_
          refine am_wc rfl rfl rfl ?_
          refine am_ww h39 ?_
          rintro _ _ ⟨v42, s40, rfl, rfl, h41⟩
          show am_W _ _ 159 164 [(2, .int (s30.1 24)), (1, .int (zg (s.2 35) (s.1 24).toInt)), (0, .ref 32)] [.int v42] (zH s40) _
          obtain ⟨h44, h45⟩ := h41
          by_cases c43 : v42.toInt = 0
          · refine am_wb1 rfl true (zt_eq (zq_a _) (by decide) (zr_t _) ⟨by decide, by decide⟩ c43) rfl ?_
            have h46 := h44 c43
            refine am_wh 1 (pc1 := 204) (lv1 := [(2, .int (s30.1 24)), (1, .int (zg (s.2 35) (s.1 24).toInt)), (0, .ref 32)]) (st1 := []) rfl ?_
            refine am_wr rfl rfl rfl ?_
            exact ⟨_, rfl, rfl, h46⟩
          · refine am_wb1 rfl false (zn_eq (zq_a _) (by decide) (zr_t _) ⟨by decide, by decide⟩ c43) rfl ?_
            have h47 := h45 c43
            refine am_wh 3 (pc1 := 171) (lv1 := [(2, .int (s30.1 24)), (1, .int (zg (s.2 35) (s.1 24).toInt)), (0, .ref 32)]) (st1 := [.int (zg (s.2 35) (s.1 24).toInt), .int 9, .ref 32]) rfl ?_
            refine am_wc rfl rfl rfl ?_
            refine am_ww h47 ?_
            rintro _ _ ⟨s48, rfl, rfl, h49⟩
            show am_W _ _ 159 174 [(2, .int (s30.1 24)), (1, .int (zg (s.2 35) (s.1 24).toInt)), (0, .ref 32)] [] (zH s48) _
            refine am_wh 3 (pc1 := 179) (lv1 := [(2, .int (s30.1 24)), (1, .int (zg (s.2 35) (s.1 24).toInt)), (0, .ref 32)]) (st1 := [.int 93, .int 21, .ref 32]) rfl ?_
            refine am_wc rfl rfl rfl ?_
            refine am_ww h49 ?_
            rintro _ _ ⟨s50, rfl, rfl, h51⟩
            show am_W _ _ 159 182 [(2, .int (s30.1 24)), (1, .int (zg (s.2 35) (s.1 24).toInt)), (0, .ref 32)] [] (zH s50) _
            refine am_wh 3 (pc1 := 186) (lv1 := [(2, .int (s30.1 24)), (1, .int (zg (s.2 35) (s.1 24).toInt)), (0, .ref 32)]) (st1 := [.int (s30.1 24), .int 20, .ref 32]) rfl ?_
            refine am_wc rfl rfl rfl ?_
            refine am_ww h51 ?_
            rintro _ _ ⟨s52, rfl, rfl, h53⟩
            show am_W _ _ 159 189 [(2, .int (s30.1 24)), (1, .int (zg (s.2 35) (s.1 24).toInt)), (0, .ref 32)] [] (zH s52) _
            refine am_wh 3 (pc1 := 192) (lv1 := [(2, .int (s30.1 24)), (1, .int (zg (s.2 35) (s.1 24).toInt)), (0, .ref 32)]) (st1 := [.int 0, .int 5, .ref 32]) rfl ?_
            refine am_wc rfl rfl rfl ?_
            refine am_ww h53 ?_
            rintro _ _ ⟨s54, rfl, rfl, h55⟩
            show am_W _ _ 159 195 [(2, .int (s30.1 24)), (1, .int (zg (s.2 35) (s.1 24).toInt)), (0, .ref 32)] [] (zH s54) _
            refine am_wh 1 (pc1 := 204) (lv1 := [(2, .int (s30.1 24)), (1, .int (zg (s.2 35) (s.1 24).toInt)), (0, .ref 32)]) (st1 := []) rfl ?_
            refine am_wr rfl rfl rfl ?_
            exact ⟨_, rfl, rfl, h55⟩
      · refine am_wb1 rfl false (zn_eq (zq_a _) (by decide) (zr_t _) ⟨by decide, by decide⟩ c26) rfl ?_
        have h56 := h28 c26
        refine am_wh 1 (pc1 := 60) (lv1 := [(1, .int (zg (s.2 35) (s.1 24).toInt)), (0, .ref 32)]) (st1 := [.ref 32]) rfl ?_
        refine am_wc rfl rfl rfl ?_
        refine am_ww h56 ?_
        rintro _ _ ⟨v59, s57, rfl, rfl, h58⟩
        show am_W _ _ 159 63 [(1, .int (zg (s.2 35) (s.1 24).toInt)), (0, .ref 32)] [.int v59] (zH s57) _
        obtain ⟨h61, h62⟩ := h58
        by_cases c60 : v59.toInt = 0
        · refine am_wb1 rfl true (zt_eq (zq_a _) (by decide) (zr_t _) ⟨by decide, by decide⟩ c60) rfl ?_
          have h63 := h61 c60
          refine am_wr rfl rfl rfl ?_
          exact ⟨_, rfl, rfl, h63⟩
        · refine am_wb1 rfl false (zn_eq (zq_a _) (by decide) (zr_t _) ⟨by decide, by decide⟩ c60) rfl ?_
          have h64 := h62 c60
          refine am_wh 3 (pc1 := 70) (lv1 := [(1, .int (zg (s.2 35) (s.1 24).toInt)), (0, .ref 32)]) (st1 := [.int (zg (s.2 35) (s.1 24).toInt), .int 9, .ref 32]) rfl ?_
          refine am_wc rfl rfl rfl ?_
          refine am_ww h64 ?_
          rintro _ _ ⟨s65, rfl, rfl, h66⟩
          show am_W _ _ 159 73 [(1, .int (zg (s.2 35) (s.1 24).toInt)), (0, .ref 32)] [] (zH s65) _
          refine am_wh 3 (pc1 := 78) (lv1 := [(1, .int (zg (s.2 35) (s.1 24).toInt)), (0, .ref 32)]) (st1 := [.int 41, .int 21, .ref 32]) rfl ?_
          refine am_wc rfl rfl rfl ?_
          refine am_ww h66 ?_
          rintro _ _ ⟨s67, rfl, rfl, h68⟩
          show am_W _ _ 159 81 [(1, .int (zg (s.2 35) (s.1 24).toInt)), (0, .ref 32)] [] (zH s67) _
          refine am_wh 3 (pc1 := 84) (lv1 := [(1, .int (zg (s.2 35) (s.1 24).toInt)), (0, .ref 32)]) (st1 := [.int 0, .int 5, .ref 32]) rfl ?_
          refine am_wc rfl rfl rfl ?_
          refine am_ww h68 ?_
          rintro _ _ ⟨s69, rfl, rfl, h70⟩
          show am_W _ _ 159 87 [(1, .int (zg (s.2 35) (s.1 24).toInt)), (0, .ref 32)] [] (zH s69) _
          refine am_wh 4 (pc1 := 95) (lv1 := [(1, .int (zg (s.2 35) (s.1 24).toInt)), (0, .ref 32)]) (st1 := [.int (s69.1 24), .ref 36]) rfl ?_
          obtain ⟨o71, h72⟩ := h70
          refine zw_li (l := (s69.2 34)) (i := (s69.1 24).toInt) rfl rfl (zq_a _) o71 ?_
          obtain ⟨h74, h75⟩ := h72
          by_cases c73 : (zg (s69.2 34) (s69.1 24).toInt).toInt = 0
          · refine am_wb1 rfl false (zn_ne (zq_a _) (by decide) (zr_t _) ⟨by decide, by decide⟩ c73) rfl ?_
            have h76 := h74 c73
            refine am_wh 6 (pc1 := 109) (lv1 := [(1, .int (zg (s.2 35) (s.1 24).toInt)), (0, .ref 32)]) (st1 := [.int ((s69.1 24) + 1), .ref 36]) rfl ?_
            obtain ⟨o77, h78⟩ := h76
            refine zw_li (l := (s69.2 34)) (i := ((s69.1 24).toInt + 1)) rfl rfl (zq_add (zq_a _) (by decide)) o77 ?_
            refine am_wh 1 (pc1 := 111) (lv1 := [(1, .int (zg (s.2 35) (s.1 24).toInt)), (0, .ref 32)]) (st1 := [.int 3, .int (zg (s69.2 34) ((s69.1 24).toInt + 1))]) rfl ?_
            obtain ⟨h80, h81⟩ := h78
            by_cases c79 : (zg (s69.2 34) ((s69.1 24).toInt + 1)).toInt = 3
            · refine am_wb2 rfl false (zn_ne (zq_a _) (by decide) (zr_t _) ⟨by decide, by decide⟩ c79) rfl ?_
              have h82 := h80 c79
              refine am_wh 6 (pc1 := 124) (lv1 := [(1, .int (zg (s.2 35) (s.1 24).toInt)), (0, .ref 32)]) (st1 := [.int ((s69.1 24) + 1), .ref 39]) rfl ?_
              obtain ⟨o83, h84⟩ := h82
              refine zw_li (l := (s69.2 37)) (i := ((s69.1 24).toInt + 1)) rfl rfl (zq_add (zq_a _) (by decide)) o83 ?_
              refine am_wh 1 (pc1 := 126) (lv1 := [(1, .int (zg (s.2 35) (s.1 24).toInt)), (0, .ref 32)]) (st1 := [.int 1, .int (zg (s69.2 37) ((s69.1 24).toInt + 1))]) rfl ?_
              obtain ⟨h86, h87⟩ := h84
              by_cases c85 : (zg (s69.2 37) ((s69.1 24).toInt + 1)).toInt = 1
              · refine am_wb2 rfl false (zn_ne (zq_a _) (by decide) (zr_t _) ⟨by decide, by decide⟩ c85) rfl ?_
                have h88 := h86 c85
                refine am_wh 3 (pc1 := 132) (lv1 := [(1, .int (zg (s.2 35) (s.1 24).toInt)), (0, .ref 32)]) (st1 := [.int 1, .int 3, .ref 32]) rfl ?_
                refine am_wc rfl rfl rfl ?_
                refine am_ww h88 ?_
                rintro _ _ ⟨s89, rfl, rfl, h90⟩
                show am_W _ _ 159 135 [(1, .int (zg (s.2 35) (s.1 24).toInt)), (0, .ref 32)] [] (zH s89) _
                refine am_wh 3 (pc1 := 139) (lv1 := [(1, .int (zg (s.2 35) (s.1 24).toInt)), (0, .ref 32)]) (st1 := [.int 3, .int 17, .ref 32]) rfl ?_
                refine am_wc rfl rfl rfl ?_
                refine am_ww h90 ?_
                rintro _ _ ⟨s91, rfl, rfl, h92⟩
                show am_W _ _ 159 142 [(1, .int (zg (s.2 35) (s.1 24).toInt)), (0, .ref 32)] [] (zH s91) _
                refine am_wh 1 (pc1 := 204) (lv1 := [(1, .int (zg (s.2 35) (s.1 24).toInt)), (0, .ref 32)]) (st1 := []) rfl ?_
                refine am_wr rfl rfl rfl ?_
                exact ⟨_, rfl, rfl, h92⟩
              · refine am_wb2 rfl true (zt_ne (zq_a _) (by decide) (zr_t _) ⟨by decide, by decide⟩ c85) rfl ?_
                have h93 := h87 c85
                refine am_wr rfl rfl rfl ?_
                exact ⟨_, rfl, rfl, h93⟩
            · refine am_wb2 rfl true (zt_ne (zq_a _) (by decide) (zr_t _) ⟨by decide, by decide⟩ c79) rfl ?_
              have h94 := h81 c79
              refine am_wr rfl rfl rfl ?_
              exact ⟨_, rfl, rfl, h94⟩
          · refine am_wb1 rfl true (zt_ne (zq_a _) (by decide) (zr_t _) ⟨by decide, by decide⟩ c73) rfl ?_
            have h95 := h75 c73
            refine am_wr rfl rfl rfl ?_
            exact ⟨_, rfl, rfl, h95⟩
set_option maxRecDepth 100000 in
theorem vc_160_0 (xs : Option (List Int32)) (d : Nat) (s : zS) (a1 : Int32) (Q : zS → Prop) (h : zWv xs d 150 0 [(0, .ref 32), (1, .int a1)] s (fun s1 => zWi xs d 147 0 [(0, .ref 32), (1, .int 3), (2, .int 40)] s1 (fun v5 s3 => (v5.toInt = 0 → (Q s3)) ∧ (¬ v5.toInt = 0 → (zWi xs d 152 0 [(0, .ref 32)] s3 (fun v13 s11 => (v13.toInt = 0 → (Q s11)) ∧ (¬ v13.toInt = 0 → (zWv xs d 145 0 [(0, .ref 32), (1, .int 9), (2, .int a1)] s11 (fun s19 => zWv xs d 145 0 [(0, .ref 32), (1, .int 21), (2, .int 41)] s19 (fun s21 => zWi xs d 147 0 [(0, .ref 32), (1, .int 3), (2, .int 41)] s21 (fun v25 s23 => (v25.toInt = 0 → (zWv xs d 145 0 [(0, .ref 32), (1, .int 10), (2, .int 0)] s23 (fun s30 => zWv xs d 145 0 [(0, .ref 32), (1, .int 5), (2, .int 0)] s30 (fun s32 => Q s32)))) ∧ (¬ v25.toInt = 0 → (Q s23))))))))))))) : zWv xs (d + 1) 160 0 [(0, .ref 32), (1, .int a1)] s Q := by
  unfold zWv
  refine am_wh 2 (pc1 := 2) (lv1 := [(0, .ref 32), (1, .int a1)]) (st1 := [.int a1, .ref 32]) rfl ?_
  refine am_wc rfl rfl rfl ?_
  refine am_ww h ?_
  rintro _ _ ⟨s1, rfl, rfl, h2⟩
  show am_W _ _ 160 5 [(0, .ref 32), (1, .int a1)] [] (zH s1) _
  refine am_wh 3 (pc1 := 9) (lv1 := [(0, .ref 32), (1, .int a1)]) (st1 := [.int 40, .int 3, .ref 32]) rfl ?_
  refine am_wc rfl rfl rfl ?_
  refine am_ww h2 ?_
  rintro _ _ ⟨v5, s3, rfl, rfl, h4⟩
  show am_W _ _ 160 12 [(0, .ref 32), (1, .int a1)] [.int v5] (zH s3) _
  obtain ⟨h7, h8⟩ := h4
  by_cases c6 : v5.toInt = 0
  · refine am_wb1 rfl true (zt_eq (zq_a _) (by decide) (zr_t _) ⟨by decide, by decide⟩ c6) rfl ?_
    have h9 := h7 c6
    refine am_wr rfl rfl rfl ?_
    exact ⟨_, rfl, rfl, h9⟩
  · refine am_wb1 rfl false (zn_eq (zq_a _) (by decide) (zr_t _) ⟨by decide, by decide⟩ c6) rfl ?_
    have h10 := h8 c6
    refine am_wh 1 (pc1 := 16) (lv1 := [(0, .ref 32), (1, .int a1)]) (st1 := [.ref 32]) rfl ?_
    refine am_wc rfl rfl rfl ?_
    refine am_ww h10 ?_
    rintro _ _ ⟨v13, s11, rfl, rfl, h12⟩
    show am_W _ _ 160 19 [(0, .ref 32), (1, .int a1)] [.int v13] (zH s11) _
    obtain ⟨h15, h16⟩ := h12
    by_cases c14 : v13.toInt = 0
    · refine am_wb1 rfl true (zt_eq (zq_a _) (by decide) (zr_t _) ⟨by decide, by decide⟩ c14) rfl ?_
      have h17 := h15 c14
      refine am_wr rfl rfl rfl ?_
      exact ⟨_, rfl, rfl, h17⟩
    · refine am_wb1 rfl false (zn_eq (zq_a _) (by decide) (zr_t _) ⟨by decide, by decide⟩ c14) rfl ?_
      have h18 := h16 c14
      refine am_wh 3 (pc1 := 26) (lv1 := [(0, .ref 32), (1, .int a1)]) (st1 := [.int a1, .int 9, .ref 32]) rfl ?_
      refine am_wc rfl rfl rfl ?_
      refine am_ww h18 ?_
      rintro _ _ ⟨s19, rfl, rfl, h20⟩
      show am_W _ _ 160 29 [(0, .ref 32), (1, .int a1)] [] (zH s19) _
      refine am_wh 3 (pc1 := 34) (lv1 := [(0, .ref 32), (1, .int a1)]) (st1 := [.int 41, .int 21, .ref 32]) rfl ?_
      refine am_wc rfl rfl rfl ?_
      refine am_ww h20 ?_
      rintro _ _ ⟨s21, rfl, rfl, h22⟩
      show am_W _ _ 160 37 [(0, .ref 32), (1, .int a1)] [] (zH s21) _
      refine am_wh 3 (pc1 := 41) (lv1 := [(0, .ref 32), (1, .int a1)]) (st1 := [.int 41, .int 3, .ref 32]) rfl ?_
      refine am_wc rfl rfl rfl ?_
      refine am_ww h22 ?_
      rintro _ _ ⟨v25, s23, rfl, rfl, h24⟩
      show am_W _ _ 160 44 [(0, .ref 32), (1, .int a1)] [.int v25] (zH s23) _
      obtain ⟨h27, h28⟩ := h24
      by_cases c26 : v25.toInt = 0
      · refine am_wb1 rfl false (zn_ne (zq_a _) (by decide) (zr_t _) ⟨by decide, by decide⟩ c26) rfl ?_
        have h29 := h27 c26
        refine am_wh 3 (pc1 := 51) (lv1 := [(0, .ref 32), (1, .int a1)]) (st1 := [.int 0, .int 10, .ref 32]) rfl ?_
        refine am_wc rfl rfl rfl ?_
        refine am_ww h29 ?_
        rintro _ _ ⟨s30, rfl, rfl, h31⟩
        show am_W _ _ 160 54 [(0, .ref 32), (1, .int a1)] [] (zH s30) _
        refine am_wh 3 (pc1 := 57) (lv1 := [(0, .ref 32), (1, .int a1)]) (st1 := [.int 0, .int 5, .ref 32]) rfl ?_
        refine am_wc rfl rfl rfl ?_
        refine am_ww h31 ?_
        rintro _ _ ⟨s32, rfl, rfl, h33⟩
        show am_W _ _ 160 60 [(0, .ref 32), (1, .int a1)] [] (zH s32) _
        refine am_wr rfl rfl rfl ?_
        exact ⟨_, rfl, rfl, h33⟩
      · refine am_wb1 rfl true (zt_ne (zq_a _) (by decide) (zr_t _) ⟨by decide, by decide⟩ c26) rfl ?_
        have h34 := h28 c26
        refine am_wr rfl rfl rfl ?_
        exact ⟨_, rfl, rfl, h34⟩
set_option maxRecDepth 100000 in
theorem vc_161_0 (xs : Option (List Int32)) (d : Nat) (s : zS) (a1 : Int32) (a2 : Int32) (Q : zS → Prop) (h : (a1.toInt = 10 → (zWi xs d 147 0 [(0, .ref 32), (1, .int 3), (2, .int 44)] s (fun v7 s5 => (v7.toInt = 0 → (Q s5)) ∧ (¬ v7.toInt = 0 → (zWv xs d 149 0 [(0, .ref 32)] s5 (fun s13 => zWv xs d 145 0 [(0, .ref 32), (1, .int 10), (2, .int 0)] s13 (fun s15 => zWv xs d 145 0 [(0, .ref 32), (1, .int 5), (2, .int 0)] s15 (fun s17 => Q s17)))))))) ∧ (¬ a1.toInt = 10 → ((a1.toInt = 11 → (zX (s.2 34) (s.1 24).toInt ∧ ((zg (s.2 34) (s.1 24).toInt).toInt = 0 → (zWv xs d 145 0 [(0, .ref 32), (1, .int 18), (2, .int 2)] s (fun s30 => zWv xs d 145 0 [(0, .ref 32), (1, .int 17), (2, .int 2)] s30 (fun s32 => Q s32)))) ∧ (¬ (zg (s.2 34) (s.1 24).toInt).toInt = 0 → (Q s)))) ∧ (¬ a1.toInt = 11 → ((a1.toInt = 12 → (zWi xs d 147 0 [(0, .ref 32), (1, .int 3), (2, .int 58)] s (fun v42 s40 => (v42.toInt = 0 → (zWv xs d 148 0 [(0, .ref 32), (1, .int 20)] s40 (fun s47 => Q s47))) ∧ (¬ v42.toInt = 0 → (zWi xs d 152 0 [(0, .ref 32)] s40 (fun v52 s50 => (v52.toInt = 0 → (Q s50)) ∧ (¬ v52.toInt = 0 → (zWv xs d 145 0 [(0, .ref 32), (1, .int 15), (2, .int a2)] s50 (fun s58 => zWv xs d 145 0 [(0, .ref 32), (1, .int 13), (2, .int 0)] s58 (fun s60 => Q s60)))))))))) ∧ (¬ a1.toInt = 12 → ((a1.toInt = 13 → (zX (s.2 34) (s.1 24).toInt ∧ ((zg (s.2 34) (s.1 24).toInt).toInt = 4 → (zWv xs d 149 0 [(0, .ref 32)] s (fun s73 => zWv xs d 145 0 [(0, .ref 32), (1, .int 14), (2, .int 0)] s73 (fun s75 => zWv xs d 145 0 [(0, .ref 32), (1, .int 2), (2, .int 0)] s75 (fun s77 => zWv xs d 146 0 [(0, .ref 32), (1, .int 5), (2, .int 0)] s77 (fun s79 => Q s79)))))) ∧ (¬ (zg (s.2 34) (s.1 24).toInt).toInt = 4 → (zWv xs d 146 0 [(0, .ref 32), (1, .int 4), (2, .int 0)] s (fun s82 => zWv xs d 145 0 [(0, .ref 32), (1, .int 4), (2, .int 0)] s82 (fun s84 => Q s84)))))) ∧ (¬ a1.toInt = 13 → (zX (s.2 34) (s.1 24).toInt ∧ ((zg (s.2 34) (s.1 24).toInt).toInt = 6 → (zWv xs d 149 0 [(0, .ref 32)] s (fun s93 => Q s93))) ∧ (¬ (zg (s.2 34) (s.1 24).toInt).toInt = 6 → (zWv xs d 145 0 [(0, .ref 32), (1, .int 14), (2, .int 0)] s (fun s96 => zWv xs d 145 0 [(0, .ref 32), (1, .int 2), (2, .int 0)] s96 (fun s98 => Q s98))))))))))))) : zWv xs (d + 1) 161 0 [(0, .ref 32), (1, .int a1), (2, .int a2)] s Q := by
  unfold zWv
  refine am_wh 2 (pc1 := 3) (lv1 := [(0, .ref 32), (1, .int a1), (2, .int a2)]) (st1 := [.int 10, .int a1]) rfl ?_
  obtain ⟨h2, h3⟩ := h
  by_cases c1 : a1.toInt = 10
  · refine am_wb2 rfl false (zn_ne (zq_a _) (by decide) (zr_t _) ⟨by decide, by decide⟩ c1) rfl ?_
    have h4 := h2 c1
    refine am_wh 3 (pc1 := 10) (lv1 := [(0, .ref 32), (1, .int a1), (2, .int a2)]) (st1 := [.int 44, .int 3, .ref 32]) rfl ?_
    refine am_wc rfl rfl rfl ?_
    refine am_ww h4 ?_
    rintro _ _ ⟨v7, s5, rfl, rfl, h6⟩
    show am_W _ _ 161 13 [(0, .ref 32), (1, .int a1), (2, .int a2)] [.int v7] (zH s5) _
    obtain ⟨h9, h10⟩ := h6
    by_cases c8 : v7.toInt = 0
    · refine am_wb1 rfl true (zt_eq (zq_a _) (by decide) (zr_t _) ⟨by decide, by decide⟩ c8) rfl ?_
      have h11 := h9 c8
      refine am_wr rfl rfl rfl ?_
      exact ⟨_, rfl, rfl, h11⟩
    · refine am_wb1 rfl false (zn_eq (zq_a _) (by decide) (zr_t _) ⟨by decide, by decide⟩ c8) rfl ?_
      have h12 := h10 c8
      refine am_wh 1 (pc1 := 17) (lv1 := [(0, .ref 32), (1, .int a1), (2, .int a2)]) (st1 := [.ref 32]) rfl ?_
      refine am_wc rfl rfl rfl ?_
      refine am_ww h12 ?_
      rintro _ _ ⟨s13, rfl, rfl, h14⟩
      show am_W _ _ 161 20 [(0, .ref 32), (1, .int a1), (2, .int a2)] [] (zH s13) _
      refine am_wh 3 (pc1 := 24) (lv1 := [(0, .ref 32), (1, .int a1), (2, .int a2)]) (st1 := [.int 0, .int 10, .ref 32]) rfl ?_
      refine am_wc rfl rfl rfl ?_
      refine am_ww h14 ?_
      rintro _ _ ⟨s15, rfl, rfl, h16⟩
      show am_W _ _ 161 27 [(0, .ref 32), (1, .int a1), (2, .int a2)] [] (zH s15) _
      refine am_wh 3 (pc1 := 30) (lv1 := [(0, .ref 32), (1, .int a1), (2, .int a2)]) (st1 := [.int 0, .int 5, .ref 32]) rfl ?_
      refine am_wc rfl rfl rfl ?_
      refine am_ww h16 ?_
      rintro _ _ ⟨s17, rfl, rfl, h18⟩
      show am_W _ _ 161 33 [(0, .ref 32), (1, .int a1), (2, .int a2)] [] (zH s17) _
      refine am_wh 1 (pc1 := 214) (lv1 := [(0, .ref 32), (1, .int a1), (2, .int a2)]) (st1 := []) rfl ?_
      refine am_wr rfl rfl rfl ?_
      exact ⟨_, rfl, rfl, h18⟩
  · refine am_wb2 rfl true (zt_ne (zq_a _) (by decide) (zr_t _) ⟨by decide, by decide⟩ c1) rfl ?_
    have h19 := h3 c1
    refine am_wh 2 (pc1 := 39) (lv1 := [(0, .ref 32), (1, .int a1), (2, .int a2)]) (st1 := [.int 11, .int a1]) rfl ?_
    obtain ⟨h21, h22⟩ := h19
    by_cases c20 : a1.toInt = 11
    · refine am_wb2 rfl false (zn_ne (zq_a _) (by decide) (zr_t _) ⟨by decide, by decide⟩ c20) rfl ?_
      have h23 := h21 c20
      refine am_wh 4 (pc1 := 50) (lv1 := [(0, .ref 32), (1, .int a1), (2, .int a2)]) (st1 := [.int (s.1 24), .ref 36]) rfl ?_
      obtain ⟨o24, h25⟩ := h23
      refine zw_li (l := (s.2 34)) (i := (s.1 24).toInt) rfl rfl (zq_a _) o24 ?_
      obtain ⟨h27, h28⟩ := h25
      by_cases c26 : (zg (s.2 34) (s.1 24).toInt).toInt = 0
      · refine am_wb1 rfl false (zn_ne (zq_a _) (by decide) (zr_t _) ⟨by decide, by decide⟩ c26) rfl ?_
        have h29 := h27 c26
        refine am_wh 3 (pc1 := 58) (lv1 := [(0, .ref 32), (1, .int a1), (2, .int a2)]) (st1 := [.int 2, .int 18, .ref 32]) rfl ?_
        refine am_wc rfl rfl rfl ?_
        refine am_ww h29 ?_
        rintro _ _ ⟨s30, rfl, rfl, h31⟩
        show am_W _ _ 161 61 [(0, .ref 32), (1, .int a1), (2, .int a2)] [] (zH s30) _
        refine am_wh 3 (pc1 := 65) (lv1 := [(0, .ref 32), (1, .int a1), (2, .int a2)]) (st1 := [.int 2, .int 17, .ref 32]) rfl ?_
        refine am_wc rfl rfl rfl ?_
        refine am_ww h31 ?_
        rintro _ _ ⟨s32, rfl, rfl, h33⟩
        show am_W _ _ 161 68 [(0, .ref 32), (1, .int a1), (2, .int a2)] [] (zH s32) _
        refine am_wh 1 (pc1 := 214) (lv1 := [(0, .ref 32), (1, .int a1), (2, .int a2)]) (st1 := []) rfl ?_
        refine am_wr rfl rfl rfl ?_
        exact ⟨_, rfl, rfl, h33⟩
      · refine am_wb1 rfl true (zt_ne (zq_a _) (by decide) (zr_t _) ⟨by decide, by decide⟩ c26) rfl ?_
        have h34 := h28 c26
        refine am_wr rfl rfl rfl ?_
        exact ⟨_, rfl, rfl, h34⟩
    · refine am_wb2 rfl true (zt_ne (zq_a _) (by decide) (zr_t _) ⟨by decide, by decide⟩ c20) rfl ?_
      have h35 := h22 c20
      refine am_wh 2 (pc1 := 74) (lv1 := [(0, .ref 32), (1, .int a1), (2, .int a2)]) (st1 := [.int 12, .int a1]) rfl ?_
      obtain ⟨h37, h38⟩ := h35
      by_cases c36 : a1.toInt = 12
      · refine am_wb2 rfl false (zn_ne (zq_a _) (by decide) (zr_t _) ⟨by decide, by decide⟩ c36) rfl ?_
        have h39 := h37 c36
        refine am_wh 3 (pc1 := 81) (lv1 := [(0, .ref 32), (1, .int a1), (2, .int a2)]) (st1 := [.int 58, .int 3, .ref 32]) rfl ?_
        refine am_wc rfl rfl rfl ?_
        refine am_ww h39 ?_
        rintro _ _ ⟨v42, s40, rfl, rfl, h41⟩
        show am_W _ _ 161 84 [(0, .ref 32), (1, .int a1), (2, .int a2)] [.int v42] (zH s40) _
        obtain ⟨h44, h45⟩ := h41
        by_cases c43 : v42.toInt = 0
        · refine am_wb1 rfl false (zn_ne (zq_a _) (by decide) (zr_t _) ⟨by decide, by decide⟩ c43) rfl ?_
          have h46 := h44 c43
          refine am_wh 2 (pc1 := 90) (lv1 := [(0, .ref 32), (1, .int a1), (2, .int a2)]) (st1 := [.int 20, .ref 32]) rfl ?_
          refine am_wc rfl rfl rfl ?_
          refine am_ww h46 ?_
          rintro _ _ ⟨s47, rfl, rfl, h48⟩
          show am_W _ _ 161 93 [(0, .ref 32), (1, .int a1), (2, .int a2)] [] (zH s47) _
          refine am_wh 1 (pc1 := 214) (lv1 := [(0, .ref 32), (1, .int a1), (2, .int a2)]) (st1 := []) rfl ?_
          refine am_wr rfl rfl rfl ?_
          exact ⟨_, rfl, rfl, h48⟩
        · refine am_wb1 rfl true (zt_ne (zq_a _) (by decide) (zr_t _) ⟨by decide, by decide⟩ c43) rfl ?_
          have h49 := h45 c43
          refine am_wh 1 (pc1 := 97) (lv1 := [(0, .ref 32), (1, .int a1), (2, .int a2)]) (st1 := [.ref 32]) rfl ?_
          refine am_wc rfl rfl rfl ?_
          refine am_ww h49 ?_
          rintro _ _ ⟨v52, s50, rfl, rfl, h51⟩
          show am_W _ _ 161 100 [(0, .ref 32), (1, .int a1), (2, .int a2)] [.int v52] (zH s50) _
          obtain ⟨h54, h55⟩ := h51
          by_cases c53 : v52.toInt = 0
          · refine am_wb1 rfl true (zt_eq (zq_a _) (by decide) (zr_t _) ⟨by decide, by decide⟩ c53) rfl ?_
            have h56 := h54 c53
            refine am_wr rfl rfl rfl ?_
            exact ⟨_, rfl, rfl, h56⟩
          · refine am_wb1 rfl false (zn_eq (zq_a _) (by decide) (zr_t _) ⟨by decide, by decide⟩ c53) rfl ?_
            have h57 := h55 c53
            refine am_wh 3 (pc1 := 107) (lv1 := [(0, .ref 32), (1, .int a1), (2, .int a2)]) (st1 := [.int a2, .int 15, .ref 32]) rfl ?_
            refine am_wc rfl rfl rfl ?_
            refine am_ww h57 ?_
            rintro _ _ ⟨s58, rfl, rfl, h59⟩
            show am_W _ _ 161 110 [(0, .ref 32), (1, .int a1), (2, .int a2)] [] (zH s58) _
            refine am_wh 3 (pc1 := 114) (lv1 := [(0, .ref 32), (1, .int a1), (2, .int a2)]) (st1 := [.int 0, .int 13, .ref 32]) rfl ?_
            refine am_wc rfl rfl rfl ?_
            refine am_ww h59 ?_
            rintro _ _ ⟨s60, rfl, rfl, h61⟩
            show am_W _ _ 161 117 [(0, .ref 32), (1, .int a1), (2, .int a2)] [] (zH s60) _
            refine am_wh 1 (pc1 := 214) (lv1 := [(0, .ref 32), (1, .int a1), (2, .int a2)]) (st1 := []) rfl ?_
            refine am_wr rfl rfl rfl ?_
            exact ⟨_, rfl, rfl, h61⟩
      · refine am_wb2 rfl true (zt_ne (zq_a _) (by decide) (zr_t _) ⟨by decide, by decide⟩ c36) rfl ?_
        have h62 := h38 c36
        refine am_wh 2 (pc1 := 123) (lv1 := [(0, .ref 32), (1, .int a1), (2, .int a2)]) (st1 := [.int 13, .int a1]) rfl ?_
        obtain ⟨h64, h65⟩ := h62
        by_cases c63 : a1.toInt = 13
        · refine am_wb2 rfl false (zn_ne (zq_a _) (by decide) (zr_t _) ⟨by decide, by decide⟩ c63) rfl ?_
          have h66 := h64 c63
          refine am_wh 4 (pc1 := 134) (lv1 := [(0, .ref 32), (1, .int a1), (2, .int a2)]) (st1 := [.int (s.1 24), .ref 36]) rfl ?_
          obtain ⟨o67, h68⟩ := h66
          refine zw_li (l := (s.2 34)) (i := (s.1 24).toInt) rfl rfl (zq_a _) o67 ?_
          refine am_wh 1 (pc1 := 136) (lv1 := [(0, .ref 32), (1, .int a1), (2, .int a2)]) (st1 := [.int 4, .int (zg (s.2 34) (s.1 24).toInt)]) rfl ?_
          obtain ⟨h70, h71⟩ := h68
          by_cases c69 : (zg (s.2 34) (s.1 24).toInt).toInt = 4
          · refine am_wb2 rfl false (zn_ne (zq_a _) (by decide) (zr_t _) ⟨by decide, by decide⟩ c69) rfl ?_
            have h72 := h70 c69
            refine am_wh 1 (pc1 := 140) (lv1 := [(0, .ref 32), (1, .int a1), (2, .int a2)]) (st1 := [.ref 32]) rfl ?_
            refine am_wc rfl rfl rfl ?_
            refine am_ww h72 ?_
            rintro _ _ ⟨s73, rfl, rfl, h74⟩
            show am_W _ _ 161 143 [(0, .ref 32), (1, .int a1), (2, .int a2)] [] (zH s73) _
            refine am_wh 3 (pc1 := 147) (lv1 := [(0, .ref 32), (1, .int a1), (2, .int a2)]) (st1 := [.int 0, .int 14, .ref 32]) rfl ?_
            refine am_wc rfl rfl rfl ?_
            refine am_ww h74 ?_
            rintro _ _ ⟨s75, rfl, rfl, h76⟩
            show am_W _ _ 161 150 [(0, .ref 32), (1, .int a1), (2, .int a2)] [] (zH s75) _
            refine am_wh 3 (pc1 := 153) (lv1 := [(0, .ref 32), (1, .int a1), (2, .int a2)]) (st1 := [.int 0, .int 2, .ref 32]) rfl ?_
            refine am_wc rfl rfl rfl ?_
            refine am_ww h76 ?_
            rintro _ _ ⟨s77, rfl, rfl, h78⟩
            show am_W _ _ 161 156 [(0, .ref 32), (1, .int a1), (2, .int a2)] [] (zH s77) _
            refine am_wh 3 (pc1 := 159) (lv1 := [(0, .ref 32), (1, .int a1), (2, .int a2)]) (st1 := [.int 0, .int 5, .ref 32]) rfl ?_
            refine am_wc rfl rfl rfl ?_
            refine am_ww h78 ?_
            rintro _ _ ⟨s79, rfl, rfl, h80⟩
            show am_W _ _ 161 162 [(0, .ref 32), (1, .int a1), (2, .int a2)] [] (zH s79) _
            refine am_wh 1 (pc1 := 214) (lv1 := [(0, .ref 32), (1, .int a1), (2, .int a2)]) (st1 := []) rfl ?_
            refine am_wr rfl rfl rfl ?_
            exact ⟨_, rfl, rfl, h80⟩
          · refine am_wb2 rfl true (zt_ne (zq_a _) (by decide) (zr_t _) ⟨by decide, by decide⟩ c69) rfl ?_
            have h81 := h71 c69
            refine am_wh 3 (pc1 := 168) (lv1 := [(0, .ref 32), (1, .int a1), (2, .int a2)]) (st1 := [.int 0, .int 4, .ref 32]) rfl ?_
            refine am_wc rfl rfl rfl ?_
            refine am_ww h81 ?_
            rintro _ _ ⟨s82, rfl, rfl, h83⟩
            show am_W _ _ 161 171 [(0, .ref 32), (1, .int a1), (2, .int a2)] [] (zH s82) _
            refine am_wh 3 (pc1 := 174) (lv1 := [(0, .ref 32), (1, .int a1), (2, .int a2)]) (st1 := [.int 0, .int 4, .ref 32]) rfl ?_
            refine am_wc rfl rfl rfl ?_
            refine am_ww h83 ?_
            rintro _ _ ⟨s84, rfl, rfl, h85⟩
            show am_W _ _ 161 177 [(0, .ref 32), (1, .int a1), (2, .int a2)] [] (zH s84) _
            refine am_wh 1 (pc1 := 214) (lv1 := [(0, .ref 32), (1, .int a1), (2, .int a2)]) (st1 := []) rfl ?_
            refine am_wr rfl rfl rfl ?_
            exact ⟨_, rfl, rfl, h85⟩
        · refine am_wb2 rfl true (zt_ne (zq_a _) (by decide) (zr_t _) ⟨by decide, by decide⟩ c63) rfl ?_
          have h86 := h65 c63
          refine am_wh 4 (pc1 := 188) (lv1 := [(0, .ref 32), (1, .int a1), (2, .int a2)]) (st1 := [.int (s.1 24), .ref 36]) rfl ?_
          obtain ⟨o87, h88⟩ := h86
          refine zw_li (l := (s.2 34)) (i := (s.1 24).toInt) rfl rfl (zq_a _) o87 ?_
          refine am_wh 1 (pc1 := 191) (lv1 := [(0, .ref 32), (1, .int a1), (2, .int a2)]) (st1 := [.int 6, .int (zg (s.2 34) (s.1 24).toInt)]) rfl ?_
          obtain ⟨h90, h91⟩ := h88
          by_cases c89 : (zg (s.2 34) (s.1 24).toInt).toInt = 6
          · refine am_wb2 rfl false (zn_ne (zq_a _) (by decide) (zr_t _) ⟨by decide, by decide⟩ c89) rfl ?_
            have h92 := h90 c89
            refine am_wh 1 (pc1 := 195) (lv1 := [(0, .ref 32), (1, .int a1), (2, .int a2)]) (st1 := [.ref 32]) rfl ?_
            refine am_wc rfl rfl rfl ?_
            refine am_ww h92 ?_
            rintro _ _ ⟨s93, rfl, rfl, h94⟩
            show am_W _ _ 161 198 [(0, .ref 32), (1, .int a1), (2, .int a2)] [] (zH s93) _
            refine am_wh 1 (pc1 := 214) (lv1 := [(0, .ref 32), (1, .int a1), (2, .int a2)]) (st1 := []) rfl ?_
            refine am_wr rfl rfl rfl ?_
            exact ⟨_, rfl, rfl, h94⟩
          · refine am_wb2 rfl true (zt_ne (zq_a _) (by decide) (zr_t _) ⟨by decide, by decide⟩ c89) rfl ?_
            have h95 := h91 c89
            refine am_wh 3 (pc1 := 205) (lv1 := [(0, .ref 32), (1, .int a1), (2, .int a2)]) (st1 := [.int 0, .int 14, .ref 32]) rfl ?_
            refine am_wc rfl rfl rfl ?_
            refine am_ww h95 ?_
            rintro _ _ ⟨s96, rfl, rfl, h97⟩
            show am_W _ _ 161 208 [(0, .ref 32), (1, .int a1), (2, .int a2)] [] (zH s96) _
            refine am_wh 3 (pc1 := 211) (lv1 := [(0, .ref 32), (1, .int a1), (2, .int a2)]) (st1 := [.int 0, .int 2, .ref 32]) rfl ?_
            refine am_wc rfl rfl rfl ?_
            refine am_ww h97 ?_
            rintro _ _ ⟨s98, rfl, rfl, h99⟩
            show am_W _ _ 161 214 [(0, .ref 32), (1, .int a1), (2, .int a2)] [] (zH s98) _
            refine am_wr rfl rfl rfl ?_
            exact ⟨_, rfl, rfl, h99⟩
set_option maxRecDepth 100000 in
theorem vc_162_0 (xs : Option (List Int32)) (d : Nat) (s : zS) (a1 : Int32) (a2 : Int32) (Q : zS → Prop) (h : (a1.toInt = 18 → (zWi xs d 147 0 [(0, .ref 32), (1, .int 3), (2, .int 44)] s (fun v7 s5 => (v7.toInt = 0 → (Q s5)) ∧ (¬ v7.toInt = 0 → (zWv xs d 149 0 [(0, .ref 32)] s5 (fun s13 => zWv xs d 145 0 [(0, .ref 32), (1, .int 18), (2, .int a2)] s13 (fun s15 => zWv xs d 145 0 [(0, .ref 32), (1, .int 17), (2, .int a2)] s15 (fun s17 => Q s17)))))))) ∧ (¬ a1.toInt = 18 → ((a1.toInt = 19 → ((a2.toInt = 7 → (zWi xs d 147 0 [(0, .ref 32), (1, .int 2), (2, .int 4)] s (fun v30 s28 => (v30.toInt = 0 → (Q s28)) ∧ (¬ v30.toInt = 0 → (zWv xs d 149 0 [(0, .ref 32)] s28 (fun s36 => zWv xs d 145 0 [(0, .ref 32), (1, .int 12), (2, .int 0)] s36 (fun s38 => Q s38))))))) ∧ (¬ a2.toInt = 7 → (Q s)))) ∧ (¬ a1.toInt = 19 → ((a1.toInt = 20 → (zWi xs d 147 0 [(0, .ref 32), (1, .int 2), (2, .int 5)] s (fun v48 s46 => (v48.toInt = 0 → (Q s46)) ∧ (¬ v48.toInt = 0 → (zWi xs d 151 0 [(0, .ref 32), (1, .int 4), (2, .int a2)] s46 (fun v56 s54 => zWv xs d 149 0 [(0, .ref 32)] s54 (fun s57 => zX (s57.2 50) v56.toInt ∧ zWv xs d 145 0 [(0, .ref 32), (1, .int 22), (2, .int v56)] (za s57 50 (zu (s57.2 50) v56.toInt (s57.1 24))) (fun s61 => zWv xs d 146 0 [(0, .ref 32), (1, .int 2), (2, .int 9)] s61 (fun s63 => zWv xs d 145 0 [(0, .ref 32), (1, .int 17), (2, .int 1)] s63 (fun s65 => Q s65)))))))))) ∧ (¬ a1.toInt = 20 → ((a1.toInt = 22 → (zX (s.2 48) a2.toInt ∧ zWv xs d 145 0 [(0, .ref 32), (1, .int 23), (2, .int a2)] (za s 48 (zu (s.2 48) a2.toInt (s.1 24))) (fun s74 => zWv xs d 145 0 [(0, .ref 32), (1, .int 5), (2, .int 0)] s74 (fun s76 => Q s76)))) ∧ (¬ a1.toInt = 22 → ((a1.toInt = 21 → (zWi xs d 147 0 [(0, .ref 32), (1, .int 3), (2, .int a2)] s (fun v85 s83 => (v85.toInt = 0 → (zWv xs d 148 0 [(0, .ref 32), (1, .int 20)] s83 (fun s90 => Q s90))) ∧ (¬ v85.toInt = 0 → (zWv xs d 149 0 [(0, .ref 32)] s83 (fun s93 => Q (zf s93 25 ((s93.1 25) - 1)))))))) ∧ (¬ a1.toInt = 21 → ((a1.toInt = 15 → ((0 < a2.toInt → (zX (s.2 47) a2.toInt ∧ zX (s.2 49) a2.toInt ∧ Q (za (za (zf s 25 ((s.1 25) - 1)) 47 (zu (s.2 47) a2.toInt (s.1 24))) 49 (zu (s.2 49) a2.toInt (s.1 24))))) ∧ (¬ 0 < a2.toInt → (Q (zf s 25 ((s.1 25) - 1)))))) ∧ (¬ a1.toInt = 15 → ((0 < a2.toInt → (zX (s.2 47) a2.toInt ∧ zX (s.2 49) a2.toInt ∧ Q (za (za (zf s 25 (s.1 25)) 47 (zu (s.2 47) a2.toInt (s.1 24))) 49 (zu (s.2 49) a2.toInt (s.1 24))))) ∧ (¬ 0 < a2.toInt → (Q (zf s 25 (s.1 25))))))))))))))))) : zWv xs (d + 1) 162 0 [(0, .ref 32), (1, .int a1), (2, .int a2)] s Q := by
  unfold zWv
  refine am_wh 2 (pc1 := 3) (lv1 := [(0, .ref 32), (1, .int a1), (2, .int a2)]) (st1 := [.int 18, .int a1]) rfl ?_
  obtain ⟨h2, h3⟩ := h
  by_cases c1 : a1.toInt = 18
  · refine am_wb2 rfl false (zn_ne (zq_a _) (by decide) (zr_t _) ⟨by decide, by decide⟩ c1) rfl ?_
    have h4 := h2 c1
    refine am_wh 3 (pc1 := 10) (lv1 := [(0, .ref 32), (1, .int a1), (2, .int a2)]) (st1 := [.int 44, .int 3, .ref 32]) rfl ?_
    refine am_wc rfl rfl rfl ?_
    refine am_ww h4 ?_
    rintro _ _ ⟨v7, s5, rfl, rfl, h6⟩
    show am_W _ _ 162 13 [(0, .ref 32), (1, .int a1), (2, .int a2)] [.int v7] (zH s5) _
    obtain ⟨h9, h10⟩ := h6
    by_cases c8 : v7.toInt = 0
    · refine am_wb1 rfl true (zt_eq (zq_a _) (by decide) (zr_t _) ⟨by decide, by decide⟩ c8) rfl ?_
      have h11 := h9 c8
      refine am_wr rfl rfl rfl ?_
      exact ⟨_, rfl, rfl, h11⟩
    · refine am_wb1 rfl false (zn_eq (zq_a _) (by decide) (zr_t _) ⟨by decide, by decide⟩ c8) rfl ?_
      have h12 := h10 c8
      refine am_wh 1 (pc1 := 17) (lv1 := [(0, .ref 32), (1, .int a1), (2, .int a2)]) (st1 := [.ref 32]) rfl ?_
      refine am_wc rfl rfl rfl ?_
      refine am_ww h12 ?_
      rintro _ _ ⟨s13, rfl, rfl, h14⟩
      show am_W _ _ 162 20 [(0, .ref 32), (1, .int a1), (2, .int a2)] [] (zH s13) _
      refine am_wh 3 (pc1 := 24) (lv1 := [(0, .ref 32), (1, .int a1), (2, .int a2)]) (st1 := [.int a2, .int 18, .ref 32]) rfl ?_
      refine am_wc rfl rfl rfl ?_
      refine am_ww h14 ?_
      rintro _ _ ⟨s15, rfl, rfl, h16⟩
      show am_W _ _ 162 27 [(0, .ref 32), (1, .int a1), (2, .int a2)] [] (zH s15) _
      refine am_wh 3 (pc1 := 31) (lv1 := [(0, .ref 32), (1, .int a1), (2, .int a2)]) (st1 := [.int a2, .int 17, .ref 32]) rfl ?_
      refine am_wc rfl rfl rfl ?_
      refine am_ww h16 ?_
      rintro _ _ ⟨s17, rfl, rfl, h18⟩
      show am_W _ _ 162 34 [(0, .ref 32), (1, .int a1), (2, .int a2)] [] (zH s17) _
      refine am_wh 1 (pc1 := 252) (lv1 := [(0, .ref 32), (1, .int a1), (2, .int a2)]) (st1 := []) rfl ?_
      refine am_wr rfl rfl rfl ?_
      exact ⟨_, rfl, rfl, h18⟩
  · refine am_wb2 rfl true (zt_ne (zq_a _) (by decide) (zr_t _) ⟨by decide, by decide⟩ c1) rfl ?_
    have h19 := h3 c1
    refine am_wh 2 (pc1 := 40) (lv1 := [(0, .ref 32), (1, .int a1), (2, .int a2)]) (st1 := [.int 19, .int a1]) rfl ?_
    obtain ⟨h21, h22⟩ := h19
    by_cases c20 : a1.toInt = 19
    · refine am_wb2 rfl false (zn_ne (zq_a _) (by decide) (zr_t _) ⟨by decide, by decide⟩ c20) rfl ?_
      have h23 := h21 c20
      refine am_wh 2 (pc1 := 46) (lv1 := [(0, .ref 32), (1, .int a1), (2, .int a2)]) (st1 := [.int 7, .int a2]) rfl ?_
      obtain ⟨h25, h26⟩ := h23
      by_cases c24 : a2.toInt = 7
      · refine am_wb2 rfl false (zn_ne (zq_a _) (by decide) (zr_t _) ⟨by decide, by decide⟩ c24) rfl ?_
        have h27 := h25 c24
        refine am_wh 3 (pc1 := 52) (lv1 := [(0, .ref 32), (1, .int a1), (2, .int a2)]) (st1 := [.int 4, .int 2, .ref 32]) rfl ?_
        refine am_wc rfl rfl rfl ?_
        refine am_ww h27 ?_
        rintro _ _ ⟨v30, s28, rfl, rfl, h29⟩
        show am_W _ _ 162 55 [(0, .ref 32), (1, .int a1), (2, .int a2)] [.int v30] (zH s28) _
        obtain ⟨h32, h33⟩ := h29
        by_cases c31 : v30.toInt = 0
        · refine am_wb1 rfl true (zt_eq (zq_a _) (by decide) (zr_t _) ⟨by decide, by decide⟩ c31) rfl ?_
          have h34 := h32 c31
          refine am_wr rfl rfl rfl ?_
          exact ⟨_, rfl, rfl, h34⟩
        · refine am_wb1 rfl false (zn_eq (zq_a _) (by decide) (zr_t _) ⟨by decide, by decide⟩ c31) rfl ?_
          have h35 := h33 c31
          refine am_wh 1 (pc1 := 59) (lv1 := [(0, .ref 32), (1, .int a1), (2, .int a2)]) (st1 := [.ref 32]) rfl ?_
          refine am_wc rfl rfl rfl ?_
          refine am_ww h35 ?_
          rintro _ _ ⟨s36, rfl, rfl, h37⟩
          show am_W _ _ 162 62 [(0, .ref 32), (1, .int a1), (2, .int a2)] [] (zH s36) _
          refine am_wh 3 (pc1 := 66) (lv1 := [(0, .ref 32), (1, .int a1), (2, .int a2)]) (st1 := [.int 0, .int 12, .ref 32]) rfl ?_
          refine am_wc rfl rfl rfl ?_
          refine am_ww h37 ?_
          rintro _ _ ⟨s38, rfl, rfl, h39⟩
          show am_W _ _ 162 69 [(0, .ref 32), (1, .int a1), (2, .int a2)] [] (zH s38) _
          refine am_wh 1 (pc1 := 252) (lv1 := [(0, .ref 32), (1, .int a1), (2, .int a2)]) (st1 := []) rfl ?_
          refine am_wr rfl rfl rfl ?_
          exact ⟨_, rfl, rfl, h39⟩
      · refine am_wb2 rfl true (zt_ne (zq_a _) (by decide) (zr_t _) ⟨by decide, by decide⟩ c24) rfl ?_
        have h40 := h26 c24
        refine am_wr rfl rfl rfl ?_
        exact ⟨_, rfl, rfl, h40⟩
    · refine am_wb2 rfl true (zt_ne (zq_a _) (by decide) (zr_t _) ⟨by decide, by decide⟩ c20) rfl ?_
      have h41 := h22 c20
      refine am_wh 2 (pc1 := 75) (lv1 := [(0, .ref 32), (1, .int a1), (2, .int a2)]) (st1 := [.int 20, .int a1]) rfl ?_
      obtain ⟨h43, h44⟩ := h41
      by_cases c42 : a1.toInt = 20
      · refine am_wb2 rfl false (zn_ne (zq_a _) (by decide) (zr_t _) ⟨by decide, by decide⟩ c42) rfl ?_
        have h45 := h43 c42
        refine am_wh 3 (pc1 := 81) (lv1 := [(0, .ref 32), (1, .int a1), (2, .int a2)]) (st1 := [.int 5, .int 2, .ref 32]) rfl ?_
        refine am_wc rfl rfl rfl ?_
        refine am_ww h45 ?_
        rintro _ _ ⟨v48, s46, rfl, rfl, h47⟩
        show am_W _ _ 162 84 [(0, .ref 32), (1, .int a1), (2, .int a2)] [.int v48] (zH s46) _
        obtain ⟨h50, h51⟩ := h47
        by_cases c49 : v48.toInt = 0
        · refine am_wb1 rfl true (zt_eq (zq_a _) (by decide) (zr_t _) ⟨by decide, by decide⟩ c49) rfl ?_
          have h52 := h50 c49
          refine am_wr rfl rfl rfl ?_
          exact ⟨_, rfl, rfl, h52⟩
        · refine am_wb1 rfl false (zn_eq (zq_a _) (by decide) (zr_t _) ⟨by decide, by decide⟩ c49) rfl ?_
          have h53 := h51 c49
          refine am_wh 3 (pc1 := 90) (lv1 := [(0, .ref 32), (1, .int a1), (2, .int a2)]) (st1 := [.int a2, .int 4, .ref 32]) rfl ?_
          refine am_wc rfl rfl rfl ?_
          refine am_ww h53 ?_
          rintro _ _ ⟨v56, s54, rfl, rfl, h55⟩
          show am_W _ _ 162 93 [(0, .ref 32), (1, .int a1), (2, .int a2)] [.int v56] (zH s54) _
          refine am_wh 2 (pc1 := 95) (lv1 := [(3, .int v56), (0, .ref 32), (1, .int a1), (2, .int a2)]) (st1 := [.ref 32]) rfl ?_
          refine am_wc rfl rfl rfl ?_
          refine am_ww h55 ?_
          rintro _ _ ⟨s57, rfl, rfl, h58⟩
          show am_W _ _ 162 98 [(3, .int v56), (0, .ref 32), (1, .int a1), (2, .int a2)] [] (zH s57) _
          refine am_wh 5 (pc1 := 107) (lv1 := [(3, .int v56), (0, .ref 32), (1, .int a1), (2, .int a2)]) (st1 := [.int (s57.1 24), .int v56, .ref 52]) rfl ?_
          obtain ⟨o59, h60⟩ := h58
          refine zw_si (l := (s57.2 50)) (i := v56.toInt) rfl rfl (zq_a _) o59 (zh_50 _ _) ?_
          refine am_wh 3 (pc1 := 112) (lv1 := [(3, .int v56), (0, .ref 32), (1, .int a1), (2, .int a2)]) (st1 := [.int v56, .int 22, .ref 32]) rfl ?_
          refine am_wc rfl rfl rfl ?_
          refine am_ww h60 ?_
          rintro _ _ ⟨s61, rfl, rfl, h62⟩
          show am_W _ _ 162 115 [(3, .int v56), (0, .ref 32), (1, .int a1), (2, .int a2)] [] (zH s61) _
          refine am_wh 3 (pc1 := 119) (lv1 := [(3, .int v56), (0, .ref 32), (1, .int a1), (2, .int a2)]) (st1 := [.int 9, .int 2, .ref 32]) rfl ?_
          refine am_wc rfl rfl rfl ?_
          refine am_ww h62 ?_
          rintro _ _ ⟨s63, rfl, rfl, h64⟩
          show am_W _ _ 162 122 [(3, .int v56), (0, .ref 32), (1, .int a1), (2, .int a2)] [] (zH s63) _
          refine am_wh 3 (pc1 := 126) (lv1 := [(3, .int v56), (0, .ref 32), (1, .int a1), (2, .int a2)]) (st1 := [.int 1, .int 17, .ref 32]) rfl ?_
          refine am_wc rfl rfl rfl ?_
          refine am_ww h64 ?_
          rintro _ _ ⟨s65, rfl, rfl, h66⟩
          show am_W _ _ 162 129 [(3, .int v56), (0, .ref 32), (1, .int a1), (2, .int a2)] [] (zH s65) _
          refine am_wh 1 (pc1 := 252) (lv1 := [(3, .int v56), (0, .ref 32), (1, .int a1), (2, .int a2)]) (st1 := []) rfl ?_
          refine am_wr rfl rfl rfl ?_
          exact ⟨_, rfl, rfl, h66⟩
      · refine am_wb2 rfl true (zt_ne (zq_a _) (by decide) (zr_t _) ⟨by decide, by decide⟩ c42) rfl ?_
        have h67 := h44 c42
        refine am_wh 2 (pc1 := 135) (lv1 := [(0, .ref 32), (1, .int a1), (2, .int a2)]) (st1 := [.int 22, .int a1]) rfl ?_
        obtain ⟨h69, h70⟩ := h67
        by_cases c68 : a1.toInt = 22
        · refine am_wb2 rfl false (zn_ne (zq_a _) (by decide) (zr_t _) ⟨by decide, by decide⟩ c68) rfl ?_
          have h71 := h69 c68
          refine am_wh 5 (pc1 := 147) (lv1 := [(0, .ref 32), (1, .int a1), (2, .int a2)]) (st1 := [.int (s.1 24), .int a2, .ref 50]) rfl ?_
          obtain ⟨o72, h73⟩ := h71
          refine zw_si (l := (s.2 48)) (i := a2.toInt) rfl rfl (zq_a _) o72 (zh_48 _ _) ?_
          refine am_wh 3 (pc1 := 152) (lv1 := [(0, .ref 32), (1, .int a1), (2, .int a2)]) (st1 := [.int a2, .int 23, .ref 32]) rfl ?_
          refine am_wc rfl rfl rfl ?_
          refine am_ww h73 ?_
          rintro _ _ ⟨s74, rfl, rfl, h75⟩
          show am_W _ _ 162 155 [(0, .ref 32), (1, .int a1), (2, .int a2)] [] (zH s74) _
          refine am_wh 3 (pc1 := 158) (lv1 := [(0, .ref 32), (1, .int a1), (2, .int a2)]) (st1 := [.int 0, .int 5, .ref 32]) rfl ?_
          refine am_wc rfl rfl rfl ?_
          refine am_ww h75 ?_
          rintro _ _ ⟨s76, rfl, rfl, h77⟩
          show am_W _ _ 162 161 [(0, .ref 32), (1, .int a1), (2, .int a2)] [] (zH s76) _
          refine am_wh 1 (pc1 := 252) (lv1 := [(0, .ref 32), (1, .int a1), (2, .int a2)]) (st1 := []) rfl ?_
          refine am_wr rfl rfl rfl ?_
          exact ⟨_, rfl, rfl, h77⟩
        · refine am_wb2 rfl true (zt_ne (zq_a _) (by decide) (zr_t _) ⟨by decide, by decide⟩ c68) rfl ?_
          have h78 := h70 c68
          refine am_wh 2 (pc1 := 167) (lv1 := [(0, .ref 32), (1, .int a1), (2, .int a2)]) (st1 := [.int 21, .int a1]) rfl ?_
          obtain ⟨h80, h81⟩ := h78
          by_cases c79 : a1.toInt = 21
          · refine am_wb2 rfl false (zn_ne (zq_a _) (by decide) (zr_t _) ⟨by decide, by decide⟩ c79) rfl ?_
            have h82 := h80 c79
            refine am_wh 3 (pc1 := 173) (lv1 := [(0, .ref 32), (1, .int a1), (2, .int a2)]) (st1 := [.int a2, .int 3, .ref 32]) rfl ?_
            refine am_wc rfl rfl rfl ?_
            refine am_ww h82 ?_
            rintro _ _ ⟨v85, s83, rfl, rfl, h84⟩
            show am_W _ _ 162 176 [(0, .ref 32), (1, .int a1), (2, .int a2)] [.int v85] (zH s83) _
            obtain ⟨h87, h88⟩ := h84
            by_cases c86 : v85.toInt = 0
            · refine am_wb1 rfl true (zt_eq (zq_a _) (by decide) (zr_t _) ⟨by decide, by decide⟩ c86) rfl ?_
              have h89 := h87 c86
              refine am_wh 2 (pc1 := 199) (lv1 := [(0, .ref 32), (1, .int a1), (2, .int a2)]) (st1 := [.int 20, .ref 32]) rfl ?_
              refine am_wc rfl rfl rfl ?_
              refine am_ww h89 ?_
              rintro _ _ ⟨s90, rfl, rfl, h91⟩
              show am_W _ _ 162 202 [(0, .ref 32), (1, .int a1), (2, .int a2)] [] (zH s90) _
              refine am_wh 1 (pc1 := 252) (lv1 := [(0, .ref 32), (1, .int a1), (2, .int a2)]) (st1 := []) rfl ?_
              refine am_wr rfl rfl rfl ?_
              exact ⟨_, rfl, rfl, h91⟩
            · refine am_wb1 rfl false (zn_eq (zq_a _) (by decide) (zr_t _) ⟨by decide, by decide⟩ c86) rfl ?_
              have h92 := h88 c86
              refine am_wh 1 (pc1 := 180) (lv1 := [(0, .ref 32), (1, .int a1), (2, .int a2)]) (st1 := [.ref 32]) rfl ?_
              refine am_wc rfl rfl rfl ?_
              refine am_ww h92 ?_
              rintro _ _ ⟨s93, rfl, rfl, h94⟩
              show am_W _ _ 162 183 [(0, .ref 32), (1, .int a1), (2, .int a2)] [] (zH s93) _
              refine am_wh 5 (pc1 := 190) (lv1 := [(0, .ref 32), (1, .int a1), (2, .int a2)]) (st1 := [.int ((s93.1 25) - 1), .ref 32]) rfl ?_
              refine am_w0 (z := (193, [(0, .ref 32), (1, .int a1), (2, .int a2)], [], zH (zf s93 25 ((s93.1 25) - 1)))) rfl rfl (zp_25 ) ?_
              refine am_wh 1 (pc1 := 252) (lv1 := [(0, .ref 32), (1, .int a1), (2, .int a2)]) (st1 := []) rfl ?_
              refine am_wr rfl rfl rfl ?_
              exact ⟨_, rfl, rfl, h94⟩
          · refine am_wb2 rfl true (zt_ne (zq_a _) (by decide) (zr_t _) ⟨by decide, by decide⟩ c79) rfl ?_
            have h95 := h81 c79
            refine am_wh 3 (pc1 := 209) (lv1 := [(0, .ref 32), (1, .int a1), (2, .int a2)]) (st1 := [.int 15, .int a1, .ref 32]) rfl ?_
            obtain ⟨h97, h98⟩ := h95
            by_cases c96 : a1.toInt = 15
            · refine am_wb2 rfl false (zn_ne (zq_a _) (by decide) (zr_t _) ⟨by decide, by decide⟩ c96) rfl ?_
              have h99 := h97 c96
              refine am_wh 5 (pc1 := 225) (lv1 := [(0, .ref 32), (1, .int a1), (2, .int a2)]) (st1 := [.int ((s.1 25) - 1), .ref 32]) rfl ?_
              refine am_w0 (z := (228, [(0, .ref 32), (1, .int a1), (2, .int a2)], [], zH (zf s 25 ((s.1 25) - 1)))) rfl rfl (zp_25 ) ?_
              refine am_wh 1 (pc1 := 229) (lv1 := [(0, .ref 32), (1, .int a1), (2, .int a2)]) (st1 := [.int a2]) rfl ?_
              obtain ⟨h101, h102⟩ := h99
              by_cases c100 : 0 < a2.toInt
              · refine am_wb1 rfl false (zn_le (zq_a _) (by decide) (zr_t _) ⟨by decide, by decide⟩ c100) rfl ?_
                have h103 := h101 c100
                refine am_wh 5 (pc1 := 241) (lv1 := [(0, .ref 32), (1, .int a1), (2, .int a2)]) (st1 := [.int (s.1 24), .int a2, .ref 49]) rfl ?_
                obtain ⟨o104, h105⟩ := h103
                refine zw_si (l := (s.2 47)) (i := a2.toInt) rfl rfl (zq_a _) o104 (zh_47 _ _) ?_
                refine am_wh 5 (pc1 := 251) (lv1 := [(0, .ref 32), (1, .int a1), (2, .int a2)]) (st1 := [.int (s.1 24), .int a2, .ref 51]) rfl ?_
                obtain ⟨o106, h107⟩ := h105
                refine zw_si (l := (s.2 49)) (i := a2.toInt) rfl rfl (zq_a _) o106 (zh_49 _ _) ?_
                refine am_wr rfl rfl rfl ?_
                exact ⟨_, rfl, rfl, h107⟩
              · refine am_wb1 rfl true (zt_le (zq_a _) (by decide) (zr_t _) ⟨by decide, by decide⟩ c100) rfl ?_
                have h108 := h102 c100
                refine am_wr rfl rfl rfl ?_
                exact ⟨_, rfl, rfl, h108⟩
            · refine am_wb2 rfl true (zt_ne (zq_a _) (by decide) (zr_t _) ⟨by decide, by decide⟩ c96) rfl ?_
              have h109 := h98 c96
              refine am_wh 2 (pc1 := 225) (lv1 := [(0, .ref 32), (1, .int a1), (2, .int a2)]) (st1 := [.int (s.1 25), .ref 32]) rfl ?_
              refine am_w0 (z := (228, [(0, .ref 32), (1, .int a1), (2, .int a2)], [], zH (zf s 25 (s.1 25)))) rfl rfl (zp_25 ) ?_
              refine am_wh 1 (pc1 := 229) (lv1 := [(0, .ref 32), (1, .int a1), (2, .int a2)]) (st1 := [.int a2]) rfl ?_
              obtain ⟨h111, h112⟩ := h109
              by_cases c110 : 0 < a2.toInt
              · refine am_wb1 rfl false (zn_le (zq_a _) (by decide) (zr_t _) ⟨by decide, by decide⟩ c110) rfl ?_
                have h113 := h111 c110
                refine am_wh 5 (pc1 := 241) (lv1 := [(0, .ref 32), (1, .int a1), (2, .int a2)]) (st1 := [.int (s.1 24), .int a2, .ref 49]) rfl ?_
                obtain ⟨o114, h115⟩ := h113
                refine zw_si (l := (s.2 47)) (i := a2.toInt) rfl rfl (zq_a _) o114 (zh_47 _ _) ?_
                refine am_wh 5 (pc1 := 251) (lv1 := [(0, .ref 32), (1, .int a1), (2, .int a2)]) (st1 := [.int (s.1 24), .int a2, .ref 51]) rfl ?_
                obtain ⟨o116, h117⟩ := h115
                refine zw_si (l := (s.2 49)) (i := a2.toInt) rfl rfl (zq_a _) o116 (zh_49 _ _) ?_
                refine am_wr rfl rfl rfl ?_
                exact ⟨_, rfl, rfl, h117⟩
              · refine am_wb1 rfl true (zt_le (zq_a _) (by decide) (zr_t _) ⟨by decide, by decide⟩ c110) rfl ?_
                have h118 := h112 c110
                refine am_wr rfl rfl rfl ?_
                exact ⟨_, rfl, rfl, h118⟩
set_option maxRecDepth 100000 in
theorem vc_163_0 (xs : Option (List Int32)) (d : Nat) (s : zS)  (Q : zS → Prop) (h : zWv xs (d + 1) 163 2 [(0, .ref 32), (1, .int 0)] s Q) : zWv xs (d + 1) 163 0 [(0, .ref 32)] s Q := by
  unfold zWv
  refine am_wh 2 (pc1 := 2) (lv1 := [(1, .int 0), (0, .ref 32)]) (st1 := []) rfl ?_
  exact am_wm h ⟨rfl, rfl, trivial⟩
set_option maxRecDepth 100000 in
theorem vc_163_2 (xs : Option (List Int32)) (d : Nat) (s : zS) (a1 : Int32) (Q : zS → Prop) (h : (a1.toInt < (s.1 31).toInt → (zWv xs (d + 1) 163 12 [(0, .ref 32), (1, .int a1), (2, .int 1)] s Q)) ∧ (¬ a1.toInt < (s.1 31).toInt → (Q s))) : zWv xs (d + 1) 163 2 [(0, .ref 32), (1, .int a1)] s Q := by
  unfold zWv
  refine am_wh 3 (pc1 := 7) (lv1 := [(0, .ref 32), (1, .int a1)]) (st1 := [.int (s.1 31), .int a1]) rfl ?_
  obtain ⟨h2, h3⟩ := h
  by_cases c1 : a1.toInt < (s.1 31).toInt
  · refine am_wb2 rfl false (zn_ge (zq_a _) (zq_a _) (zr_t _) (zr_t _) c1) rfl ?_
    have h4 := h2 c1
    refine am_wh 2 (pc1 := 12) (lv1 := [(2, .int 1), (0, .ref 32), (1, .int a1)]) (st1 := []) rfl ?_
    exact am_wm h4 ⟨rfl, rfl, rfl, trivial⟩
  · refine am_wb2 rfl true (zt_ge (zq_a _) (zq_a _) (zr_t _) (zr_t _) c1) rfl ?_
    have h5 := h3 c1
    refine am_wr rfl rfl rfl ?_
    exact ⟨_, rfl, rfl, h5⟩
set_option maxRecDepth 100000 in
theorem vc_163_12 (xs : Option (List Int32)) (d : Nat) (s : zS) (a1 : Int32) (a2 : Int32) (Q : zS → Prop) (h : zR (a2.toInt + 1) ∧ ((a2.toInt + 1) < (s.1 31).toInt → (zX (s.2 45) a2.toInt ∧ zX (s.2 45) (a2.toInt + 1) ∧ ((zg (s.2 45) (a2.toInt + 1)).toInt < (zg (s.2 45) a2.toInt).toInt → (zWv xs d 164 0 [(0, .ref 32), (1, .int a2)] s (fun s15 => zWv xs (d + 1) 163 12 [(0, .ref 32), (1, .int a1), (2, .int (a2 + 1))] s15 Q))) ∧ (¬ (zg (s.2 45) (a2.toInt + 1)).toInt < (zg (s.2 45) a2.toInt).toInt → (zWv xs (d + 1) 163 12 [(0, .ref 32), (1, .int a1), (2, .int (a2 + 1))] s Q)))) ∧ (¬ (a2.toInt + 1) < (s.1 31).toInt → (zWv xs (d + 1) 163 2 [(0, .ref 32), (1, .int (a1 + 1))] s Q))) : zWv xs (d + 1) 163 12 [(0, .ref 32), (1, .int a1), (2, .int a2)] s Q := by
  unfold zWv
  refine am_wh 5 (pc1 := 19) (lv1 := [(0, .ref 32), (1, .int a1), (2, .int a2)]) (st1 := [.int (s.1 31), .int (a2 + 1)]) rfl ?_
  obtain ⟨o1, h2⟩ := h
  obtain ⟨h4, h5⟩ := h2
  by_cases c3 : (a2.toInt + 1) < (s.1 31).toInt
  · refine am_wb2 rfl false (zn_ge (zq_add (zq_a _) (by decide)) (zq_a _) o1 (zr_t _) c3) rfl ?_
    have h6 := h4 c3
    refine am_wh 3 (pc1 := 27) (lv1 := [(0, .ref 32), (1, .int a1), (2, .int a2)]) (st1 := [.int a2, .ref 47]) rfl ?_
    obtain ⟨o7, h8⟩ := h6
    refine zw_li (l := (s.2 45)) (i := a2.toInt) rfl rfl (zq_a _) o7 ?_
    refine am_wh 5 (pc1 := 35) (lv1 := [(0, .ref 32), (1, .int a1), (2, .int a2)]) (st1 := [.int (a2 + 1), .ref 47, .int (zg (s.2 45) a2.toInt)]) rfl ?_
    obtain ⟨o9, h10⟩ := h8
    refine zw_li (l := (s.2 45)) (i := (a2.toInt + 1)) rfl rfl (zq_add (zq_a _) (by decide)) o9 ?_
    obtain ⟨h12, h13⟩ := h10
    by_cases c11 : (zg (s.2 45) (a2.toInt + 1)).toInt < (zg (s.2 45) a2.toInt).toInt
    · refine am_wb2 rfl false (zn_le (zq_a _) (zq_a _) (zr_t _) (zr_t _) c11) rfl ?_
      have h14 := h12 c11
      refine am_wh 2 (pc1 := 41) (lv1 := [(0, .ref 32), (1, .int a1), (2, .int a2)]) (st1 := [.int a2, .ref 32]) rfl ?_
      refine am_wc rfl rfl rfl ?_
      refine am_ww h14 ?_
      rintro _ _ ⟨s15, rfl, rfl, h16⟩
      show am_W _ _ 163 44 [(0, .ref 32), (1, .int a1), (2, .int a2)] [] (zH s15) _
      refine am_wh 2 (pc1 := 12) (lv1 := [(2, .int (a2 + 1)), (0, .ref 32), (1, .int a1)]) (st1 := []) rfl ?_
      exact am_wm h16 ⟨rfl, rfl, rfl, trivial⟩
    · refine am_wb2 rfl true (zt_le (zq_a _) (zq_a _) (zr_t _) (zr_t _) c11) rfl ?_
      have h17 := h13 c11
      refine am_wh 2 (pc1 := 12) (lv1 := [(2, .int (a2 + 1)), (0, .ref 32), (1, .int a1)]) (st1 := []) rfl ?_
      exact am_wm h17 ⟨rfl, rfl, rfl, trivial⟩
  · refine am_wb2 rfl true (zt_ge (zq_add (zq_a _) (by decide)) (zq_a _) o1 (zr_t _) c3) rfl ?_
    have h18 := h5 c3
    refine am_wh 2 (pc1 := 2) (lv1 := [(1, .int (a1 + 1)), (0, .ref 32), (2, .int a2)]) (st1 := []) rfl ?_
    exact am_wm h18 ⟨rfl, rfl, trivial⟩
set_option maxRecDepth 100000 in
theorem vc_164_0 (xs : Option (List Int32)) (d : Nat) (s : zS) (a1 : Int32) (Q : zS → Prop) (h : zX (s.2 44) a1.toInt ∧ zX (s.2 45) a1.toInt ∧ zX (s.2 46) a1.toInt ∧ zX (s.2 47) a1.toInt ∧ zX (s.2 48) a1.toInt ∧ zX (s.2 49) a1.toInt ∧ zX (s.2 50) a1.toInt ∧ zX (s.2 44) (a1.toInt + 1) ∧ zX (s.2 45) (a1.toInt + 1) ∧ zX (s.2 46) (a1.toInt + 1) ∧ zX (s.2 47) (a1.toInt + 1) ∧ zX (s.2 48) (a1.toInt + 1) ∧ zX (s.2 49) (a1.toInt + 1) ∧ zX (s.2 50) (a1.toInt + 1) ∧ zX (zu (s.2 44) a1.toInt (zg (s.2 44) (a1.toInt + 1))) (a1.toInt + 1) ∧ zX (zu (s.2 45) a1.toInt (zg (s.2 45) (a1.toInt + 1))) (a1.toInt + 1) ∧ zX (zu (s.2 46) a1.toInt (zg (s.2 46) (a1.toInt + 1))) (a1.toInt + 1) ∧ zX (zu (s.2 47) a1.toInt (zg (s.2 47) (a1.toInt + 1))) (a1.toInt + 1) ∧ zX (zu (s.2 48) a1.toInt (zg (s.2 48) (a1.toInt + 1))) (a1.toInt + 1) ∧ zX (zu (s.2 49) a1.toInt (zg (s.2 49) (a1.toInt + 1))) (a1.toInt + 1) ∧ zX (zu (s.2 50) a1.toInt (zg (s.2 50) (a1.toInt + 1))) (a1.toInt + 1) ∧ Q (za (za (za (za (za (za (za (za (za (za (za (za (za (za s 44 (zu (s.2 44) a1.toInt (zg (s.2 44) (a1.toInt + 1)))) 45 (zu (s.2 45) a1.toInt (zg (s.2 45) (a1.toInt + 1)))) 46 (zu (s.2 46) a1.toInt (zg (s.2 46) (a1.toInt + 1)))) 47 (zu (s.2 47) a1.toInt (zg (s.2 47) (a1.toInt + 1)))) 48 (zu (s.2 48) a1.toInt (zg (s.2 48) (a1.toInt + 1)))) 49 (zu (s.2 49) a1.toInt (zg (s.2 49) (a1.toInt + 1)))) 50 (zu (s.2 50) a1.toInt (zg (s.2 50) (a1.toInt + 1)))) 44 (zu (zu (s.2 44) a1.toInt (zg (s.2 44) (a1.toInt + 1))) (a1.toInt + 1) (zg (s.2 44) a1.toInt))) 45 (zu (zu (s.2 45) a1.toInt (zg (s.2 45) (a1.toInt + 1))) (a1.toInt + 1) (zg (s.2 45) a1.toInt))) 46 (zu (zu (s.2 46) a1.toInt (zg (s.2 46) (a1.toInt + 1))) (a1.toInt + 1) (zg (s.2 46) a1.toInt))) 47 (zu (zu (s.2 47) a1.toInt (zg (s.2 47) (a1.toInt + 1))) (a1.toInt + 1) (zg (s.2 47) a1.toInt))) 48 (zu (zu (s.2 48) a1.toInt (zg (s.2 48) (a1.toInt + 1))) (a1.toInt + 1) (zg (s.2 48) a1.toInt))) 49 (zu (zu (s.2 49) a1.toInt (zg (s.2 49) (a1.toInt + 1))) (a1.toInt + 1) (zg (s.2 49) a1.toInt))) 50 (zu (zu (s.2 50) a1.toInt (zg (s.2 50) (a1.toInt + 1))) (a1.toInt + 1) (zg (s.2 50) a1.toInt)))) : zWv xs d 164 0 [(0, .ref 32), (1, .int a1)] s Q := by
  unfold zWv
  refine am_wh 3 (pc1 := 5) (lv1 := [(0, .ref 32), (1, .int a1)]) (st1 := [.int a1, .ref 46]) rfl ?_
  obtain ⟨o1, h2⟩ := h
  refine zw_li (l := (s.2 44)) (i := a1.toInt) rfl rfl (zq_a _) o1 ?_
  refine am_wh 4 (pc1 := 12) (lv1 := [(2, .int (zg (s.2 44) a1.toInt)), (0, .ref 32), (1, .int a1)]) (st1 := [.int a1, .ref 47]) rfl ?_
  obtain ⟨o3, h4⟩ := h2
  refine zw_li (l := (s.2 45)) (i := a1.toInt) rfl rfl (zq_a _) o3 ?_
  refine am_wh 4 (pc1 := 19) (lv1 := [(3, .int (zg (s.2 45) a1.toInt)), (2, .int (zg (s.2 44) a1.toInt)), (0, .ref 32), (1, .int a1)]) (st1 := [.int a1, .ref 48]) rfl ?_
  obtain ⟨o5, h6⟩ := h4
  refine zw_li (l := (s.2 46)) (i := a1.toInt) rfl rfl (zq_a _) o5 ?_
  refine am_wh 4 (pc1 := 27) (lv1 := [(4, .int (zg (s.2 46) a1.toInt)), (3, .int (zg (s.2 45) a1.toInt)), (2, .int (zg (s.2 44) a1.toInt)), (0, .ref 32), (1, .int a1)]) (st1 := [.int a1, .ref 49]) rfl ?_
  obtain ⟨o7, h8⟩ := h6
  refine zw_li (l := (s.2 47)) (i := a1.toInt) rfl rfl (zq_a _) o7 ?_
  refine am_wh 4 (pc1 := 35) (lv1 := [(5, .int (zg (s.2 47) a1.toInt)), (4, .int (zg (s.2 46) a1.toInt)), (3, .int (zg (s.2 45) a1.toInt)), (2, .int (zg (s.2 44) a1.toInt)), (0, .ref 32), (1, .int a1)]) (st1 := [.int a1, .ref 50]) rfl ?_
  obtain ⟨o9, h10⟩ := h8
  refine zw_li (l := (s.2 48)) (i := a1.toInt) rfl rfl (zq_a _) o9 ?_
  refine am_wh 4 (pc1 := 43) (lv1 := [(6, .int (zg (s.2 48) a1.toInt)), (5, .int (zg (s.2 47) a1.toInt)), (4, .int (zg (s.2 46) a1.toInt)), (3, .int (zg (s.2 45) a1.toInt)), (2, .int (zg (s.2 44) a1.toInt)), (0, .ref 32), (1, .int a1)]) (st1 := [.int a1, .ref 51]) rfl ?_
  obtain ⟨o11, h12⟩ := h10
  refine zw_li (l := (s.2 49)) (i := a1.toInt) rfl rfl (zq_a _) o11 ?_
  refine am_wh 4 (pc1 := 51) (lv1 := [(7, .int (zg (s.2 49) a1.toInt)), (6, .int (zg (s.2 48) a1.toInt)), (5, .int (zg (s.2 47) a1.toInt)), (4, .int (zg (s.2 46) a1.toInt)), (3, .int (zg (s.2 45) a1.toInt)), (2, .int (zg (s.2 44) a1.toInt)), (0, .ref 32), (1, .int a1)]) (st1 := [.int a1, .ref 52]) rfl ?_
  obtain ⟨o13, h14⟩ := h12
  refine zw_li (l := (s.2 50)) (i := a1.toInt) rfl rfl (zq_a _) o13 ?_
  refine am_wh 9 (pc1 := 66) (lv1 := [(8, .int (zg (s.2 50) a1.toInt)), (7, .int (zg (s.2 49) a1.toInt)), (6, .int (zg (s.2 48) a1.toInt)), (5, .int (zg (s.2 47) a1.toInt)), (4, .int (zg (s.2 46) a1.toInt)), (3, .int (zg (s.2 45) a1.toInt)), (2, .int (zg (s.2 44) a1.toInt)), (0, .ref 32), (1, .int a1)]) (st1 := [.int (a1 + 1), .ref 46, .int a1, .ref 46]) rfl ?_
  obtain ⟨o15, h16⟩ := h14
  refine zw_li (l := (s.2 44)) (i := (a1.toInt + 1)) rfl rfl (zq_add (zq_a _) (by decide)) o15 ?_
  refine zw_si (l := (s.2 44)) (i := a1.toInt) rfl rfl (zq_a _) o1 (zh_44 _ _) ?_
  refine am_wh 8 (pc1 := 80) (lv1 := [(8, .int (zg (s.2 50) a1.toInt)), (7, .int (zg (s.2 49) a1.toInt)), (6, .int (zg (s.2 48) a1.toInt)), (5, .int (zg (s.2 47) a1.toInt)), (4, .int (zg (s.2 46) a1.toInt)), (3, .int (zg (s.2 45) a1.toInt)), (2, .int (zg (s.2 44) a1.toInt)), (0, .ref 32), (1, .int a1)]) (st1 := [.int (a1 + 1), .ref 47, .int a1, .ref 47]) rfl ?_
  obtain ⟨o17, h18⟩ := h16
  refine zw_li (l := (s.2 45)) (i := (a1.toInt + 1)) rfl rfl (zq_add (zq_a _) (by decide)) o17 ?_
  refine zw_si (l := (s.2 45)) (i := a1.toInt) rfl rfl (zq_a _) o3 (zh_45 _ _) ?_
  refine am_wh 8 (pc1 := 94) (lv1 := [(8, .int (zg (s.2 50) a1.toInt)), (7, .int (zg (s.2 49) a1.toInt)), (6, .int (zg (s.2 48) a1.toInt)), (5, .int (zg (s.2 47) a1.toInt)), (4, .int (zg (s.2 46) a1.toInt)), (3, .int (zg (s.2 45) a1.toInt)), (2, .int (zg (s.2 44) a1.toInt)), (0, .ref 32), (1, .int a1)]) (st1 := [.int (a1 + 1), .ref 48, .int a1, .ref 48]) rfl ?_
  obtain ⟨o19, h20⟩ := h18
  refine zw_li (l := (s.2 46)) (i := (a1.toInt + 1)) rfl rfl (zq_add (zq_a _) (by decide)) o19 ?_
  refine zw_si (l := (s.2 46)) (i := a1.toInt) rfl rfl (zq_a _) o5 (zh_46 _ _) ?_
  refine am_wh 8 (pc1 := 108) (lv1 := [(8, .int (zg (s.2 50) a1.toInt)), (7, .int (zg (s.2 49) a1.toInt)), (6, .int (zg (s.2 48) a1.toInt)), (5, .int (zg (s.2 47) a1.toInt)), (4, .int (zg (s.2 46) a1.toInt)), (3, .int (zg (s.2 45) a1.toInt)), (2, .int (zg (s.2 44) a1.toInt)), (0, .ref 32), (1, .int a1)]) (st1 := [.int (a1 + 1), .ref 49, .int a1, .ref 49]) rfl ?_
  obtain ⟨o21, h22⟩ := h20
  refine zw_li (l := (s.2 47)) (i := (a1.toInt + 1)) rfl rfl (zq_add (zq_a _) (by decide)) o21 ?_
  refine zw_si (l := (s.2 47)) (i := a1.toInt) rfl rfl (zq_a _) o7 (zh_47 _ _) ?_
  refine am_wh 8 (pc1 := 122) (lv1 := [(8, .int (zg (s.2 50) a1.toInt)), (7, .int (zg (s.2 49) a1.toInt)), (6, .int (zg (s.2 48) a1.toInt)), (5, .int (zg (s.2 47) a1.toInt)), (4, .int (zg (s.2 46) a1.toInt)), (3, .int (zg (s.2 45) a1.toInt)), (2, .int (zg (s.2 44) a1.toInt)), (0, .ref 32), (1, .int a1)]) (st1 := [.int (a1 + 1), .ref 50, .int a1, .ref 50]) rfl ?_
  obtain ⟨o23, h24⟩ := h22
  refine zw_li (l := (s.2 48)) (i := (a1.toInt + 1)) rfl rfl (zq_add (zq_a _) (by decide)) o23 ?_
  refine zw_si (l := (s.2 48)) (i := a1.toInt) rfl rfl (zq_a _) o9 (zh_48 _ _) ?_
  refine am_wh 8 (pc1 := 136) (lv1 := [(8, .int (zg (s.2 50) a1.toInt)), (7, .int (zg (s.2 49) a1.toInt)), (6, .int (zg (s.2 48) a1.toInt)), (5, .int (zg (s.2 47) a1.toInt)), (4, .int (zg (s.2 46) a1.toInt)), (3, .int (zg (s.2 45) a1.toInt)), (2, .int (zg (s.2 44) a1.toInt)), (0, .ref 32), (1, .int a1)]) (st1 := [.int (a1 + 1), .ref 51, .int a1, .ref 51]) rfl ?_
  obtain ⟨o25, h26⟩ := h24
  refine zw_li (l := (s.2 49)) (i := (a1.toInt + 1)) rfl rfl (zq_add (zq_a _) (by decide)) o25 ?_
  refine zw_si (l := (s.2 49)) (i := a1.toInt) rfl rfl (zq_a _) o11 (zh_49 _ _) ?_
  refine am_wh 8 (pc1 := 150) (lv1 := [(8, .int (zg (s.2 50) a1.toInt)), (7, .int (zg (s.2 49) a1.toInt)), (6, .int (zg (s.2 48) a1.toInt)), (5, .int (zg (s.2 47) a1.toInt)), (4, .int (zg (s.2 46) a1.toInt)), (3, .int (zg (s.2 45) a1.toInt)), (2, .int (zg (s.2 44) a1.toInt)), (0, .ref 32), (1, .int a1)]) (st1 := [.int (a1 + 1), .ref 52, .int a1, .ref 52]) rfl ?_
  obtain ⟨o27, h28⟩ := h26
  refine zw_li (l := (s.2 50)) (i := (a1.toInt + 1)) rfl rfl (zq_add (zq_a _) (by decide)) o27 ?_
  refine zw_si (l := (s.2 50)) (i := a1.toInt) rfl rfl (zq_a _) o13 (zh_50 _ _) ?_
  refine am_wh 6 (pc1 := 160) (lv1 := [(8, .int (zg (s.2 50) a1.toInt)), (7, .int (zg (s.2 49) a1.toInt)), (6, .int (zg (s.2 48) a1.toInt)), (5, .int (zg (s.2 47) a1.toInt)), (4, .int (zg (s.2 46) a1.toInt)), (3, .int (zg (s.2 45) a1.toInt)), (2, .int (zg (s.2 44) a1.toInt)), (0, .ref 32), (1, .int a1)]) (st1 := [.int (zg (s.2 44) a1.toInt), .int (a1 + 1), .ref 46]) rfl ?_
  obtain ⟨o29, h30⟩ := h28
  refine zw_si (l := (zu (s.2 44) a1.toInt (zg (s.2 44) (a1.toInt + 1)))) (i := (a1.toInt + 1)) rfl rfl (zq_add (zq_a _) (by decide)) o29 (zh_44 _ _) ?_
  refine am_wh 6 (pc1 := 169) (lv1 := [(8, .int (zg (s.2 50) a1.toInt)), (7, .int (zg (s.2 49) a1.toInt)), (6, .int (zg (s.2 48) a1.toInt)), (5, .int (zg (s.2 47) a1.toInt)), (4, .int (zg (s.2 46) a1.toInt)), (3, .int (zg (s.2 45) a1.toInt)), (2, .int (zg (s.2 44) a1.toInt)), (0, .ref 32), (1, .int a1)]) (st1 := [.int (zg (s.2 45) a1.toInt), .int (a1 + 1), .ref 47]) rfl ?_
  obtain ⟨o31, h32⟩ := h30
  refine zw_si (l := (zu (s.2 45) a1.toInt (zg (s.2 45) (a1.toInt + 1)))) (i := (a1.toInt + 1)) rfl rfl (zq_add (zq_a _) (by decide)) o31 (zh_45 _ _) ?_
  refine am_wh 6 (pc1 := 179) (lv1 := [(8, .int (zg (s.2 50) a1.toInt)), (7, .int (zg (s.2 49) a1.toInt)), (6, .int (zg (s.2 48) a1.toInt)), (5, .int (zg (s.2 47) a1.toInt)), (4, .int (zg (s.2 46) a1.toInt)), (3, .int (zg (s.2 45) a1.toInt)), (2, .int (zg (s.2 44) a1.toInt)), (0, .ref 32), (1, .int a1)]) (st1 := [.int (zg (s.2 46) a1.toInt), .int (a1 + 1), .ref 48]) rfl ?_
  obtain ⟨o33, h34⟩ := h32
  refine zw_si (l := (zu (s.2 46) a1.toInt (zg (s.2 46) (a1.toInt + 1)))) (i := (a1.toInt + 1)) rfl rfl (zq_add (zq_a _) (by decide)) o33 (zh_46 _ _) ?_
  refine am_wh 6 (pc1 := 189) (lv1 := [(8, .int (zg (s.2 50) a1.toInt)), (7, .int (zg (s.2 49) a1.toInt)), (6, .int (zg (s.2 48) a1.toInt)), (5, .int (zg (s.2 47) a1.toInt)), (4, .int (zg (s.2 46) a1.toInt)), (3, .int (zg (s.2 45) a1.toInt)), (2, .int (zg (s.2 44) a1.toInt)), (0, .ref 32), (1, .int a1)]) (st1 := [.int (zg (s.2 47) a1.toInt), .int (a1 + 1), .ref 49]) rfl ?_
  obtain ⟨o35, h36⟩ := h34
  refine zw_si (l := (zu (s.2 47) a1.toInt (zg (s.2 47) (a1.toInt + 1)))) (i := (a1.toInt + 1)) rfl rfl (zq_add (zq_a _) (by decide)) o35 (zh_47 _ _) ?_
  refine am_wh 6 (pc1 := 199) (lv1 := [(8, .int (zg (s.2 50) a1.toInt)), (7, .int (zg (s.2 49) a1.toInt)), (6, .int (zg (s.2 48) a1.toInt)), (5, .int (zg (s.2 47) a1.toInt)), (4, .int (zg (s.2 46) a1.toInt)), (3, .int (zg (s.2 45) a1.toInt)), (2, .int (zg (s.2 44) a1.toInt)), (0, .ref 32), (1, .int a1)]) (st1 := [.int (zg (s.2 48) a1.toInt), .int (a1 + 1), .ref 50]) rfl ?_
  obtain ⟨o37, h38⟩ := h36
  refine zw_si (l := (zu (s.2 48) a1.toInt (zg (s.2 48) (a1.toInt + 1)))) (i := (a1.toInt + 1)) rfl rfl (zq_add (zq_a _) (by decide)) o37 (zh_48 _ _) ?_
  refine am_wh 6 (pc1 := 209) (lv1 := [(8, .int (zg (s.2 50) a1.toInt)), (7, .int (zg (s.2 49) a1.toInt)), (6, .int (zg (s.2 48) a1.toInt)), (5, .int (zg (s.2 47) a1.toInt)), (4, .int (zg (s.2 46) a1.toInt)), (3, .int (zg (s.2 45) a1.toInt)), (2, .int (zg (s.2 44) a1.toInt)), (0, .ref 32), (1, .int a1)]) (st1 := [.int (zg (s.2 49) a1.toInt), .int (a1 + 1), .ref 51]) rfl ?_
  obtain ⟨o39, h40⟩ := h38
  refine zw_si (l := (zu (s.2 49) a1.toInt (zg (s.2 49) (a1.toInt + 1)))) (i := (a1.toInt + 1)) rfl rfl (zq_add (zq_a _) (by decide)) o39 (zh_49 _ _) ?_
  refine am_wh 6 (pc1 := 219) (lv1 := [(8, .int (zg (s.2 50) a1.toInt)), (7, .int (zg (s.2 49) a1.toInt)), (6, .int (zg (s.2 48) a1.toInt)), (5, .int (zg (s.2 47) a1.toInt)), (4, .int (zg (s.2 46) a1.toInt)), (3, .int (zg (s.2 45) a1.toInt)), (2, .int (zg (s.2 44) a1.toInt)), (0, .ref 32), (1, .int a1)]) (st1 := [.int (zg (s.2 50) a1.toInt), .int (a1 + 1), .ref 52]) rfl ?_
  obtain ⟨o41, h42⟩ := h40
  refine zw_si (l := (zu (s.2 50) a1.toInt (zg (s.2 50) (a1.toInt + 1)))) (i := (a1.toInt + 1)) rfl rfl (zq_add (zq_a _) (by decide)) o41 (zh_50 _ _) ?_
  refine am_wr rfl rfl rfl ?_
  exact ⟨_, rfl, rfl, h42⟩
