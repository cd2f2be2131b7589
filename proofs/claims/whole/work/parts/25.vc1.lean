set_option maxRecDepth 100000 in
theorem vc_24_0 (xs : Option (List Int32)) (d : Nat) (s : zS) (a1 : Int32) (a2 : Int32) (Q : zS → Prop) (h : zWv xs d 24 2 [(0, .ref 10), (1, .int a1), (2, .int a2), (3, .int 0)] s Q) : zWv xs d 24 0 [(0, .ref 10), (1, .int a1), (2, .int a2)] s Q := by
  unfold zWv
  refine am_wh 2 (pc1 := 2) (lv1 := [(3, .int 0), (0, .ref 10), (1, .int a1), (2, .int a2)]) (st1 := []) rfl ?_
  exact am_wm h ⟨rfl, rfl, rfl, rfl, trivial⟩
set_option maxRecDepth 100000 in
theorem vc_24_2 (xs : Option (List Int32)) (d : Nat) (s : zS) (a1 : Int32) (a2 : Int32) (a3 : Int32) (Q : zS → Prop) (h : (a3.toInt < (s.1 5).toInt → (zX (s.2 9) a3.toInt ∧ ((zg (s.2 9) a3.toInt).toInt = a1.toInt → (zX (s.2 10) a3.toInt ∧ ((zg (s.2 10) a3.toInt).toInt = a2.toInt → (Q s)) ∧ (¬ (zg (s.2 10) a3.toInt).toInt = a2.toInt → (zWv xs d 24 2 [(0, .ref 10), (1, .int a1), (2, .int a2), (3, .int (a3 + 1))] s Q)))) ∧ (¬ (zg (s.2 9) a3.toInt).toInt = a1.toInt → (zWv xs d 24 2 [(0, .ref 10), (1, .int a1), (2, .int a2), (3, .int (a3 + 1))] s Q)))) ∧ (¬ a3.toInt < (s.1 5).toInt → (((s.1 5).toInt < 204 → (zX (s.2 9) (s.1 5).toInt ∧ zX (s.2 10) (s.1 5).toInt ∧ Q (zf (za (za s 9 (zu (s.2 9) (s.1 5).toInt a1)) 10 (zu (s.2 10) (s.1 5).toInt a2)) 5 ((s.1 5) + 1)))) ∧ (¬ (s.1 5).toInt < 204 → (Q s))))) : zWv xs d 24 2 [(0, .ref 10), (1, .int a1), (2, .int a2), (3, .int a3)] s Q := by
  unfold zWv
  refine am_wh 3 (pc1 := 7) (lv1 := [(0, .ref 10), (1, .int a1), (2, .int a2), (3, .int a3)]) (st1 := [.int (s.1 5), .int a3]) rfl ?_
  obtain ⟨h2, h3⟩ := h
  by_cases c1 : a3.toInt < (s.1 5).toInt
  · refine am_wb2 rfl false (zn_ge (zq_a _) (zq_a _) (zr_t _) (zr_t _) c1) rfl ?_
    have h4 := h2 c1
    refine am_wh 3 (pc1 := 15) (lv1 := [(0, .ref 10), (1, .int a1), (2, .int a2), (3, .int a3)]) (st1 := [.int a3, .ref 11]) rfl ?_
    obtain ⟨o5, h6⟩ := h4
    refine zw_li (l := (s.2 9)) (i := a3.toInt) rfl rfl (zq_a _) o5 ?_
    refine am_wh 1 (pc1 := 17) (lv1 := [(0, .ref 10), (1, .int a1), (2, .int a2), (3, .int a3)]) (st1 := [.int a1, .int (zg (s.2 9) a3.toInt)]) rfl ?_
    obtain ⟨h8, h9⟩ := h6
    by_cases c7 : (zg (s.2 9) a3.toInt).toInt = a1.toInt
    · refine am_wb2 rfl false (zn_ne (zq_a _) (zq_a _) (zr_t _) (zr_t _) c7) rfl ?_
      have h10 := h8 c7
      refine am_wh 3 (pc1 := 25) (lv1 := [(0, .ref 10), (1, .int a1), (2, .int a2), (3, .int a3)]) (st1 := [.int a3, .ref 12]) rfl ?_
      obtain ⟨o11, h12⟩ := h10
      refine zw_li (l := (s.2 10)) (i := a3.toInt) rfl rfl (zq_a _) o11 ?_
      refine am_wh 1 (pc1 := 27) (lv1 := [(0, .ref 10), (1, .int a1), (2, .int a2), (3, .int a3)]) (st1 := [.int a2, .int (zg (s.2 10) a3.toInt)]) rfl ?_
      obtain ⟨h14, h15⟩ := h12
      by_cases c13 : (zg (s.2 10) a3.toInt).toInt = a2.toInt
      · refine am_wb2 rfl false (zn_ne (zq_a _) (zq_a _) (zr_t _) (zr_t _) c13) rfl ?_
        have h16 := h14 c13
        refine am_wr rfl rfl rfl ?_
        exact ⟨_, rfl, rfl, h16⟩
      · refine am_wb2 rfl true (zt_ne (zq_a _) (zq_a _) (zr_t _) (zr_t _) c13) rfl ?_
        have h17 := h15 c13
        refine am_wh 2 (pc1 := 2) (lv1 := [(3, .int (a3 + 1)), (0, .ref 10), (1, .int a1), (2, .int a2)]) (st1 := []) rfl ?_
        exact am_wm h17 ⟨rfl, rfl, rfl, rfl, trivial⟩
    · refine am_wb2 rfl true (zt_ne (zq_a _) (zq_a _) (zr_t _) (zr_t _) c7) rfl ?_
      have h18 := h9 c7
      refine am_wh 2 (pc1 := 2) (lv1 := [(3, .int (a3 + 1)), (0, .ref 10), (1, .int a1), (2, .int a2)]) (st1 := []) rfl ?_
      exact am_wm h18 ⟨rfl, rfl, rfl, rfl, trivial⟩
  · refine am_wb2 rfl true (zt_ge (zq_a _) (zq_a _) (zr_t _) (zr_t _) c1) rfl ?_
    have h19 := h3 c1
    refine am_wh 3 (pc1 := 44) (lv1 := [(0, .ref 10), (1, .int a1), (2, .int a2), (3, .int a3)]) (st1 := [.int 204, .int (s.1 5)]) rfl ?_
    obtain ⟨h21, h22⟩ := h19
    by_cases c20 : (s.1 5).toInt < 204
    · refine am_wb2 rfl false (zn_ge (zq_a _) (by decide) (zr_t _) ⟨by decide, by decide⟩ c20) rfl ?_
      have h23 := h21 c20
      refine am_wh 5 (pc1 := 56) (lv1 := [(0, .ref 10), (1, .int a1), (2, .int a2), (3, .int a3)]) (st1 := [.int a1, .int (s.1 5), .ref 11]) rfl ?_
      obtain ⟨o24, h25⟩ := h23
      refine zw_si (l := (s.2 9)) (i := (s.1 5).toInt) rfl rfl (zq_a _) o24 (zh_9 _ _) ?_
      refine am_wh 5 (pc1 := 66) (lv1 := [(0, .ref 10), (1, .int a1), (2, .int a2), (3, .int a3)]) (st1 := [.int a2, .int (s.1 5), .ref 12]) rfl ?_
      obtain ⟨o26, h27⟩ := h25
      refine zw_si (l := (s.2 10)) (i := (s.1 5).toInt) rfl rfl (zq_a _) o26 (zh_10 _ _) ?_
      refine am_wh 5 (pc1 := 74) (lv1 := [(0, .ref 10), (1, .int a1), (2, .int a2), (3, .int a3)]) (st1 := [.int ((s.1 5) + 1), .ref 10]) rfl ?_
      refine am_w0 (z := (77, [(0, .ref 10), (1, .int a1), (2, .int a2), (3, .int a3)], [], zH (zf (za (za s 9 (zu (s.2 9) (s.1 5).toInt a1)) 10 (zu (s.2 10) (s.1 5).toInt a2)) 5 ((s.1 5) + 1)))) rfl rfl (zp_5 ) ?_
      refine am_wr rfl rfl rfl ?_
      exact ⟨_, rfl, rfl, h27⟩
    · refine am_wb2 rfl true (zt_ge (zq_a _) (by decide) (zr_t _) ⟨by decide, by decide⟩ c20) rfl ?_
      have h28 := h22 c20
      refine am_wr rfl rfl rfl ?_
      exact ⟨_, rfl, rfl, h28⟩
set_option maxRecDepth 100000 in
theorem vc_25_0 (xs : Option (List Int32)) (d : Nat) (s : zS) (a1 : Int32) (a2 : Int32) (Q : Int32 → zS → Prop) (h : zWi xs (d + 1) 25 2 [(0, .ref 10), (1, .int a1), (2, .int a2), (3, .int 0)] s Q) : zWi xs (d + 1) 25 0 [(0, .ref 10), (1, .int a1), (2, .int a2)] s Q := by
  unfold zWi
  refine am_wh 2 (pc1 := 2) (lv1 := [(3, .int 0), (0, .ref 10), (1, .int a1), (2, .int a2)]) (st1 := []) rfl ?_
  exact am_wm h ⟨rfl, rfl, rfl, rfl, trivial⟩
set_option maxRecDepth 100000 in
theorem vc_25_2 (xs : Option (List Int32)) (d : Nat) (s : zS) (a1 : Int32) (a2 : Int32) (a3 : Int32) (Q : Int32 → zS → Prop) (h : (a3.toInt < (s.1 5).toInt → (zWi xs d 27 0 [(0, .ref 10), (1, .int a3), (2, .int a1)] s (fun v7 s5 => (v7.toInt = 0 → (zWi xs (d + 1) 25 2 [(0, .ref 10), (1, .int a1), (2, .int a2), (3, .int (a3 + 1))] s5 Q)) ∧ (¬ v7.toInt = 0 → (zWi xs d 26 0 [(0, .ref 10), (1, .int a3), (2, .int a1)] s5 (fun v15 s13 => (v15.toInt = a2.toInt → (zX (s13.2 9) a3.toInt ∧ zX (s13.2 10) a3.toInt ∧ Q ((zg (s13.2 9) a3.toInt) + (256 * (zg (s13.2 10) a3.toInt))) s13)) ∧ (¬ v15.toInt = a2.toInt → (zWi xs (d + 1) 25 2 [(0, .ref 10), (1, .int a1), (2, .int a2), (3, .int (a3 + 1))] s13 Q)))))))) ∧ (¬ a3.toInt < (s.1 5).toInt → (Q (-1) s))) : zWi xs (d + 1) 25 2 [(0, .ref 10), (1, .int a1), (2, .int a2), (3, .int a3)] s Q := by
  unfold zWi
  refine am_wh 3 (pc1 := 7) (lv1 := [(0, .ref 10), (1, .int a1), (2, .int a2), (3, .int a3)]) (st1 := [.int (s.1 5), .int a3]) rfl ?_
  obtain ⟨h2, h3⟩ := h
  by_cases c1 : a3.toInt < (s.1 5).toInt
  · refine am_wb2 rfl false (zn_ge (zq_a _) (zq_a _) (zr_t _) (zr_t _) c1) rfl ?_
    have h4 := h2 c1
    refine am_wh 3 (pc1 := 13) (lv1 := [(0, .ref 10), (1, .int a1), (2, .int a2), (3, .int a3)]) (st1 := [.int a1, .int a3, .ref 10]) rfl ?_
    refine am_wc rfl rfl rfl ?_
    refine am_ww h4 ?_
    rintro _ _ ⟨v7, s5, rfl, rfl, h6⟩
    show am_W _ _ 25 16 [(0, .ref 10), (1, .int a1), (2, .int a2), (3, .int a3)] [.int v7] (zH s5) _
    obtain ⟨h9, h10⟩ := h6
    by_cases c8 : v7.toInt = 0
    · refine am_wb1 rfl true (zt_eq (zq_a _) (by decide) (zr_t _) ⟨by decide, by decide⟩ c8) rfl ?_
      have h11 := h9 c8
      refine am_wh 2 (pc1 := 2) (lv1 := [(3, .int (a3 + 1)), (0, .ref 10), (1, .int a1), (2, .int a2)]) (st1 := []) rfl ?_
      exact am_wm h11 ⟨rfl, rfl, rfl, rfl, trivial⟩
    · refine am_wb1 rfl false (zn_eq (zq_a _) (by decide) (zr_t _) ⟨by decide, by decide⟩ c8) rfl ?_
      have h12 := h10 c8
      refine am_wh 3 (pc1 := 22) (lv1 := [(0, .ref 10), (1, .int a1), (2, .int a2), (3, .int a3)]) (st1 := [.int a1, .int a3, .ref 10]) rfl ?_
      refine am_wc rfl rfl rfl ?_
      refine am_ww h12 ?_
      rintro _ _ ⟨v15, s13, rfl, rfl, h14⟩
      show am_W _ _ 25 25 [(0, .ref 10), (1, .int a1), (2, .int a2), (3, .int a3)] [.int v15] (zH s13) _
      refine am_wh 1 (pc1 := 26) (lv1 := [(0, .ref 10), (1, .int a1), (2, .int a2), (3, .int a3)]) (st1 := [.int a2, .int v15]) rfl ?_
      obtain ⟨h17, h18⟩ := h14
      by_cases c16 : v15.toInt = a2.toInt
      · refine am_wb2 rfl false (zn_ne (zq_a _) (zq_a _) (zr_t _) (zr_t _) c16) rfl ?_
        have h19 := h17 c16
        refine am_wh 3 (pc1 := 34) (lv1 := [(0, .ref 10), (1, .int a1), (2, .int a2), (3, .int a3)]) (st1 := [.int a3, .ref 11]) rfl ?_
        obtain ⟨o20, h21⟩ := h19
        refine zw_li (l := (s13.2 9)) (i := a3.toInt) rfl rfl (zq_a _) o20 ?_
        refine am_wh 4 (pc1 := 43) (lv1 := [(0, .ref 10), (1, .int a1), (2, .int a2), (3, .int a3)]) (st1 := [.int a3, .ref 12, .int 256, .int (zg (s13.2 9) a3.toInt)]) rfl ?_
        obtain ⟨o22, h23⟩ := h21
        refine zw_li (l := (s13.2 10)) (i := a3.toInt) rfl rfl (zq_a _) o22 ?_
        refine am_wh 2 (pc1 := 46) (lv1 := [(0, .ref 10), (1, .int a1), (2, .int a2), (3, .int a3)]) (st1 := [.int ((zg (s13.2 9) a3.toInt) + (256 * (zg (s13.2 10) a3.toInt)))]) rfl ?_
        refine am_wr rfl rfl rfl ?_
        exact ⟨_, _, rfl, rfl, h23⟩
      · refine am_wb2 rfl true (zt_ne (zq_a _) (zq_a _) (zr_t _) (zr_t _) c16) rfl ?_
        have h24 := h18 c16
        refine am_wh 2 (pc1 := 2) (lv1 := [(3, .int (a3 + 1)), (0, .ref 10), (1, .int a1), (2, .int a2)]) (st1 := []) rfl ?_
        exact am_wm h24 ⟨rfl, rfl, rfl, rfl, trivial⟩
  · refine am_wb2 rfl true (zt_ge (zq_a _) (zq_a _) (zr_t _) (zr_t _) c1) rfl ?_
    have h25 := h3 c1
    refine am_wh 1 (pc1 := 54) (lv1 := [(0, .ref 10), (1, .int a1), (2, .int a2), (3, .int a3)]) (st1 := [.int (-1)]) rfl ?_
    refine am_wr rfl rfl rfl ?_
    exact ⟨_, _, rfl, rfl, h25⟩
set_option maxRecDepth 100000 in
theorem vc_26_0 (xs : Option (List Int32)) (d : Nat) (s : zS) (a1 : Int32) (a2 : Int32) (Q : Int32 → zS → Prop) (h : zWi xs (d + 1) 26 5 [(0, .ref 10), (1, .int a1), (2, .int a2), (3, .int 0), (4, .int 0)] s Q) : zWi xs (d + 1) 26 0 [(0, .ref 10), (1, .int a1), (2, .int a2)] s Q := by
  unfold zWi
  refine am_wh 4 (pc1 := 5) (lv1 := [(4, .int 0), (3, .int 0), (0, .ref 10), (1, .int a1), (2, .int a2)]) (st1 := []) rfl ?_
  exact am_wm h ⟨rfl, rfl, rfl, rfl, rfl, trivial⟩
set_option maxRecDepth 100000 in
theorem vc_26_5 (xs : Option (List Int32)) (d : Nat) (s : zS) (a1 : Int32) (a2 : Int32) (a3 : Int32) (a4 : Int32) (Q : Int32 → zS → Prop) (h : (a4.toInt < (s.1 5).toInt → (zWi xs d 27 0 [(0, .ref 10), (1, .int a4), (2, .int a2)] s (fun v7 s5 => (v7.toInt = 0 → (zWi xs (d + 1) 26 5 [(0, .ref 10), (1, .int a1), (2, .int a2), (3, .int a3), (4, .int (a4 + 1))] s5 Q)) ∧ (¬ v7.toInt = 0 → (zX (s5.2 10) a4.toInt ∧ zX (s5.2 9) a4.toInt ∧ zX (s5.2 10) a1.toInt ∧ zX (s5.2 9) a1.toInt ∧ zR ((zg (s5.2 10) a4.toInt).toInt - (zg (s5.2 9) a4.toInt).toInt) ∧ zR ((zg (s5.2 10) a1.toInt).toInt - (zg (s5.2 9) a1.toInt).toInt) ∧ (((zg (s5.2 10) a4.toInt).toInt - (zg (s5.2 9) a4.toInt).toInt) < ((zg (s5.2 10) a1.toInt).toInt - (zg (s5.2 9) a1.toInt).toInt) → (zWi xs (d + 1) 26 5 [(0, .ref 10), (1, .int a1), (2, .int a2), (3, .int (a3 + 1)), (4, .int (a4 + 1))] s5 Q)) ∧ (¬ ((zg (s5.2 10) a4.toInt).toInt - (zg (s5.2 9) a4.toInt).toInt) < ((zg (s5.2 10) a1.toInt).toInt - (zg (s5.2 9) a1.toInt).toInt) → (zWi xs (d + 1) 26 5 [(0, .ref 10), (1, .int a1), (2, .int a2), (3, .int a3), (4, .int (a4 + 1))] s5 Q))))))) ∧ (¬ a4.toInt < (s.1 5).toInt → (Q a3 s))) : zWi xs (d + 1) 26 5 [(0, .ref 10), (1, .int a1), (2, .int a2), (3, .int a3), (4, .int a4)] s Q := by
  unfold zWi
  refine am_wh 3 (pc1 := 11) (lv1 := [(0, .ref 10), (1, .int a1), (2, .int a2), (3, .int a3), (4, .int a4)]) (st1 := [.int (s.1 5), .int a4]) rfl ?_
  obtain ⟨h2, h3⟩ := h
  by_cases c1 : a4.toInt < (s.1 5).toInt
  · refine am_wb2 rfl false (zn_ge (zq_a _) (zq_a _) (zr_t _) (zr_t _) c1) rfl ?_
    have h4 := h2 c1
    refine am_wh 3 (pc1 := 18) (lv1 := [(0, .ref 10), (1, .int a1), (2, .int a2), (3, .int a3), (4, .int a4)]) (st1 := [.int a2, .int a4, .ref 10]) rfl ?_
    refine am_wc rfl rfl rfl ?_
    refine am_ww h4 ?_
    rintro _ _ ⟨v7, s5, rfl, rfl, h6⟩
    show am_W _ _ 26 21 [(0, .ref 10), (1, .int a1), (2, .int a2), (3, .int a3), (4, .int a4)] [.int v7] (zH s5) _
    obtain ⟨h9, h10⟩ := h6
    by_cases c8 : v7.toInt = 0
    · refine am_wb1 rfl true (zt_eq (zq_a _) (by decide) (zr_t _) ⟨by decide, by decide⟩ c8) rfl ?_
      have h11 := h9 c8
      refine am_wh 2 (pc1 := 5) (lv1 := [(4, .int (a4 + 1)), (0, .ref 10), (1, .int a1), (2, .int a2), (3, .int a3)]) (st1 := []) rfl ?_
      exact am_wm h11 ⟨rfl, rfl, rfl, rfl, rfl, trivial⟩
    · refine am_wb1 rfl false (zn_eq (zq_a _) (by decide) (zr_t _) ⟨by decide, by decide⟩ c8) rfl ?_
      have h12 := h10 c8
      refine am_wh 3 (pc1 := 30) (lv1 := [(0, .ref 10), (1, .int a1), (2, .int a2), (3, .int a3), (4, .int a4)]) (st1 := [.int a4, .ref 12]) rfl ?_
      obtain ⟨o13, h14⟩ := h12
      refine zw_li (l := (s5.2 10)) (i := a4.toInt) rfl rfl (zq_a _) o13 ?_
      refine am_wh 3 (pc1 := 37) (lv1 := [(0, .ref 10), (1, .int a1), (2, .int a2), (3, .int a3), (4, .int a4)]) (st1 := [.int a4, .ref 11, .int (zg (s5.2 10) a4.toInt)]) rfl ?_
      obtain ⟨o15, h16⟩ := h14
      refine zw_li (l := (s5.2 9)) (i := a4.toInt) rfl rfl (zq_a _) o15 ?_
      refine am_wh 4 (pc1 := 44) (lv1 := [(0, .ref 10), (1, .int a1), (2, .int a2), (3, .int a3), (4, .int a4)]) (st1 := [.int a1, .ref 12, .int ((zg (s5.2 10) a4.toInt) - (zg (s5.2 9) a4.toInt))]) rfl ?_
      obtain ⟨o17, h18⟩ := h16
      refine zw_li (l := (s5.2 10)) (i := a1.toInt) rfl rfl (zq_a _) o17 ?_
      refine am_wh 3 (pc1 := 50) (lv1 := [(0, .ref 10), (1, .int a1), (2, .int a2), (3, .int a3), (4, .int a4)]) (st1 := [.int a1, .ref 11, .int (zg (s5.2 10) a1.toInt), .int ((zg (s5.2 10) a4.toInt) - (zg (s5.2 9) a4.toInt))]) rfl ?_
      obtain ⟨o19, h20⟩ := h18
      refine zw_li (l := (s5.2 9)) (i := a1.toInt) rfl rfl (zq_a _) o19 ?_
      refine am_wh 1 (pc1 := 52) (lv1 := [(0, .ref 10), (1, .int a1), (2, .int a2), (3, .int a3), (4, .int a4)]) (st1 := [.int ((zg (s5.2 10) a1.toInt) - (zg (s5.2 9) a1.toInt)), .int ((zg (s5.2 10) a4.toInt) - (zg (s5.2 9) a4.toInt))]) rfl ?_
      obtain ⟨o21, h22⟩ := h20
      obtain ⟨o23, h24⟩ := h22
      obtain ⟨h26, h27⟩ := h24
      by_cases c25 : ((zg (s5.2 10) a4.toInt).toInt - (zg (s5.2 9) a4.toInt).toInt) < ((zg (s5.2 10) a1.toInt).toInt - (zg (s5.2 9) a1.toInt).toInt)
      · refine am_wb2 rfl false (zn_ge (zq_sub (zq_a _) (zq_a _)) (zq_sub (zq_a _) (zq_a _)) o21 o23 c25) rfl ?_
        have h28 := h26 c25
        refine am_wh 3 (pc1 := 5) (lv1 := [(4, .int (a4 + 1)), (3, .int (a3 + 1)), (0, .ref 10), (1, .int a1), (2, .int a2)]) (st1 := []) rfl ?_
        exact am_wm h28 ⟨rfl, rfl, rfl, rfl, rfl, trivial⟩
      · refine am_wb2 rfl true (zt_ge (zq_sub (zq_a _) (zq_a _)) (zq_sub (zq_a _) (zq_a _)) o21 o23 c25) rfl ?_
        have h29 := h27 c25
        refine am_wh 2 (pc1 := 5) (lv1 := [(4, .int (a4 + 1)), (0, .ref 10), (1, .int a1), (2, .int a2), (3, .int a3)]) (st1 := []) rfl ?_
        exact am_wm h29 ⟨rfl, rfl, rfl, rfl, rfl, trivial⟩
  · refine am_wb2 rfl true (zt_ge (zq_a _) (zq_a _) (zr_t _) (zr_t _) c1) rfl ?_
    have h30 := h3 c1
    refine am_wh 1 (pc1 := 65) (lv1 := [(0, .ref 10), (1, .int a1), (2, .int a2), (3, .int a3), (4, .int a4)]) (st1 := [.int a3]) rfl ?_
    refine am_wr rfl rfl rfl ?_
    exact ⟨_, _, rfl, rfl, h30⟩
set_option maxRecDepth 100000 in
theorem vc_27_0 (xs : Option (List Int32)) (d : Nat) (s : zS) (a1 : Int32) (a2 : Int32) (Q : Int32 → zS → Prop) (h : zX (s.2 9) a1.toInt ∧ (a2.toInt < (zg (s.2 9) a1.toInt).toInt → (Q 0 s)) ∧ (¬ a2.toInt < (zg (s.2 9) a1.toInt).toInt → (zX (s.2 10) a1.toInt ∧ (a2.toInt < (zg (s.2 10) a1.toInt).toInt → (Q 1 s)) ∧ (¬ a2.toInt < (zg (s.2 10) a1.toInt).toInt → (Q 0 s))))) : zWi xs d 27 0 [(0, .ref 10), (1, .int a1), (2, .int a2)] s Q := by
  unfold zWi
  refine am_wh 3 (pc1 := 5) (lv1 := [(0, .ref 10), (1, .int a1), (2, .int a2)]) (st1 := [.int a1, .ref 11]) rfl ?_
  obtain ⟨o1, h2⟩ := h
  refine zw_li (l := (s.2 9)) (i := a1.toInt) rfl rfl (zq_a _) o1 ?_
  refine am_wh 1 (pc1 := 7) (lv1 := [(0, .ref 10), (1, .int a1), (2, .int a2)]) (st1 := [.int a2, .int (zg (s.2 9) a1.toInt)]) rfl ?_
  obtain ⟨h4, h5⟩ := h2
  by_cases c3 : a2.toInt < (zg (s.2 9) a1.toInt).toInt
  · refine am_wb2 rfl true (zt_gt (zq_a _) (zq_a _) (zr_t _) (zr_t _) c3) rfl ?_
    have h6 := h4 c3
    refine am_wh 1 (pc1 := 25) (lv1 := [(0, .ref 10), (1, .int a1), (2, .int a2)]) (st1 := [.int 0]) rfl ?_
    refine am_wr rfl rfl rfl ?_
    exact ⟨_, _, rfl, rfl, h6⟩
  · refine am_wb2 rfl false (zn_gt (zq_a _) (zq_a _) (zr_t _) (zr_t _) c3) rfl ?_
    have h7 := h5 c3
    refine am_wh 4 (pc1 := 16) (lv1 := [(0, .ref 10), (1, .int a1), (2, .int a2)]) (st1 := [.int a1, .ref 12, .int a2]) rfl ?_
    obtain ⟨o8, h9⟩ := h7
    refine zw_li (l := (s.2 10)) (i := a1.toInt) rfl rfl (zq_a _) o8 ?_
    obtain ⟨h11, h12⟩ := h9
    by_cases c10 : a2.toInt < (zg (s.2 10) a1.toInt).toInt
    · refine am_wb2 rfl false (zn_ge (zq_a _) (zq_a _) (zr_t _) (zr_t _) c10) rfl ?_
      have h13 := h11 c10
      refine am_wh 2 (pc1 := 25) (lv1 := [(0, .ref 10), (1, .int a1), (2, .int a2)]) (st1 := [.int 1]) rfl ?_
      refine am_wr rfl rfl rfl ?_
      exact ⟨_, _, rfl, rfl, h13⟩
    · refine am_wb2 rfl true (zt_ge (zq_a _) (zq_a _) (zr_t _) (zr_t _) c10) rfl ?_
      have h14 := h12 c10
      refine am_wh 1 (pc1 := 25) (lv1 := [(0, .ref 10), (1, .int a1), (2, .int a2)]) (st1 := [.int 0]) rfl ?_
      refine am_wr rfl rfl rfl ?_
      exact ⟨_, _, rfl, rfl, h14⟩
set_option maxRecDepth 100000 in
theorem vc_69_0 (xs : Option (List Int32)) (d : Nat) (s : zS)  (Q : zS → Prop) (h : zWi xs d 70 0 [(0, .ref 13), (1, .int 0), (2, .int 0)] (zf s 6 0) (fun v3 s1 => Q s1)) : zWv xs (d + 1) 69 0 [(0, .ref 13)] s Q := by
  unfold zWv
  refine am_wh 2 (pc1 := 2) (lv1 := [(0, .ref 13)]) (st1 := [.int 0, .ref 13]) rfl ?_
  refine am_w0 (z := (5, [(0, .ref 13)], [], zH (zf s 6 0))) rfl rfl (zp_6 ) ?_
  refine am_wh 3 (pc1 := 8) (lv1 := [(0, .ref 13)]) (st1 := [.int 0, .int 0, .ref 13]) rfl ?_
  refine am_wc rfl rfl rfl ?_
  refine am_ww h ?_
  rintro _ _ ⟨v3, s1, rfl, rfl, h2⟩
  show am_W _ _ 69 11 [(0, .ref 13)] [.int v3] (zH s1) _
  refine am_wh 1 (pc1 := 12) (lv1 := [(0, .ref 13)]) (st1 := []) rfl ?_
  refine am_wr rfl rfl rfl ?_
  exact ⟨_, rfl, rfl, h2⟩
set_option maxRecDepth 100000 in
theorem vc_70_0 (xs : Option (List Int32)) (d : Nat) (s : zS) (a1 : Int32) (a2 : Int32) (Q : Int32 → zS → Prop) (h : ((s.1 6).toInt < 32 → (zX (s.2 12) (s.1 6).toInt ∧ zX (s.2 13) (s.1 6).toInt ∧ zX (s.2 14) (s.1 6).toInt ∧ Q (((s.1 6) + 1) - 1) (zf (za (za (za s 12 (zu (s.2 12) (s.1 6).toInt a1)) 13 (zu (s.2 13) (s.1 6).toInt a2)) 14 (zu (s.2 14) (s.1 6).toInt (-1))) 6 ((s.1 6) + 1)))) ∧ (¬ (s.1 6).toInt < 32 → (Q a2 s))) : zWi xs d 70 0 [(0, .ref 13), (1, .int a1), (2, .int a2)] s Q := by
  unfold zWi
  refine am_wh 3 (pc1 := 6) (lv1 := [(0, .ref 13), (1, .int a1), (2, .int a2)]) (st1 := [.int 32, .int (s.1 6)]) rfl ?_
  obtain ⟨h2, h3⟩ := h
  by_cases c1 : (s.1 6).toInt < 32
  · refine am_wb2 rfl true (zt_lt (zq_a _) (by decide) (zr_t _) ⟨by decide, by decide⟩ c1) rfl ?_
    have h4 := h2 c1
    refine am_wh 5 (pc1 := 20) (lv1 := [(0, .ref 13), (1, .int a1), (2, .int a2)]) (st1 := [.int a1, .int (s.1 6), .ref 14]) rfl ?_
    obtain ⟨o5, h6⟩ := h4
    refine zw_si (l := (s.2 12)) (i := (s.1 6).toInt) rfl rfl (zq_a _) o5 (zh_12 _ _) ?_
    refine am_wh 5 (pc1 := 30) (lv1 := [(0, .ref 13), (1, .int a1), (2, .int a2)]) (st1 := [.int a2, .int (s.1 6), .ref 15]) rfl ?_
    obtain ⟨o7, h8⟩ := h6
    refine zw_si (l := (s.2 13)) (i := (s.1 6).toInt) rfl rfl (zq_a _) o7 (zh_13 _ _) ?_
    refine am_wh 5 (pc1 := 40) (lv1 := [(0, .ref 13), (1, .int a1), (2, .int a2)]) (st1 := [.int (-1), .int (s.1 6), .ref 16]) rfl ?_
    obtain ⟨o9, h10⟩ := h8
    refine zw_si (l := (s.2 14)) (i := (s.1 6).toInt) rfl rfl (zq_a _) o9 (zh_14 _ _) ?_
    refine am_wh 5 (pc1 := 48) (lv1 := [(0, .ref 13), (1, .int a1), (2, .int a2)]) (st1 := [.int ((s.1 6) + 1), .ref 13]) rfl ?_
    refine am_w0 (z := (51, [(0, .ref 13), (1, .int a1), (2, .int a2)], [], zH (zf (za (za (za s 12 (zu (s.2 12) (s.1 6).toInt a1)) 13 (zu (s.2 13) (s.1 6).toInt a2)) 14 (zu (s.2 14) (s.1 6).toInt (-1))) 6 ((s.1 6) + 1)))) rfl rfl (zp_6 ) ?_
    refine am_wh 4 (pc1 := 57) (lv1 := [(0, .ref 13), (1, .int a1), (2, .int a2)]) (st1 := [.int (((s.1 6) + 1) - 1)]) rfl ?_
    refine am_wr rfl rfl rfl ?_
    exact ⟨_, _, rfl, rfl, h10⟩
  · refine am_wb2 rfl false (zn_lt (zq_a _) (by decide) (zr_t _) ⟨by decide, by decide⟩ c1) rfl ?_
    have h11 := h3 c1
    refine am_wh 1 (pc1 := 10) (lv1 := [(0, .ref 13), (1, .int a1), (2, .int a2)]) (st1 := [.int a2]) rfl ?_
    refine am_wr rfl rfl rfl ?_
    exact ⟨_, _, rfl, rfl, h11⟩
set_option maxRecDepth 100000 in
theorem vc_71_0 (xs : Option (List Int32)) (d : Nat) (s : zS) (a1 : Int32) (Q : Int32 → zS → Prop) (h : (a1.toInt < 0 → (Q 0 s)) ∧ (¬ a1.toInt < 0 → ((a1.toInt < (s.1 6).toInt → (zX (s.2 12) a1.toInt ∧ Q (zg (s.2 12) a1.toInt) s)) ∧ (¬ a1.toInt < (s.1 6).toInt → (Q 0 s))))) : zWi xs d 71 0 [(0, .ref 13), (1, .int a1)] s Q := by
  unfold zWi
  refine am_wh 1 (pc1 := 1) (lv1 := [(0, .ref 13), (1, .int a1)]) (st1 := [.int a1]) rfl ?_
  obtain ⟨h2, h3⟩ := h
  by_cases c1 : a1.toInt < 0
  · refine am_wb1 rfl true (zt_lt (zq_a _) (by decide) (zr_t _) ⟨by decide, by decide⟩ c1) rfl ?_
    have h4 := h2 c1
    refine am_wh 1 (pc1 := 22) (lv1 := [(0, .ref 13), (1, .int a1)]) (st1 := [.int 0]) rfl ?_
    refine am_wr rfl rfl rfl ?_
    exact ⟨_, _, rfl, rfl, h4⟩
  · refine am_wb1 rfl false (zn_lt (zq_a _) (by decide) (zr_t _) ⟨by decide, by decide⟩ c1) rfl ?_
    have h5 := h3 c1
    refine am_wh 3 (pc1 := 9) (lv1 := [(0, .ref 13), (1, .int a1)]) (st1 := [.int (s.1 6), .int a1]) rfl ?_
    obtain ⟨h7, h8⟩ := h5
    by_cases c6 : a1.toInt < (s.1 6).toInt
    · refine am_wb2 rfl false (zn_ge (zq_a _) (zq_a _) (zr_t _) (zr_t _) c6) rfl ?_
      have h9 := h7 c6
      refine am_wh 3 (pc1 := 17) (lv1 := [(0, .ref 13), (1, .int a1)]) (st1 := [.int a1, .ref 14]) rfl ?_
      obtain ⟨o10, h11⟩ := h9
      refine zw_li (l := (s.2 12)) (i := a1.toInt) rfl rfl (zq_a _) o10 ?_
      refine am_wh 1 (pc1 := 22) (lv1 := [(0, .ref 13), (1, .int a1)]) (st1 := [.int (zg (s.2 12) a1.toInt)]) rfl ?_
      refine am_wr rfl rfl rfl ?_
      exact ⟨_, _, rfl, rfl, h11⟩
    · refine am_wb2 rfl true (zt_ge (zq_a _) (zq_a _) (zr_t _) (zr_t _) c6) rfl ?_
      have h12 := h8 c6
      refine am_wh 1 (pc1 := 22) (lv1 := [(0, .ref 13), (1, .int a1)]) (st1 := [.int 0]) rfl ?_
      refine am_wr rfl rfl rfl ?_
      exact ⟨_, _, rfl, rfl, h12⟩
set_option maxRecDepth 100000 in
theorem vc_72_0 (xs : Option (List Int32)) (d : Nat) (s : zS) (a1 : Int32) (Q : Int32 → zS → Prop) (h : (a1.toInt < 0 → (Q 0 s)) ∧ (¬ a1.toInt < 0 → ((a1.toInt < (s.1 6).toInt → (zX (s.2 13) a1.toInt ∧ Q (zg (s.2 13) a1.toInt) s)) ∧ (¬ a1.toInt < (s.1 6).toInt → (Q 0 s))))) : zWi xs d 72 0 [(0, .ref 13), (1, .int a1)] s Q := by
  unfold zWi
  refine am_wh 1 (pc1 := 1) (lv1 := [(0, .ref 13), (1, .int a1)]) (st1 := [.int a1]) rfl ?_
  obtain ⟨h2, h3⟩ := h
  by_cases c1 : a1.toInt < 0
  · refine am_wb1 rfl true (zt_lt (zq_a _) (by decide) (zr_t _) ⟨by decide, by decide⟩ c1) rfl ?_
    have h4 := h2 c1
    refine am_wh 1 (pc1 := 22) (lv1 := [(0, .ref 13), (1, .int a1)]) (st1 := [.int 0]) rfl ?_
    refine am_wr rfl rfl rfl ?_
    exact ⟨_, _, rfl, rfl, h4⟩
  · refine am_wb1 rfl false (zn_lt (zq_a _) (by decide) (zr_t _) ⟨by decide, by decide⟩ c1) rfl ?_
    have h5 := h3 c1
    refine am_wh 3 (pc1 := 9) (lv1 := [(0, .ref 13), (1, .int a1)]) (st1 := [.int (s.1 6), .int a1]) rfl ?_
    obtain ⟨h7, h8⟩ := h5
    by_cases c6 : a1.toInt < (s.1 6).toInt
    · refine am_wb2 rfl false (zn_ge (zq_a _) (zq_a _) (zr_t _) (zr_t _) c6) rfl ?_
      have h9 := h7 c6
      refine am_wh 3 (pc1 := 17) (lv1 := [(0, .ref 13), (1, .int a1)]) (st1 := [.int a1, .ref 15]) rfl ?_
      obtain ⟨o10, h11⟩ := h9
      refine zw_li (l := (s.2 13)) (i := a1.toInt) rfl rfl (zq_a _) o10 ?_
      refine am_wh 1 (pc1 := 22) (lv1 := [(0, .ref 13), (1, .int a1)]) (st1 := [.int (zg (s.2 13) a1.toInt)]) rfl ?_
      refine am_wr rfl rfl rfl ?_
      exact ⟨_, _, rfl, rfl, h11⟩
    · refine am_wb2 rfl true (zt_ge (zq_a _) (zq_a _) (zr_t _) (zr_t _) c6) rfl ?_
      have h12 := h8 c6
      refine am_wh 1 (pc1 := 22) (lv1 := [(0, .ref 13), (1, .int a1)]) (st1 := [.int 0]) rfl ?_
      refine am_wr rfl rfl rfl ?_
      exact ⟨_, _, rfl, rfl, h12⟩
set_option maxRecDepth 100000 in
theorem vc_73_0 (xs : Option (List Int32)) (d : Nat) (s : zS) (a1 : Int32) (Q : Int32 → zS → Prop) (h : (a1.toInt < 0 → (Q (-1) s)) ∧ (¬ a1.toInt < 0 → ((a1.toInt < (s.1 6).toInt → (zX (s.2 14) a1.toInt ∧ Q (zg (s.2 14) a1.toInt) s)) ∧ (¬ a1.toInt < (s.1 6).toInt → (Q (-1) s))))) : zWi xs d 73 0 [(0, .ref 13), (1, .int a1)] s Q := by
  unfold zWi
  refine am_wh 1 (pc1 := 1) (lv1 := [(0, .ref 13), (1, .int a1)]) (st1 := [.int a1]) rfl ?_
  obtain ⟨h2, h3⟩ := h
  by_cases c1 : a1.toInt < 0
  · refine am_wb1 rfl true (zt_lt (zq_a _) (by decide) (zr_t _) ⟨by decide, by decide⟩ c1) rfl ?_
    have h4 := h2 c1
    refine am_wh 1 (pc1 := 22) (lv1 := [(0, .ref 13), (1, .int a1)]) (st1 := [.int (-1)]) rfl ?_
    refine am_wr rfl rfl rfl ?_
    exact ⟨_, _, rfl, rfl, h4⟩
  · refine am_wb1 rfl false (zn_lt (zq_a _) (by decide) (zr_t _) ⟨by decide, by decide⟩ c1) rfl ?_
    have h5 := h3 c1
    refine am_wh 3 (pc1 := 9) (lv1 := [(0, .ref 13), (1, .int a1)]) (st1 := [.int (s.1 6), .int a1]) rfl ?_
    obtain ⟨h7, h8⟩ := h5
    by_cases c6 : a1.toInt < (s.1 6).toInt
    · refine am_wb2 rfl false (zn_ge (zq_a _) (zq_a _) (zr_t _) (zr_t _) c6) rfl ?_
      have h9 := h7 c6
      refine am_wh 3 (pc1 := 17) (lv1 := [(0, .ref 13), (1, .int a1)]) (st1 := [.int a1, .ref 16]) rfl ?_
      obtain ⟨o10, h11⟩ := h9
      refine zw_li (l := (s.2 14)) (i := a1.toInt) rfl rfl (zq_a _) o10 ?_
      refine am_wh 1 (pc1 := 22) (lv1 := [(0, .ref 13), (1, .int a1)]) (st1 := [.int (zg (s.2 14) a1.toInt)]) rfl ?_
      refine am_wr rfl rfl rfl ?_
      exact ⟨_, _, rfl, rfl, h11⟩
    · refine am_wb2 rfl true (zt_ge (zq_a _) (zq_a _) (zr_t _) (zr_t _) c6) rfl ?_
      have h12 := h8 c6
      refine am_wh 1 (pc1 := 22) (lv1 := [(0, .ref 13), (1, .int a1)]) (st1 := [.int (-1)]) rfl ?_
      refine am_wr rfl rfl rfl ?_
      exact ⟨_, _, rfl, rfl, h12⟩
set_option maxRecDepth 100000 in
theorem vc_74_0 (xs : Option (List Int32)) (d : Nat) (s : zS) (a1 : Int32) (a2 : Int32) (Q : zS → Prop) (h : (a1.toInt < 0 → (Q s)) ∧ (¬ a1.toInt < 0 → ((a1.toInt < (s.1 6).toInt → (zX (s.2 14) a1.toInt ∧ Q (za s 14 (zu (s.2 14) a1.toInt a2)))) ∧ (¬ a1.toInt < (s.1 6).toInt → (Q s))))) : zWv xs d 74 0 [(0, .ref 13), (1, .int a1), (2, .int a2)] s Q := by
  unfold zWv
  refine am_wh 1 (pc1 := 1) (lv1 := [(0, .ref 13), (1, .int a1), (2, .int a2)]) (st1 := [.int a1]) rfl ?_
  obtain ⟨h2, h3⟩ := h
  by_cases c1 : a1.toInt < 0
  · refine am_wb1 rfl true (zt_lt (zq_a _) (by decide) (zr_t _) ⟨by decide, by decide⟩ c1) rfl ?_
    have h4 := h2 c1
    refine am_wr rfl rfl rfl ?_
    exact ⟨_, rfl, rfl, h4⟩
  · refine am_wb1 rfl false (zn_lt (zq_a _) (by decide) (zr_t _) ⟨by decide, by decide⟩ c1) rfl ?_
    have h5 := h3 c1
    refine am_wh 3 (pc1 := 9) (lv1 := [(0, .ref 13), (1, .int a1), (2, .int a2)]) (st1 := [.int (s.1 6), .int a1]) rfl ?_
    obtain ⟨h7, h8⟩ := h5
    by_cases c6 : a1.toInt < (s.1 6).toInt
    · refine am_wb2 rfl false (zn_ge (zq_a _) (zq_a _) (zr_t _) (zr_t _) c6) rfl ?_
      have h9 := h7 c6
      refine am_wh 4 (pc1 := 18) (lv1 := [(0, .ref 13), (1, .int a1), (2, .int a2)]) (st1 := [.int a2, .int a1, .ref 16]) rfl ?_
      obtain ⟨o10, h11⟩ := h9
      refine zw_si (l := (s.2 14)) (i := a1.toInt) rfl rfl (zq_a _) o10 (zh_14 _ _) ?_
      refine am_wr rfl rfl rfl ?_
      exact ⟨_, rfl, rfl, h11⟩
    · refine am_wb2 rfl true (zt_ge (zq_a _) (zq_a _) (zr_t _) (zr_t _) c6) rfl ?_
      have h12 := h8 c6
      refine am_wr rfl rfl rfl ?_
      exact ⟨_, rfl, rfl, h12⟩
set_option maxRecDepth 100000 in
theorem vc_75_0 (xs : Option (List Int32)) (d : Nat) (s : zS) (a1 : Int32) (Q : Int32 → zS → Prop) (h : zWi xs d 75 4 [(0, .ref 13), (2, .int a1), (3, .int 0)] s Q) : zWi xs d 75 0 [(0, .ref 13), (1, .int a1)] s Q := by
  unfold zWi
  refine am_wh 4 (pc1 := 4) (lv1 := [(3, .int 0), (2, .int a1), (0, .ref 13), (1, .int a1)]) (st1 := []) rfl ?_
  exact am_wm h ⟨rfl, rfl, rfl, trivial⟩
set_option maxRecDepth 100000 in
theorem vc_75_4 (xs : Option (List Int32)) (d : Nat) (s : zS) (a2 : Int32) (a3 : Int32) (Q : Int32 → zS → Prop) (h : (a3.toInt < (s.1 6).toInt → ((a2.toInt < 0 → (Q a2 s)) ∧ (¬ a2.toInt < 0 → ((a2.toInt < (s.1 6).toInt → (zX (s.2 12) a2.toInt ∧ ((zg (s.2 12) a2.toInt).toInt = 4 → (zX (s.2 13) a2.toInt ∧ zWi xs d 75 4 [(0, .ref 13), (2, .int (zg (s.2 13) a2.toInt)), (3, .int (a3 + 1))] s Q)) ∧ (¬ (zg (s.2 12) a2.toInt).toInt = 4 → (Q a2 s)))) ∧ (¬ a2.toInt < (s.1 6).toInt → (Q a2 s)))))) ∧ (¬ a3.toInt < (s.1 6).toInt → (Q a2 s))) : zWi xs d 75 4 [(0, .ref 13), (2, .int a2), (3, .int a3)] s Q := by
  unfold zWi
  refine am_wh 3 (pc1 := 9) (lv1 := [(0, .ref 13), (2, .int a2), (3, .int a3)]) (st1 := [.int (s.1 6), .int a3]) rfl ?_
  obtain ⟨h2, h3⟩ := h
  by_cases c1 : a3.toInt < (s.1 6).toInt
  · refine am_wb2 rfl false (zn_ge (zq_a _) (zq_a _) (zr_t _) (zr_t _) c1) rfl ?_
    have h4 := h2 c1
    refine am_wh 1 (pc1 := 13) (lv1 := [(0, .ref 13), (2, .int a2), (3, .int a3)]) (st1 := [.int a2]) rfl ?_
    obtain ⟨h6, h7⟩ := h4
    by_cases c5 : a2.toInt < 0
    · refine am_wb1 rfl true (zt_lt (zq_a _) (by decide) (zr_t _) ⟨by decide, by decide⟩ c5) rfl ?_
      have h8 := h6 c5
      refine am_wh 1 (pc1 := 51) (lv1 := [(0, .ref 13), (2, .int a2), (3, .int a3)]) (st1 := [.int a2]) rfl ?_
      refine am_wr rfl rfl rfl ?_
      exact ⟨_, _, rfl, rfl, h8⟩
    · refine am_wb1 rfl false (zn_lt (zq_a _) (by decide) (zr_t _) ⟨by decide, by decide⟩ c5) rfl ?_
      have h9 := h7 c5
      refine am_wh 3 (pc1 := 21) (lv1 := [(0, .ref 13), (2, .int a2), (3, .int a3)]) (st1 := [.int (s.1 6), .int a2]) rfl ?_
      obtain ⟨h11, h12⟩ := h9
      by_cases c10 : a2.toInt < (s.1 6).toInt
      · refine am_wb2 rfl false (zn_ge (zq_a _) (zq_a _) (zr_t _) (zr_t _) c10) rfl ?_
        have h13 := h11 c10
        refine am_wh 3 (pc1 := 29) (lv1 := [(0, .ref 13), (2, .int a2), (3, .int a3)]) (st1 := [.int a2, .ref 14]) rfl ?_
        obtain ⟨o14, h15⟩ := h13
        refine zw_li (l := (s.2 12)) (i := a2.toInt) rfl rfl (zq_a _) o14 ?_
        refine am_wh 1 (pc1 := 31) (lv1 := [(0, .ref 13), (2, .int a2), (3, .int a3)]) (st1 := [.int 4, .int (zg (s.2 12) a2.toInt)]) rfl ?_
        obtain ⟨h17, h18⟩ := h15
        by_cases c16 : (zg (s.2 12) a2.toInt).toInt = 4
        · refine am_wb2 rfl true (zt_eq (zq_a _) (by decide) (zr_t _) ⟨by decide, by decide⟩ c16) rfl ?_
          have h19 := h17 c16
          refine am_wh 3 (pc1 := 42) (lv1 := [(0, .ref 13), (2, .int a2), (3, .int a3)]) (st1 := [.int a2, .ref 15]) rfl ?_
          obtain ⟨o20, h21⟩ := h19
          refine zw_li (l := (s.2 13)) (i := a2.toInt) rfl rfl (zq_a _) o20 ?_
          refine am_wh 3 (pc1 := 4) (lv1 := [(3, .int (a3 + 1)), (2, .int (zg (s.2 13) a2.toInt)), (0, .ref 13)]) (st1 := []) rfl ?_
          exact am_wm h21 ⟨rfl, rfl, rfl, trivial⟩
        · refine am_wb2 rfl false (zn_eq (zq_a _) (by decide) (zr_t _) ⟨by decide, by decide⟩ c16) rfl ?_
          have h22 := h18 c16
          refine am_wh 2 (pc1 := 51) (lv1 := [(0, .ref 13), (2, .int a2), (3, .int a3)]) (st1 := [.int a2]) rfl ?_
          refine am_wr rfl rfl rfl ?_
          exact ⟨_, _, rfl, rfl, h22⟩
      · refine am_wb2 rfl true (zt_ge (zq_a _) (zq_a _) (zr_t _) (zr_t _) c10) rfl ?_
        have h23 := h12 c10
        refine am_wh 1 (pc1 := 51) (lv1 := [(0, .ref 13), (2, .int a2), (3, .int a3)]) (st1 := [.int a2]) rfl ?_
        refine am_wr rfl rfl rfl ?_
        exact ⟨_, _, rfl, rfl, h23⟩
  · refine am_wb2 rfl true (zt_ge (zq_a _) (zq_a _) (zr_t _) (zr_t _) c1) rfl ?_
    have h24 := h3 c1
    refine am_wh 1 (pc1 := 51) (lv1 := [(0, .ref 13), (2, .int a2), (3, .int a3)]) (st1 := [.int a2]) rfl ?_
    refine am_wr rfl rfl rfl ?_
    exact ⟨_, _, rfl, rfl, h24⟩
set_option maxRecDepth 100000 in
theorem vc_94_0 (xs : Option (List Int32)) (d : Nat) (s : zS) (a1 : Int32) (Q : Int32 → zS → Prop) (h : (a1.toInt < 0 → (Q 7 s)) ∧ (¬ a1.toInt < 0 → ((a1.toInt < (s.1 2).toInt → (zX (s.2 4) a1.toInt ∧ Q (zg (s.2 4) a1.toInt) s)) ∧ (¬ a1.toInt < (s.1 2).toInt → (Q 7 s))))) : zWi xs d 94 0 [(0, .ref 5), (1, .int a1)] s Q := by
  unfold zWi
  refine am_wh 1 (pc1 := 1) (lv1 := [(0, .ref 5), (1, .int a1)]) (st1 := [.int a1]) rfl ?_
  obtain ⟨h2, h3⟩ := h
  by_cases c1 : a1.toInt < 0
  · refine am_wb1 rfl true (zt_lt (zq_a _) (by decide) (zr_t _) ⟨by decide, by decide⟩ c1) rfl ?_
    have h4 := h2 c1
    refine am_wh 1 (pc1 := 23) (lv1 := [(0, .ref 5), (1, .int a1)]) (st1 := [.int 7]) rfl ?_
    refine am_wr rfl rfl rfl ?_
    exact ⟨_, _, rfl, rfl, h4⟩
  · refine am_wb1 rfl false (zn_lt (zq_a _) (by decide) (zr_t _) ⟨by decide, by decide⟩ c1) rfl ?_
    have h5 := h3 c1
    refine am_wh 3 (pc1 := 9) (lv1 := [(0, .ref 5), (1, .int a1)]) (st1 := [.int (s.1 2), .int a1]) rfl ?_
    obtain ⟨h7, h8⟩ := h5
    by_cases c6 : a1.toInt < (s.1 2).toInt
    · refine am_wb2 rfl false (zn_ge (zq_a _) (zq_a _) (zr_t _) (zr_t _) c6) rfl ?_
      have h9 := h7 c6
      refine am_wh 3 (pc1 := 17) (lv1 := [(0, .ref 5), (1, .int a1)]) (st1 := [.int a1, .ref 6]) rfl ?_
      obtain ⟨o10, h11⟩ := h9
      refine zw_li (l := (s.2 4)) (i := a1.toInt) rfl rfl (zq_a _) o10 ?_
      refine am_wh 1 (pc1 := 23) (lv1 := [(0, .ref 5), (1, .int a1)]) (st1 := [.int (zg (s.2 4) a1.toInt)]) rfl ?_
      refine am_wr rfl rfl rfl ?_
      exact ⟨_, _, rfl, rfl, h11⟩
    · refine am_wb2 rfl true (zt_ge (zq_a _) (zq_a _) (zr_t _) (zr_t _) c6) rfl ?_
      have h12 := h8 c6
      refine am_wh 1 (pc1 := 23) (lv1 := [(0, .ref 5), (1, .int a1)]) (st1 := [.int 7]) rfl ?_
      refine am_wr rfl rfl rfl ?_
      exact ⟨_, _, rfl, rfl, h12⟩
set_option maxRecDepth 100000 in
theorem vc_95_0 (xs : Option (List Int32)) (d : Nat) (s : zS) (a1 : Int32) (Q : Int32 → zS → Prop) (h : (a1.toInt < 0 → (Q (s.1 1) s)) ∧ (¬ a1.toInt < 0 → ((a1.toInt < (s.1 2).toInt → (zX (s.2 5) a1.toInt ∧ Q (zg (s.2 5) a1.toInt) s)) ∧ (¬ a1.toInt < (s.1 2).toInt → (Q (s.1 1) s))))) : zWi xs d 95 0 [(0, .ref 5), (1, .int a1)] s Q := by
  unfold zWi
  refine am_wh 1 (pc1 := 1) (lv1 := [(0, .ref 5), (1, .int a1)]) (st1 := [.int a1]) rfl ?_
  obtain ⟨h2, h3⟩ := h
  by_cases c1 : a1.toInt < 0
  · refine am_wb1 rfl true (zt_lt (zq_a _) (by decide) (zr_t _) ⟨by decide, by decide⟩ c1) rfl ?_
    have h4 := h2 c1
    refine am_wh 3 (pc1 := 28) (lv1 := [(0, .ref 5), (1, .int a1)]) (st1 := [.int (s.1 1)]) rfl ?_
    refine am_wr rfl rfl rfl ?_
    exact ⟨_, _, rfl, rfl, h4⟩
  · refine am_wb1 rfl false (zn_lt (zq_a _) (by decide) (zr_t _) ⟨by decide, by decide⟩ c1) rfl ?_
    have h5 := h3 c1
    refine am_wh 3 (pc1 := 9) (lv1 := [(0, .ref 5), (1, .int a1)]) (st1 := [.int (s.1 2), .int a1]) rfl ?_
    obtain ⟨h7, h8⟩ := h5
    by_cases c6 : a1.toInt < (s.1 2).toInt
    · refine am_wb2 rfl false (zn_ge (zq_a _) (zq_a _) (zr_t _) (zr_t _) c6) rfl ?_
      have h9 := h7 c6
      refine am_wh 3 (pc1 := 17) (lv1 := [(0, .ref 5), (1, .int a1)]) (st1 := [.int a1, .ref 7]) rfl ?_
      obtain ⟨o10, h11⟩ := h9
      refine zw_li (l := (s.2 5)) (i := a1.toInt) rfl rfl (zq_a _) o10 ?_
      refine am_wh 1 (pc1 := 28) (lv1 := [(0, .ref 5), (1, .int a1)]) (st1 := [.int (zg (s.2 5) a1.toInt)]) rfl ?_
      refine am_wr rfl rfl rfl ?_
      exact ⟨_, _, rfl, rfl, h11⟩
    · refine am_wb2 rfl true (zt_ge (zq_a _) (zq_a _) (zr_t _) (zr_t _) c6) rfl ?_
      have h12 := h8 c6
      refine am_wh 3 (pc1 := 28) (lv1 := [(0, .ref 5), (1, .int a1)]) (st1 := [.int (s.1 1)]) rfl ?_
      refine am_wr rfl rfl rfl ?_
      exact ⟨_, _, rfl, rfl, h12⟩
set_option maxRecDepth 100000 in
theorem vc_96_0 (xs : Option (List Int32)) (d : Nat) (s : zS) (a1 : Int32) (Q : Int32 → zS → Prop) (h : (a1.toInt < 0 → (Q (s.1 1) s)) ∧ (¬ a1.toInt < 0 → ((a1.toInt < (s.1 2).toInt → (zX (s.2 6) a1.toInt ∧ Q (zg (s.2 6) a1.toInt) s)) ∧ (¬ a1.toInt < (s.1 2).toInt → (Q (s.1 1) s))))) : zWi xs d 96 0 [(0, .ref 5), (1, .int a1)] s Q := by
  unfold zWi
  refine am_wh 1 (pc1 := 1) (lv1 := [(0, .ref 5), (1, .int a1)]) (st1 := [.int a1]) rfl ?_
  obtain ⟨h2, h3⟩ := h
  by_cases c1 : a1.toInt < 0
  · refine am_wb1 rfl true (zt_lt (zq_a _) (by decide) (zr_t _) ⟨by decide, by decide⟩ c1) rfl ?_
    have h4 := h2 c1
    refine am_wh 3 (pc1 := 28) (lv1 := [(0, .ref 5), (1, .int a1)]) (st1 := [.int (s.1 1)]) rfl ?_
    refine am_wr rfl rfl rfl ?_
    exact ⟨_, _, rfl, rfl, h4⟩
  · refine am_wb1 rfl false (zn_lt (zq_a _) (by decide) (zr_t _) ⟨by decide, by decide⟩ c1) rfl ?_
    have h5 := h3 c1
    refine am_wh 3 (pc1 := 9) (lv1 := [(0, .ref 5), (1, .int a1)]) (st1 := [.int (s.1 2), .int a1]) rfl ?_
    obtain ⟨h7, h8⟩ := h5
    by_cases c6 : a1.toInt < (s.1 2).toInt
    · refine am_wb2 rfl false (zn_ge (zq_a _) (zq_a _) (zr_t _) (zr_t _) c6) rfl ?_
      have h9 := h7 c6
      refine am_wh 3 (pc1 := 17) (lv1 := [(0, .ref 5), (1, .int a1)]) (st1 := [.int a1, .ref 8]) rfl ?_
      obtain ⟨o10, h11⟩ := h9
      refine zw_li (l := (s.2 6)) (i := a1.toInt) rfl rfl (zq_a _) o10 ?_
      refine am_wh 1 (pc1 := 28) (lv1 := [(0, .ref 5), (1, .int a1)]) (st1 := [.int (zg (s.2 6) a1.toInt)]) rfl ?_
      refine am_wr rfl rfl rfl ?_
      exact ⟨_, _, rfl, rfl, h11⟩
    · refine am_wb2 rfl true (zt_ge (zq_a _) (zq_a _) (zr_t _) (zr_t _) c6) rfl ?_
      have h12 := h8 c6
      refine am_wh 3 (pc1 := 28) (lv1 := [(0, .ref 5), (1, .int a1)]) (st1 := [.int (s.1 1)]) rfl ?_
      refine am_wr rfl rfl rfl ?_
      exact ⟨_, _, rfl, rfl, h12⟩
set_option maxRecDepth 100000 in
theorem vc_97_0 (xs : Option (List Int32)) (d : Nat) (s : zS) (a1 : Int32) (Q : Int32 → zS → Prop) (h : zWi xs d 94 0 [(0, .ref 5), (1, .int a1)] s (fun v3 s1 => (8 < v3.toInt → ((29 < v3.toInt → (Q 3 s1)) ∧ (¬ 29 < v3.toInt → (Q 2 s1)))) ∧ (¬ 8 < v3.toInt → (Q v3 s1)))) : zWi xs (d + 1) 97 0 [(0, .ref 5), (1, .int a1)] s Q := by
  unfold zWi
  refine am_wh 2 (pc1 := 2) (lv1 := [(0, .ref 5), (1, .int a1)]) (st1 := [.int a1, .ref 5]) rfl ?_
  refine am_wc rfl rfl rfl ?_
  refine am_ww h ?_
  rintro _ _ ⟨v3, s1, rfl, rfl, h2⟩
  show am_W _ _ 97 5 [(0, .ref 5), (1, .int a1)] [.int v3] (zH s1) _
  refine am_wh 3 (pc1 := 9) (lv1 := [(2, .int v3), (0, .ref 5), (1, .int a1)]) (st1 := [.int 8, .int v3]) rfl ?_
  obtain ⟨h5, h6⟩ := h2
  by_cases c4 : 8 < v3.toInt
  · refine am_wb2 rfl true (zt_gt (zq_a _) (by decide) (zr_t _) ⟨by decide, by decide⟩ c4) rfl ?_
    have h7 := h5 c4
    refine am_wh 2 (pc1 := 17) (lv1 := [(2, .int v3), (0, .ref 5), (1, .int a1)]) (st1 := [.int 29, .int v3]) rfl ?_
    obtain ⟨h9, h10⟩ := h7
    by_cases c8 : 29 < v3.toInt
    · refine am_wb2 rfl true (zt_gt (zq_a _) (by decide) (zr_t _) ⟨by decide, by decide⟩ c8) rfl ?_
      have h11 := h9 c8
      refine am_wh 1 (pc1 := 25) (lv1 := [(2, .int v3), (0, .ref 5), (1, .int a1)]) (st1 := [.int 3]) rfl ?_
      refine am_wr rfl rfl rfl ?_
      exact ⟨_, _, rfl, rfl, h11⟩
    · refine am_wb2 rfl false (zn_gt (zq_a _) (by decide) (zr_t _) ⟨by decide, by decide⟩ c8) rfl ?_
      have h12 := h10 c8
      refine am_wh 2 (pc1 := 25) (lv1 := [(2, .int v3), (0, .ref 5), (1, .int a1)]) (st1 := [.int 2]) rfl ?_
      refine am_wr rfl rfl rfl ?_
      exact ⟨_, _, rfl, rfl, h12⟩
  · refine am_wb2 rfl false (zn_gt (zq_a _) (by decide) (zr_t _) ⟨by decide, by decide⟩ c4) rfl ?_
    have h13 := h6 c4
    refine am_wh 1 (pc1 := 13) (lv1 := [(2, .int v3), (0, .ref 5), (1, .int a1)]) (st1 := [.int v3]) rfl ?_
    refine am_wr rfl rfl rfl ?_
    exact ⟨_, _, rfl, rfl, h13⟩
set_option maxRecDepth 100000 in
theorem vc_98_0 (xs : Option (List Int32)) (d : Nat) (s : zS)  (Q : zS → Prop) (h : zWv xs (d + 1) 98 21 [(0, .ref 5), (1, .int 0), (2, .int 1), (3, .int 0)] (zf (zf (zf s 2 0) 4 0) 3 1) Q) : zWv xs (d + 1) 98 0 [(0, .ref 5)] s Q := by
  unfold zWv
  refine am_wh 2 (pc1 := 2) (lv1 := [(0, .ref 5)]) (st1 := [.int 0, .ref 5]) rfl ?_
  refine am_w0 (z := (5, [(0, .ref 5)], [], zH (zf s 2 0))) rfl rfl (zp_2 ) ?_
  refine am_wh 2 (pc1 := 7) (lv1 := [(0, .ref 5)]) (st1 := [.int 0, .ref 5]) rfl ?_
  refine am_w0 (z := (10, [(0, .ref 5)], [], zH (zf (zf s 2 0) 4 0))) rfl rfl (zp_4 ) ?_
  refine am_wh 2 (pc1 := 12) (lv1 := [(0, .ref 5)]) (st1 := [.int 1, .ref 5]) rfl ?_
  refine am_w0 (z := (15, [(0, .ref 5)], [], zH (zf (zf (zf s 2 0) 4 0) 3 1))) rfl rfl (zp_3 ) ?_
  refine am_wh 6 (pc1 := 21) (lv1 := [(3, .int 0), (2, .int 1), (1, .int 0), (0, .ref 5)]) (st1 := []) rfl ?_
  exact am_wm h ⟨rfl, rfl, rfl, rfl, trivial⟩
set_option maxRecDepth 100000 in
theorem vc_98_21 (xs : Option (List Int32)) (d : Nat) (s : zS) (a1 : Int32) (a2 : Int32) (a3 : Int32) (Q : zS → Prop) (h : (a3.toInt < (s.1 1).toInt → (zWi xs d 85 0 [(0, .ref 3), (1, .int a3)] s (fun v7 s5 => (v7.toInt = 10 → (((s5.1 4).toInt = 0 → (zWv xs d 99 0 [(0, .ref 5), (1, .int a2)] s5 (fun s16 => zR (a3.toInt + 1) ∧ ((a3.toInt + 1) < (a3.toInt + 1) → (zWv xs (d + 1) 98 21 [(0, .ref 5), (1, .int (a3 + 1)), (2, .int 1), (3, .int (a3 + 1))] s16 Q)) ∧ (¬ (a3.toInt + 1) < (a3.toInt + 1) → (zWv xs (d + 1) 98 21 [(0, .ref 5), (1, .int (a3 + 1)), (2, .int 1), (3, .int (a3 + 1))] s16 Q))))) ∧ (¬ (s5.1 4).toInt = 0 → ((v7.toInt = 35 → (zWi xs d 87 0 [(0, .ref 3), (1, .int a3)] s5 (fun v32 s30 => zR (a3.toInt + 1) ∧ ((a3.toInt + 1) < v32.toInt → (zWv xs (d + 1) 98 21 [(0, .ref 5), (1, .int a1), (2, .int a2), (3, .int v32)] s30 Q)) ∧ (¬ (a3.toInt + 1) < v32.toInt → (zWv xs (d + 1) 98 21 [(0, .ref 5), (1, .int a1), (2, .int a2), (3, .int (a3 + 1))] s30 Q))))) ∧ (¬ v7.toInt = 35 → (zR (a3.toInt + 1) ∧ ((a3.toInt + 1) < (a3.toInt + 1) → (zWv xs (d + 1) 98 21 [(0, .ref 5), (1, .int a1), (2, .int a2), (3, .int (a3 + 1))] s5 Q)) ∧ (¬ (a3.toInt + 1) < (a3.toInt + 1) → (zWv xs (d + 1) 98 21 [(0, .ref 5), (1, .int a1), (2, .int a2), (3, .int (a3 + 1))] s5 Q)))))))) ∧ (¬ v7.toInt = 10 → ((v7.toInt = 35 → (zWi xs d 87 0 [(0, .ref 3), (1, .int a3)] s5 (fun v55 s53 => zR (a3.toInt + 1) ∧ ((a3.toInt + 1) < v55.toInt → (zWv xs (d + 1) 98 21 [(0, .ref 5), (1, .int a1), (2, .int a2), (3, .int v55)] s53 Q)) ∧ (¬ (a3.toInt + 1) < v55.toInt → (zWv xs (d + 1) 98 21 [(0, .ref 5), (1, .int a1), (2, .int a2), (3, .int (a3 + 1))] s53 Q))))) ∧ (¬ v7.toInt = 35 → ((v7.toInt = 32 → (zR (a3.toInt + 1) ∧ ((a3.toInt + 1) < (a3.toInt + 1) → (zWv xs (d + 1) 98 21 [(0, .ref 5), (1, .int a1), (2, .int a2), (3, .int (a3 + 1))] s5 Q)) ∧ (¬ (a3.toInt + 1) < (a3.toInt + 1) → (zWv xs (d + 1) 98 21 [(0, .ref 5), (1, .int a1), (2, .int a2), (3, .int (a3 + 1))] s5 Q)))) ∧ (¬ v7.toInt = 32 → ((a2.toInt = 0 → (zWi xs d 103 0 [(0, .ref 5), (1, .int a3)] s5 (fun v82 s80 => zR (a3.toInt + 1) ∧ ((a3.toInt + 1) < v82.toInt → (zWv xs (d + 1) 98 21 [(0, .ref 5), (1, .int a1), (2, .int 0), (3, .int v82)] s80 Q)) ∧ (¬ (a3.toInt + 1) < v82.toInt → (zWv xs (d + 1) 98 21 [(0, .ref 5), (1, .int a1), (2, .int 0), (3, .int (a3 + 1))] s80 Q))))) ∧ (¬ a2.toInt = 0 → (zWv xs d 101 0 [(0, .ref 5), (1, .int (a3 - a1)), (2, .int a3)] s5 (fun s91 => zWi xs d 103 0 [(0, .ref 5), (1, .int a3)] s91 (fun v95 s93 => zR (a3.toInt + 1) ∧ ((a3.toInt + 1) < v95.toInt → (zWv xs (d + 1) 98 21 [(0, .ref 5), (1, .int a1), (2, .int 0), (3, .int v95)] s93 Q)) ∧ (¬ (a3.toInt + 1) < v95.toInt → (zWv xs (d + 1) 98 21 [(0, .ref 5), (1, .int a1), (2, .int 0), (3, .int (a3 + 1))] s93 Q))))))))))))))) ∧ (¬ a3.toInt < (s.1 1).toInt → (zWv xs d 99 0 [(0, .ref 5), (1, .int a2)] s (fun s104 => zWv xs d 100 0 [(0, .ref 5)] s104 (fun s106 => Q s106))))) : zWv xs (d + 1) 98 21 [(0, .ref 5), (1, .int a1), (2, .int a2), (3, .int a3)] s Q := by
  unfold zWv
  refine am_wh 4 (pc1 := 29) (lv1 := [(0, .ref 5), (1, .int a1), (2, .int a2), (3, .int a3)]) (st1 := [.int (s.1 1), .int a3]) rfl ?_
  obtain ⟨h2, h3⟩ := h
  by_cases c1 : a3.toInt < (s.1 1).toInt
  · refine am_wb2 rfl false (zn_ge (zq_a _) (zq_a _) (zr_t _) (zr_t _) c1) rfl ?_
    have h4 := h2 c1
    refine am_wh 3 (pc1 := 37) (lv1 := [(0, .ref 5), (1, .int a1), (2, .int a2), (3, .int a3)]) (st1 := [.int a3, .ref 3]) rfl ?_
    refine am_wc rfl rfl rfl ?_
    refine am_ww h4 ?_
    rintro _ _ ⟨v7, s5, rfl, rfl, h6⟩
    show am_W _ _ 98 40 [(0, .ref 5), (1, .int a1), (2, .int a2), (3, .int a3)] [.int v7] (zH s5) _
    refine am_wh 7 (pc1 := 51) (lv1 := [(5, .int (a3 + 1)), (4, .int v7), (0, .ref 5), (1, .int a1), (2, .int a2), (3, .int a3)]) (st1 := [.int 10, .int v7]) rfl ?_
    obtain ⟨h9, h10⟩ := h6
    by_cases c8 : v7.toInt = 10
    · refine am_wb2 rfl false (zn_ne (zq_a _) (by decide) (zr_t _) ⟨by decide, by decide⟩ c8) rfl ?_
      have h11 := h9 c8
      refine am_wh 2 (pc1 := 58) (lv1 := [(5, .int (a3 + 1)), (4, .int v7), (0, .ref 5), (1, .int a1), (2, .int a2), (3, .int a3)]) (st1 := [.int (s5.1 4)]) rfl ?_
      obtain ⟨h13, h14⟩ := h11
      by_cases c12 : (s5.1 4).toInt = 0
      · refine am_wb1 rfl false (zn_ne (zq_a _) (by decide) (zr_t _) ⟨by decide, by decide⟩ c12) rfl ?_
        have h15 := h13 c12
        refine am_wh 2 (pc1 := 63) (lv1 := [(5, .int (a3 + 1)), (4, .int v7), (0, .ref 5), (1, .int a1), (2, .int a2), (3, .int a3)]) (st1 := [.int a2, .ref 5]) rfl ?_
        refine am_wc rfl rfl rfl ?_
        refine am_ww h15 ?_
        rintro _ _ ⟨s16, rfl, rfl, h17⟩
        show am_W _ _ 98 66 [(5, .int (a3 + 1)), (4, .int v7), (0, .ref 5), (1, .int a1), (2, .int a2), (3, .int a3)] [] (zH s16) _
        obtain ⟨o18, h19⟩ := h17
        refine am_wh 9 (pc1 := 134) (lv1 := [(1, .int (a3 + 1)), (2, .int 1), (5, .int (a3 + 1)), (4, .int v7), (0, .ref 5), (3, .int a3)]) (st1 := [.int (a3 + 1), .int (a3 + 1)]) rfl ?_
        obtain ⟨h21, h22⟩ := h19
        by_cases c20 : (a3.toInt + 1) < (a3.toInt + 1)
        · refine am_wh 1 (pc1 := 137) (lv1 := [(1, .int (a3 + 1)), (2, .int 1), (5, .int (a3 + 1)), (4, .int v7), (0, .ref 5), (3, .int a3)]) (st1 := .int (if (a3 + 1) < (a3 + 1) then (a3 + 1) else (a3 + 1)) :: []) rfl ?_
          rw [zmx_t (zq_add (zq_a _) (by decide)) (zq_add (zq_a _) (by decide)) o18 o18 c20]
          have h23 := h21 c20
          refine am_wh 2 (pc1 := 21) (lv1 := [(3, .int (a3 + 1)), (1, .int (a3 + 1)), (2, .int 1), (5, .int (a3 + 1)), (4, .int v7), (0, .ref 5)]) (st1 := []) rfl ?_
          exact am_wm h23 ⟨rfl, rfl, rfl, rfl, trivial⟩
        · refine am_wh 1 (pc1 := 137) (lv1 := [(1, .int (a3 + 1)), (2, .int 1), (5, .int (a3 + 1)), (4, .int v7), (0, .ref 5), (3, .int a3)]) (st1 := .int (if (a3 + 1) < (a3 + 1) then (a3 + 1) else (a3 + 1)) :: []) rfl ?_
          rw [zmx_n (zq_add (zq_a _) (by decide)) (zq_add (zq_a _) (by decide)) o18 o18 c20]
          have h24 := h22 c20
          refine am_wh 2 (pc1 := 21) (lv1 := [(3, .int (a3 + 1)), (1, .int (a3 + 1)), (2, .int 1), (5, .int (a3 + 1)), (4, .int v7), (0, .ref 5)]) (st1 := []) rfl ?_
          exact am_wm h24 ⟨rfl, rfl, rfl, rfl, trivial⟩
      · refine am_wb1 rfl true (zt_ne (zq_a _) (by decide) (zr_t _) ⟨by decide, by decide⟩ c12) rfl ?_
        have h25 := h14 c12
        refine am_wh 2 (pc1 := 78) (lv1 := [(5, .int (a3 + 1)), (4, .int v7), (0, .ref 5), (1, .int a1), (2, .int a2), (3, .int a3)]) (st1 := [.int 35, .int v7]) rfl ?_
        obtain ⟨h27, h28⟩ := h25
        by_cases c26 : v7.toInt = 35
        · refine am_wb2 rfl false (zn_ne (zq_a _) (by decide) (zr_t _) ⟨by decide, by decide⟩ c26) rfl ?_
          have h29 := h27 c26
          refine am_wh 3 (pc1 := 86) (lv1 := [(5, .int (a3 + 1)), (4, .int v7), (0, .ref 5), (1, .int a1), (2, .int a2), (3, .int a3)]) (st1 := [.int a3, .ref 3]) rfl ?_
          refine am_wc rfl rfl rfl ?_
          refine am_ww h29 ?_
          rintro _ _ ⟨v32, s30, rfl, rfl, h31⟩
          show am_W _ _ 98 89 [(5, .int (a3 + 1)), (4, .int v7), (0, .ref 5), (1, .int a1), (2, .int a2), (3, .int a3)] [.int v32] (zH s30) _
          obtain ⟨o33, h34⟩ := h31
          refine am_wh 6 (pc1 := 134) (lv1 := [(5, .int v32), (4, .int v7), (0, .ref 5), (1, .int a1), (2, .int a2), (3, .int a3)]) (st1 := [.int v32, .int (a3 + 1)]) rfl ?_
          obtain ⟨h36, h37⟩ := h34
          by_cases c35 : (a3.toInt + 1) < v32.toInt
          · refine am_wh 1 (pc1 := 137) (lv1 := [(5, .int v32), (4, .int v7), (0, .ref 5), (1, .int a1), (2, .int a2), (3, .int a3)]) (st1 := .int (if (a3 + 1) < v32 then v32 else (a3 + 1)) :: []) rfl ?_
            rw [zmx_t (zq_add (zq_a _) (by decide)) (zq_a _) o33 (zr_t _) c35]
            have h38 := h36 c35
            refine am_wh 2 (pc1 := 21) (lv1 := [(3, .int v32), (5, .int v32), (4, .int v7), (0, .ref 5), (1, .int a1), (2, .int a2)]) (st1 := []) rfl ?_
            exact am_wm h38 ⟨rfl, rfl, rfl, rfl, trivial⟩
          · refine am_wh 1 (pc1 := 137) (lv1 := [(5, .int v32), (4, .int v7), (0, .ref 5), (1, .int a1), (2, .int a2), (3, .int a3)]) (st1 := .int (if (a3 + 1) < v32 then v32 else (a3 + 1)) :: []) rfl ?_
            rw [zmx_n (zq_add (zq_a _) (by decide)) (zq_a _) o33 (zr_t _) c35]
            have h39 := h37 c35
            refine am_wh 2 (pc1 := 21) (lv1 := [(3, .int (a3 + 1)), (5, .int v32), (4, .int v7), (0, .ref 5), (1, .int a1), (2, .int a2)]) (st1 := []) rfl ?_
            exact am_wm h39 ⟨rfl, rfl, rfl, rfl, trivial⟩
        · refine am_wb2 rfl true (zt_ne (zq_a _) (by decide) (zr_t _) ⟨by decide, by decide⟩ c26) rfl ?_
          have h40 := h28 c26
          refine am_wh 2 (pc1 := 98) (lv1 := [(5, .int (a3 + 1)), (4, .int v7), (0, .ref 5), (1, .int a1), (2, .int a2), (3, .int a3)]) (st1 := [.int 10, .int v7]) rfl ?_
          refine am_wb2 rfl true (zt_eq (zq_a _) (by decide) (zr_t _) ⟨by decide, by decide⟩ c8) rfl ?_
          obtain ⟨o41, h42⟩ := h40
          refine am_wh 4 (pc1 := 134) (lv1 := [(5, .int (a3 + 1)), (4, .int v7), (0, .ref 5), (1, .int a1), (2, .int a2), (3, .int a3)]) (st1 := [.int (a3 + 1), .int (a3 + 1)]) rfl ?_
          obtain ⟨h44, h45⟩ := h42
          by_cases c43 : (a3.toInt + 1) < (a3.toInt + 1)
          · refine am_wh 1 (pc1 := 137) (lv1 := [(5, .int (a3 + 1)), (4, .int v7), (0, .ref 5), (1, .int a1), (2, .int a2), (3, .int a3)]) (st1 := .int (if (a3 + 1) < (a3 + 1) then (a3 + 1) else (a3 + 1)) :: []) rfl ?_
            rw [zmx_t (zq_add (zq_a _) (by decide)) (zq_add (zq_a _) (by decide)) o41 o41 c43]
            have h46 := h44 c43
            refine am_wh 2 (pc1 := 21) (lv1 := [(3, .int (a3 + 1)), (5, .int (a3 + 1)), (4, .int v7), (0, .ref 5), (1, .int a1), (2, .int a2)]) (st1 := []) rfl ?_
            exact am_wm h46 ⟨rfl, rfl, rfl, rfl, trivial⟩
          · refine am_wh 1 (pc1 := 137) (lv1 := [(5, .int (a3 + 1)), (4, .int v7), (0, .ref 5), (1, .int a1), (2, .int a2), (3, .int a3)]) (st1 := .int (if (a3 + 1) < (a3 + 1) then (a3 + 1) else (a3 + 1)) :: []) rfl ?_
            rw [zmx_n (zq_add (zq_a _) (by decide)) (zq_add (zq_a _) (by decide)) o41 o41 c43]
            have h47 := h45 c43
            refine am_wh 2 (pc1 := 21) (lv1 := [(3, .int (a3 + 1)), (5, .int (a3 + 1)), (4, .int v7), (0, .ref 5), (1, .int a1), (2, .int a2)]) (st1 := []) rfl ?_
            exact am_wm h47 ⟨rfl, rfl, rfl, rfl, trivial⟩
    · refine am_wb2 rfl true (zt_ne (zq_a _) (by decide) (zr_t _) ⟨by decide, by decide⟩ c8) rfl ?_
      have h48 := h10 c8
      refine am_wh 2 (pc1 := 78) (lv1 := [(5, .int (a3 + 1)), (4, .int v7), (0, .ref 5), (1, .int a1), (2, .int a2), (3, .int a3)]) (st1 := [.int 35, .int v7]) rfl ?_
      obtain ⟨h50, h51⟩ := h48
      by_cases c49 : v7.toInt = 35
      · refine am_wb2 rfl false (zn_ne (zq_a _) (by decide) (zr_t _) ⟨by decide, by decide⟩ c49) rfl ?_
        have h52 := h50 c49
        refine am_wh 3 (pc1 := 86) (lv1 := [(5, .int (a3 + 1)), (4, .int v7), (0, .ref 5), (1, .int a1), (2, .int a2), (3, .int a3)]) (st1 := [.int a3, .ref 3]) rfl ?_
        refine am_wc rfl rfl rfl ?_
        refine am_ww h52 ?_
        rintro _ _ ⟨v55, s53, rfl, rfl, h54⟩
        show am_W _ _ 98 89 [(5, .int (a3 + 1)), (4, .int v7), (0, .ref 5), (1, .int a1), (2, .int a2), (3, .int a3)] [.int v55] (zH s53) _
        obtain ⟨o56, h57⟩ := h54
        refine am_wh 6 (pc1 := 134) (lv1 := [(5, .int v55), (4, .int v7), (0, .ref 5), (1, .int a1), (2, .int a2), (3, .int a3)]) (st1 := [.int v55, .int (a3 + 1)]) rfl ?_
        obtain ⟨h59, h60⟩ := h57
        by_cases c58 : (a3.toInt + 1) < v55.toInt
        · refine am_wh 1 (pc1 := 137) (lv1 := [(5, .int v55), (4, .int v7), (0, .ref 5), (1, .int a1), (2, .int a2), (3, .int a3)]) (st1 := .int (if (a3 + 1) < v55 then v55 else (a3 + 1)) :: []) rfl ?_
          rw [zmx_t (zq_add (zq_a _) (by decide)) (zq_a _) o56 (zr_t _) c58]
          have h61 := h59 c58
          refine am_wh 2 (pc1 := 21) (lv1 := [(3, .int v55), (5, .int v55), (4, .int v7), (0, .ref 5), (1, .int a1), (2, .int a2)]) (st1 := []) rfl ?_
          exact am_wm h61 ⟨rfl, rfl, rfl, rfl, trivial⟩
        · refine am_wh 1 (pc1 := 137) (lv1 := [(5, .int v55), (4, .int v7), (0, .ref 5), (1, .int a1), (2, .int a2), (3, .int a3)]) (st1 := .int (if (a3 + 1) < v55 then v55 else (a3 + 1)) :: []) rfl ?_
          rw [zmx_n (zq_add (zq_a _) (by decide)) (zq_a _) o56 (zr_t _) c58]
          have h62 := h60 c58
          refine am_wh 2 (pc1 := 21) (lv1 := [(3, .int (a3 + 1)), (5, .int v55), (4, .int v7), (0, .ref 5), (1, .int a1), (2, .int a2)]) (st1 := []) rfl ?_
          exact am_wm h62 ⟨rfl, rfl, rfl, rfl, trivial⟩
      · refine am_wb2 rfl true (zt_ne (zq_a _) (by decide) (zr_t _) ⟨by decide, by decide⟩ c49) rfl ?_
        have h63 := h51 c49
        refine am_wh 2 (pc1 := 98) (lv1 := [(5, .int (a3 + 1)), (4, .int v7), (0, .ref 5), (1, .int a1), (2, .int a2), (3, .int a3)]) (st1 := [.int 10, .int v7]) rfl ?_
        refine am_wb2 rfl false (zn_eq (zq_a _) (by decide) (zr_t _) ⟨by decide, by decide⟩ c8) rfl ?_
        refine am_wh 2 (pc1 := 105) (lv1 := [(5, .int (a3 + 1)), (4, .int v7), (0, .ref 5), (1, .int a1), (2, .int a2), (3, .int a3)]) (st1 := [.int 32, .int v7]) rfl ?_
        obtain ⟨h65, h66⟩ := h63
        by_cases c64 : v7.toInt = 32
        · refine am_wb2 rfl true (zt_eq (zq_a _) (by decide) (zr_t _) ⟨by decide, by decide⟩ c64) rfl ?_
          have h67 := h65 c64
          obtain ⟨o68, h69⟩ := h67
          refine am_wh 4 (pc1 := 134) (lv1 := [(5, .int (a3 + 1)), (4, .int v7), (0, .ref 5), (1, .int a1), (2, .int a2), (3, .int a3)]) (st1 := [.int (a3 + 1), .int (a3 + 1)]) rfl ?_
          obtain ⟨h71, h72⟩ := h69
          by_cases c70 : (a3.toInt + 1) < (a3.toInt + 1)
          · refine am_wh 1 (pc1 := 137) (lv1 := [(5, .int (a3 + 1)), (4, .int v7), (0, .ref 5), (1, .int a1), (2, .int a2), (3, .int a3)]) (st1 := .int (if (a3 + 1) < (a3 + 1) then (a3 + 1) else (a3 + 1)) :: []) rfl ?_
            rw [zmx_t (zq_add (zq_a _) (by decide)) (zq_add (zq_a _) (by decide)) o68 o68 c70]
            have h73 := h71 c70
            refine am_wh 2 (pc1 := 21) (lv1 := [(3, .int (a3 + 1)), (5, .int (a3 + 1)), (4, .int v7), (0, .ref 5), (1, .int a1), (2, .int a2)]) (st1 := []) rfl ?_
            exact am_wm h73 ⟨rfl, rfl, rfl, rfl, trivial⟩
          · refine am_wh 1 (pc1 := 137) (lv1 := [(5, .int (a3 + 1)), (4, .int v7), (0, .ref 5), (1, .int a1), (2, .int a2), (3, .int a3)]) (st1 := .int (if (a3 + 1) < (a3 + 1) then (a3 + 1) else (a3 + 1)) :: []) rfl ?_
            rw [zmx_n (zq_add (zq_a _) (by decide)) (zq_add (zq_a _) (by decide)) o68 o68 c70]
            have h74 := h72 c70
            refine am_wh 2 (pc1 := 21) (lv1 := [(3, .int (a3 + 1)), (5, .int (a3 + 1)), (4, .int v7), (0, .ref 5), (1, .int a1), (2, .int a2)]) (st1 := []) rfl ?_
            exact am_wm h74 ⟨rfl, rfl, rfl, rfl, trivial⟩
        · refine am_wb2 rfl false (zn_eq (zq_a _) (by decide) (zr_t _) ⟨by decide, by decide⟩ c64) rfl ?_
          have h75 := h66 c64
          refine am_wh 1 (pc1 := 109) (lv1 := [(5, .int (a3 + 1)), (4, .int v7), (0, .ref 5), (1, .int a1), (2, .int a2), (3, .int a3)]) (st1 := [.int a2]) rfl ?_
          obtain ⟨h77, h78⟩ := h75
          by_cases c76 : a2.toInt = 0
          · refine am_wb1 rfl true (zt_eq (zq_a _) (by decide) (zr_t _) ⟨by decide, by decide⟩ c76) rfl ?_
            have h79 := h77 c76
            refine am_wh 4 (pc1 := 124) (lv1 := [(2, .int 0), (5, .int (a3 + 1)), (4, .int v7), (0, .ref 5), (1, .int a1), (3, .int a3)]) (st1 := [.int a3, .ref 5]) rfl ?_
            refine am_wc rfl rfl rfl ?_
            refine am_ww h79 ?_
            rintro _ _ ⟨v82, s80, rfl, rfl, h81⟩
            show am_W _ _ 98 127 [(2, .int 0), (5, .int (a3 + 1)), (4, .int v7), (0, .ref 5), (1, .int a1), (3, .int a3)] [.int v82] (zH s80) _
            obtain ⟨o83, h84⟩ := h81
            refine am_wh 5 (pc1 := 134) (lv1 := [(5, .int v82), (2, .int 0), (4, .int v7), (0, .ref 5), (1, .int a1), (3, .int a3)]) (st1 := [.int v82, .int (a3 + 1)]) rfl ?_
            obtain ⟨h86, h87⟩ := h84
            by_cases c85 : (a3.toInt + 1) < v82.toInt
            · refine am_wh 1 (pc1 := 137) (lv1 := [(5, .int v82), (2, .int 0), (4, .int v7), (0, .ref 5), (1, .int a1), (3, .int a3)]) (st1 := .int (if (a3 + 1) < v82 then v82 else (a3 + 1)) :: []) rfl ?_
              rw [zmx_t (zq_add (zq_a _) (by decide)) (zq_a _) o83 (zr_t _) c85]
              have h88 := h86 c85
              refine am_wh 2 (pc1 := 21) (lv1 := [(3, .int v82), (5, .int v82), (2, .int 0), (4, .int v7), (0, .ref 5), (1, .int a1)]) (st1 := []) rfl ?_
              exact am_wm h88 ⟨rfl, rfl, rfl, rfl, trivial⟩
            · refine am_wh 1 (pc1 := 137) (lv1 := [(5, .int v82), (2, .int 0), (4, .int v7), (0, .ref 5), (1, .int a1), (3, .int a3)]) (st1 := .int (if (a3 + 1) < v82 then v82 else (a3 + 1)) :: []) rfl ?_
              rw [zmx_n (zq_add (zq_a _) (by decide)) (zq_a _) o83 (zr_t _) c85]
              have h89 := h87 c85
              refine am_wh 2 (pc1 := 21) (lv1 := [(3, .int (a3 + 1)), (5, .int v82), (2, .int 0), (4, .int v7), (0, .ref 5), (1, .int a1)]) (st1 := []) rfl ?_
              exact am_wm h89 ⟨rfl, rfl, rfl, rfl, trivial⟩
          · refine am_wb1 rfl false (zn_eq (zq_a _) (by decide) (zr_t _) ⟨by decide, by decide⟩ c76) rfl ?_
            have h90 := h78 c76
            refine am_wh 5 (pc1 := 117) (lv1 := [(5, .int (a3 + 1)), (4, .int v7), (0, .ref 5), (1, .int a1), (2, .int a2), (3, .int a3)]) (st1 := [.int a3, .int (a3 - a1), .ref 5]) rfl ?_
            refine am_wc rfl rfl rfl ?_
            refine am_ww h90 ?_
            rintro _ _ ⟨s91, rfl, rfl, h92⟩
            show am_W _ _ 98 120 [(5, .int (a3 + 1)), (4, .int v7), (0, .ref 5), (1, .int a1), (2, .int a2), (3, .int a3)] [] (zH s91) _
            refine am_wh 4 (pc1 := 124) (lv1 := [(2, .int 0), (5, .int (a3 + 1)), (4, .int v7), (0, .ref 5), (1, .int a1), (3, .int a3)]) (st1 := [.int a3, .ref 5]) rfl ?_
            refine am_wc rfl rfl rfl ?_
            refine am_ww h92 ?_
            rintro _ _ ⟨v95, s93, rfl, rfl, h94⟩
            show am_W _ _ 98 127 [(2, .int 0), (5, .int (a3 + 1)), (4, .int v7), (0, .ref 5), (1, .int a1), (3, .int a3)] [.int v95] (zH s93) _
            obtain ⟨o96, h97⟩ := h94
            refine am_wh 5 (pc1 := 134) (lv1 := [(5, .int v95), (2, .int 0), (4, .int v7), (0, .ref 5), (1, .int a1), (3, .int a3)]) (st1 := [.int v95, .int (a3 + 1)]) rfl ?_
            obtain ⟨h99, h100⟩ := h97
            by_cases c98 : (a3.toInt + 1) < v95.toInt
            · refine am_wh 1 (pc1 := 137) (lv1 := [(5, .int v95), (2, .int 0), (4, .int v7), (0, .ref 5), (1, .int a1), (3, .int a3)]) (st1 := .int (if (a3 + 1) < v95 then v95 else (a3 + 1)) :: []) rfl ?_
              rw [zmx_t (zq_add (zq_a _) (by decide)) (zq_a _) o96 (zr_t _) c98]
              have h101 := h99 c98
              refine am_wh 2 (pc1 := 21) (lv1 := [(3, .int v95), (5, .int v95), (2, .int 0), (4, .int v7), (0, .ref 5), (1, .int a1)]) (st1 := []) rfl ?_
              exact am_wm h101 ⟨rfl, rfl, rfl, rfl, trivial⟩
            · refine am_wh 1 (pc1 := 137) (lv1 := [(5, .int v95), (2, .int 0), (4, .int v7), (0, .ref 5), (1, .int a1), (3, .int a3)]) (st1 := .int (if (a3 + 1) < v95 then v95 else (a3 + 1)) :: []) rfl ?_
              rw [zmx_n (zq_add (zq_a _) (by decide)) (zq_a _) o96 (zr_t _) c98]
              have h102 := h100 c98
              refine am_wh 2 (pc1 := 21) (lv1 := [(3, .int (a3 + 1)), (5, .int v95), (2, .int 0), (4, .int v7), (0, .ref 5), (1, .int a1)]) (st1 := []) rfl ?_
              exact am_wm h102 ⟨rfl, rfl, rfl, rfl, trivial⟩
  · refine am_wb2 rfl true (zt_ge (zq_a _) (zq_a _) (zr_t _) (zr_t _) c1) rfl ?_
    have h103 := h3 c1
    refine am_wh 2 (pc1 := 143) (lv1 := [(0, .ref 5), (1, .int a1), (2, .int a2), (3, .int a3)]) (st1 := [.int a2, .ref 5]) rfl ?_
    refine am_wc rfl rfl rfl ?_
    refine am_ww h103 ?_
    rintro _ _ ⟨s104, rfl, rfl, h105⟩
    show am_W _ _ 98 146 [(0, .ref 5), (1, .int a1), (2, .int a2), (3, .int a3)] [] (zH s104) _
    refine am_wh 1 (pc1 := 147) (lv1 := [(0, .ref 5), (1, .int a1), (2, .int a2), (3, .int a3)]) (st1 := [.ref 5]) rfl ?_
    refine am_wc rfl rfl rfl ?_
    refine am_ww h105 ?_
    rintro _ _ ⟨s106, rfl, rfl, h107⟩
    show am_W _ _ 98 150 [(0, .ref 5), (1, .int a1), (2, .int a2), (3, .int a3)] [] (zH s106) _
    refine am_wr rfl rfl rfl ?_
    exact ⟨_, rfl, rfl, h107⟩
set_option maxRecDepth 100000 in
theorem vc_99_0 (xs : Option (List Int32)) (d : Nat) (s : zS) (a1 : Int32) (Q : zS → Prop) (h : (a1.toInt = 0 → (zWi xs d 96 0 [(0, .ref 5), (1, .int ((s.1 2) - 1))] s (fun v7 s5 => zWv xs d 106 0 [(0, .ref 5), (1, .int 4), (2, .int v7), (3, .int v7)] s5 (fun s8 => Q s8)))) ∧ (¬ a1.toInt = 0 → (Q s))) : zWv xs (d + 1) 99 0 [(0, .ref 5), (1, .int a1)] s Q := by
  unfold zWv
  refine am_wh 1 (pc1 := 1) (lv1 := [(0, .ref 5), (1, .int a1)]) (st1 := [.int a1]) rfl ?_
  obtain ⟨h2, h3⟩ := h
  by_cases c1 : a1.toInt = 0
  · refine am_wb1 rfl false (zn_ne (zq_a _) (by decide) (zr_t _) ⟨by decide, by decide⟩ c1) rfl ?_
    have h4 := h2 c1
    refine am_wh 5 (pc1 := 11) (lv1 := [(0, .ref 5), (1, .int a1)]) (st1 := [.int ((s.1 2) - 1), .ref 5]) rfl ?_
    refine am_wc rfl rfl rfl ?_
    refine am_ww h4 ?_
    rintro _ _ ⟨v7, s5, rfl, rfl, h6⟩
    show am_W _ _ 99 14 [(0, .ref 5), (1, .int a1)] [.int v7] (zH s5) _
    refine am_wh 5 (pc1 := 19) (lv1 := [(2, .int v7), (0, .ref 5), (1, .int a1)]) (st1 := [.int v7, .int v7, .int 4, .ref 5]) rfl ?_
    refine am_wc rfl rfl rfl ?_
    refine am_ww h6 ?_
    rintro _ _ ⟨s8, rfl, rfl, h9⟩
    show am_W _ _ 99 22 [(2, .int v7), (0, .ref 5), (1, .int a1)] [] (zH s8) _
    refine am_wr rfl rfl rfl ?_
    exact ⟨_, rfl, rfl, h9⟩
  · refine am_wb1 rfl true (zt_ne (zq_a _) (by decide) (zr_t _) ⟨by decide, by decide⟩ c1) rfl ?_
    have h10 := h3 c1
    refine am_wr rfl rfl rfl ?_
    exact ⟨_, rfl, rfl, h10⟩
set_option maxRecDepth 100000 in
theorem vc_100_0 (xs : Option (List Int32)) (d : Nat) (s : zS)  (Q : zS → Prop) (h : (1 < (s.1 3).toInt → (zWv xs d 106 0 [(0, .ref 5), (1, .int 6), (2, .int (s.1 1)), (3, .int (s.1 1))] (zf s 3 ((s.1 3) - 1)) (fun s5 => zWv xs (d + 1) 100 0 [(0, .ref 5)] s5 Q))) ∧ (¬ 1 < (s.1 3).toInt → (zWv xs d 106 0 [(0, .ref 5), (1, .int 7), (2, .int (s.1 1)), (3, .int (s.1 1))] s (fun s8 => Q s8)))) : zWv xs (d + 1) 100 0 [(0, .ref 5)] s Q := by
  unfold zWv
  refine am_wh 3 (pc1 := 5) (lv1 := [(0, .ref 5)]) (st1 := [.int 1, .int (s.1 3)]) rfl ?_
  obtain ⟨h2, h3⟩ := h
  by_cases c1 : 1 < (s.1 3).toInt
  · refine am_wb2 rfl false (zn_le (zq_a _) (by decide) (zr_t _) ⟨by decide, by decide⟩ c1) rfl ?_
    have h4 := h2 c1
    refine am_wh 5 (pc1 := 15) (lv1 := [(0, .ref 5)]) (st1 := [.int ((s.1 3) - 1), .ref 5]) rfl ?_
    refine am_w0 (z := (18, [(0, .ref 5)], [], zH (zf s 3 ((s.1 3) - 1)))) rfl rfl (zp_3 ) ?_
    refine am_wh 8 (pc1 := 35) (lv1 := [(0, .ref 5)]) (st1 := [.int (s.1 1), .int (s.1 1), .int 6, .ref 5]) rfl ?_
    refine am_wc rfl rfl rfl ?_
    refine am_ww h4 ?_
    rintro _ _ ⟨s5, rfl, rfl, h6⟩
    show am_W _ _ 100 38 [(0, .ref 5)] [] (zH s5) _
    refine am_wh 1 (pc1 := 0) (lv1 := [(0, .ref 5)]) (st1 := []) rfl ?_
    exact am_wm h6 ⟨rfl, trivial⟩
  · refine am_wb2 rfl true (zt_le (zq_a _) (by decide) (zr_t _) ⟨by decide, by decide⟩ c1) rfl ?_
    have h7 := h3 c1
    refine am_wh 8 (pc1 := 58) (lv1 := [(0, .ref 5)]) (st1 := [.int (s.1 1), .int (s.1 1), .int 7, .ref 5]) rfl ?_
    refine am_wc rfl rfl rfl ?_
    refine am_ww h7 ?_
    rintro _ _ ⟨s8, rfl, rfl, h9⟩
    show am_W _ _ 100 61 [(0, .ref 5)] [] (zH s8) _
    refine am_wr rfl rfl rfl ?_
    exact ⟨_, rfl, rfl, h9⟩
set_option maxRecDepth 100000 in
theorem vc_101_0 (xs : Option (List Int32)) (d : Nat) (s : zS) (a1 : Int32) (a2 : Int32) (Q : zS → Prop) (h : zWi xs d 102 0 [(0, .ref 5)] s (fun v3 s1 => (v3.toInt < a1.toInt → (((s1.1 3).toInt < 24 → (zX (s1.2 7) (s1.1 3).toInt ∧ zWv xs d 106 0 [(0, .ref 5), (1, .int 5), (2, .int a2), (3, .int a2)] (zf (za s1 7 (zu (s1.2 7) (s1.1 3).toInt a1)) 3 ((s1.1 3) + 1)) (fun s14 => Q s14))) ∧ (¬ (s1.1 3).toInt < 24 → (zWv xs d 106 0 [(0, .ref 5), (1, .int 5), (2, .int a2), (3, .int a2)] s1 (fun s17 => Q s17))))) ∧ (¬ v3.toInt < a1.toInt → (zWv xs (d + 1) 101 45 [(0, .ref 5), (1, .int a1), (2, .int a2)] s1 Q)))) : zWv xs (d + 1) 101 0 [(0, .ref 5), (1, .int a1), (2, .int a2)] s Q := by
  unfold zWv
  refine am_wh 2 (pc1 := 2) (lv1 := [(0, .ref 5), (1, .int a1), (2, .int a2)]) (st1 := [.ref 5, .int a1]) rfl ?_
  refine am_wc rfl rfl rfl ?_
  refine am_ww h ?_
  rintro _ _ ⟨v3, s1, rfl, rfl, h2⟩
  show am_W _ _ 101 5 [(0, .ref 5), (1, .int a1), (2, .int a2)] [.int v3, .int a1] (zH s1) _
  obtain ⟨h5, h6⟩ := h2
  by_cases c4 : v3.toInt < a1.toInt
  · refine am_wb2 rfl false (zn_le (zq_a _) (zq_a _) (zr_t _) (zr_t _) c4) rfl ?_
    have h7 := h5 c4
    refine am_wh 3 (pc1 := 14) (lv1 := [(0, .ref 5), (1, .int a1), (2, .int a2)]) (st1 := [.int 24, .int (s1.1 3)]) rfl ?_
    obtain ⟨h9, h10⟩ := h7
    by_cases c8 : (s1.1 3).toInt < 24
    · refine am_wb2 rfl false (zn_ge (zq_a _) (by decide) (zr_t _) ⟨by decide, by decide⟩ c8) rfl ?_
      have h11 := h9 c8
      refine am_wh 5 (pc1 := 26) (lv1 := [(0, .ref 5), (1, .int a1), (2, .int a2)]) (st1 := [.int a1, .int (s1.1 3), .ref 9]) rfl ?_
      obtain ⟨o12, h13⟩ := h11
      refine zw_si (l := (s1.2 7)) (i := (s1.1 3).toInt) rfl rfl (zq_a _) o12 (zh_7 _ _) ?_
      refine am_wh 5 (pc1 := 34) (lv1 := [(0, .ref 5), (1, .int a1), (2, .int a2)]) (st1 := [.int ((s1.1 3) + 1), .ref 5]) rfl ?_
      refine am_w0 (z := (37, [(0, .ref 5), (1, .int a1), (2, .int a2)], [], zH (zf (za s1 7 (zu (s1.2 7) (s1.1 3).toInt a1)) 3 ((s1.1 3) + 1)))) rfl rfl (zp_3 ) ?_
      refine am_wh 4 (pc1 := 41) (lv1 := [(0, .ref 5), (1, .int a1), (2, .int a2)]) (st1 := [.int a2, .int a2, .int 5, .ref 5]) rfl ?_
      refine am_wc rfl rfl rfl ?_
      refine am_ww h13 ?_
      rintro _ _ ⟨s14, rfl, rfl, h15⟩
      show am_W _ _ 101 44 [(0, .ref 5), (1, .int a1), (2, .int a2)] [] (zH s14) _
      refine am_wr rfl rfl rfl ?_
      exact ⟨_, rfl, rfl, h15⟩
    · refine am_wb2 rfl true (zt_ge (zq_a _) (by decide) (zr_t _) ⟨by decide, by decide⟩ c8) rfl ?_
      have h16 := h10 c8
      refine am_wh 4 (pc1 := 41) (lv1 := [(0, .ref 5), (1, .int a1), (2, .int a2)]) (st1 := [.int a2, .int a2, .int 5, .ref 5]) rfl ?_
      refine am_wc rfl rfl rfl ?_
      refine am_ww h16 ?_
      rintro _ _ ⟨s17, rfl, rfl, h18⟩
      show am_W _ _ 101 44 [(0, .ref 5), (1, .int a1), (2, .int a2)] [] (zH s17) _
      refine am_wr rfl rfl rfl ?_
      exact ⟨_, rfl, rfl, h18⟩
  · refine am_wb2 rfl true (zt_le (zq_a _) (zq_a _) (zr_t _) (zr_t _) c4) rfl ?_
    have h19 := h6 c4
    exact am_wm h19 ⟨rfl, rfl, rfl, trivial⟩
set_option maxRecDepth 100000 in
theorem vc_101_45 (xs : Option (List Int32)) (d : Nat) (s : zS) (a1 : Int32) (a2 : Int32) (Q : zS → Prop) (h : (1 < (s.1 3).toInt → (zX (s.2 7) ((s.1 3).toInt - 1) ∧ (a1.toInt < (zg (s.2 7) ((s.1 3).toInt - 1)).toInt → (zWv xs d 106 0 [(0, .ref 5), (1, .int 6), (2, .int a2), (3, .int a2)] (zf s 3 ((s.1 3) - 1)) (fun s11 => zWv xs (d + 1) 101 45 [(0, .ref 5), (1, .int a1), (2, .int a2)] s11 Q))) ∧ (¬ a1.toInt < (zg (s.2 7) ((s.1 3).toInt - 1)).toInt → (zWi xs d 102 0 [(0, .ref 5)] s (fun v16 s14 => (v16.toInt = a1.toInt → (Q s14)) ∧ (¬ v16.toInt = a1.toInt → (zWv xs d 106 0 [(0, .ref 5), (1, .int 8), (2, .int a2), (3, .int a2)] s14 (fun s22 => Q s22)))))))) ∧ (¬ 1 < (s.1 3).toInt → (zWi xs d 102 0 [(0, .ref 5)] s (fun v27 s25 => (v27.toInt = a1.toInt → (Q s25)) ∧ (¬ v27.toInt = a1.toInt → (zWv xs d 106 0 [(0, .ref 5), (1, .int 8), (2, .int a2), (3, .int a2)] s25 (fun s33 => Q s33))))))) : zWv xs (d + 1) 101 45 [(0, .ref 5), (1, .int a1), (2, .int a2)] s Q := by
  unfold zWv
  refine am_wh 3 (pc1 := 50) (lv1 := [(0, .ref 5), (1, .int a1), (2, .int a2)]) (st1 := [.int 1, .int (s.1 3)]) rfl ?_
  obtain ⟨h2, h3⟩ := h
  by_cases c1 : 1 < (s.1 3).toInt
  · refine am_wb2 rfl false (zn_le (zq_a _) (by decide) (zr_t _) ⟨by decide, by decide⟩ c1) rfl ?_
    have h4 := h2 c1
    refine am_wh 6 (pc1 := 63) (lv1 := [(0, .ref 5), (1, .int a1), (2, .int a2)]) (st1 := [.int ((s.1 3) - 1), .ref 9]) rfl ?_
    obtain ⟨o5, h6⟩ := h4
    refine zw_li (l := (s.2 7)) (i := ((s.1 3).toInt - 1)) rfl rfl (zq_sub (zq_a _) (by decide)) o5 ?_
    refine am_wh 1 (pc1 := 65) (lv1 := [(0, .ref 5), (1, .int a1), (2, .int a2)]) (st1 := [.int a1, .int (zg (s.2 7) ((s.1 3).toInt - 1))]) rfl ?_
    obtain ⟨h8, h9⟩ := h6
    by_cases c7 : a1.toInt < (zg (s.2 7) ((s.1 3).toInt - 1)).toInt
    · refine am_wb2 rfl false (zn_le (zq_a _) (zq_a _) (zr_t _) (zr_t _) c7) rfl ?_
      have h10 := h8 c7
      refine am_wh 5 (pc1 := 75) (lv1 := [(0, .ref 5), (1, .int a1), (2, .int a2)]) (st1 := [.int ((s.1 3) - 1), .ref 5]) rfl ?_
      refine am_w0 (z := (78, [(0, .ref 5), (1, .int a1), (2, .int a2)], [], zH (zf s 3 ((s.1 3) - 1)))) rfl rfl (zp_3 ) ?_
      refine am_wh 4 (pc1 := 83) (lv1 := [(0, .ref 5), (1, .int a1), (2, .int a2)]) (st1 := [.int a2, .int a2, .int 6, .ref 5]) rfl ?_
      refine am_wc rfl rfl rfl ?_
      refine am_ww h10 ?_
      rintro _ _ ⟨s11, rfl, rfl, h12⟩
      show am_W _ _ 101 86 [(0, .ref 5), (1, .int a1), (2, .int a2)] [] (zH s11) _
      refine am_wh 1 (pc1 := 45) (lv1 := [(0, .ref 5), (1, .int a1), (2, .int a2)]) (st1 := []) rfl ?_
      exact am_wm h12 ⟨rfl, rfl, rfl, trivial⟩
    · refine am_wb2 rfl true (zt_le (zq_a _) (zq_a _) (zr_t _) (zr_t _) c7) rfl ?_
      have h13 := h9 c7
      refine am_wh 1 (pc1 := 90) (lv1 := [(0, .ref 5), (1, .int a1), (2, .int a2)]) (st1 := [.ref 5]) rfl ?_
      refine am_wc rfl rfl rfl ?_
      refine am_ww h13 ?_
      rintro _ _ ⟨v16, s14, rfl, rfl, h15⟩
      show am_W _ _ 101 93 [(0, .ref 5), (1, .int a1), (2, .int a2)] [.int v16] (zH s14) _
      refine am_wh 1 (pc1 := 94) (lv1 := [(0, .ref 5), (1, .int a1), (2, .int a2)]) (st1 := [.int a1, .int v16]) rfl ?_
      obtain ⟨h18, h19⟩ := h15
      by_cases c17 : v16.toInt = a1.toInt
      · refine am_wb2 rfl true (zt_eq (zq_a _) (zq_a _) (zr_t _) (zr_t _) c17) rfl ?_
        have h20 := h18 c17
        refine am_wr rfl rfl rfl ?_
        exact ⟨_, rfl, rfl, h20⟩
      · refine am_wb2 rfl false (zn_eq (zq_a _) (zq_a _) (zr_t _) (zr_t _) c17) rfl ?_
        have h21 := h19 c17
        refine am_wh 4 (pc1 := 102) (lv1 := [(0, .ref 5), (1, .int a1), (2, .int a2)]) (st1 := [.int a2, .int a2, .int 8, .ref 5]) rfl ?_
        refine am_wc rfl rfl rfl ?_
        refine am_ww h21 ?_
        rintro _ _ ⟨s22, rfl, rfl, h23⟩
        show am_W _ _ 101 105 [(0, .ref 5), (1, .int a1), (2, .int a2)] [] (zH s22) _
        refine am_wr rfl rfl rfl ?_
        exact ⟨_, rfl, rfl, h23⟩
  · refine am_wb2 rfl true (zt_le (zq_a _) (by decide) (zr_t _) ⟨by decide, by decide⟩ c1) rfl ?_
    have h24 := h3 c1
    refine am_wh 1 (pc1 := 90) (lv1 := [(0, .ref 5), (1, .int a1), (2, .int a2)]) (st1 := [.ref 5]) rfl ?_
    refine am_wc rfl rfl rfl ?_
    refine am_ww h24 ?_
    rintro _ _ ⟨v27, s25, rfl, rfl, h26⟩
    show am_W _ _ 101 93 [(0, .ref 5), (1, .int a1), (2, .int a2)] [.int v27] (zH s25) _
    refine am_wh 1 (pc1 := 94) (lv1 := [(0, .ref 5), (1, .int a1), (2, .int a2)]) (st1 := [.int a1, .int v27]) rfl ?_
    obtain ⟨h29, h30⟩ := h26
    by_cases c28 : v27.toInt = a1.toInt
    · refine am_wb2 rfl true (zt_eq (zq_a _) (zq_a _) (zr_t _) (zr_t _) c28) rfl ?_
      have h31 := h29 c28
      refine am_wr rfl rfl rfl ?_
      exact ⟨_, rfl, rfl, h31⟩
    · refine am_wb2 rfl false (zn_eq (zq_a _) (zq_a _) (zr_t _) (zr_t _) c28) rfl ?_
      have h32 := h30 c28
      refine am_wh 4 (pc1 := 102) (lv1 := [(0, .ref 5), (1, .int a1), (2, .int a2)]) (st1 := [.int a2, .int a2, .int 8, .ref 5]) rfl ?_
      refine am_wc rfl rfl rfl ?_
      refine am_ww h32 ?_
      rintro _ _ ⟨s33, rfl, rfl, h34⟩
      show am_W _ _ 101 105 [(0, .ref 5), (1, .int a1), (2, .int a2)] [] (zH s33) _
      refine am_wr rfl rfl rfl ?_
      exact ⟨_, rfl, rfl, h34⟩
set_option maxRecDepth 100000 in
theorem vc_102_0 (xs : Option (List Int32)) (d : Nat) (s : zS)  (Q : Int32 → zS → Prop) (h : (1 < (s.1 3).toInt → (zX (s.2 7) ((s.1 3).toInt - 1) ∧ Q (zg (s.2 7) ((s.1 3).toInt - 1)) s)) ∧ (¬ 1 < (s.1 3).toInt → (Q 0 s))) : zWi xs d 102 0 [(0, .ref 5)] s Q := by
  unfold zWi
  refine am_wh 3 (pc1 := 5) (lv1 := [(0, .ref 5)]) (st1 := [.int 1, .int (s.1 3)]) rfl ?_
  obtain ⟨h2, h3⟩ := h
  by_cases c1 : 1 < (s.1 3).toInt
  · refine am_wb2 rfl false (zn_le (zq_a _) (by decide) (zr_t _) ⟨by decide, by decide⟩ c1) rfl ?_
    have h4 := h2 c1
    refine am_wh 6 (pc1 := 18) (lv1 := [(0, .ref 5)]) (st1 := [.int ((s.1 3) - 1), .ref 9]) rfl ?_
    obtain ⟨o5, h6⟩ := h4
    refine zw_li (l := (s.2 7)) (i := ((s.1 3).toInt - 1)) rfl rfl (zq_sub (zq_a _) (by decide)) o5 ?_
    refine am_wh 1 (pc1 := 23) (lv1 := [(0, .ref 5)]) (st1 := [.int (zg (s.2 7) ((s.1 3).toInt - 1))]) rfl ?_
    refine am_wr rfl rfl rfl ?_
    exact ⟨_, _, rfl, rfl, h6⟩
  · refine am_wb2 rfl true (zt_le (zq_a _) (by decide) (zr_t _) ⟨by decide, by decide⟩ c1) rfl ?_
    have h7 := h3 c1
    refine am_wh 1 (pc1 := 23) (lv1 := [(0, .ref 5)]) (st1 := [.int 0]) rfl ?_
    refine am_wr rfl rfl rfl ?_
    exact ⟨_, _, rfl, rfl, h7⟩
set_option maxRecDepth 100000 in
theorem vc_103_0 (xs : Option (List Int32)) (d : Nat) (s : zS) (a1 : Int32) (Q : Int32 → zS → Prop) (h : zWi xs d 85 0 [(0, .ref 3), (1, .int a1)] s (fun v3 s1 => zWi xs d 83 0 [(0, .int v3)] s1 (fun v6 s4 => (v6.toInt = 0 → (zWi xs d 82 0 [(0, .int v3)] s4 (fun v13 s11 => (v13.toInt = 0 → ((v3.toInt = 58 → (zWi xs d 85 0 [(0, .ref 3), (1, .int (a1 + 1))] s11 (fun v24 s22 => (v24.toInt = 61 → (zWv xs d 106 0 [(0, .ref 5), (1, .int 128), (2, .int a1), (3, .int (a1 + 2))] s22 (fun s29 => Q (a1 + 2) s29))) ∧ (¬ v24.toInt = 61 → (zWi xs d 104 0 [(0, .int v3)] s22 (fun v34 s32 => (v34.toInt = 0 → (zWv xs d 106 0 [(0, .ref 5), (1, .int 8), (2, .int a1), (3, .int (a1 + 1))] s32 (fun s39 => Q (a1 + 1) s39))) ∧ (¬ v34.toInt = 0 → (zWv xs d 105 0 [(0, .ref 5), (1, .int v3)] s32 (fun s42 => zWv xs d 106 0 [(0, .ref 5), (1, .int v3), (2, .int a1), (3, .int (a1 + 1))] s42 (fun s44 => Q (a1 + 1) s44)))))))))) ∧ (¬ v3.toInt = 58 → (zWi xs d 104 0 [(0, .int v3)] s11 (fun v49 s47 => (v49.toInt = 0 → (zWv xs d 106 0 [(0, .ref 5), (1, .int 8), (2, .int a1), (3, .int (a1 + 1))] s47 (fun s54 => Q (a1 + 1) s54))) ∧ (¬ v49.toInt = 0 → (zWv xs d 105 0 [(0, .ref 5), (1, .int v3)] s47 (fun s57 => zWv xs d 106 0 [(0, .ref 5), (1, .int v3), (2, .int a1), (3, .int (a1 + 1))] s57 (fun s59 => Q (a1 + 1) s59))))))))) ∧ (¬ v13.toInt = 0 → (zWi xs d 88 0 [(0, .ref 3), (1, .int a1)] s11 (fun v64 s62 => zWv xs d 106 0 [(0, .ref 5), (1, .int 1), (2, .int a1), (3, .int v64)] s62 (fun s65 => Q v64 s65))))))) ∧ (¬ v6.toInt = 0 → (zWi xs d 89 0 [(0, .ref 3), (1, .int a1)] s4 (fun v70 s68 => zWl xs d 91 0 [(0, .ref 3), (1, .int a1), (2, .int v70)] s68 (fun v73 s71 => zWi xs d 93 0 [(0, .long v73)] s71 (fun v76 s74 => zWv xs d 106 0 [(0, .ref 5), (1, .int v76), (2, .int a1), (3, .int v70)] s74 (fun s77 => Q v70 s77))))))))) : zWi xs (d + 1) 103 0 [(0, .ref 5), (1, .int a1)] s Q := by
  unfold zWi
  refine am_wh 3 (pc1 := 5) (lv1 := [(0, .ref 5), (1, .int a1)]) (st1 := [.int a1, .ref 3]) rfl ?_
  refine am_wc rfl rfl rfl ?_
  refine am_ww h ?_
  rintro _ _ ⟨v3, s1, rfl, rfl, h2⟩
  show am_W _ _ 103 8 [(0, .ref 5), (1, .int a1)] [.int v3] (zH s1) _
  refine am_wh 8 (pc1 := 18) (lv1 := [(4, .int 8), (3, .int (a1 + 1)), (2, .int v3), (0, .ref 5), (1, .int a1)]) (st1 := [.int v3]) rfl ?_
  refine am_wc rfl rfl rfl ?_
  refine am_ww h2 ?_
  rintro _ _ ⟨v6, s4, rfl, rfl, h5⟩
  show am_W _ _ 103 21 [(4, .int 8), (3, .int (a1 + 1)), (2, .int v3), (0, .ref 5), (1, .int a1)] [.int v6] (zH s4) _
  obtain ⟨h8, h9⟩ := h5
  by_cases c7 : v6.toInt = 0
  · refine am_wb1 rfl true (zt_eq (zq_a _) (by decide) (zr_t _) ⟨by decide, by decide⟩ c7) rfl ?_
    have h10 := h8 c7
    refine am_wh 1 (pc1 := 51) (lv1 := [(4, .int 8), (3, .int (a1 + 1)), (2, .int v3), (0, .ref 5), (1, .int a1)]) (st1 := [.int v3]) rfl ?_
    refine am_wc rfl rfl rfl ?_
    refine am_ww h10 ?_
    rintro _ _ ⟨v13, s11, rfl, rfl, h12⟩
    show am_W _ _ 103 54 [(4, .int 8), (3, .int (a1 + 1)), (2, .int v3), (0, .ref 5), (1, .int a1)] [.int v13] (zH s11) _
    obtain ⟨h15, h16⟩ := h12
    by_cases c14 : v13.toInt = 0
    · refine am_wb1 rfl true (zt_eq (zq_a _) (by decide) (zr_t _) ⟨by decide, by decide⟩ c14) rfl ?_
      have h17 := h15 c14
      refine am_wh 2 (pc1 := 75) (lv1 := [(4, .int 8), (3, .int (a1 + 1)), (2, .int v3), (0, .ref 5), (1, .int a1)]) (st1 := [.int 58, .int v3]) rfl ?_
      obtain ⟨h19, h20⟩ := h17
      by_cases c18 : v3.toInt = 58
      · refine am_wb2 rfl false (zn_ne (zq_a _) (by decide) (zr_t _) ⟨by decide, by decide⟩ c18) rfl ?_
        have h21 := h19 c18
        refine am_wh 5 (pc1 := 85) (lv1 := [(4, .int 8), (3, .int (a1 + 1)), (2, .int v3), (0, .ref 5), (1, .int a1)]) (st1 := [.int (a1 + 1), .ref 3]) rfl ?_
        refine am_wc rfl rfl rfl ?_
        refine am_ww h21 ?_
        rintro _ _ ⟨v24, s22, rfl, rfl, h23⟩
        show am_W _ _ 103 88 [(4, .int 8), (3, .int (a1 + 1)), (2, .int v3), (0, .ref 5), (1, .int a1)] [.int v24] (zH s22) _
        refine am_wh 1 (pc1 := 90) (lv1 := [(4, .int 8), (3, .int (a1 + 1)), (2, .int v3), (0, .ref 5), (1, .int a1)]) (st1 := [.int 61, .int v24]) rfl ?_
        obtain ⟨h26, h27⟩ := h23
        by_cases c25 : v24.toInt = 61
        · refine am_wb2 rfl false (zn_ne (zq_a _) (by decide) (zr_t _) ⟨by decide, by decide⟩ c25) rfl ?_
          have h28 := h26 c25
          refine am_wh 11 (pc1 := 125) (lv1 := [(4, .int 128), (3, .int (a1 + 2)), (2, .int v3), (0, .ref 5), (1, .int a1)]) (st1 := [.int (a1 + 2), .int a1, .int 128, .ref 5]) rfl ?_
          refine am_wc rfl rfl rfl ?_
          refine am_ww h28 ?_
          rintro _ _ ⟨s29, rfl, rfl, h30⟩
          show am_W _ _ 103 128 [(4, .int 128), (3, .int (a1 + 2)), (2, .int v3), (0, .ref 5), (1, .int a1)] [] (zH s29) _
          refine am_wh 1 (pc1 := 129) (lv1 := [(4, .int 128), (3, .int (a1 + 2)), (2, .int v3), (0, .ref 5), (1, .int a1)]) (st1 := [.int (a1 + 2)]) rfl ?_
          refine am_wr rfl rfl rfl ?_
          exact ⟨_, _, rfl, rfl, h30⟩
        · refine am_wb2 rfl true (zt_ne (zq_a _) (by decide) (zr_t _) ⟨by decide, by decide⟩ c25) rfl ?_
          have h31 := h27 c25
          refine am_wh 1 (pc1 := 106) (lv1 := [(4, .int 8), (3, .int (a1 + 1)), (2, .int v3), (0, .ref 5), (1, .int a1)]) (st1 := [.int v3]) rfl ?_
          refine am_wc rfl rfl rfl ?_
          refine am_ww h31 ?_
          rintro _ _ ⟨v34, s32, rfl, rfl, h33⟩
          show am_W _ _ 103 109 [(4, .int 8), (3, .int (a1 + 1)), (2, .int v3), (0, .ref 5), (1, .int a1)] [.int v34] (zH s32) _
          obtain ⟨h36, h37⟩ := h33
          by_cases c35 : v34.toInt = 0
          · refine am_wb1 rfl true (zt_eq (zq_a _) (by decide) (zr_t _) ⟨by decide, by decide⟩ c35) rfl ?_
            have h38 := h36 c35
            refine am_wh 4 (pc1 := 125) (lv1 := [(4, .int 8), (3, .int (a1 + 1)), (2, .int v3), (0, .ref 5), (1, .int a1)]) (st1 := [.int (a1 + 1), .int a1, .int 8, .ref 5]) rfl ?_
            refine am_wc rfl rfl rfl ?_
            refine am_ww h38 ?_
            rintro _ _ ⟨s39, rfl, rfl, h40⟩
            show am_W _ _ 103 128 [(4, .int 8), (3, .int (a1 + 1)), (2, .int v3), (0, .ref 5), (1, .int a1)] [] (zH s39) _
            refine am_wh 1 (pc1 := 129) (lv1 := [(4, .int 8), (3, .int (a1 + 1)), (2, .int v3), (0, .ref 5), (1, .int a1)]) (st1 := [.int (a1 + 1)]) rfl ?_
            refine am_wr rfl rfl rfl ?_
            exact ⟨_, _, rfl, rfl, h40⟩
          · refine am_wb1 rfl false (zn_eq (zq_a _) (by decide) (zr_t _) ⟨by decide, by decide⟩ c35) rfl ?_
            have h41 := h37 c35
            refine am_wh 4 (pc1 := 117) (lv1 := [(4, .int v3), (3, .int (a1 + 1)), (2, .int v3), (0, .ref 5), (1, .int a1)]) (st1 := [.int v3, .ref 5]) rfl ?_
            refine am_wc rfl rfl rfl ?_
            refine am_ww h41 ?_
            rintro _ _ ⟨s42, rfl, rfl, h43⟩
            show am_W _ _ 103 120 [(4, .int v3), (3, .int (a1 + 1)), (2, .int v3), (0, .ref 5), (1, .int a1)] [] (zH s42) _
            refine am_wh 4 (pc1 := 125) (lv1 := [(4, .int v3), (3, .int (a1 + 1)), (2, .int v3), (0, .ref 5), (1, .int a1)]) (st1 := [.int (a1 + 1), .int a1, .int v3, .ref 5]) rfl ?_
            refine am_wc rfl rfl rfl ?_
            refine am_ww h43 ?_
            rintro _ _ ⟨s44, rfl, rfl, h45⟩
            show am_W _ _ 103 128 [(4, .int v3), (3, .int (a1 + 1)), (2, .int v3), (0, .ref 5), (1, .int a1)] [] (zH s44) _
            refine am_wh 1 (pc1 := 129) (lv1 := [(4, .int v3), (3, .int (a1 + 1)), (2, .int v3), (0, .ref 5), (1, .int a1)]) (st1 := [.int (a1 + 1)]) rfl ?_
            refine am_wr rfl rfl rfl ?_
            exact ⟨_, _, rfl, rfl, h45⟩
      · refine am_wb2 rfl true (zt_ne (zq_a _) (by decide) (zr_t _) ⟨by decide, by decide⟩ c18) rfl ?_
        have h46 := h20 c18
        refine am_wh 1 (pc1 := 106) (lv1 := [(4, .int 8), (3, .int (a1 + 1)), (2, .int v3), (0, .ref 5), (1, .int a1)]) (st1 := [.int v3]) rfl ?_
        refine am_wc rfl rfl rfl ?_
        refine am_ww h46 ?_
        rintro _ _ ⟨v49, s47, rfl, rfl, h48⟩
        show am_W _ _ 103 109 [(4, .int 8), (3, .int (a1 + 1)), (2, .int v3), (0, .ref 5), (1, .int a1)] [.int v49] (zH s47) _
        obtain ⟨h51, h52⟩ := h48
        by_cases c50 : v49.toInt = 0
        · refine am_wb1 rfl true (zt_eq (zq_a _) (by decide) (zr_t _) ⟨by decide, by decide⟩ c50) rfl ?_
          have h53 := h51 c50
          refine am_wh 4 (pc1 := 125) (lv1 := [(4, .int 8), (3, .int (a1 + 1)), (2, .int v3), (0, .ref 5), (1, .int a1)]) (st1 := [.int (a1 + 1), .int a1, .int 8, .ref 5]) rfl ?_
          refine am_wc rfl rfl rfl ?_
          refine am_ww h53 ?_
          rintro _ _ ⟨s54, rfl, rfl, h55⟩
          show am_W _ _ 103 128 [(4, .int 8), (3, .int (a1 + 1)), (2, .int v3), (0, .ref 5), (1, .int a1)] [] (zH s54) _
          refine am_wh 1 (pc1 := 129) (lv1 := [(4, .int 8), (3, .int (a1 + 1)), (2, .int v3), (0, .ref 5), (1, .int a1)]) (st1 := [.int (a1 + 1)]) rfl ?_
          refine am_wr rfl rfl rfl ?_
          exact ⟨_, _, rfl, rfl, h55⟩
        · refine am_wb1 rfl false (zn_eq (zq_a _) (by decide) (zr_t _) ⟨by decide, by decide⟩ c50) rfl ?_
          have h56 := h52 c50
          refine am_wh 4 (pc1 := 117) (lv1 := [(4, .int v3), (3, .int (a1 + 1)), (2, .int v3), (0, .ref 5), (1, .int a1)]) (st1 := [.int v3, .ref 5]) rfl ?_
          refine am_wc rfl rfl rfl ?_
          refine am_ww h56 ?_
          rintro _ _ ⟨s57, rfl, rfl, h58⟩
          show am_W _ _ 103 120 [(4, .int v3), (3, .int (a1 + 1)), (2, .int v3), (0, .ref 5), (1, .int a1)] [] (zH s57) _
          refine am_wh 4 (pc1 := 125) (lv1 := [(4, .int v3), (3, .int (a1 + 1)), (2, .int v3), (0, .ref 5), (1, .int a1)]) (st1 := [.int (a1 + 1), .int a1, .int v3, .ref 5]) rfl ?_
          refine am_wc rfl rfl rfl ?_
          refine am_ww h58 ?_
          rintro _ _ ⟨s59, rfl, rfl, h60⟩
          show am_W _ _ 103 128 [(4, .int v3), (3, .int (a1 + 1)), (2, .int v3), (0, .ref 5), (1, .int a1)] [] (zH s59) _
          refine am_wh 1 (pc1 := 129) (lv1 := [(4, .int v3), (3, .int (a1 + 1)), (2, .int v3), (0, .ref 5), (1, .int a1)]) (st1 := [.int (a1 + 1)]) rfl ?_
          refine am_wr rfl rfl rfl ?_
          exact ⟨_, _, rfl, rfl, h60⟩
    · refine am_wb1 rfl false (zn_eq (zq_a _) (by decide) (zr_t _) ⟨by decide, by decide⟩ c14) rfl ?_
      have h61 := h16 c14
      refine am_wh 3 (pc1 := 62) (lv1 := [(4, .int 8), (3, .int (a1 + 1)), (2, .int v3), (0, .ref 5), (1, .int a1)]) (st1 := [.int a1, .ref 3]) rfl ?_
      refine am_wc rfl rfl rfl ?_
      refine am_ww h61 ?_
      rintro _ _ ⟨v64, s62, rfl, rfl, h63⟩
      show am_W _ _ 103 65 [(4, .int 8), (3, .int (a1 + 1)), (2, .int v3), (0, .ref 5), (1, .int a1)] [.int v64] (zH s62) _
      refine am_wh 8 (pc1 := 125) (lv1 := [(4, .int 1), (3, .int v64), (2, .int v3), (0, .ref 5), (1, .int a1)]) (st1 := [.int v64, .int a1, .int 1, .ref 5]) rfl ?_
      refine am_wc rfl rfl rfl ?_
      refine am_ww h63 ?_
      rintro _ _ ⟨s65, rfl, rfl, h66⟩
      show am_W _ _ 103 128 [(4, .int 1), (3, .int v64), (2, .int v3), (0, .ref 5), (1, .int a1)] [] (zH s65) _
      refine am_wh 1 (pc1 := 129) (lv1 := [(4, .int 1), (3, .int v64), (2, .int v3), (0, .ref 5), (1, .int a1)]) (st1 := [.int v64]) rfl ?_
      refine am_wr rfl rfl rfl ?_
      exact ⟨_, _, rfl, rfl, h66⟩
  · refine am_wb1 rfl false (zn_eq (zq_a _) (by decide) (zr_t _) ⟨by decide, by decide⟩ c7) rfl ?_
    have h67 := h9 c7
    refine am_wh 3 (pc1 := 29) (lv1 := [(4, .int 8), (3, .int (a1 + 1)), (2, .int v3), (0, .ref 5), (1, .int a1)]) (st1 := [.int a1, .ref 3]) rfl ?_
    refine am_wc rfl rfl rfl ?_
    refine am_ww h67 ?_
    rintro _ _ ⟨v70, s68, rfl, rfl, h69⟩
    show am_W _ _ 103 32 [(4, .int 8), (3, .int (a1 + 1)), (2, .int v3), (0, .ref 5), (1, .int a1)] [.int v70] (zH s68) _
    refine am_wh 5 (pc1 := 39) (lv1 := [(3, .int v70), (4, .int 8), (2, .int v3), (0, .ref 5), (1, .int a1)]) (st1 := [.int v70, .int a1, .ref 3]) rfl ?_
    refine am_wc rfl rfl rfl ?_
    refine am_ww h69 ?_
    rintro _ _ ⟨v73, s71, rfl, rfl, h72⟩
    show am_W _ _ 103 42 [(3, .int v70), (4, .int 8), (2, .int v3), (0, .ref 5), (1, .int a1)] [.long v73] (zH s71) _
    refine am_wc rfl rfl rfl ?_
    refine am_ww h72 ?_
    rintro _ _ ⟨v76, s74, rfl, rfl, h75⟩
    show am_W _ _ 103 45 [(3, .int v70), (4, .int 8), (2, .int v3), (0, .ref 5), (1, .int a1)] [.int v76] (zH s74) _
    refine am_wh 6 (pc1 := 125) (lv1 := [(4, .int v76), (3, .int v70), (2, .int v3), (0, .ref 5), (1, .int a1)]) (st1 := [.int v70, .int a1, .int v76, .ref 5]) rfl ?_
    refine am_wc rfl rfl rfl ?_
    refine am_ww h75 ?_
    rintro _ _ ⟨s77, rfl, rfl, h78⟩
    show am_W _ _ 103 128 [(4, .int v76), (3, .int v70), (2, .int v3), (0, .ref 5), (1, .int a1)] [] (zH s77) _
    refine am_wh 1 (pc1 := 129) (lv1 := [(4, .int v76), (3, .int v70), (2, .int v3), (0, .ref 5), (1, .int a1)]) (st1 := [.int v70]) rfl ?_
    refine am_wr rfl rfl rfl ?_
    exact ⟨_, _, rfl, rfl, h78⟩
set_option maxRecDepth 100000 in
theorem vc_104_0 (xs : Option (List Int32)) (d : Nat) (s : zS) (a0 : Int32) (Q : Int32 → zS → Prop) (h : (a0.toInt = 40 ∨ a0.toInt = 41 ∨ a0.toInt = 43 ∨ a0.toInt = 44 ∨ a0.toInt = 58 ∨ a0.toInt = 61 ∨ a0.toInt = 91 ∨ a0.toInt = 93 → (Q 1 s)) ∧ (¬ a0.toInt = 40 ∧ ¬ a0.toInt = 41 ∧ ¬ a0.toInt = 43 ∧ ¬ a0.toInt = 44 ∧ ¬ a0.toInt = 58 ∧ ¬ a0.toInt = 61 ∧ ¬ a0.toInt = 91 ∧ ¬ a0.toInt = 93 → (Q 0 s))) : zWi xs d 104 0 [(0, .int a0)] s Q := by
  unfold zWi
  refine am_wh 1 (pc1 := 1) (lv1 := [(0, .int a0)]) (st1 := [.int a0]) rfl ?_
  obtain ⟨h1, h2⟩ := h
  by_cases c3 : a0.toInt = 40 ∨ a0.toInt = 41 ∨ a0.toInt = 43 ∨ a0.toInt = 44 ∨ a0.toInt = 58 ∨ a0.toInt = 61 ∨ a0.toInt = 91 ∨ a0.toInt = 93
  · refine zw_lk (tgt := 76) rfl (by rcases c3 with e | e | e | e | e | e | e | e <;> (rw [(show a0 = zI a0.toInt from (zq_a _)), e]; rfl)) ?_
    have h4 := h1 c3
    refine am_wh 1 (pc1 := 77) (lv1 := [(0, .int a0)]) (st1 := [.int 1]) rfl ?_
    refine am_wr rfl rfl rfl ?_
    exact ⟨_, _, rfl, rfl, h4⟩
  have c6 : ¬ a0.toInt = 40 ∧ ¬ a0.toInt = 41 ∧ ¬ a0.toInt = 43 ∧ ¬ a0.toInt = 44 ∧ ¬ a0.toInt = 58 ∧ ¬ a0.toInt = 61 ∧ ¬ a0.toInt = 91 ∧ ¬ a0.toInt = 93 := by omega
  refine zw_lk (tgt := 78) rfl ?_ ?_
  · show am_to 1 (if (40 : Int) = a0.toInt then (75 : Int) else if (41 : Int) = a0.toInt then (75 : Int) else if (43 : Int) = a0.toInt then (75 : Int) else if (44 : Int) = a0.toInt then (75 : Int) else if (58 : Int) = a0.toInt then (75 : Int) else if (61 : Int) = a0.toInt then (75 : Int) else if (91 : Int) = a0.toInt then (75 : Int) else if (93 : Int) = a0.toInt then (75 : Int) else 77) = _
    rw [if_neg (by omega), if_neg (by omega), if_neg (by omega), if_neg (by omega), if_neg (by omega), if_neg (by omega), if_neg (by omega), if_neg (by omega)]
    rfl
  have h5 := h2 c6
  refine am_wh 1 (pc1 := 79) (lv1 := [(0, .int a0)]) (st1 := [.int 0]) rfl ?_
  refine am_wr rfl rfl rfl ?_
  exact ⟨_, _, rfl, rfl, h5⟩
set_option maxRecDepth 100000 in
theorem vc_105_0 (xs : Option (List Int32)) (d : Nat) (s : zS) (a1 : Int32) (Q : zS → Prop) (h : (a1.toInt = 40 → (Q (zf s 4 ((s.1 4) + 1)))) ∧ (¬ a1.toInt = 40 → ((a1.toInt = 91 → (Q (zf s 4 ((s.1 4) + 1)))) ∧ (¬ a1.toInt = 91 → ((a1.toInt = 41 → ((0 < (s.1 4).toInt → (Q (zf s 4 ((s.1 4) - 1)))) ∧ (¬ 0 < (s.1 4).toInt → (Q s)))) ∧ (¬ a1.toInt = 41 → ((a1.toInt = 93 → ((0 < (s.1 4).toInt → (Q (zf s 4 ((s.1 4) - 1)))) ∧ (¬ 0 < (s.1 4).toInt → (Q s)))) ∧ (¬ a1.toInt = 93 → (Q s))))))))) : zWv xs d 105 0 [(0, .ref 5), (1, .int a1)] s Q := by
  unfold zWv
  refine am_wh 2 (pc1 := 3) (lv1 := [(0, .ref 5), (1, .int a1)]) (st1 := [.int 40, .int a1]) rfl ?_
  obtain ⟨h2, h3⟩ := h
  by_cases c1 : a1.toInt = 40
  · refine am_wb2 rfl true (zt_eq (zq_a _) (by decide) (zr_t _) ⟨by decide, by decide⟩ c1) rfl ?_
    have h4 := h2 c1
    refine am_wh 5 (pc1 := 19) (lv1 := [(0, .ref 5), (1, .int a1)]) (st1 := [.int ((s.1 4) + 1), .ref 5]) rfl ?_
    refine am_w0 (z := (22, [(0, .ref 5), (1, .int a1)], [], zH (zf s 4 ((s.1 4) + 1)))) rfl rfl (zp_4 ) ?_
    refine am_wh 1 (pc1 := 54) (lv1 := [(0, .ref 5), (1, .int a1)]) (st1 := []) rfl ?_
    refine am_wr rfl rfl rfl ?_
    exact ⟨_, rfl, rfl, h4⟩
  · refine am_wb2 rfl false (zn_eq (zq_a _) (by decide) (zr_t _) ⟨by decide, by decide⟩ c1) rfl ?_
    have h5 := h3 c1
    refine am_wh 2 (pc1 := 9) (lv1 := [(0, .ref 5), (1, .int a1)]) (st1 := [.int 91, .int a1]) rfl ?_
    obtain ⟨h7, h8⟩ := h5
    by_cases c6 : a1.toInt = 91
    · refine am_wb2 rfl false (zn_ne (zq_a _) (by decide) (zr_t _) ⟨by decide, by decide⟩ c6) rfl ?_
      have h9 := h7 c6
      refine am_wh 5 (pc1 := 19) (lv1 := [(0, .ref 5), (1, .int a1)]) (st1 := [.int ((s.1 4) + 1), .ref 5]) rfl ?_
      refine am_w0 (z := (22, [(0, .ref 5), (1, .int a1)], [], zH (zf s 4 ((s.1 4) + 1)))) rfl rfl (zp_4 ) ?_
      refine am_wh 1 (pc1 := 54) (lv1 := [(0, .ref 5), (1, .int a1)]) (st1 := []) rfl ?_
      refine am_wr rfl rfl rfl ?_
      exact ⟨_, rfl, rfl, h9⟩
    · refine am_wb2 rfl true (zt_ne (zq_a _) (by decide) (zr_t _) ⟨by decide, by decide⟩ c6) rfl ?_
      have h10 := h8 c6
      refine am_wh 2 (pc1 := 28) (lv1 := [(0, .ref 5), (1, .int a1)]) (st1 := [.int 41, .int a1]) rfl ?_
      obtain ⟨h12, h13⟩ := h10
      by_cases c11 : a1.toInt = 41
      · refine am_wb2 rfl true (zt_eq (zq_a _) (by decide) (zr_t _) ⟨by decide, by decide⟩ c11) rfl ?_
        have h14 := h12 c11
        refine am_wh 2 (pc1 := 41) (lv1 := [(0, .ref 5), (1, .int a1)]) (st1 := [.int (s.1 4)]) rfl ?_
        obtain ⟨h16, h17⟩ := h14
        by_cases c15 : 0 < (s.1 4).toInt
        · refine am_wb1 rfl false (zn_le (zq_a _) (by decide) (zr_t _) ⟨by decide, by decide⟩ c15) rfl ?_
          have h18 := h16 c15
          refine am_wh 5 (pc1 := 51) (lv1 := [(0, .ref 5), (1, .int a1)]) (st1 := [.int ((s.1 4) - 1), .ref 5]) rfl ?_
          refine am_w0 (z := (54, [(0, .ref 5), (1, .int a1)], [], zH (zf s 4 ((s.1 4) - 1)))) rfl rfl (zp_4 ) ?_
          refine am_wr rfl rfl rfl ?_
          exact ⟨_, rfl, rfl, h18⟩
        · refine am_wb1 rfl true (zt_le (zq_a _) (by decide) (zr_t _) ⟨by decide, by decide⟩ c15) rfl ?_
          have h19 := h17 c15
          refine am_wr rfl rfl rfl ?_
          exact ⟨_, rfl, rfl, h19⟩
      · refine am_wb2 rfl false (zn_eq (zq_a _) (by decide) (zr_t _) ⟨by decide, by decide⟩ c11) rfl ?_
        have h20 := h13 c11
        refine am_wh 2 (pc1 := 34) (lv1 := [(0, .ref 5), (1, .int a1)]) (st1 := [.int 93, .int a1]) rfl ?_
        obtain ⟨h22, h23⟩ := h20
        by_cases c21 : a1.toInt = 93
        · refine am_wb2 rfl false (zn_ne (zq_a _) (by decide) (zr_t _) ⟨by decide, by decide⟩ c21) rfl ?_
          have h24 := h22 c21
          refine am_wh 2 (pc1 := 41) (lv1 := [(0, .ref 5), (1, .int a1)]) (st1 := [.int (s.1 4)]) rfl ?_
          obtain ⟨h26, h27⟩ := h24
          by_cases c25 : 0 < (s.1 4).toInt
          · refine am_wb1 rfl false (zn_le (zq_a _) (by decide) (zr_t _) ⟨by decide, by decide⟩ c25) rfl ?_
            have h28 := h26 c25
            refine am_wh 5 (pc1 := 51) (lv1 := [(0, .ref 5), (1, .int a1)]) (st1 := [.int ((s.1 4) - 1), .ref 5]) rfl ?_
            refine am_w0 (z := (54, [(0, .ref 5), (1, .int a1)], [], zH (zf s 4 ((s.1 4) - 1)))) rfl rfl (zp_4 ) ?_
            refine am_wr rfl rfl rfl ?_
            exact ⟨_, rfl, rfl, h28⟩
          · refine am_wb1 rfl true (zt_le (zq_a _) (by decide) (zr_t _) ⟨by decide, by decide⟩ c25) rfl ?_
            have h29 := h27 c25
            refine am_wr rfl rfl rfl ?_
            exact ⟨_, rfl, rfl, h29⟩
        · refine am_wb2 rfl true (zt_ne (zq_a _) (by decide) (zr_t _) ⟨by decide, by decide⟩ c21) rfl ?_
          have h30 := h23 c21
          refine am_wr rfl rfl rfl ?_
          exact ⟨_, rfl, rfl, h30⟩
set_option maxRecDepth 100000 in
theorem vc_106_0 (xs : Option (List Int32)) (d : Nat) (s : zS) (a1 : Int32) (a2 : Int32) (a3 : Int32) (Q : zS → Prop) (h : ((s.1 2).toInt < 272 → (zX (s.2 4) (s.1 2).toInt ∧ zX (s.2 5) (s.1 2).toInt ∧ zX (s.2 6) (s.1 2).toInt ∧ Q (zf (za (za (za s 4 (zu (s.2 4) (s.1 2).toInt a1)) 5 (zu (s.2 5) (s.1 2).toInt a2)) 6 (zu (s.2 6) (s.1 2).toInt a3)) 2 ((s.1 2) + 1)))) ∧ (¬ (s.1 2).toInt < 272 → (Q s))) : zWv xs d 106 0 [(0, .ref 5), (1, .int a1), (2, .int a2), (3, .int a3)] s Q := by
  unfold zWv
  refine am_wh 3 (pc1 := 7) (lv1 := [(0, .ref 5), (1, .int a1), (2, .int a2), (3, .int a3)]) (st1 := [.int 272, .int (s.1 2)]) rfl ?_
  obtain ⟨h2, h3⟩ := h
  by_cases c1 : (s.1 2).toInt < 272
  · refine am_wb2 rfl false (zn_ge (zq_a _) (by decide) (zr_t _) ⟨by decide, by decide⟩ c1) rfl ?_
    have h4 := h2 c1
    refine am_wh 5 (pc1 := 19) (lv1 := [(0, .ref 5), (1, .int a1), (2, .int a2), (3, .int a3)]) (st1 := [.int a1, .int (s.1 2), .ref 6]) rfl ?_
    obtain ⟨o5, h6⟩ := h4
    refine zw_si (l := (s.2 4)) (i := (s.1 2).toInt) rfl rfl (zq_a _) o5 (zh_4 _ _) ?_
    refine am_wh 5 (pc1 := 29) (lv1 := [(0, .ref 5), (1, .int a1), (2, .int a2), (3, .int a3)]) (st1 := [.int a2, .int (s.1 2), .ref 7]) rfl ?_
    obtain ⟨o7, h8⟩ := h6
    refine zw_si (l := (s.2 5)) (i := (s.1 2).toInt) rfl rfl (zq_a _) o7 (zh_5 _ _) ?_
    refine am_wh 5 (pc1 := 39) (lv1 := [(0, .ref 5), (1, .int a1), (2, .int a2), (3, .int a3)]) (st1 := [.int a3, .int (s.1 2), .ref 8]) rfl ?_
    obtain ⟨o9, h10⟩ := h8
    refine zw_si (l := (s.2 6)) (i := (s.1 2).toInt) rfl rfl (zq_a _) o9 (zh_6 _ _) ?_
    refine am_wh 5 (pc1 := 47) (lv1 := [(0, .ref 5), (1, .int a1), (2, .int a2), (3, .int a3)]) (st1 := [.int ((s.1 2) + 1), .ref 5]) rfl ?_
    refine am_w0 (z := (50, [(0, .ref 5), (1, .int a1), (2, .int a2), (3, .int a3)], [], zH (zf (za (za (za s 4 (zu (s.2 4) (s.1 2).toInt a1)) 5 (zu (s.2 5) (s.1 2).toInt a2)) 6 (zu (s.2 6) (s.1 2).toInt a3)) 2 ((s.1 2) + 1)))) rfl rfl (zp_2 ) ?_
    refine am_wr rfl rfl rfl ?_
    exact ⟨_, rfl, rfl, h10⟩
  · refine am_wb2 rfl true (zt_ge (zq_a _) (by decide) (zr_t _) ⟨by decide, by decide⟩ c1) rfl ?_
    have h11 := h3 c1
    refine am_wr rfl rfl rfl ?_
    exact ⟨_, rfl, rfl, h11⟩
set_option maxRecDepth 100000 in
theorem vc_107_0 (xs : Option (List Int32)) (d : Nat) (s : zS) (a1 : Int32) (Q : Int32 → zS → Prop) (h : zWi xs d 107 6 [(0, .ref 5), (2, .int 0), (3, .int (a1 + 1))] s Q) : zWi xs d 107 0 [(0, .ref 5), (1, .int a1)] s Q := by
  unfold zWi
  refine am_wh 6 (pc1 := 6) (lv1 := [(3, .int (a1 + 1)), (2, .int 0), (0, .ref 5), (1, .int a1)]) (st1 := []) rfl ?_
  exact am_wm h ⟨rfl, rfl, rfl, trivial⟩
set_option maxRecDepth 100000 in
theorem vc_107_6 (xs : Option (List Int32)) (d : Nat) (s : zS) (a2 : Int32) (a3 : Int32) (Q : Int32 → zS → Prop) (h : (a3.toInt < (s.1 2).toInt → (zX (s.2 4) a3.toInt ∧ ((zg (s.2 4) a3.toInt).toInt = 40 → (zR (a2.toInt + 1) ∧ ((a2.toInt + 1) < 0 → (Q 0 s)) ∧ (¬ (a2.toInt + 1) < 0 → (((a2.toInt + 1) = 0 → (((zg (s.2 4) a3.toInt).toInt = 20 → (Q 1 s)) ∧ (¬ (zg (s.2 4) a3.toInt).toInt = 20 → (zWi xs d 107 6 [(0, .ref 5), (2, .int (a2 + 1)), (3, .int (a3 + 1))] s Q)))) ∧ (¬ (a2.toInt + 1) = 0 → (zWi xs d 107 6 [(0, .ref 5), (2, .int (a2 + 1)), (3, .int (a3 + 1))] s Q)))))) ∧ (¬ (zg (s.2 4) a3.toInt).toInt = 40 → (((zg (s.2 4) a3.toInt).toInt = 91 → (zR (a2.toInt + 1) ∧ ((a2.toInt + 1) < 0 → (Q 0 s)) ∧ (¬ (a2.toInt + 1) < 0 → (((a2.toInt + 1) = 0 → (((zg (s.2 4) a3.toInt).toInt = 20 → (Q 1 s)) ∧ (¬ (zg (s.2 4) a3.toInt).toInt = 20 → (zWi xs d 107 6 [(0, .ref 5), (2, .int (a2 + 1)), (3, .int (a3 + 1))] s Q)))) ∧ (¬ (a2.toInt + 1) = 0 → (zWi xs d 107 6 [(0, .ref 5), (2, .int (a2 + 1)), (3, .int (a3 + 1))] s Q)))))) ∧ (¬ (zg (s.2 4) a3.toInt).toInt = 91 → (((zg (s.2 4) a3.toInt).toInt = 41 → (zR (a2.toInt + (-1)) ∧ ((a2.toInt + (-1)) < 0 → (Q 0 s)) ∧ (¬ (a2.toInt + (-1)) < 0 → (((a2.toInt + (-1)) = 0 → (((zg (s.2 4) a3.toInt).toInt = 20 → (Q 1 s)) ∧ (¬ (zg (s.2 4) a3.toInt).toInt = 20 → (zWi xs d 107 6 [(0, .ref 5), (2, .int (a2 + (-1))), (3, .int (a3 + 1))] s Q)))) ∧ (¬ (a2.toInt + (-1)) = 0 → (zWi xs d 107 6 [(0, .ref 5), (2, .int (a2 + (-1))), (3, .int (a3 + 1))] s Q)))))) ∧ (¬ (zg (s.2 4) a3.toInt).toInt = 41 → (((zg (s.2 4) a3.toInt).toInt = 93 → (zR (a2.toInt + (-1)) ∧ ((a2.toInt + (-1)) < 0 → (Q 0 s)) ∧ (¬ (a2.toInt + (-1)) < 0 → (((a2.toInt + (-1)) = 0 → (((zg (s.2 4) a3.toInt).toInt = 20 → (Q 1 s)) ∧ (¬ (zg (s.2 4) a3.toInt).toInt = 20 → (zWi xs d 107 6 [(0, .ref 5), (2, .int (a2 + (-1))), (3, .int (a3 + 1))] s Q)))) ∧ (¬ (a2.toInt + (-1)) = 0 → (zWi xs d 107 6 [(0, .ref 5), (2, .int (a2 + (-1))), (3, .int (a3 + 1))] s Q)))))) ∧ (¬ (zg (s.2 4) a3.toInt).toInt = 93 → ((a2.toInt < 0 → (Q 0 s)) ∧ (¬ a2.toInt < 0 → ((a2.toInt = 0 → (((zg (s.2 4) a3.toInt).toInt = 20 → (Q 1 s)) ∧ (¬ (zg (s.2 4) a3.toInt).toInt = 20 → (zWi xs d 107 6 [(0, .ref 5), (2, .int a2), (3, .int (a3 + 1))] s Q)))) ∧ (¬ a2.toInt = 0 → (zWi xs d 107 6 [(0, .ref 5), (2, .int a2), (3, .int (a3 + 1))] s Q)))))))))))))) ∧ (¬ a3.toInt < (s.1 2).toInt → (Q 0 s))) : zWi xs d 107 6 [(0, .ref 5), (2, .int a2), (3, .int a3)] s Q := by
  unfold zWi
  refine am_wh 3 (pc1 := 11) (lv1 := [(0, .ref 5), (2, .int a2), (3, .int a3)]) (st1 := [.int (s.1 2), .int a3]) rfl ?_
  obtain ⟨h2, h3⟩ := h
  by_cases c1 : a3.toInt < (s.1 2).toInt
  · refine am_wb2 rfl false (zn_ge (zq_a _) (zq_a _) (zr_t _) (zr_t _) c1) rfl ?_
    have h4 := h2 c1
    refine am_wh 3 (pc1 := 19) (lv1 := [(0, .ref 5), (2, .int a2), (3, .int a3)]) (st1 := [.int a3, .ref 6]) rfl ?_
    obtain ⟨o5, h6⟩ := h4
    refine zw_li (l := (s.2 4)) (i := a3.toInt) rfl rfl (zq_a _) o5 ?_
    refine am_wh 3 (pc1 := 26) (lv1 := [(4, .int (zg (s.2 4) a3.toInt)), (0, .ref 5), (2, .int a2), (3, .int a3)]) (st1 := [.int 40, .int (zg (s.2 4) a3.toInt)]) rfl ?_
    obtain ⟨h8, h9⟩ := h6
    by_cases c7 : (zg (s.2 4) a3.toInt).toInt = 40
    · refine am_wb2 rfl true (zt_eq (zq_a _) (by decide) (zr_t _) ⟨by decide, by decide⟩ c7) rfl ?_
      have h10 := h8 c7
      refine am_wh 3 (pc1 := 60) (lv1 := [(2, .int (a2 + 1)), (4, .int (zg (s.2 4) a3.toInt)), (0, .ref 5), (3, .int a3)]) (st1 := [.int (a2 + 1)]) rfl ?_
      obtain ⟨o11, h12⟩ := h10
      obtain ⟨h14, h15⟩ := h12
      by_cases c13 : (a2.toInt + 1) < 0
      · refine am_wb1 rfl false (zn_ge (zq_add (zq_a _) (by decide)) (by decide) o11 ⟨by decide, by decide⟩ c13) rfl ?_
        have h16 := h14 c13
        refine am_wh 1 (pc1 := 64) (lv1 := [(2, .int (a2 + 1)), (4, .int (zg (s.2 4) a3.toInt)), (0, .ref 5), (3, .int a3)]) (st1 := [.int 0]) rfl ?_
        refine am_wr rfl rfl rfl ?_
        exact ⟨_, _, rfl, rfl, h16⟩
      · refine am_wb1 rfl true (zt_ge (zq_add (zq_a _) (by decide)) (by decide) o11 ⟨by decide, by decide⟩ c13) rfl ?_
        have h17 := h15 c13
        refine am_wh 1 (pc1 := 66) (lv1 := [(2, .int (a2 + 1)), (4, .int (zg (s.2 4) a3.toInt)), (0, .ref 5), (3, .int a3)]) (st1 := [.int (a2 + 1)]) rfl ?_
        obtain ⟨h19, h20⟩ := h17
        by_cases c18 : (a2.toInt + 1) = 0
        · refine am_wb1 rfl false (zn_ne (zq_add (zq_a _) (by decide)) (by decide) o11 ⟨by decide, by decide⟩ c18) rfl ?_
          have h21 := h19 c18
          refine am_wh 2 (pc1 := 73) (lv1 := [(2, .int (a2 + 1)), (4, .int (zg (s.2 4) a3.toInt)), (0, .ref 5), (3, .int a3)]) (st1 := [.int 20, .int (zg (s.2 4) a3.toInt)]) rfl ?_
          obtain ⟨h23, h24⟩ := h21
          by_cases c22 : (zg (s.2 4) a3.toInt).toInt = 20
          · refine am_wb2 rfl false (zn_ne (zq_a _) (by decide) (zr_t _) ⟨by decide, by decide⟩ c22) rfl ?_
            have h25 := h23 c22
            refine am_wh 1 (pc1 := 77) (lv1 := [(2, .int (a2 + 1)), (4, .int (zg (s.2 4) a3.toInt)), (0, .ref 5), (3, .int a3)]) (st1 := [.int 1]) rfl ?_
            refine am_wr rfl rfl rfl ?_
            exact ⟨_, _, rfl, rfl, h25⟩
          · refine am_wb2 rfl true (zt_ne (zq_a _) (by decide) (zr_t _) ⟨by decide, by decide⟩ c22) rfl ?_
            have h26 := h24 c22
            refine am_wh 2 (pc1 := 6) (lv1 := [(3, .int (a3 + 1)), (2, .int (a2 + 1)), (4, .int (zg (s.2 4) a3.toInt)), (0, .ref 5)]) (st1 := []) rfl ?_
            exact am_wm h26 ⟨rfl, rfl, rfl, trivial⟩
        · refine am_wb1 rfl true (zt_ne (zq_add (zq_a _) (by decide)) (by decide) o11 ⟨by decide, by decide⟩ c18) rfl ?_
          have h27 := h20 c18
          refine am_wh 2 (pc1 := 6) (lv1 := [(3, .int (a3 + 1)), (2, .int (a2 + 1)), (4, .int (zg (s.2 4) a3.toInt)), (0, .ref 5)]) (st1 := []) rfl ?_
          exact am_wm h27 ⟨rfl, rfl, rfl, trivial⟩
    · refine am_wb2 rfl false (zn_eq (zq_a _) (by decide) (zr_t _) ⟨by decide, by decide⟩ c7) rfl ?_
      have h28 := h9 c7
      refine am_wh 2 (pc1 := 33) (lv1 := [(4, .int (zg (s.2 4) a3.toInt)), (0, .ref 5), (2, .int a2), (3, .int a3)]) (st1 := [.int 91, .int (zg (s.2 4) a3.toInt)]) rfl ?_
      obtain ⟨h30, h31⟩ := h28
      by_cases c29 : (zg (s.2 4) a3.toInt).toInt = 91
      · refine am_wb2 rfl false (zn_ne (zq_a _) (by decide) (zr_t _) ⟨by decide, by decide⟩ c29) rfl ?_
        have h32 := h30 c29
        refine am_wh 3 (pc1 := 60) (lv1 := [(2, .int (a2 + 1)), (4, .int (zg (s.2 4) a3.toInt)), (0, .ref 5), (3, .int a3)]) (st1 := [.int (a2 + 1)]) rfl ?_
        obtain ⟨o33, h34⟩ := h32
        obtain ⟨h36, h37⟩ := h34
        by_cases c35 : (a2.toInt + 1) < 0
        · refine am_wb1 rfl false (zn_ge (zq_add (zq_a _) (by decide)) (by decide) o33 ⟨by decide, by decide⟩ c35) rfl ?_
          have h38 := h36 c35
          refine am_wh 1 (pc1 := 64) (lv1 := [(2, .int (a2 + 1)), (4, .int (zg (s.2 4) a3.toInt)), (0, .ref 5), (3, .int a3)]) (st1 := [.int 0]) rfl ?_
          refine am_wr rfl rfl rfl ?_
          exact ⟨_, _, rfl, rfl, h38⟩
        · refine am_wb1 rfl true (zt_ge (zq_add (zq_a _) (by decide)) (by decide) o33 ⟨by decide, by decide⟩ c35) rfl ?_
          have h39 := h37 c35
          refine am_wh 1 (pc1 := 66) (lv1 := [(2, .int (a2 + 1)), (4, .int (zg (s.2 4) a3.toInt)), (0, .ref 5), (3, .int a3)]) (st1 := [.int (a2 + 1)]) rfl ?_
          obtain ⟨h41, h42⟩ := h39
          by_cases c40 : (a2.toInt + 1) = 0
          · refine am_wb1 rfl false (zn_ne (zq_add (zq_a _) (by decide)) (by decide) o33 ⟨by decide, by decide⟩ c40) rfl ?_
            have h43 := h41 c40
            refine am_wh 2 (pc1 := 73) (lv1 := [(2, .int (a2 + 1)), (4, .int (zg (s.2 4) a3.toInt)), (0, .ref 5), (3, .int a3)]) (st1 := [.int 20, .int (zg (s.2 4) a3.toInt)]) rfl ?_
            obtain ⟨h45, h46⟩ := h43
            by_cases c44 : (zg (s.2 4) a3.toInt).toInt = 20
            · refine am_wb2 rfl false (zn_ne (zq_a _) (by decide) (zr_t _) ⟨by decide, by decide⟩ c44) rfl ?_
              have h47 := h45 c44
              refine am_wh 1 (pc1 := 77) (lv1 := [(2, .int (a2 + 1)), (4, .int (zg (s.2 4) a3.toInt)), (0, .ref 5), (3, .int a3)]) (st1 := [.int 1]) rfl ?_
              refine am_wr rfl rfl rfl ?_
              exact ⟨_, _, rfl, rfl, h47⟩
            · refine am_wb2 rfl true (zt_ne (zq_a _) (by decide) (zr_t _) ⟨by decide, by decide⟩ c44) rfl ?_
              have h48 := h46 c44
              refine am_wh 2 (pc1 := 6) (lv1 := [(3, .int (a3 + 1)), (2, .int (a2 + 1)), (4, .int (zg (s.2 4) a3.toInt)), (0, .ref 5)]) (st1 := []) rfl ?_
              exact am_wm h48 ⟨rfl, rfl, rfl, trivial⟩
          · refine am_wb1 rfl true (zt_ne (zq_add (zq_a _) (by decide)) (by decide) o33 ⟨by decide, by decide⟩ c40) rfl ?_
            have h49 := h42 c40
            refine am_wh 2 (pc1 := 6) (lv1 := [(3, .int (a3 + 1)), (2, .int (a2 + 1)), (4, .int (zg (s.2 4) a3.toInt)), (0, .ref 5)]) (st1 := []) rfl ?_
            exact am_wm h49 ⟨rfl, rfl, rfl, trivial⟩
      · refine am_wb2 rfl true (zt_ne (zq_a _) (by decide) (zr_t _) ⟨by decide, by decide⟩ c29) rfl ?_
        have h50 := h31 c29
        refine am_wh 2 (pc1 := 46) (lv1 := [(4, .int (zg (s.2 4) a3.toInt)), (0, .ref 5), (2, .int a2), (3, .int a3)]) (st1 := [.int 41, .int (zg (s.2 4) a3.toInt)]) rfl ?_
        obtain ⟨h52, h53⟩ := h50
        by_cases c51 : (zg (s.2 4) a3.toInt).toInt = 41
        · refine am_wb2 rfl true (zt_eq (zq_a _) (by decide) (zr_t _) ⟨by decide, by decide⟩ c51) rfl ?_
          have h54 := h52 c51
          refine am_wh 2 (pc1 := 60) (lv1 := [(2, .int (a2 + (-1))), (4, .int (zg (s.2 4) a3.toInt)), (0, .ref 5), (3, .int a3)]) (st1 := [.int (a2 + (-1))]) rfl ?_
          obtain ⟨o55, h56⟩ := h54
          obtain ⟨h58, h59⟩ := h56
          by_cases c57 : (a2.toInt + (-1)) < 0
          · refine am_wb1 rfl false (zn_ge (zq_add (zq_a _) (by decide)) (by decide) o55 ⟨by decide, by decide⟩ c57) rfl ?_
            have h60 := h58 c57
            refine am_wh 1 (pc1 := 64) (lv1 := [(2, .int (a2 + (-1))), (4, .int (zg (s.2 4) a3.toInt)), (0, .ref 5), (3, .int a3)]) (st1 := [.int 0]) rfl ?_
            refine am_wr rfl rfl rfl ?_
            exact ⟨_, _, rfl, rfl, h60⟩
          · refine am_wb1 rfl true (zt_ge (zq_add (zq_a _) (by decide)) (by decide) o55 ⟨by decide, by decide⟩ c57) rfl ?_
            have h61 := h59 c57
            refine am_wh 1 (pc1 := 66) (lv1 := [(2, .int (a2 + (-1))), (4, .int (zg (s.2 4) a3.toInt)), (0, .ref 5), (3, .int a3)]) (st1 := [.int (a2 + (-1))]) rfl ?_
            obtain ⟨h63, h64⟩ := h61
            by_cases c62 : (a2.toInt + (-1)) = 0
            · refine am_wb1 rfl false (zn_ne (zq_add (zq_a _) (by decide)) (by decide) o55 ⟨by decide, by decide⟩ c62) rfl ?_
              have h65 := h63 c62
              refine am_wh 2 (pc1 := 73) (lv1 := [(2, .int (a2 + (-1))), (4, .int (zg (s.2 4) a3.toInt)), (0, .ref 5), (3, .int a3)]) (st1 := [.int 20, .int (zg (s.2 4) a3.toInt)]) rfl ?_
              obtain ⟨h67, h68⟩ := h65
              by_cases c66 : (zg (s.2 4) a3.toInt).toInt = 20
              · refine am_wb2 rfl false (zn_ne (zq_a _) (by decide) (zr_t _) ⟨by decide, by decide⟩ c66) rfl ?_
                have h69 := h67 c66
                refine am_wh 1 (pc1 := 77) (lv1 := [(2, .int (a2 + (-1))), (4, .int (zg (s.2 4) a3.toInt)), (0, .ref 5), (3, .int a3)]) (st1 := [.int 1]) rfl ?_
                refine am_wr rfl rfl rfl ?_
                exact ⟨_, _, rfl, rfl, h69⟩
              · refine am_wb2 rfl true (zt_ne (zq_a _) (by decide) (zr_t _) ⟨by decide, by decide⟩ c66) rfl ?_
                have h70 := h68 c66
                refine am_wh 2 (pc1 := 6) (lv1 := [(3, .int (a3 + 1)), (2, .int (a2 + (-1))), (4, .int (zg (s.2 4) a3.toInt)), (0, .ref 5)]) (st1 := []) rfl ?_
                exact am_wm h70 ⟨rfl, rfl, rfl, trivial⟩
            · refine am_wb1 rfl true (zt_ne (zq_add (zq_a _) (by decide)) (by decide) o55 ⟨by decide, by decide⟩ c62) rfl ?_
              have h71 := h64 c62
              refine am_wh 2 (pc1 := 6) (lv1 := [(3, .int (a3 + 1)), (2, .int (a2 + (-1))), (4, .int (zg (s.2 4) a3.toInt)), (0, .ref 5)]) (st1 := []) rfl ?_
              exact am_wm h71 ⟨rfl, rfl, rfl, trivial⟩
        · refine am_wb2 rfl false (zn_eq (zq_a _) (by decide) (zr_t _) ⟨by decide, by decide⟩ c51) rfl ?_
          have h72 := h53 c51
          refine am_wh 2 (pc1 := 53) (lv1 := [(4, .int (zg (s.2 4) a3.toInt)), (0, .ref 5), (2, .int a2), (3, .int a3)]) (st1 := [.int 93, .int (zg (s.2 4) a3.toInt)]) rfl ?_
          obtain ⟨h74, h75⟩ := h72
          by_cases c73 : (zg (s.2 4) a3.toInt).toInt = 93
          · refine am_wb2 rfl false (zn_ne (zq_a _) (by decide) (zr_t _) ⟨by decide, by decide⟩ c73) rfl ?_
            have h76 := h74 c73
            refine am_wh 2 (pc1 := 60) (lv1 := [(2, .int (a2 + (-1))), (4, .int (zg (s.2 4) a3.toInt)), (0, .ref 5), (3, .int a3)]) (st1 := [.int (a2 + (-1))]) rfl ?_
            obtain ⟨o77, h78⟩ := h76
            obtain ⟨h80, h81⟩ := h78
            by_cases c79 : (a2.toInt + (-1)) < 0
            · refine am_wb1 rfl false (zn_ge (zq_add (zq_a _) (by decide)) (by decide) o77 ⟨by decide, by decide⟩ c79) rfl ?_
              have h82 := h80 c79
              refine am_wh 1 (pc1 := 64) (lv1 := [(2, .int (a2 + (-1))), (4, .int (zg (s.2 4) a3.toInt)), (0, .ref 5), (3, .int a3)]) (st1 := [.int 0]) rfl ?_
              refine am_wr rfl rfl rfl ?_
              exact ⟨_, _, rfl, rfl, h82⟩
            · refine am_wb1 rfl true (zt_ge (zq_add (zq_a _) (by decide)) (by decide) o77 ⟨by decide, by decide⟩ c79) rfl ?_
              have h83 := h81 c79
              refine am_wh 1 (pc1 := 66) (lv1 := [(2, .int (a2 + (-1))), (4, .int (zg (s.2 4) a3.toInt)), (0, .ref 5), (3, .int a3)]) (st1 := [.int (a2 + (-1))]) rfl ?_
              obtain ⟨h85, h86⟩ := h83
              by_cases c84 : (a2.toInt + (-1)) = 0
              · refine am_wb1 rfl false (zn_ne (zq_add (zq_a _) (by decide)) (by decide) o77 ⟨by decide, by decide⟩ c84) rfl ?_
                have h87 := h85 c84
                refine am_wh 2 (pc1 := 73) (lv1 := [(2, .int (a2 + (-1))), (4, .int (zg (s.2 4) a3.toInt)), (0, .ref 5), (3, .int a3)]) (st1 := [.int 20, .int (zg (s.2 4) a3.toInt)]) rfl ?_
                obtain ⟨h89, h90⟩ := h87
                by_cases c88 : (zg (s.2 4) a3.toInt).toInt = 20
                · refine am_wb2 rfl false (zn_ne (zq_a _) (by decide) (zr_t _) ⟨by decide, by decide⟩ c88) rfl ?_
                  have h91 := h89 c88
                  refine am_wh 1 (pc1 := 77) (lv1 := [(2, .int (a2 + (-1))), (4, .int (zg (s.2 4) a3.toInt)), (0, .ref 5), (3, .int a3)]) (st1 := [.int 1]) rfl ?_
                  refine am_wr rfl rfl rfl ?_
                  exact ⟨_, _, rfl, rfl, h91⟩
                · refine am_wb2 rfl true (zt_ne (zq_a _) (by decide) (zr_t _) ⟨by decide, by decide⟩ c88) rfl ?_
                  have h92 := h90 c88
                  refine am_wh 2 (pc1 := 6) (lv1 := [(3, .int (a3 + 1)), (2, .int (a2 + (-1))), (4, .int (zg (s.2 4) a3.toInt)), (0, .ref 5)]) (st1 := []) rfl ?_
                  exact am_wm h92 ⟨rfl, rfl, rfl, trivial⟩
              · refine am_wb1 rfl true (zt_ne (zq_add (zq_a _) (by decide)) (by decide) o77 ⟨by decide, by decide⟩ c84) rfl ?_
                have h93 := h86 c84
                refine am_wh 2 (pc1 := 6) (lv1 := [(3, .int (a3 + 1)), (2, .int (a2 + (-1))), (4, .int (zg (s.2 4) a3.toInt)), (0, .ref 5)]) (st1 := []) rfl ?_
                exact am_wm h93 ⟨rfl, rfl, rfl, trivial⟩
          · refine am_wb2 rfl true (zt_ne (zq_a _) (by decide) (zr_t _) ⟨by decide, by decide⟩ c73) rfl ?_
            have h94 := h75 c73
            refine am_wh 1 (pc1 := 60) (lv1 := [(4, .int (zg (s.2 4) a3.toInt)), (0, .ref 5), (2, .int a2), (3, .int a3)]) (st1 := [.int a2]) rfl ?_
            obtain ⟨h96, h97⟩ := h94
            by_cases c95 : a2.toInt < 0
            · refine am_wb1 rfl false (zn_ge (zq_a _) (by decide) (zr_t _) ⟨by decide, by decide⟩ c95) rfl ?_
              have h98 := h96 c95
              refine am_wh 1 (pc1 := 64) (lv1 := [(4, .int (zg (s.2 4) a3.toInt)), (0, .ref 5), (2, .int a2), (3, .int a3)]) (st1 := [.int 0]) rfl ?_
              refine am_wr rfl rfl rfl ?_
              exact ⟨_, _, rfl, rfl, h98⟩
            · refine am_wb1 rfl true (zt_ge (zq_a _) (by decide) (zr_t _) ⟨by decide, by decide⟩ c95) rfl ?_
              have h99 := h97 c95
              refine am_wh 1 (pc1 := 66) (lv1 := [(4, .int (zg (s.2 4) a3.toInt)), (0, .ref 5), (2, .int a2), (3, .int a3)]) (st1 := [.int a2]) rfl ?_
              obtain ⟨h101, h102⟩ := h99
              by_cases c100 : a2.toInt = 0
              · refine am_wb1 rfl false (zn_ne (zq_a _) (by decide) (zr_t _) ⟨by decide, by decide⟩ c100) rfl ?_
                have h103 := h101 c100
                refine am_wh 2 (pc1 := 73) (lv1 := [(4, .int (zg (s.2 4) a3.toInt)), (0, .ref 5), (2, .int a2), (3, .int a3)]) (st1 := [.int 20, .int (zg (s.2 4) a3.toInt)]) rfl ?_
                obtain ⟨h105, h106⟩ := h103
                by_cases c104 : (zg (s.2 4) a3.toInt).toInt = 20
                · refine am_wb2 rfl false (zn_ne (zq_a _) (by decide) (zr_t _) ⟨by decide, by decide⟩ c104) rfl ?_
                  have h107 := h105 c104
                  refine am_wh 1 (pc1 := 77) (lv1 := [(4, .int (zg (s.2 4) a3.toInt)), (0, .ref 5), (2, .int a2), (3, .int a3)]) (st1 := [.int 1]) rfl ?_
                  refine am_wr rfl rfl rfl ?_
                  exact ⟨_, _, rfl, rfl, h107⟩
                · refine am_wb2 rfl true (zt_ne (zq_a _) (by decide) (zr_t _) ⟨by decide, by decide⟩ c104) rfl ?_
                  have h108 := h106 c104
                  refine am_wh 2 (pc1 := 6) (lv1 := [(3, .int (a3 + 1)), (4, .int (zg (s.2 4) a3.toInt)), (0, .ref 5), (2, .int a2)]) (st1 := []) rfl ?_
                  exact am_wm h108 ⟨rfl, rfl, rfl, trivial⟩
              · refine am_wb1 rfl true (zt_ne (zq_a _) (by decide) (zr_t _) ⟨by decide, by decide⟩ c100) rfl ?_
                have h109 := h102 c100
                refine am_wh 2 (pc1 := 6) (lv1 := [(3, .int (a3 + 1)), (4, .int (zg (s.2 4) a3.toInt)), (0, .ref 5), (2, .int a2)]) (st1 := []) rfl ?_
                exact am_wm h109 ⟨rfl, rfl, rfl, trivial⟩
  · refine am_wb2 rfl true (zt_ge (zq_a _) (zq_a _) (zr_t _) (zr_t _) c1) rfl ?_
    have h110 := h3 c1
    refine am_wh 1 (pc1 := 85) (lv1 := [(0, .ref 5), (2, .int a2), (3, .int a3)]) (st1 := [.int 0]) rfl ?_
    refine am_wr rfl rfl rfl ?_
    exact ⟨_, _, rfl, rfl, h110⟩
